theorem bm_B_f (p : Nat → Int32) (s : Nat) : bm_B p s false = bm_A p (1 - s) s := by
  funext i j
  rfl
theorem bm_raw_neg (A : Nat → Nat → Int) (S T : Nat) : bm_raw (fun i j => -(A i j)) S T = bm_raw A S T ∨ bm_raw (fun i j => -(A i j)) S T = bm_ng (bm_raw A S T) := by
  unfold bm_raw
  by_cases h1 : S = 1
  · exact Or.inl (by rw [if_pos h1, if_pos h1])
  · by_cases h2 : S = 2
    · exact Or.inl (by rw [if_neg h1, if_neg h1, if_pos h2, if_pos h2])
    · by_cases h4 : S = 4
      · exact Or.inl (by rw [if_neg h1, if_neg h1, if_neg h2, if_neg h2, if_pos h4, if_pos h4])
      · rw [if_neg h1, if_neg h1, if_neg h2, if_neg h2, if_neg h4, if_neg h4]
        by_cases h3 : S = 3
        · refine Or.inr ?_
          rw [if_pos h3, if_pos h3]
          unfold bm_ng
          dsimp only
          refine Prod.ext ?_ (Prod.ext ?_ ?_) <;> dsimp only <;> omega
        · by_cases h5 : S = 5
          · refine Or.inr ?_
            rw [if_neg h3, if_neg h3, if_pos h5, if_pos h5]
            unfold bm_ng
            dsimp only
            refine Prod.ext ?_ (Prod.ext ?_ ?_) <;> dsimp only <;> omega
          · by_cases h6 : S = 6
            · refine Or.inr ?_
              rw [if_neg h3, if_neg h3, if_neg h5, if_neg h5, if_pos h6, if_pos h6]
              unfold bm_ng
              dsimp only
              refine Prod.ext ?_ (Prod.ext ?_ ?_) <;> dsimp only <;> omega
            · refine Or.inl ?_
              rw [if_neg h3, if_neg h3, if_neg h5, if_neg h5, if_neg h6, if_neg h6]
              unfold bm_cr
              refine Prod.ext ?_ (Prod.ext ?_ ?_) <;> dsimp only <;> grind
theorem bm_B_raw (p : Nat → Int32) (s : Nat) (own : Bool) (S T : Nat) : bm_raw (bm_B p s own) S T = bm_raw (bm_A p (if own = true then s else 1 - s) s) S T ∨ bm_raw (bm_B p s own) S T = bm_ng (bm_raw (bm_A p (if own = true then s else 1 - s) s) S T) := by
  cases own with
  | false => exact Or.inl rfl
  | true => exact bm_raw_neg (bm_A p s s) S T
theorem by_t1 : ∀ S M : Fin 8, (nI S.val &&& (nI M.val ^^^ (-1)) = 0 ↔ S.val &&& M.val = S.val) := by decide +kernel
section
variable {yr yc : Int32} {yp ys yn yq yw ym yg : Nat → Int32}
theorem by_solveB {post : Int32 → SY → Prop} {s S T : Nat} {own : Bool} (hS : S < 8) (hS0 : S ≠ 0) (hs : s < 2) (hT : T < 8) (hp : bm_p9 yp) (h1 : bm_ok (bm_raw (bm_B yp s own) S T) → ∀ ym', bm_H ym' (bm_nv (bm_raw (bm_B yp s own) S T)) → post 1 (yr, yc, yp, ys, yn, yq, yw, ym', yg)) (h2 : ¬ bm_ok (bm_raw (bm_B yp s own) S T) → ∀ ym', post 0 (yr, yc, yp, ys, yn, yq, yw, ym', yg)) : wpY_solve post (yr, yc, yp, ys, yn, yq, yw, ym, yg) (nI (if own = true then s else 1 - s)) (nI s) (nI S) (nI T) := by
  have hw : (if own = true then s else 1 - s) < 2 := by split <;> omega
  rcases bm_B_raw yp s own S T with e | e
  · rw [e] at h1 h2
    exact by_solve hS hS0 hw hs hT hp h1 h2
  · rw [e] at h1 h2
    refine by_solve hS hS0 hw hs hT hp (fun hok ym' hm => h1 (bm_ok_ng.mpr hok) ym' ?_) (fun hok => h2 (fun q => hok (bm_ok_ng.mp q)))
    rw [bm_nv_ng hok.1]
    exact hm
theorem by_125 {post : SY → Prop} {J : Int32 → Int32 → Int32 → (Nat → Int32) → (Nat → Int32) → (Nat → Int32) → (Nat → Int32) → (Nat → Int32) → (Nat → Int32) → (Nat → Int32) → Prop} {x1 x2 x3 x4 : Int32} {d T O : Nat} {A : Nat → Nat → Int} {v : bm_V} (hT : T < 8) (hA : bm_A9 A) (hv : bm_b3 v) (hTO : T &&& O = T) (hg : ∀ j, j < 3 → yg j = bm_i (bm_gn A v j))
    (h1 : T &&& bm_rp A O v = T → wpY_keep (fun u => match u with | (yr, yc, yp, ys, yn, yq, yw, ym, yg) => ∀ x5_57, x5_57 = nI d + 1 → J x5_57 yr yc yp ys yn yq yw ym yg) (yr, yc, yp, ys, yn, yq, yw, ym, yg) x1) (h0 : ¬ T &&& bm_rp A O v = T → J (nI (d + 1)) yr yc yp ys yn yq yw ym yg) (hmb : -1000000 ≤ bm_mx A O v ∧ bm_mx A O v ≤ 17496) : ∃ n, wY_findCorners_125 post J x1 x2 x3 x4 (nI d) (nI T) (bm_i (bm_mx A O v)) yr yc yp ys yn yq yw ym yg n 1 0 := by
  have rb : ∀ j, j < 3 → T.testBit j = true → ((bm_rp A O v).testBit j = true ↔ bm_gn A v j = bm_mx A O v) := by
    intro j hj ht
    rw [bm_rp_t hj]
    have : O.testBit j = true := by
      rw [← hTO, Nat.testBit_and, Bool.and_eq_true] at ht
      exact ht.2
    exact ⟨fun q => q.2, fun q => ⟨this, q⟩⟩
  have fin : ∀ n, T &&& bm_rp A O v = T → wY_findCorners_125 post J x1 x2 x3 x4 (nI d) (nI T) (bm_i (bm_mx A O v)) yr yc yp ys yn yq yw ym yg (n + 1) 1 (nI 3) := fun n z => br_t (by decide) (br_f (by decide) (h1 z))
  have zero : ∀ (m j n : Nat), j + m = 3 → m < n → ¬ T &&& bm_rp A O v = T → wY_findCorners_125 post J x1 x2 x3 x4 (nI d) (nI T) (bm_i (bm_mx A O v)) yr yc yp ys yn yq yw ym yg n 0 (nI j) := by
    intro m
    induction m with
    | zero =>
      intro j n hj hn z
      obtain ⟨n, rfl⟩ : ∃ n', n = n' + 1 := ⟨n - 1, by omega⟩
      have : j = 3 := by omega
      subst this
      refine br_t (by decide) (br_t rfl ?_)
      intro y ey
      rw [nI_1] at ey
      subst ey
      exact h0 z
    | succ m ih =>
      intro j n hj hn z
      obtain ⟨n, rfl⟩ : ∃ n', n = n' + 1 := ⟨n - 1, by omega⟩
      refine br_f (nI_ge (b := 3) (by omega) (by decide)) (bx_bit hT (by omega) (fun _ => ⟨vp_in_nI (by omega) (by decide), br_c (fun _ => ?_) (fun _ => ?_)⟩) (fun _ => ?_))
      all_goals
        intro y ey
        rw [nI_1] at ey
        subst ey
        exact ih (j + 1) n (by omega) (by omega) z
  have step : ∀ (n j : Nat), j < 3 → (T.testBit j = true → (bm_rp A O v).testBit j = true → wY_findCorners_125 post J x1 x2 x3 x4 (nI d) (nI T) (bm_i (bm_mx A O v)) yr yc yp ys yn yq yw ym yg n 1 (nI (j + 1))) → (T.testBit j = false → wY_findCorners_125 post J x1 x2 x3 x4 (nI d) (nI T) (bm_i (bm_mx A O v)) yr yc yp ys yn yq yw ym yg n 1 (nI (j + 1))) → 2 - j < n → wY_findCorners_125 post J x1 x2 x3 x4 (nI d) (nI T) (bm_i (bm_mx A O v)) yr yc yp ys yn yq yw ym yg (n + 1) 1 (nI j) := by
    intro n j hj ht hf hn
    have gb := bm_gn_b hA hv hj
    refine br_f (nI_ge (b := 3) hj (by decide)) (bx_bit hT hj (fun z => ⟨vp_in_nI hj (by decide), ?_⟩) (fun z => ?_))
    · rw [nI_clamp (by omega), hg j hj, bm_eq (by omega) (by omega) (by omega) (by omega)]
      refine br_c (fun p => ?_) (fun p => ?_)
      · intro y ey
        rw [nI_1] at ey
        subst ey
        exact ht z ((rb j hj z).mpr p)
      · intro y ey
        rw [nI_1] at ey
        subst ey
        refine zero (2 - j) (j + 1) n (by omega) hn (fun q => p ((rb j hj z).mp ?_))
        rw [← q, Nat.testBit_and, Bool.and_eq_true] at z
        exact z.2
    · intro y ey
      rw [nI_1] at ey
      subst ey
      exact hf z
  have done : (T.testBit 0 = true → (bm_rp A O v).testBit 0 = true) → (T.testBit 1 = true → (bm_rp A O v).testBit 1 = true) → (T.testBit 2 = true → (bm_rp A O v).testBit 2 = true) → T &&& bm_rp A O v = T := fun a b c => bm_sub8 _ (bm_rp8 _ _ _) T hT a b c
  have nf : ∀ j, T.testBit j = false → (T.testBit j = true → (bm_rp A O v).testBit j = true) := fun j e q => by rw [e] at q; cases q
  have s2 : (T.testBit 0 = true → (bm_rp A O v).testBit 0 = true) → (T.testBit 1 = true → (bm_rp A O v).testBit 1 = true) → wY_findCorners_125 post J x1 x2 x3 x4 (nI d) (nI T) (bm_i (bm_mx A O v)) yr yc yp ys yn yq yw ym yg 2 1 (nI 2) := fun a b => step 1 2 (by omega) (fun _ q => fin 0 (done a b (fun _ => q))) (fun q => fin 0 (done a b (nf 2 q))) (by omega)
  have s1 : (T.testBit 0 = true → (bm_rp A O v).testBit 0 = true) → wY_findCorners_125 post J x1 x2 x3 x4 (nI d) (nI T) (bm_i (bm_mx A O v)) yr yc yp ys yn yq yw ym yg 3 1 (nI 1) := fun a => step 2 1 (by omega) (fun _ q => s2 a (fun _ => q)) (fun q => s2 a (nf 1 q)) (by omega)
  exact ⟨4, step 3 0 (by omega) (fun _ q => s1 (fun _ => q)) (fun q => s1 (nf 0 q)) (by omega)⟩
def bm_lsy (A : Nat → Nat → Int) (M O d : Nat) (L : List bm_V) : Prop := bm_S L ∧ ∀ x, x ∈ L ↔ ∃ e, e < d ∧ bm_K A M O (e / 8) (e % 8) ∧ x = bm_nv (bm_raw A (e / 8) (e % 8))
theorem bm_mx_b {A : Nat → Nat → Int} {O : Nat} {v : bm_V} (hA : bm_A9 A) (hv : bm_b3 v) : -1000000 ≤ bm_mx A O v ∧ bm_mx A O v ≤ 17496 := by
  have mb : ∀ m j, j < 3 → -1000000 ≤ m ∧ m ≤ 17496 → -1000000 ≤ bm_mf A O v m j ∧ bm_mf A O v m j ≤ 17496 := by
    intro m j hj hm
    have := bm_gn_b hA hv hj
    unfold bm_mf
    split <;> omega
  exact mb _ 2 (by omega) (mb _ 1 (by omega) (mb _ 0 (by omega) (by omega)))
theorem by_fc10 {post : SY → Prop} {s M O : Nat} {own : Bool} (hM : M < 8) (hO : O < 8) (hs : s < 2) (hp : bm_p9 yp)
    (h : ∀ yn' yq' yw' ym' yg' L, bm_IsL (bm_B yp s own) M O L → bm_YL (16 * s) yq' yw' L → yn' s = nI L.length → (∀ j, j ≠ s → yn' j = yn j) → (∀ n, n < 16 * s ∨ 16 * s + 16 ≤ n → bm_ye yq yw n yq' yw' n) → post (yr, yc, yp, ys, yn', yq', yw', ym', yg')) :
    ∀ (m d q : Nat) (yn' yq' yw' ym' yg' : Nat → Int32) (L : List bm_V), d + m = 64 → m < q → bm_lsy (bm_B yp s own) M O d L → bm_YL (16 * s) yq' yw' L → yn' s = nI L.length → (∀ j, j ≠ s → yn' j = yn j) → (∀ n, n < 16 * s ∨ 16 * s + 16 ≤ n → bm_ye yq yw n yq' yw' n) → wY_findCorners_10 post (nI s) (nI M) (nI O) (bm_ow own) q (nI d) yr yc yp ys yn' yq' yw' ym' yg' := by
  intro m
  induction m with
  | zero =>
    intro d q yn' yq' yw' ym' yg' L hd hq hL hX hc hcj hfr
    obtain ⟨q, rfl⟩ : ∃ q', q = q' + 1 := ⟨q - 1, by omega⟩
    have : d = 64 := by omega
    subst this
    refine br_t (by decide) (h _ _ _ _ _ L ⟨hL.1, fun x => ?_⟩ hX hc hcj hfr)
    rw [hL.2]
    constructor
    · rintro ⟨e, he, hK, hx⟩
      exact ⟨_, _, by omega, by omega, hK, hx⟩
    · rintro ⟨S, T, hS, hT, hK, hx⟩
      refine ⟨8 * S + T, by omega, ?_⟩
      rw [show (8 * S + T) / 8 = S by omega, show (8 * S + T) % 8 = T by omega]
      exact ⟨hK, hx⟩
  | succ m ih =>
    intro d q yn' yq' yw' ym' yg' L hd hq hL hX hc hcj hfr
    obtain ⟨q, rfl⟩ : ∃ q', q = q' + 1 := ⟨q - 1, by omega⟩
    have hA := bm_B9 hp s own
    have skip : ¬ bm_K (bm_B yp s own) M O (d / 8) (d % 8) → bm_lsy (bm_B yp s own) M O (d + 1) L := by
      intro hn
      refine ⟨hL.1, fun x => ?_⟩
      rw [hL.2]
      constructor
      · rintro ⟨e, he, hK, hx⟩
        exact ⟨e, by omega, hK, hx⟩
      · rintro ⟨e, he, hK, hx⟩
        refine ⟨e, ?_, hK, hx⟩
        rcases Nat.lt_or_ge e d with z | z
        · exact z
        · have : e = d := by omega
          subst this
          exact absurd hK hn
    have next : ∀ ym2 yg2, ¬ bm_K (bm_B yp s own) M O (d / 8) (d % 8) → wY_findCorners_10 post (nI s) (nI M) (nI O) (bm_ow own) q (nI (d + 1)) yr yc yp ys yn' yq' yw' ym2 yg2 := fun ym2 yg2 hn => ih (d + 1) q _ _ _ _ _ L (by omega) (by omega) (skip hn) hX hc hcj hfr
    have no : ¬ bm_K (bm_B yp s own) M O (d / 8) (d % 8) → wY_findCorners_73 post (wY_findCorners_10 post (nI s) (nI M) (nI O) (bm_ow own) q) (nI s) (nI M) (nI O) (bm_ow own) (nI d) (nI (d / 8)) (nI (d % 8)) yr yc yp ys yn' yq' yw' ym' yg' := by
      intro hn
      refine br_t rfl ?_
      intro y ey
      rw [nI_1] at ey
      subst ey
      exact next _ _ hn
    refine br_f (nI_ge (b := 64) (by omega) (by decide)) ⟨by decide, ?_⟩
    intro S eS
    rw [show nI d / 8 = nI (d / 8) from pk_div (d := 8) (by omega) (by omega) (by omega)] at eS
    refine ⟨by decide, ?_⟩
    intro T eT
    rw [show nI d - nI d / 8 * 8 = nI (d % 8) from pk_rem (d := 8) (by omega) (by omega) (by omega)] at eT
    subst eS eT
    have hS8 : d / 8 < 8 := by omega
    have hT8 : d % 8 < 8 := by omega
    refine pk_le (d / 8) 0 (fun z => no (fun hK => hK.1.1 (by omega))) (fun z => ?_) rfl rfl (by omega) (by omega)
    rw [by_t1 ⟨d / 8, hS8⟩ ⟨M, hM⟩, by_t1 ⟨d % 8, hT8⟩ ⟨O, hO⟩]
    refine br_c (fun c1 => br_c (fun c2 => ?_) (fun c2 => no (fun hK => c2 hK.1.2.2.1))) (fun c1 => no (fun hK => c1 hK.1.2.1))
    refine by_size hS8 (by_size hT8 ?_)
    have z3 := bx_t6 ⟨d / 8, hS8⟩
    have t3 := bx_t6 ⟨d % 8, hT8⟩
    dsimp only at z3 t3
    refine pk_eq (bm_sz (d / 8)) (bm_sz (d % 8)) (fun c3 => ?_) (fun c3 => no (fun hK => c3 hK.1.2.2.2)) rfl rfl (by omega) (by omega)
    have hfit : bm_fit M O (d / 8) (d % 8) := ⟨by omega, c1, c2, c3⟩
    have go : wY_findCorners_94 post (wY_findCorners_10 post (nI s) (nI M) (nI O) (bm_ow own) q) (nI s) (nI M) (nI O) (bm_ow own) (nI d) (nI (d / 8)) (nI (d % 8)) (nI (if own = true then s else 1 - s)) yr yc yp ys yn' yq' yw' ym' yg' := by
      unfold wY_findCorners_94
      refine by_solveB hS8 (by omega) hs hT8 hp (fun hok ym2 hm2 => ?_) (fun hok ym2 => ?_)
      · refine br_f (by decide) ?_
        have hb := bm_nv_b (bm_raw_b hA _ _) hok
        refine by_against hs hm2 (fun yg2 hg2 => ?_)
        dsimp only
        refine by_greatest hO hA hb hg2 ?_
        refine by_125 hT8 hA hb c2 hg2 (fun c4 => ?_) (fun c4 => next _ _ (fun hK => c4 hK.2.2)) (bm_mx_b hA hb)
        have hlen : L.length ≤ 13 := bm_len13 (A := bm_B yp s own) hL.1 (fun x hx => by
          obtain ⟨e, he, hK, rfl⟩ := (hL.2 x).mp hx
          exact bm_fit_C (by omega) (by omega) hK.1)
        refine by_keep (L := L) hs (by omega) hL.1 (fun w hw => ?_) (bm_nv_P hok) hb hm2 hc hX ?_
        · obtain ⟨e, he, hK, rfl⟩ := (hL.2 w).mp hw
          exact bm_nv_b (bm_raw_b hA _ _) hK.2.1
        · intro yn3 yq3 yw3 L' hS' hmem hX' hc' hcj' hfr'
          intro y ey
          rw [nI_1] at ey
          subst ey
          refine ih (d + 1) q _ _ _ _ _ L' (by omega) (by omega) ⟨hS', fun x => ?_⟩ hX' hc' (fun j hj => (hcj' j hj).trans (hcj j hj)) (fun n hn => bm_ye_t (hfr n hn) (hfr' n hn))
          rw [hmem, hL.2]
          constructor
          · rintro (hx | ⟨e, he, hK, hx⟩)
            · exact ⟨d, by omega, ⟨hfit, hok, c4⟩, hx⟩
            · exact ⟨e, by omega, hK, hx⟩
          · rintro ⟨e, he, hK, hx⟩
            rcases Nat.lt_or_ge e d with y | y
            · exact Or.inr ⟨e, y, hK, hx⟩
            · have : e = d := by omega
              subst this
              exact Or.inl hx
      · refine br_t rfl ?_
        intro y ey
        rw [nI_1] at ey
        subst ey
        exact next _ _ (fun hK => hok hK.2.1)
    refine br_f (by decide) ?_
    cases own with
    | false =>
      refine br_t rfl ?_
      rw [bx_1s hs]
      exact go
    | true => exact br_f (by decide) go
theorem by_fc {post : SY → Prop} {s M O : Nat} {own : Bool} (hM : M < 8) (hO : O < 8) (hs : s < 2) (hp : bm_p9 yp)
    (h : ∀ yn' yq' yw' ym' yg' L, bm_IsL (bm_B yp s own) M O L → bm_YL (16 * s) yq' yw' L → yn' s = nI L.length → (∀ j, j ≠ s → yn' j = yn j) → (∀ n, n < 16 * s ∨ 16 * s + 16 ≤ n → bm_ye yq yw n yq' yw' n) → post (yr, yc, yp, ys, yn', yq', yw', ym', yg')) : wpY_findCorners post (yr, yc, yp, ys, yn, yq, yw, ym, yg) (nI s) (nI M) (nI O) (bm_ow own) := by
  refine ⟨vp_in_nI hs (by decide), ?_⟩
  intro c ec
  rw [nI_clamp (by omega)] at ec
  subst ec
  refine ⟨65, by_fc10 hM hO hs hp ?_ 64 0 65 _ _ _ _ _ [] (by omega) (by omega) ⟨bm_S_nil, fun x => ⟨fun hx => (by cases hx), fun ⟨e, he, _⟩ => absurd he (by omega)⟩⟩ (fun k v hv => by simp at hv) (pk_us.trans rfl) (fun j hj => rfl) (fun n _ => bm_ye_r _ _ _)⟩
  intro yn' yq' yw' ym' yg' L h1 h2 h3 h4 h5
  exact h yn' yq' yw' ym' yg' L h1 h2 h3 (fun j hj => (h4 j hj).trans (pk_un hj)) h5
end
