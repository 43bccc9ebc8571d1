theorem by_9 (w z : Nat) : 9 * nI w + nI z = nI (9 * w + z) := by
  show nI 9 * nI w + nI z = _
  rw [pk_mul, nI_add]
def bm_B (p : Nat → Int32) (s : Nat) (own : Bool) (i j : Nat) : Int := if own = true then -(bm_A p s s i j) else bm_A p (1 - s) s i j
def bm_ow (own : Bool) : Int32 := if own = true then 1 else 0
theorem bm_B9 {p : Nat → Int32} (h : bm_p9 p) (s : Nat) (own : Bool) : bm_A9 (bm_B p s own) := by
  intro i j hi hj
  unfold bm_B
  split
  · have := bm_A9p h s s i j hi hj
    omega
  · exact bm_A9p h (1 - s) s i j hi hj
section
variable {yr yc : Int32} {yp ys yn yq yw ym yg : Nat → Int32}
theorem by_value {post : Int32 → Prop} {w s i j : Nat} (hw : w < 2) (hs : s < 2) (hi : i < 3) (hj : j < 3) (h : post (bm_i (bm_A yp w s i j))) : wpY_value post (yr, yc, yp, ys, yn, yq, yw, ym, yg) (nI w) (nI s) (nI i) (nI j) := by
  rw [← bm_Ao] at h
  have h2 : s = 0 ∨ s = 1 := by omega
  rcases h2 with rfl | rfl
  · refine br_t rfl ⟨?_, ?_⟩
    · rw [bx_3]
      exact pk_in (9 * w + (3 * i + j)) 18 (by omega) (by_9 _ _)
    · rw [bx_3, by_9, nI_clamp (by omega)]
      exact h
  · refine br_f (by decide) ⟨?_, ?_⟩
    · rw [bx_3]
      exact pk_in (9 * w + (3 * j + i)) 18 (by omega) (by_9 _ _)
    · rw [bx_3, by_9, nI_clamp (by omega)]
      exact h
theorem by_17 {post : SY → Prop} {J : Int32 → (Nat → Int32) → (Nat → Int32) → (Nat → Int32) → (Nat → Int32) → (Nat → Int32) → (Nat → Int32) → (Nat → Int32) → Prop} {s j : Nat} {own : Bool} {v : bm_V} (hs : s < 2) (hj : j < 3) (hm : bm_H ym v) (hg : yg j = 0)
    (h : ∀ yg', yg' j = bm_i (bm_gn (bm_B yp s own) v j) → (∀ k, k ≠ j → yg' k = yg k) → J (nI (j + 1)) yp ys yn yq yw ym yg') : ∃ n, wY_against_17 post J (nI s) (bm_ow own) (nI j) yr yc n 0 yp ys yn yq yw ym yg := by
  have step : ∀ (n i : Nat) (g : Nat → Int32), i < 3 → wY_against_17 post J (nI s) (bm_ow own) (nI j) yr yc n (nI (i + 1)) yp ys yn yq yw ym (upd g j (g j + bm_i (bm_at v i * bm_B yp s own i j))) → wY_against_17 post J (nI s) (bm_ow own) (nI j) yr yc (n + 1) (nI i) yp ys yn yq yw ym g := by
    intro n i g hi hk
    refine br_f (nI_ge (b := 3) hi (by decide)) ⟨vp_in_nI hj (by decide), vp_in_nI hi (by decide), ?_⟩
    cases own with
    | false =>
      refine br_t rfl ?_
      rw [bx_1s hs]
      refine by_value (by omega) hs hi hj ⟨vp_in_nI hj (by decide), ?_⟩
      intro y ey k ek
      rw [nI_clamp (by omega), nI_clamp (by omega), bm_H_at hm hi, bm_mul] at ey
      rw [nI_1] at ek
      subst ey ek
      exact hk
    | true =>
      refine br_f (by decide) ?_
      refine by_value hs hs hi hj ⟨vp_in_nI hj (by decide), ?_⟩
      intro y ey k ek
      rw [nI_clamp (by omega), nI_clamp (by omega), bm_H_at hm hi, bm_neg, bm_mul] at ey
      rw [nI_1] at ek
      subst ey ek
      exact hk
  refine ⟨4, step 3 0 _ (by omega) (step 2 1 _ (by omega) (step 1 2 _ (by omega) (br_t (by decide) ?_)))⟩
  intro y ey
  rw [nI_1] at ey
  subst ey
  refine h _ ?_ (fun k hk => by rw [pk_un hk, pk_un hk, pk_un hk])
  rw [pk_us, pk_us, pk_us, hg, ← bm_0, bm_add, bm_add, bm_add]
  congr 1
  unfold bm_gn
  show 0 + v.1 * _ + v.2.1 * _ + v.2.2 * _ = _
  omega
theorem by_against {post : SY → Prop} {s : Nat} {own : Bool} {v : bm_V} (hs : s < 2) (hm : bm_H ym v) (h : ∀ yg', (∀ j, j < 3 → yg' j = bm_i (bm_gn (bm_B yp s own) v j)) → post (yr, yc, yp, ys, yn, yq, yw, ym, yg')) : wpY_against post (yr, yc, yp, ys, yn, yq, yw, ym, yg) (nI s) (bm_ow own) := by
  have step : ∀ (n j : Nat) (g : Nat → Int32), j < 3 → (∀ k, k < j → g k = bm_i (bm_gn (bm_B yp s own) v k)) → (∀ g', (∀ k, k < j + 1 → g' k = bm_i (bm_gn (bm_B yp s own) v k)) → wY_against_2 post (nI s) (bm_ow own) yr yc n (nI (j + 1)) yp ys yn yq yw ym g') → wY_against_2 post (nI s) (bm_ow own) yr yc (n + 1) (nI j) yp ys yn yq yw ym g := by
    intro n j g hj h1 hk
    refine br_f (nI_ge (b := 3) hj (by decide)) ⟨vp_in_nI hj (by decide), ?_⟩
    intro y ey
    rw [nI_clamp (by omega)] at ey
    subst ey
    refine by_17 hs hj hm pk_us (fun yg' e1 e2 => hk _ (fun k hk => ?_))
    by_cases z : k = j
    · subst z
      exact e1
    · rw [e2 k z, pk_un z]
      exact h1 k (by omega)
  exact ⟨4, step 3 0 _ (by omega) (fun k hk => absurd hk (by omega)) (fun g1 h1 => step 2 1 _ (by omega) h1 (fun g2 h2 => step 1 2 _ (by omega) h2 (fun g3 h3 => br_t (by decide) (h g3 h3))))⟩
theorem by_greatest {post : Int32 → Prop} {A : Nat → Nat → Int} {O : Nat} {v : bm_V} (hO : O < 8) (hA : bm_A9 A) (hv : bm_b3 v) (hg : ∀ j, j < 3 → yg j = bm_i (bm_gn A v j)) (h : post (bm_i (bm_mx A O v))) : wpY_greatest post (yr, yc, yp, ys, yn, yq, yw, ym, yg) (nI O) := by
  have mb : ∀ m j, j < 3 → -1000000 ≤ m ∧ m ≤ 17496 → -1000000 ≤ bm_mf A O v m j ∧ bm_mf A O v m j ≤ 17496 := by
    intro m j hj hm
    have := bm_gn_b hA hv hj
    unfold bm_mf
    split <;> omega
  have step : ∀ (n j : Nat) (m : Int), j < 3 → -1000000 ≤ m ∧ m ≤ 17496 → wY_greatest_5 post (nI O) yr yc yp ys yn yq yw ym yg n (bm_i (bm_mf A O v m j)) (nI (j + 1)) → wY_greatest_5 post (nI O) yr yc yp ys yn yq yw ym yg (n + 1) (bm_i m) (nI j) := by
    intro n j m hj hm hk
    have gb := bm_gn_b hA hv hj
    refine br_f (nI_ge (b := 3) hj (by decide)) (bx_bit hO hj (fun z => ⟨vp_in_nI hj (by decide), ?_⟩) (fun z => ?_))
    · rw [nI_clamp (by omega), hg j hj, bm_le (by omega) (by omega) (by omega) (by omega)]
      refine br_c (fun y => ?_) (fun y => ⟨vp_in_nI hj (by decide), ?_⟩)
      · intro k ek
        rw [nI_1] at ek
        subst ek
        unfold bm_mf at hk
        rw [if_neg (by omega)] at hk
        exact hk
      · intro x ex k ek
        rw [nI_1] at ek
        subst ex ek
        unfold bm_mf at hk
        rw [if_pos ⟨z, by omega⟩] at hk
        exact hk
    · intro k ek
      rw [nI_1] at ek
      subst ek
      unfold bm_mf at hk
      rw [if_neg (by rw [z]; rintro ⟨q, -⟩; cases q)] at hk
      exact hk
  have m0 : -1000000 ≤ (-1000000 : Int) ∧ (-1000000 : Int) ≤ 17496 := by omega
  have m1 := mb _ 0 (by omega) m0
  have m2 := mb _ 1 (by omega) m1
  exact ⟨4, step 3 0 (-1000000) (by omega) m0 (step 2 1 _ (by omega) m1 (step 1 2 _ (by omega) m2 (br_t (by decide) h)))⟩
theorem by_c26 {post : Int32 → Prop} : ∀ n g h t : Nat, bm_En n g h → g < 2 ^ 31 → h < 2 ^ 31 → t + n = 40 → post (nI (max 1 (Nat.gcd g h))) → wY_common_26 post yr yc yp ys yn yq yw ym yg (n + 1) (nI g) (nI h) (nI t) := by
  intro n
  induction n with
  | zero =>
    intro g h t e hg hh ht hp
    have h0 := bm_En0 e
    subst h0
    rw [Nat.gcd_zero_right] at hp
    refine br_t (nI_le (a := 40) (by omega) (by omega)) (pk_le 1 g (fun z => ?_) (fun z => ?_) rfl rfl (by omega) (by omega))
    · rw [Nat.max_eq_right z] at hp
      exact hp
    · rw [Nat.max_eq_left (by omega)] at hp
      exact hp
  | succ n ih =>
    intro g h t e hg hh ht hp
    refine br_f (nI_ge (b := 40) (by omega) (by decide)) ?_
    by_cases z : h = 0
    · subst z
      refine br_t rfl ?_
      intro k ek
      rw [nI_1] at ek
      subst ek
      exact ih g 0 (t + 1) bm_En_0 hg hh (by omega) hp
    · have hn : ¬ nI h = 0 := nI_ne0 (by omega) hh
      refine br_f hn (br_f hn ⟨hn, ?_⟩)
      intro y ey k ek
      rw [pk_rem hg (by omega) hh] at ey
      rw [nI_1] at ek
      subst ey ek
      have hr : g % h < h := Nat.mod_lt _ (by omega)
      refine ih h (g % h) (t + 1) (bm_EnS e (by omega)) hh (by omega) (by omega) ?_
      rw [← bm_gcdS]
      exact hp
theorem by_common {post : Int32 → Prop} {a b : Int} (ha : a.natAbs < 2147483648) (hb : b.natAbs < 165580141) (h : post (nI (max 1 (Nat.gcd a.natAbs b.natAbs)))) : wpY_common post (yr, yc, yp, ys, yn, yq, yw, ym, yg) (bm_i a) (bm_i b) := by
  have go : wY_common_10 post (bm_i b) (nI a.natAbs) yr yc yp ys yn yq yw ym yg := by
    have k := by_c26 (yr := yr) (yc := yc) (yp := yp) (ys := ys) (yn := yn) (yq := yq) (yw := yw) (ym := ym) (yg := yg) (post := post) 40 a.natAbs b.natAbs 0 (bm_En40 hb) ha (by omega) (by omega) h
    rcases Int.lt_or_le b 0 with z | z
    · refine br_f ?_ ?_
      · rw [← bm_0, bm_le (by omega) (by omega) (by omega) (by omega)]
        omega
      · intro y ey
        rw [bm_absn z] at ey
        subst ey
        exact ⟨41, k⟩
    · refine br_t ?_ ?_
      · rw [← bm_0, bm_le (by omega) (by omega) (by omega) (by omega)]
        omega
      · rw [bm_abs z]
        exact ⟨41, k⟩
  rcases Int.lt_or_le a 0 with z | z
  · refine br_f ?_ ?_
    · rw [← bm_0, bm_le (by omega) (by omega) (by omega) (by omega)]
      omega
    · rw [bm_absn z]
      exact go
  · refine br_t ?_ ?_
    · rw [← bm_0, bm_le (by omega) (by omega) (by omega) (by omega)]
      omega
    · rw [bm_abs z]
      exact go
theorem by_atom {post : Int32 → Prop} {w s i j k : Nat} (hw : w < 2) (hs : s < 2) (hi : i < 3) (hj : j < 3) (hk : k < 3) (h : post (bm_i (bm_A yp w s i j - bm_A yp w s i k))) : wpY_atom post (yr, yc, yp, ys, yn, yq, yw, ym, yg) (nI w) (nI s) (nI i) (nI j) (nI k) := by
  unfold wpY_atom
  dsimp only
  refine by_value hw hs hi hj (by_value hw hs hi hk ?_)
  rw [bm_sub]
  exact h
end
theorem by_fs : ∀ T : Fin 8, (if (nI T.val &&& 1) = 1 then (0 : Int32) else if (nI T.val &&& 2) = 2 then 1 else 2) = nI (bm_fs T.val) := by decide +kernel
theorem by_ls : ∀ T : Fin 8, (if (nI T.val &&& 4) = 4 then (2 : Int32) else if (nI T.val &&& 2) = 2 then 1 else 0) = nI (bm_ls T.val) := by decide +kernel
section
variable {yr yc : Int32} {yp ys yn yq yw ym yg : Nat → Int32}
theorem by_first {post : Int32 → Prop} {T : Nat} (hT : T < 8) (h : post (nI (bm_fs T))) : wpY_first post (yr, yc, yp, ys, yn, yq, yw, ym, yg) (nI T) := by
  rw [← by_fs ⟨T, hT⟩] at h
  dsimp only at h
  refine br_c (fun z => ?_) (fun z => br_c (fun y => ?_) (fun y => ?_))
  · rw [if_pos z] at h
    exact h
  · rw [if_neg z, if_pos y] at h
    exact h
  · rw [if_neg z, if_neg y] at h
    exact h
theorem by_last {post : Int32 → Prop} {T : Nat} (hT : T < 8) (h : post (nI (bm_ls T))) : wpY_last post (yr, yc, yp, ys, yn, yq, yw, ym, yg) (nI T) := by
  rw [← by_ls ⟨T, hT⟩] at h
  dsimp only at h
  refine br_c (fun z => ?_) (fun z => br_c (fun y => ?_) (fun y => ?_))
  · rw [if_pos z] at h
    exact h
  · rw [if_neg z, if_pos y] at h
    exact h
  · rw [if_neg z, if_neg y] at h
    exact h
theorem by_size {post : Int32 → Prop} {T : Nat} (hT : T < 8) (h : post (nI (bm_sz T))) : wpY_size post (yr, yc, yp, ys, yn, yq, yw, ym, yg) (nI T) := by
  unfold wpY_size
  dsimp only
  rw [bx_bits ⟨T, hT⟩]
  exact h
end
