theorem bm_raw_s {A : Nat → Nat → Int} {S T i : Nat} (hS : S < 8) (hS0 : S ≠ 0) (hi : i < 3) (h : S.testBit i = false) : bm_at (bm_raw A S T) i = 0 := by
  have hh : S = 1 ∨ S = 2 ∨ S = 3 ∨ S = 4 ∨ S = 5 ∨ S = 6 ∨ S = 7 := by omega
  have hi3 : i = 0 ∨ i = 1 ∨ i = 2 := by omega
  rcases hh with rfl | rfl | rfl | rfl | rfl | rfl | rfl <;> rcases hi3 with rfl | rfl | rfl <;> first | rfl | (exact absurd h (by decide))
theorem bm_nv_z {m : bm_V} {i : Nat} (h : bm_at m i = 0) : bm_at (bm_nv m) i = 0 := by
  unfold bm_at bm_nv at *
  dsimp only at *
  split
  · rename_i q
    rw [if_pos q] at h
    rw [h]
    simp
  · rename_i q
    rw [if_neg q] at h
    split
    · rename_i q2
      rw [if_pos q2] at h
      rw [h]
      simp
    · rename_i q2
      rw [if_neg q2] at h
      rw [h]
      simp
theorem bm_fit_s {A : Nat → Nat → Int} {M O S T i : Nat} (hS : S < 8) (hf : bm_fit M O S T) (hi : i < 3) (h : M.testBit i = false) : bm_at (bm_nv (bm_raw A S T)) i = 0 := by
  apply bm_nv_z
  refine bm_raw_s hS hf.1 hi ?_
  have := hf.2.1
  rw [← this, Nat.testBit_and, h, Bool.and_false]
theorem bm_IsL_s {A : Nat → Nat → Int} {M O : Nat} {L : List bm_V} (h : bm_IsL A M O L) {v : bm_V} (hv : v ∈ L) {i : Nat} (hi : i < 3) (hM : M.testBit i = false) : bm_at v i = 0 := by
  obtain ⟨S, T, hS, hT, hK, rfl⟩ := (h.2 v).mp hv
  exact bm_fit_s hS hK.1 hi hM
/-- both lists as they lie in the reference -/
def bm_YS (p : Nat → Int32) (R C : Nat) (L0 L1 : List bm_V) (yn yq yw : Nat → Int32) : Prop :=
  bm_IsL (bm_A p 1 0) (2 ^ R - 1) (2 ^ C - 1) L0 ∧ bm_IsL (bm_A p 0 1) (2 ^ C - 1) (2 ^ R - 1) L1 ∧ bm_YL 0 yq yw L0 ∧ bm_YL 16 yq yw L1 ∧ yn 0 = nI L0.length ∧ yn 1 = nI L1.length
section
variable {yr yc : Int32} {yp ys yn yq yw ym yg : Nat → Int32}
theorem by_allOf {post : Int32 → Prop} {R C s : Nat} (h : bm_RC R C) (hs : s < 2) (hp : post (nI (2 ^ bm_n R C s - 1))) : wpY_allOf post (nI R, nI C, yp, ys, yn, yq, yw, ym, yg) (nI s) := by
  have h2 : s = 0 ∨ s = 1 := by omega
  unfold bm_RC at h
  unfold wpY_allOf
  dsimp only
  rcases h2 with rfl | rfl
  · refine br_t rfl ?_
    dsimp only
    rw [bx_all ⟨R, by omega⟩]
    exact hp
  · refine br_f (by decide) ?_
    dsimp only
    rw [bx_all ⟨C, by omega⟩]
    exact hp
theorem by_look {post : SY → Prop} {s k : Nat} {v : bm_V} (hs : s < 2) (hk : k < 16) (hh : bm_YH yq yw (16 * s + k) v) (h : ∀ ym' yg', bm_H ym' v → (∀ j, j < 3 → yg' j = bm_i (bm_gn (bm_A yp (1 - s) s) v j)) → post (yr, yc, yp, ys, yn, yq, yw, ym', yg')) : wpY_look post (yr, yc, yp, ys, yn, yq, yw, ym, yg) (nI s) (nI k) := by
  have step : ∀ (q i : Nat) (a : Nat → Int32), i < 3 → wY_look_2 post (nI s) (nI k) yr yc q (nI (i + 1)) yp ys yn yq yw (upd a i (bm_i (bm_at v i))) yg → wY_look_2 post (nI s) (nI k) yr yc (q + 1) (nI i) yp ys yn yq yw a yg := by
    intro q i a hi hk'
    refine br_f (nI_ge (b := 3) hi (by decide)) ⟨pk_in (3 * (16 * s + k) + i) 96 (by omega) (by_48 s k i), vp_in_nI hi (by decide), ?_⟩
    intro y ey l el
    rw [by_48, nI_clamp (by omega), nI_clamp (by omega), hh.1 i hi] at ey
    rw [nI_1] at el
    subst ey el
    exact hk'
  refine ⟨4, step 3 0 _ (by omega) (step 2 1 _ (by omega) (step 1 2 _ (by omega) (br_t (by decide) ?_)))⟩
  refine by_against (own := false) (v := v) hs ⟨rfl, rfl, rfl⟩ (fun yg' hg => h _ _ ⟨rfl, rfl, rfl⟩ hg)
theorem by_answers {post : Int32 → SY → Prop} {R C s l k : Nat} {v w : bm_V} (hRC : bm_RC R C) (hp : bm_p9 yp) (hs : s < 2) (hl : l < 16) (hk : k < 16) (hv : bm_YH yq yw (16 * s + l) v) (hw : bm_YH yq yw (16 * (1 - s) + k) w) (hvb : bm_b3 v) (hwb : bm_b3 w) (hsup : ∀ i, i < 3 → (2 ^ bm_n R C s - 1).testBit i = false → bm_at v i = 0)
    (h : ∀ ym' yg', post (if bm_uo v (bm_rp (bm_A yp s (1 - s)) (2 ^ bm_n R C s - 1) w) = true then 1 else 0) (nI R, nI C, yp, ys, yn, yq, yw, ym', yg')) : wpY_answers post (nI R, nI C, yp, ys, yn, yq, yw, ym, yg) (nI s) (nI l) (nI k) := by
  unfold wpY_answers
  dsimp only
  rw [bx_1s hs]
  refine by_look (by omega) hk hw (fun ym' yg' hm hg => ?_)
  dsimp only
  rw [show 1 - (1 - s) = s by omega] at hg
  have hA := bm_A9p hp s (1 - s)
  have hn := bm_n13 (s := s) hRC
  have hO := bm_all8 hn.2
  refine by_allOf hRC hs ?_
  refine by_greatest hO hA hwb hg ?_
  have h' := h ym' yg'
  have mb := bm_mx_b (O := 2 ^ bm_n R C s - 1) hA hwb
  have hM : bm_M (bm_A yp s (1 - s)) (2 ^ bm_n R C s - 1) w (bm_mx (bm_A yp s (1 - s)) (2 ^ bm_n R C s - 1) w) := bm_mx_M (fun j hj => by have := bm_gn_b hA hwb hj; omega) ⟨0, by omega, (bm_allT ⟨bm_n R C s, by omega⟩ ⟨0, by omega⟩).mpr (by dsimp only; omega)⟩
  have rb : ∀ i, i < 3 → ¬ bm_at v i ≤ 0 → ((bm_rp (bm_A yp s (1 - s)) (2 ^ bm_n R C s - 1) w).testBit i = true ↔ bm_mx (bm_A yp s (1 - s)) (2 ^ bm_n R C s - 1) w ≤ bm_gn (bm_A yp s (1 - s)) w i) := by
    intro i hi hpos
    have hOi : (2 ^ bm_n R C s - 1).testBit i = true := by
      cases e : (2 ^ bm_n R C s - 1).testBit i
      · have := hsup i hi e
        omega
      · rfl
    rw [bm_rp_t hi]
    have := hM.1 i hi hOi
    exact ⟨fun q => by omega, fun q => ⟨hOi, by omega⟩⟩
  generalize bm_rp (bm_A yp s (1 - s)) (2 ^ bm_n R C s - 1) w = f at *
  generalize bm_mx (bm_A yp s (1 - s)) (2 ^ bm_n R C s - 1) w = mm at *
  clear hM hsup
  have step : ∀ (q i : Nat), i < 3 → ((decide (bm_at v i ≤ 0) || f.testBit i) = true → wY_answers_26 post (nI s) (nI l) (bm_i mm) (nI R) (nI C) yp ys yn yq yw ym' yg' q (nI (i + 1))) → ((decide (bm_at v i ≤ 0) || f.testBit i) = false → post 0 (nI R, nI C, yp, ys, yn, yq, yw, ym', yg')) → wY_answers_26 post (nI s) (nI l) (bm_i mm) (nI R) (nI C) yp ys yn yq yw ym' yg' (q + 1) (nI i) := by
    intro q i hi ht hf0
    refine br_f (nI_ge (b := 3) hi (by decide)) ⟨pk_in (3 * (16 * s + l) + i) 96 (by omega) (by_48 s l i), ?_⟩
    have ab := bm_at_b hvb i
    have gb := bm_gn_b hA hwb hi
    rw [by_48, nI_clamp (by omega), hv.1 i hi, ← bm_0, bm_le (by omega) (by omega) (by omega) (by omega)]
    refine br_c (fun z => ?_) (fun z => ⟨vp_in_nI hi (by decide), ?_⟩)
    · intro y ey
      rw [nI_1] at ey
      subst ey
      exact ht (by simp [z])
    · rw [nI_clamp (by omega), hg i hi, bm_le (by omega) (by omega) (by omega) (by omega)]
      refine br_c (fun y => ?_) (fun y => ?_)
      · intro k ek
        rw [nI_1] at ek
        subst ek
        exact ht (by rw [(rb i hi z).mpr y, Bool.or_true])
      · refine hf0 ?_
        have : f.testBit i = false := by
          cases e : f.testBit i
          · rfl
          · exact absurd ((rb i hi z).mp e) y
        rw [this]
        simp
        omega
  unfold bm_uo at h'
  refine ⟨4, step 3 0 (by omega) (fun z0 => step 2 1 (by omega) (fun z1 => step 1 2 (by omega) (fun z2 => br_t (by decide) ?_) (fun z2 => ?_)) (fun z1 => ?_)) (fun z0 => ?_)⟩
  · rw [z0, z1, z2] at h'
    exact h'
  · rw [z2, Bool.and_false] at h'
    exact h'
  · rw [z1, Bool.and_false, Bool.false_and] at h'
    exact h'
  · rw [z0, Bool.false_and, Bool.false_and] at h'
    exact h'
theorem by_isEq {post : Int32 → SY → Prop} {R C i j : Nat} {L0 L1 : List bm_V} (hRC : bm_RC R C) (hp : bm_p9 yp) (hS : bm_YS yp R C L0 L1 yn yq yw) (hi : i < L0.length) (hj : j < L1.length)
    (h : ∀ ym' yg', post (if bm_E yp R C L0 L1 i j = true then 1 else 0) (nI R, nI C, yp, ys, yn, yq, yw, ym', yg')) : wpY_isEquilibrium post (nI R, nI C, yp, ys, yn, yq, yw, ym, yg) (nI i) (nI j) := by
  obtain ⟨hI0, hI1, hX0, hX1, hc0, hc1⟩ := hS
  have k0 := bm_IsL_b (bm_A9p hp 1 0) hI0
  have k1 := bm_IsL_b (bm_A9p hp 0 1) hI1
  obtain ⟨v, hv⟩ : ∃ v, L0[i]? = some v := ⟨_, List.getElem?_eq_getElem hi⟩
  obtain ⟨w, hw⟩ : ∃ w, L1[j]? = some w := ⟨_, List.getElem?_eq_getElem hj⟩
  have hvm := List.mem_of_getElem? hv
  have hwm := List.mem_of_getElem? hw
  have hvb := k0.2.1 v hvm
  have hwb := k1.2.1 w hwm
  have eE : bm_E yp R C L0 L1 i j = (bm_uo v (bm_rp (bm_A yp 0 1) (2 ^ R - 1) w) && bm_uo w (bm_rp (bm_A yp 1 0) (2 ^ C - 1) v)) := by
    unfold bm_E
    rw [hv, hw]
  unfold wpY_isEquilibrium
  dsimp only
  refine by_answers (s := 0) (v := v) (w := w) hRC hp (by omega) (by omega) (by omega) (hX0 i v hv) (hX1 j w hw) hvb hwb (fun a ha e => bm_IsL_s hI0 hvm ha e) (fun ym1 yg1 => ?_)
  dsimp only
  cases h1 : bm_uo v (bm_rp (bm_A yp 0 1) (2 ^ R - 1) w)
  · have q := h ym1 yg1
    rw [eE, h1] at q
    refine br_t ?_ q
    show (if bm_uo v (bm_rp (bm_A yp 0 1) (2 ^ R - 1) w) = true then (1 : Int32) else 0) = 0
    rw [h1]
    rfl
  · refine br_f ?_ ?_
    · show ¬ (if bm_uo v (bm_rp (bm_A yp 0 1) (2 ^ R - 1) w) = true then (1 : Int32) else 0) = 0
      rw [h1]
      decide
    · refine by_answers (s := 1) (v := w) (w := v) hRC hp (by omega) (by omega) (by omega) (hX1 j w hw) (hX0 i v hv) hwb hvb (fun a ha e => bm_IsL_s hI1 hwm ha e) (fun ym2 yg2 => ?_)
      dsimp only
      have q := h ym2 yg2
      rw [eE, h1, Bool.true_and] at q
      refine br_c (fun z => ?_) (fun z => ?_)
      · have e : bm_uo w (bm_rp (bm_A yp 1 0) (2 ^ C - 1) v) = false := by
          cases e : bm_uo w (bm_rp (bm_A yp 1 0) (2 ^ C - 1) v)
          · rfl
          · exfalso
            have z' : (if bm_uo w (bm_rp (bm_A yp 1 0) (2 ^ C - 1) v) = true then (1 : Int32) else 0) = 0 := z
            rw [e] at z'
            exact absurd z' (by decide)
        rw [e] at q
        exact q
      · have e : bm_uo w (bm_rp (bm_A yp 1 0) (2 ^ C - 1) v) = true := by
          cases e : bm_uo w (bm_rp (bm_A yp 1 0) (2 ^ C - 1) v)
          · exfalso
            apply z
            show (if bm_uo w (bm_rp (bm_A yp 1 0) (2 ^ C - 1) v) = true then (1 : Int32) else 0) = 0
            rw [e]
            rfl
          · rfl
        rw [e] at q
        exact q
theorem by_23 {post : Int32 → SY → Prop} {J : Int32 → Int32 → Int32 → Int32 → (Nat → Int32) → (Nat → Int32) → (Nat → Int32) → (Nat → Int32) → (Nat → Int32) → (Nat → Int32) → (Nat → Int32) → Prop} {kk : Int32} {all : Bool} {R C i : Nat} {L0 L1 : List bm_V} {acc : List (Nat × Nat)} (hRC : bm_RC R C) (hp : bm_p9 yp) (hS : bm_YS yp R C L0 L1 yn yq yw) (hi : i < L0.length) (hacc : acc.length ≤ 1000)
    (hsome : all = false → ∀ n j ym' yg', n < 2 ^ 31 → kk = nI n → j < L1.length → (bm_eI (bm_E yp R C L0 L1) i acc (j + 1))[n]? = some (i, j) → post (nI (16 * i + j)) (nI R, nI C, yp, ys, yn, yq, yw, ym', yg'))
    (hJ : (all = false → ∀ n, n < 2 ^ 31 → kk = nI n → (bm_eI (bm_E yp R C L0 L1) i acc L1.length)[n]? = none) → ∀ ym' yg', J (nI (bm_eI (bm_E yp R C L0 L1) i acc L1.length).length) (nI (i + 1)) (nI R) (nI C) yp ys yn yq yw ym' yg') :
    ∀ (m j q : Nat) (ym1 yg1 : Nat → Int32), j + m = L1.length → m < q → (all = false → ∀ n, n < 2 ^ 31 → kk = nI n → (bm_eI (bm_E yp R C L0 L1) i acc j)[n]? = none) → wY_list_23 post J kk (bm_ow all) (nI i) q (nI (bm_eI (bm_E yp R C L0 L1) i acc j).length) (nI j) (nI R) (nI C) yp ys yn yq yw ym1 yg1 := by
  have k0 := bm_IsL_b (bm_A9p hp 1 0) hS.1
  have k1 := bm_IsL_b (bm_A9p hp 0 1) hS.2.1
  have hc1 := hS.2.2.2.2.2
  intro m
  induction m with
  | zero =>
    intro j q ym1 yg1 hj hq hC
    obtain ⟨q, rfl⟩ : ∃ q', q = q' + 1 := ⟨q - 1, by omega⟩
    have : j = L1.length := by omega
    subst this
    unfold wY_list_23
    rw [hc1]
    refine br_t (nI_le (by omega) (by omega)) ?_
    intro y ey
    rw [nI_1] at ey
    subst ey
    exact hJ hC ym1 yg1
  | succ m ih =>
    intro j q ym1 yg1 hj hq hC
    obtain ⟨q, rfl⟩ : ∃ q', q = q' + 1 := ⟨q - 1, by omega⟩
    have hj1 : j < L1.length := by omega
    have len := bm_eI_len (bm_E yp R C L0 L1) i acc j
    have no : bm_E yp R C L0 L1 i j = false → bm_eI (bm_E yp R C L0 L1) i acc (j + 1) = bm_eI (bm_E yp R C L0 L1) i acc j := by
      intro h
      show (if bm_E yp R C L0 L1 i j = true then _ else _) = _
      rw [h]
      rfl
    have yes : bm_E yp R C L0 L1 i j = true → bm_eI (bm_E yp R C L0 L1) i acc (j + 1) = bm_eI (bm_E yp R C L0 L1) i acc j ++ [(i, j)] := by
      intro h
      show (if bm_E yp R C L0 L1 i j = true then _ else _) = _
      rw [if_pos h]
    unfold wY_list_23
    rw [hc1]
    refine br_f (nI_ge (by omega) (by omega)) ?_
    refine by_isEq (L0 := L0) (L1 := L1) hRC hp hS hi hj1 (fun ym2 yg2 => ?_)
    dsimp only
    cases hE : bm_E yp R C L0 L1 i j
    · refine br_t rfl ?_
      intro y ey
      rw [nI_1] at ey
      subst ey
      have := ih (j + 1) q ym2 yg2 (by omega) (by omega) (by rw [no hE]; exact hC)
      rw [no hE] at this
      exact this
    · refine br_f (by decide) ?_
      have goon : (all = false → ∀ n, n < 2 ^ 31 → kk = nI n → ¬ (bm_eI (bm_E yp R C L0 L1) i acc j).length = n) → ∀ x, x = nI (bm_eI (bm_E yp R C L0 L1) i acc j).length + 1 → ∀ y, y = nI j + 1 → wY_list_23 post J kk (bm_ow all) (nI i) q x y (nI R) (nI C) yp ys yn yq yw ym2 yg2 := by
        intro hne x ex y ey
        rw [nI_1] at ex ey
        subst ex ey
        have := ih (j + 1) q ym2 yg2 (by omega) (by omega) (by
          intro hall n hn hkn
          rw [yes hE]
          have h1 := hC hall n hn hkn
          have h2 := hne hall n hn hkn
          have h3 := List.getElem?_eq_none_iff.mp h1
          exact List.getElem?_eq_none (by rw [List.length_append]; show _ + 1 ≤ _; omega))
        rw [yes hE, List.length_append] at this
        exact this
      cases all with
      | true => exact br_f (by decide) (goon (fun q => by cases q))
      | false =>
        refine br_t rfl (br_c (fun z => ?_) (fun z => goon (fun _ n hn hkn q => z (by rw [hkn, q]))))
        rw [by_16]
        refine hsome rfl _ j ym2 yg2 (by omega) z.symm hj1 ?_
        rw [yes hE, List.getElem?_append_right (Nat.le_refl _), Nat.sub_self]
        rfl
theorem by_list9 {post : Int32 → SY → Prop} {kk : Int32} {all : Bool} {R C : Nat} {L0 L1 : List bm_V} (hRC : bm_RC R C) (hp : bm_p9 yp) (hS : bm_YS yp R C L0 L1 yn yq yw)
    (hsome : all = false → ∀ n a b ym' yg', n < 2 ^ 31 → kk = nI n → (bm_eO (bm_E yp R C L0 L1) L1.length L0.length)[n]? = some (a, b) → post (nI (16 * a + b)) (nI R, nI C, yp, ys, yn, yq, yw, ym', yg'))
    (hnone : all = false → (∀ n, n < 2 ^ 31 → kk = nI n → (bm_eO (bm_E yp R C L0 L1) L1.length L0.length)[n]? = none) → ∀ ym' yg', post (-1) (nI R, nI C, yp, ys, yn, yq, yw, ym', yg'))
    (hall : all = true → ∀ ym' yg', post (nI (bm_eO (bm_E yp R C L0 L1) L1.length L0.length).length) (nI R, nI C, yp, ys, yn, yq, yw, ym', yg')) :
    ∀ (m i q : Nat) (ym1 yg1 : Nat → Int32), i + m = L0.length → m < q → (all = false → ∀ n, n < 2 ^ 31 → kk = nI n → (bm_eO (bm_E yp R C L0 L1) L1.length i)[n]? = none) → wY_list_9 post kk (bm_ow all) q (nI (bm_eO (bm_E yp R C L0 L1) L1.length i).length) (nI i) (nI R) (nI C) yp ys yn yq yw ym1 yg1 := by
  have k0 := bm_IsL_b (bm_A9p hp 1 0) hS.1
  have k1 := bm_IsL_b (bm_A9p hp 0 1) hS.2.1
  have hc0 := hS.2.2.2.2.1
  intro m
  induction m with
  | zero =>
    intro i q ym1 yg1 hi hq hC
    obtain ⟨q, rfl⟩ : ∃ q', q = q' + 1 := ⟨q - 1, by omega⟩
    have : i = L0.length := by omega
    subst this
    unfold wY_list_9
    rw [hc0]
    refine br_t (nI_le (by omega) (by omega)) ?_
    cases all with
    | false => exact br_t rfl (hnone rfl (hC rfl) _ _)
    | true => exact br_f (by decide) (hall rfl _ _)
  | succ m ih =>
    intro i q ym1 yg1 hi hq hC
    obtain ⟨q, rfl⟩ : ∃ q', q = q' + 1 := ⟨q - 1, by omega⟩
    unfold wY_list_9
    rw [hc0]
    have hl := bm_eO_len (bm_E yp R C L0 L1) L1.length i
    have : i * L1.length ≤ 13 * 13 := Nat.mul_le_mul (by omega) k1.1
    refine br_f (nI_ge (by omega) (by omega)) ⟨L1.length + 1, ?_⟩
    refine by_23 (acc := bm_eO (bm_E yp R C L0 L1) L1.length i) hRC hp hS (by omega) (by omega) ?_ (fun hn ym' yg' => ih (i + 1) q ym' yg' (by omega) (by omega) hn) L1.length 0 (L1.length + 1) ym1 yg1 (by omega) (by omega) hC
    intro hal n j ym' yg' hn hkn hj hs
    refine hsome hal n i j ym' yg' hn hkn ?_
    have h1 := bm_eI_pre2 _ _ _ hs (L1.length - (j + 1))
    rw [show j + 1 + (L1.length - (j + 1)) = L1.length by omega] at h1
    have h2 := bm_eO_pre (bm_E yp R C L0 L1) L1.length (i := i + 1) h1 (L0.length - (i + 1))
    rw [show i + 1 + (L0.length - (i + 1)) = L0.length by omega] at h2
    exact h2
theorem by_list {post : Int32 → SY → Prop} {kk : Int32} {all : Bool} {R C : Nat} (hRC : bm_RC R C) (hp : bm_p9 yp)
    (h : ∀ L0 L1 yn' yq' yw' ym' yg', bm_YS yp R C L0 L1 yn' yq' yw' →
      (all = false → ∀ n a b, n < 2 ^ 31 → kk = nI n → (bm_eO (bm_E yp R C L0 L1) L1.length L0.length)[n]? = some (a, b) → post (nI (16 * a + b)) (nI R, nI C, yp, ys, yn', yq', yw', ym', yg')) ∧
      (all = false → (∀ n, n < 2 ^ 31 → kk = nI n → (bm_eO (bm_E yp R C L0 L1) L1.length L0.length)[n]? = none) → post (-1) (nI R, nI C, yp, ys, yn', yq', yw', ym', yg')) ∧
      (all = true → post (nI (bm_eO (bm_E yp R C L0 L1) L1.length L0.length).length) (nI R, nI C, yp, ys, yn', yq', yw', ym', yg'))) : wpY_list post (nI R, nI C, yp, ys, yn, yq, yw, ym, yg) kk (bm_ow all) := by
  unfold wpY_list wpY_findAll
  dsimp only
  have R8 := bm_all8 (bm_n13 (s := 0) hRC).2
  have C8 := bm_all8 (bm_n13 (s := 1) hRC).2
  refine by_allOf (s := 0) hRC (by omega) ?_
  refine by_allOf (s := 1) hRC (by omega) ?_
  refine by_fc (s := 0) (own := false) R8 C8 (by omega) hp (fun yn1 yq1 yw1 ym1 yg1 L0 hI0 hX0 hc0 _ _ => ?_)
  dsimp only
  refine by_fc (s := 1) (own := false) C8 R8 (by omega) hp (fun yn2 yq2 yw2 ym2 yg2 L1 hI1 hX1 hc1 hcj hfr => ?_)
  dsimp only
  rw [bm_B_f] at hI0 hI1
  have k0 := bm_IsL_b (bm_A9p hp 1 0) hI0
  have hS : bm_YS yp R C L0 L1 yn2 yq2 yw2 := by
    refine ⟨hI0, hI1, ?_, hX1, (hcj 0 (by omega)).trans hc0, hc1⟩
    intro k v hv
    have := (List.getElem?_eq_some_iff.mp hv).1
    exact bm_ye_H (hfr _ (by omega)) (hX0 k v hv)
  exact ⟨L0.length + 1, by_list9 hRC hp hS (fun hal n a b ym' yg' hn hkn hs => (h L0 L1 _ _ _ ym' yg' hS).1 hal n a b hn hkn hs) (fun hal hn ym' yg' => (h L0 L1 _ _ _ ym' yg' hS).2.1 hal hn) (fun hal ym' yg' => (h L0 L1 _ _ _ ym' yg' hS).2.2 hal) L0.length 0 (L0.length + 1) _ _ (by omega) (by omega) (fun _ n _ _ => rfl)⟩
end
