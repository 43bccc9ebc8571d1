/-! tables -/
theorem bx_tb : ∀ (m : Fin 8) (c : Fin 3), ((nI m.val >>> (nI c.val &&& 31)) &&& 1) = if m.val.testBit c.val then 1 else 0 := by decide +kernel
theorem bx_bit {A B : Prop} {m c : Nat} (hm : m < 8) (hc : c < 3) (f : m.testBit c = true → A) (g : m.testBit c = false → B) : (((nI m >>> (nI c &&& 31)) &&& 1) = 1 → A) ∧ (¬ ((nI m >>> (nI c &&& 31)) &&& 1) = 1 → B) := by
  have e := bx_tb ⟨m, hm⟩ ⟨c, hc⟩
  dsimp only at e
  rw [e]
  cases h : m.testBit c
  · exact br_f (by simp) (g h)
  · exact br_t (by simp) (f h)
theorem bx_bit0 {A B : Prop} {m c : Nat} (hm : m < 8) (hc : c < 3) (f : m.testBit c = false → A) (g : m.testBit c = true → B) : (((nI m >>> (nI c &&& 31)) &&& 1) = 0 → A) ∧ (¬ ((nI m >>> (nI c &&& 31)) &&& 1) = 0 → B) := by
  have e := bx_tb ⟨m, hm⟩ ⟨c, hc⟩
  dsimp only at e
  rw [e]
  cases h : m.testBit c
  · exact br_t (by simp) (f h)
  · exact br_f (by simp) (g h)
theorem bx_sh : ∀ c : Fin 3, (1 : Int32) <<< (nI c.val &&& 31) = nI (2 ^ c.val) := by decide +kernel
theorem bx_or8 : ∀ a b : Fin 8, nI a.val ||| nI b.val = nI (a.val ||| b.val) := by decide +kernel
theorem bx_or {a b : Nat} (ha : a < 8) (hb : b < 8) : nI a ||| nI b = nI (a ||| b) := bx_or8 ⟨a, ha⟩ ⟨b, hb⟩
theorem bx_orl {a b : Nat} (ha : a < 8) (hb : b < 8) : a ||| b < 8 := Nat.or_lt_two_pow (n := 3) ha hb
theorem bx_bits : ∀ z : Fin 8, ((nI z.val &&& 1) + ((nI z.val >>> ((1 : Int32) &&& 31)) &&& 1)) + ((nI z.val >>> ((2 : Int32) &&& 31)) &&& 1) = nI (bm_sz z.val) := by decide +kernel
theorem bx_1s {s : Nat} (hs : s < 2) : (1 : Int32) - nI s = nI (1 - s) := by
  have h : s = 0 ∨ s = 1 := by omega
  rcases h with rfl | rfl <;> rfl
theorem bx_i (w z : Nat) : nI w * 9 + nI z = nI (9 * w + z) := by
  show nI w * nI 9 + nI z = _
  rw [pk_mul, nI_add, Nat.mul_comm]
theorem bx_3 (i c : Nat) : 3 * nI i + nI c = nI (3 * i + c) := by
  show nI 3 * nI i + nI c = _
  rw [pk_mul, nI_add]
/-! the tables of payments -/
def bm_ix (w s i j : Nat) : Nat := 9 * w + (if s = 0 then 3 * i + j else 3 * j + i)
def bm_A (p : Nat → Int32) (w s : Nat) (i j : Nat) : Int := (p (bm_ix w s i j)).toInt
def bm_p9 (p : Nat → Int32) : Prop := ∀ j, -9 ≤ (p j).toInt ∧ (p j).toInt ≤ 9
theorem bm_Ao (p : Nat → Int32) (w s i j : Nat) : p (bm_ix w s i j) = bm_i (bm_A p w s i j) := bm_o _
theorem bm_A9p {p : Nat → Int32} (h : bm_p9 p) (w s : Nat) : bm_A9 (bm_A p w s) := fun _ _ _ _ => h _
theorem bm_ix18 {w s i j : Nat} (hw : w < 2) (hi : i < 3) (hj : j < 3) : bm_ix w s i j < 18 := by
  unfold bm_ix
  split <;> omega
/-- an array of three holds a triple -/
def bm_H (a : Nat → Int32) (v : bm_V) : Prop := a 0 = bm_i v.1 ∧ a 1 = bm_i v.2.1 ∧ a 2 = bm_i v.2.2
theorem bm_H_at {a : Nat → Int32} {v : bm_V} (h : bm_H a v) {i : Nat} (hi : i < 3) : a i = bm_i (bm_at v i) := by
  have hi3 : i = 0 ∨ i = 1 ∨ i = 2 := by omega
  rcases hi3 with rfl | rfl | rfl
  · exact h.1
  · exact h.2.1
  · exact h.2.2
section
variable {fr fc fm ft fb : Int32} {ap ae am ac aq aw ar ah : Nat → Int32}
theorem bx_gain {post : Int32 → Prop} {w s c : Nat} {v : bm_V} (hw : w < 2) (hc : c < 3) (hs : s < 2) (hm : bm_H am v) (h : post (bm_i (bm_gn (bm_A ap w s) v c))) : wpX_gain post (fr, fc, fm, ft, fb, ap, ae, am, ac, aq, aw, ar, ah) (nI w) (nI s) (nI c) := by
  have step : ∀ (n i : Nat) (x : Int32), i < 3 → wX_gain_6 post (nI w) (nI s) (nI c) fr fc fm ft fb ap ae am ac aq aw ar ah n (x + am i * ap (bm_ix w s i c)) (nI (i + 1)) → wX_gain_6 post (nI w) (nI s) (nI c) fr fc fm ft fb ap ae am ac aq aw ar ah (n + 1) x (nI i) := by
    intro n i x hi hk
    refine br_f (nI_ge (b := 3) hi (by decide)) ?_
    have st : ∀ z : Nat, bm_ix w s i c = 9 * w + z → wX_gain_31 post (wX_gain_6 post (nI w) (nI s) (nI c) fr fc fm ft fb ap ae am ac aq aw ar ah n) (nI w) (nI s) (nI c) x (nI i) (nI z) fr fc fm ft fb ap ae am ac aq aw ar ah := by
      intro z hz
      have hlt : 9 * w + z < 18 := by rw [← hz]; exact bm_ix18 hw hi hc
      refine ⟨vp_in_nI hi (by decide), pk_in (9 * w + z) 18 hlt (bx_i w z), ?_⟩
      intro y ey k ek
      rw [pk_cl (9 * w + z) (bx_i w z) (by omega), nI_clamp (by omega), ← hz] at ey
      rw [nI_1] at ek
      subst ey ek
      exact hk
    have h2 : s = 0 ∨ s = 1 := by omega
    rcases h2 with rfl | rfl
    · refine br_t rfl ?_
      rw [bx_3]
      exact st _ rfl
    · refine br_f (by decide) ?_
      rw [bx_3]
      exact st _ rfl
  refine ⟨4, step 3 0 0 (by omega) (step 2 1 _ (by omega) (step 1 2 _ (by omega) (br_t (by decide) ?_)))⟩
  rw [hm.1, hm.2.1, hm.2.2, bm_Ao ap, bm_Ao ap, bm_Ao ap, bm_mul, bm_mul, bm_mul, ← bm_0, bm_add, bm_add, bm_add]
  have e : 0 + v.1 * bm_A ap w s 0 c + v.2.1 * bm_A ap w s 1 c + v.2.2 * bm_A ap w s 2 c = bm_gn (bm_A ap w s) v c := by
    unfold bm_gn
    omega
  rw [e]
  exact h
/-- the replies found so far -/
def bm_RI (A : Nat → Nat → Int) (O : Nat) (v : bm_V) (n f : Nat) (m : Int) : Prop := f < 8 ∧ (∀ j, j < 3 → (f.testBit j = true ↔ j < n ∧ O.testBit j = true ∧ bm_gn A v j = m)) ∧ (∀ j, j < n → O.testBit j = true → bm_gn A v j ≤ m) ∧ (f = 0 → ∀ j, j < n → O.testBit j = false)
theorem bm_RI0 (A : Nat → Nat → Int) (O : Nat) (v : bm_V) : bm_RI A O v 0 0 0 := ⟨by omega, fun j _ => ⟨fun h => by simp at h, fun h => absurd h.1 (by omega)⟩, fun j hj => absurd hj (by omega), fun _ j hj => absurd hj (by omega)⟩
theorem bm_8e {a b : Nat} (ha : a < 8) (hb : b < 8) (h : ∀ j, j < 3 → a.testBit j = b.testBit j) : a = b := by
  apply Nat.eq_of_testBit_eq
  intro i
  rcases Nat.lt_or_ge i 3 with hi | hi
  · exact h i hi
  · rw [Nat.testBit_lt_two_pow (Nat.lt_of_lt_of_le ha (Nat.pow_le_pow_right (n := 2) (by decide) hi)), Nat.testBit_lt_two_pow (Nat.lt_of_lt_of_le hb (Nat.pow_le_pow_right (n := 2) (by decide) hi))]
theorem bm_2t {c j : Nat} : (2 ^ c).testBit j = true ↔ j = c := by
  rw [Nat.testBit_two_pow]
  simp
  exact ⟨fun h => h.symm, fun h => h.symm⟩
theorem bm_28 {c : Nat} (hc : c < 3) : 2 ^ c < 8 := by
  have h : c = 0 ∨ c = 1 ∨ c = 2 := by omega
  rcases h with rfl | rfl | rfl <;> decide
theorem bm_RIs {A : Nat → Nat → Int} {O : Nat} {v : bm_V} {n f : Nat} {m : Int} (h : bm_RI A O v n f m) (hn : n < 3) (hO : O.testBit n = false) : bm_RI A O v (n + 1) f m := by
  obtain ⟨h1, h2, h3, h4⟩ := h
  have key : ∀ j, j < n + 1 → O.testBit j = true → j < n := by
    intro j hj hOj
    rcases Nat.lt_or_ge j n with z | z
    · exact z
    · have : j = n := by omega
      rw [this, hO] at hOj
      cases hOj
  refine ⟨h1, fun j hj => ?_, fun j hj hOj => h3 j (key j hj hOj) hOj, fun hf j hj => ?_⟩
  · rw [h2 j hj]
    exact ⟨fun ⟨a, b⟩ => ⟨by omega, b⟩, fun ⟨a, b⟩ => ⟨key j a b.1, b⟩⟩
  · cases e : O.testBit j
    · rfl
    · have := h4 hf j (key j hj e)
      rw [this] at e
      cases e
theorem bm_RIn {A : Nat → Nat → Int} {O : Nat} {v : bm_V} {n f : Nat} {m : Int} (h : bm_RI A O v n f m) (hn : n < 3) (hO : O.testBit n = true) (hg : f = 0 ∨ m < bm_gn A v n) : bm_RI A O v (n + 1) (2 ^ n) (bm_gn A v n) := by
  obtain ⟨h1, h2, h3, h4⟩ := h
  have lt : ∀ j, j < n → O.testBit j = true → bm_gn A v j < bm_gn A v n := by
    intro j hj hOj
    rcases hg with z | z
    · have := h4 z j hj
      rw [this] at hOj
      cases hOj
    · have := h3 j hj hOj
      omega
  refine ⟨bm_28 hn, fun j hj => ?_, fun j hj hOj => ?_, fun hf => ?_⟩
  · rw [bm_2t]
    constructor
    · rintro rfl
      exact ⟨by omega, hO, rfl⟩
    · rintro ⟨a, b, c⟩
      rcases Nat.lt_or_ge j n with z | z
      · have := lt j z b
        omega
      · omega
  · rcases Nat.lt_or_ge j n with z | z
    · have := lt j z hOj
      omega
    · rw [show j = n by omega]
      exact Int.le_refl _
  · have := Nat.two_pow_pos n
    omega
theorem bm_RIe {A : Nat → Nat → Int} {O : Nat} {v : bm_V} {n f : Nat} {m : Int} (h : bm_RI A O v n f m) (hn : n < 3) (hO : O.testBit n = true) (hg : bm_gn A v n = m) : bm_RI A O v (n + 1) (f ||| 2 ^ n) m := by
  obtain ⟨h1, h2, h3, h4⟩ := h
  refine ⟨bx_orl h1 (bm_28 hn), fun j hj => ?_, fun j hj hOj => ?_, fun hf => ?_⟩
  · rw [Nat.testBit_or, Bool.or_eq_true, bm_2t, h2 j hj]
    constructor
    · rintro (⟨a, b, c⟩ | rfl)
      · exact ⟨by omega, b, c⟩
      · exact ⟨by omega, hO, hg⟩
    · rintro ⟨a, b, c⟩
      rcases Nat.lt_or_ge j n with z | z
      · exact Or.inl ⟨z, b, c⟩
      · exact Or.inr (by omega)
  · rcases Nat.lt_or_ge j n with z | z
    · exact h3 j z hOj
    · rw [show j = n by omega, hg]
      exact Int.le_refl _
  · have : (f ||| 2 ^ n).testBit n = true := by rw [Nat.testBit_or, Bool.or_eq_true]; exact Or.inr (bm_2t.mpr rfl)
    rw [hf] at this
    simp at this
theorem bm_RIl {A : Nat → Nat → Int} {O : Nat} {v : bm_V} {n f : Nat} {m : Int} (h : bm_RI A O v n f m) (hn : n < 3) (hO : O.testBit n = true) (hf : f ≠ 0) (hg : bm_gn A v n < m) : bm_RI A O v (n + 1) f m := by
  obtain ⟨h1, h2, h3, h4⟩ := h
  refine ⟨h1, fun j hj => ?_, fun j hj hOj => ?_, fun z => absurd z hf⟩
  · rw [h2 j hj]
    refine ⟨fun ⟨a, b⟩ => ⟨by omega, b⟩, fun ⟨a, b, c⟩ => ⟨?_, b, c⟩⟩
    rcases Nat.lt_or_ge j n with z | z
    · exact z
    · rw [show j = n by omega] at c
      omega
  · rcases Nat.lt_or_ge j n with z | z
    · exact h3 j z hOj
    · rw [show j = n by omega]
      omega
theorem bm_RI3 {A : Nat → Nat → Int} {O : Nat} {v : bm_V} {f : Nat} {m : Int} (hb : ∀ j, j < 3 → -1000000 < bm_gn A v j) (h : bm_RI A O v 3 f m) : f = bm_rp A O v := by
  obtain ⟨h1, h2, h3, h4⟩ := h
  apply bm_8e h1 (bm_rp8 _ _ _)
  intro j hj
  rw [Bool.eq_iff_iff, h2 j hj, bm_rp_t hj]
  by_cases z : f = 0
  · have := h4 z j hj
    rw [this]
    simp
  · have hM : bm_M A O v m := by
      refine ⟨h3, ?_⟩
      rcases Classical.em (∃ j, j < 3 ∧ f.testBit j = true) with ⟨i, hi, hf⟩ | hne
      · obtain ⟨a, b, c⟩ := (h2 i hi).mp hf
        exact ⟨i, hi, b, c⟩
      · exfalso
        apply z
        apply bm_8e h1 (by omega)
        intro i hi
        rw [Nat.zero_testBit]
        cases e : f.testBit i
        · rfl
        · exact absurd ⟨i, hi, e⟩ hne
    have hO : ∃ j, j < 3 ∧ O.testBit j = true := by
      obtain ⟨j, a, b, c⟩ := hM.2
      exact ⟨j, a, b⟩
    rw [bm_M_u hM (bm_mx_M hb hO)]
    exact ⟨fun ⟨_, b⟩ => b, fun b => ⟨hj, b⟩⟩
theorem bx_rtm {post : Int32 → Prop} {s O : Nat} {v : bm_V} (hs : s < 2) (hO : O < 8) (hp : bm_p9 ap) (hv : bm_b3 v) (hm : bm_H am v) (h : post (nI (bm_rp (bm_A ap (1 - s) s) O v))) : wpX_repliesToMix post (fr, fc, fm, ft, fb, ap, ae, am, ac, aq, aw, ar, ah) (nI s) (nI O) := by
  have gb : ∀ j, j < 3 → -17496 ≤ bm_gn (bm_A ap (1 - s) s) v j ∧ bm_gn (bm_A ap (1 - s) s) v j ≤ 17496 := fun j hj => bm_gn_b (bm_A9p hp _ _) hv hj
  have step : ∀ (n c f : Nat) (m : Int), c < 3 → -17496 ≤ m → m ≤ 17496 → bm_RI (bm_A ap (1 - s) s) O v c f m → (∀ f' m', -17496 ≤ m' → m' ≤ 17496 → bm_RI (bm_A ap (1 - s) s) O v (c + 1) f' m' → wX_repliesToMix_8 post (nI s) (nI O) fr fc fm ft fb ap ae am ac aq aw ar ah n (nI f') (bm_i m') (nI (c + 1))) → wX_repliesToMix_8 post (nI s) (nI O) fr fc fm ft fb ap ae am ac aq aw ar ah (n + 1) (nI f) (bm_i m) (nI c) := by
    intro n c f m hc hm1 hm2 hI hk
    refine br_f (nI_ge (b := 3) hc (by decide)) (bx_bit hO hc (fun hOc => ?_) (fun hOc => ?_))
    · rw [bx_1s hs]
      refine bx_gain (by omega) hc hs hm ?_
      have g := gb c hc
      have new : (f = 0 ∨ m < bm_gn (bm_A ap (1 - s) s) v c) → wX_repliesToMix_47 post (wX_repliesToMix_8 post (nI s) (nI O) fr fc fm ft fb ap ae am ac aq aw ar ah n) (nI s) (nI O) (nI c) (bm_i (bm_gn (bm_A ap (1 - s) s) v c)) fr fc fm ft fb ap ae am ac aq aw ar ah := by
        intro hh y ey k ek
        rw [bx_sh ⟨c, hc⟩] at ey
        rw [nI_1] at ek
        subst ey ek
        exact hk _ _ g.1 g.2 (bm_RIn hI hc hOc hh)
      refine pk_eq f 0 (fun hf => new (Or.inl hf)) (fun hf => ?_) rfl rfl (by have := hI.1; omega) (by omega)
      rw [bm_le (by omega) (by omega) (by omega) (by omega), bm_eq (by omega) (by omega) (by omega) (by omega)]
      refine br_c (fun hle => br_c (fun he => ?_) (fun hne => ?_)) (fun hnle => new (Or.inr (by omega)))
      · intro y ey k ek
        rw [bx_sh ⟨c, hc⟩, bx_or hI.1 (bm_28 hc)] at ey
        rw [nI_1] at ek
        subst ey ek
        exact hk _ _ hm1 hm2 (bm_RIe hI hc hOc he)
      · intro k ek
        rw [nI_1] at ek
        subst ek
        exact hk _ _ hm1 hm2 (bm_RIl hI hc hOc hf (by omega))
    · intro k ek
      rw [nI_1] at ek
      subst ek
      exact hk _ _ hm1 hm2 (bm_RIs hI hc hOc)
  refine ⟨4, step 3 0 0 0 (by omega) (by omega) (by omega) (bm_RI0 _ _ _) (fun f1 m1 a1 b1 I1 => step 2 1 f1 m1 (by omega) a1 b1 I1 (fun f2 m2 a2 b2 I2 => step 1 2 f2 m2 (by omega) a2 b2 I2 (fun f3 m3 a3 b3 I3 => br_t (by decide) ?_)))⟩
  rw [bm_RI3 (fun j hj => by have := gb j hj; omega) I3]
  exact h
end
