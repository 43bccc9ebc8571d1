/-! triples of integers -/
abbrev bm_V : Type := Int × Int × Int
def bm_at (v : bm_V) (i : Nat) : Int := if i = 0 then v.1 else if i = 1 then v.2.1 else v.2.2
def bm_sg (v : bm_V) : Int := v.1 + v.2.1 + v.2.2
def bm_g3 (v : bm_V) : Nat := Nat.gcd (Nat.gcd v.1.natAbs v.2.1.natAbs) v.2.2.natAbs
/-- nonnegative, not zero, without a common divisor -/
def bm_P (v : bm_V) : Prop := 0 ≤ v.1 ∧ 0 ≤ v.2.1 ∧ 0 ≤ v.2.2 ∧ 0 < bm_sg v ∧ bm_g3 v = 1
def bm_e (m : bm_V) : Int := if bm_sg m < 0 then -1 else 1
def bm_ok (m : bm_V) : Prop := bm_sg m ≠ 0 ∧ 0 ≤ bm_e m * m.1 ∧ 0 ≤ bm_e m * m.2.1 ∧ 0 ≤ bm_e m * m.2.2
def bm_nv (m : bm_V) : bm_V := ((bm_e m * m.1) / (bm_g3 m : Int), (bm_e m * m.2.1) / (bm_g3 m : Int), (bm_e m * m.2.2) / (bm_g3 m : Int))
theorem bm_g3_pos {m : bm_V} (h : bm_sg m ≠ 0) : 0 < bm_g3 m := by
  rcases Nat.eq_zero_or_pos (bm_g3 m) with z | z
  · exfalso
    unfold bm_g3 at z
    have z2 := Nat.eq_zero_of_gcd_eq_zero_right z
    have z1 := Nat.eq_zero_of_gcd_eq_zero_left z
    have z3 := Nat.eq_zero_of_gcd_eq_zero_right z1
    have z4 := Nat.eq_zero_of_gcd_eq_zero_left z1
    unfold bm_sg at h
    omega
  · exact z
theorem bm_g3_d {m : bm_V} : (bm_g3 m : Int) ∣ m.1 ∧ (bm_g3 m : Int) ∣ m.2.1 ∧ (bm_g3 m : Int) ∣ m.2.2 := by
  refine ⟨Int.ofNat_dvd_left.mpr ?_, Int.ofNat_dvd_left.mpr ?_, Int.ofNat_dvd_left.mpr ?_⟩
  · exact Nat.dvd_trans (Nat.gcd_dvd_left _ _) (Nat.gcd_dvd_left _ _)
  · exact Nat.dvd_trans (Nat.gcd_dvd_left _ _) (Nat.gcd_dvd_right _ _)
  · exact Nat.gcd_dvd_right _ _
theorem bm_g3_mul (v : bm_V) (c : Int) : bm_g3 (c * v.1, c * v.2.1, c * v.2.2) = c.natAbs * bm_g3 v := by
  unfold bm_g3
  simp only [Int.natAbs_mul, Nat.gcd_mul_left]
theorem bm_e_sq (m : bm_V) : bm_e m * bm_e m = 1 := by
  unfold bm_e
  split <;> rfl
theorem bm_nv_mul {m : bm_V} (h : bm_sg m ≠ 0) : m = ((bm_e m * bm_g3 m) * (bm_nv m).1, (bm_e m * bm_g3 m) * (bm_nv m).2.1, (bm_e m * bm_g3 m) * (bm_nv m).2.2) := by
  obtain ⟨d1, d2, d3⟩ := bm_g3_d (m := m)
  have key : ∀ a : Int, (bm_g3 m : Int) ∣ a → (bm_e m * bm_g3 m) * ((bm_e m * a) / (bm_g3 m : Int)) = a := by
    intro a ha
    have : (bm_g3 m : Int) ∣ bm_e m * a := Int.dvd_mul_of_dvd_right ha
    rw [Int.mul_assoc, Int.mul_ediv_cancel' this, ← Int.mul_assoc, bm_e_sq, Int.one_mul]
  have k1 := key _ d1
  have k2 := key _ d2
  have k3 := key _ d3
  unfold bm_nv
  simp only [k1, k2, k3]
theorem bm_nv_P {m : bm_V} (h : bm_ok m) : bm_P (bm_nv m) := by
  obtain ⟨h0, h1, h2, h3⟩ := h
  have hg : (0 : Int) < bm_g3 m := by have := bm_g3_pos h0; omega
  have n1 : 0 ≤ (bm_nv m).1 := Int.ediv_nonneg h1 (by omega)
  have n2 : 0 ≤ (bm_nv m).2.1 := Int.ediv_nonneg h2 (by omega)
  have n3 : 0 ≤ (bm_nv m).2.2 := Int.ediv_nonneg h3 (by omega)
  have hm := bm_nv_mul h0
  have hs : bm_sg m = (bm_e m * bm_g3 m) * bm_sg (bm_nv m) := by
    have e1 := congrArg Prod.fst hm
    have e2 := congrArg (fun v : bm_V => v.2.1) hm
    have e3 := congrArg (fun v : bm_V => v.2.2) hm
    dsimp only at e1 e2 e3
    unfold bm_sg
    rw [Int.mul_add, Int.mul_add, ← e1, ← e2, ← e3]
  have hs0 : bm_sg (bm_nv m) ≠ 0 := by
    intro z
    rw [z, Int.mul_zero] at hs
    exact h0 hs
  refine ⟨n1, n2, n3, ?_, ?_⟩
  · unfold bm_sg at hs0 ⊢
    omega
  · have e := congrArg bm_g3 hm
    rw [bm_g3_mul, Int.natAbs_mul] at e
    have ee : (bm_e m).natAbs = 1 := by
      unfold bm_e
      split <;> rfl
    rw [ee, Nat.one_mul, Int.natAbs_natCast] at e
    have hg' : 0 < bm_g3 m := bm_g3_pos h0
    have : bm_g3 m * 1 = bm_g3 m * bm_g3 (bm_nv m) := by omega
    exact (Nat.eq_of_mul_eq_mul_left hg' this).symm
/-- proportional without common divisors: the same -/
theorem bm_P_eq {v w : bm_V} (hv : bm_P v) (hw : bm_P w) (e1 : v.1 * bm_sg w = w.1 * bm_sg v) (e2 : v.2.1 * bm_sg w = w.2.1 * bm_sg v) (e3 : v.2.2 * bm_sg w = w.2.2 * bm_sg v) : v = w := by
  have a := bm_g3_mul v (bm_sg w)
  have b := bm_g3_mul w (bm_sg v)
  rw [hv.2.2.2.2, Nat.mul_one] at a
  rw [hw.2.2.2.2, Nat.mul_one] at b
  have c : (bm_sg w * v.1, bm_sg w * v.2.1, bm_sg w * v.2.2) = (bm_sg v * w.1, bm_sg v * w.2.1, bm_sg v * w.2.2) := by
    rw [Int.mul_comm _ v.1, Int.mul_comm _ v.2.1, Int.mul_comm _ v.2.2, e1, e2, e3, Int.mul_comm _ w.1, Int.mul_comm _ w.2.1, Int.mul_comm _ w.2.2]
  rw [c, b] at a
  have p := hv.2.2.2.1
  have q := hw.2.2.2.1
  have s : bm_sg v = bm_sg w := by omega
  rw [s] at e1 e2 e3
  have z : bm_sg w ≠ 0 := by omega
  have f1 := Int.eq_of_mul_eq_mul_right z e1
  have f2 := Int.eq_of_mul_eq_mul_right z e2
  have f3 := Int.eq_of_mul_eq_mul_right z e3
  obtain ⟨v1, v2, v3⟩ := v
  obtain ⟨w1, w2, w3⟩ := w
  simp only at f1 f2 f3
  rw [f1, f2, f3]
/-- what a nonnegative multiple shows -/
theorem bm_ok_of {m x : bm_V} (h0 : bm_sg m ≠ 0) (x1 : 0 ≤ x.1) (x2 : 0 ≤ x.2.1) (x3 : 0 ≤ x.2.2) (xs : 0 < bm_sg x) (e1 : x.1 * bm_sg m = m.1 * bm_sg x) (e2 : x.2.1 * bm_sg m = m.2.1 * bm_sg x) (e3 : x.2.2 * bm_sg m = m.2.2 * bm_sg x) : bm_ok m := by
  have key : ∀ a b : Int, 0 ≤ a → a * bm_sg m = b * bm_sg x → 0 ≤ bm_e m * b := by
    intro a b ha e
    have hp : 0 ≤ a * (bm_e m * bm_sg m) := by
      apply Int.mul_nonneg ha
      unfold bm_e
      split <;> omega
    have : (bm_e m * b) * bm_sg x = a * (bm_e m * bm_sg m) := by
      rw [Int.mul_assoc, ← e, Int.mul_left_comm]
    rw [← this] at hp
    exact Int.nonneg_of_mul_nonneg_left hp xs
  exact ⟨h0, key _ _ x1 e1, key _ _ x2 e2, key _ _ x3 e3⟩
theorem bm_pr_of {m x : bm_V} (h0 : bm_sg m ≠ 0) {a b : Int} (c : Int) (hc : c ≠ 0) {v : Int} (sv : Int) (hm : b = c * v) (hs : bm_sg m = c * sv) (e : a * bm_sg m = b * bm_sg x) : a * sv = v * bm_sg x := by
  rw [hm, hs, Int.mul_left_comm, Int.mul_assoc] at e
  exact Int.eq_of_mul_eq_mul_left hc e
/-! the order -/
def bm_d (v w : bm_V) (i : Nat) : Int := bm_at v i * bm_sg w - bm_at w i * bm_sg v
def bm_cm (v w : bm_V) : Int := if bm_d v w 0 ≠ 0 then bm_d v w 0 else if bm_d v w 1 ≠ 0 then bm_d v w 1 else bm_d v w 2
theorem bm_d_anti (v w : bm_V) (i : Nat) : bm_d w v i = - bm_d v w i := by
  unfold bm_d
  omega
theorem bm_cm_anti (v w : bm_V) : bm_cm w v = - bm_cm v w := by
  unfold bm_cm
  rw [bm_d_anti v w 0, bm_d_anti v w 1, bm_d_anti v w 2]
  repeat' split
  all_goals omega
theorem bm_cm_eq {v w : bm_V} (hv : bm_P v) (hw : bm_P w) (h : bm_cm v w = 0) : v = w := by
  have : bm_d v w 0 = 0 ∧ bm_d v w 1 = 0 ∧ bm_d v w 2 = 0 := by
    unfold bm_cm at h
    revert h
    repeat' split
    all_goals intro h; omega
  obtain ⟨d0, d1, d2⟩ := this
  unfold bm_d bm_at at d0 d1 d2
  simp only [if_true, Nat.one_ne_zero, if_false] at d0 d1 d2
  have d2' : v.2.2 * bm_sg w - w.2.2 * bm_sg v = 0 := d2
  exact bm_P_eq hv hw (by omega) (by omega) (by omega)
theorem bm_cm_self (v : bm_V) : bm_cm v v = 0 := by
  unfold bm_cm bm_d
  simp
theorem bm_d_tr (u v w : bm_V) (i : Nat) : bm_d u w i * bm_sg v = bm_d u v i * bm_sg w + bm_d v w i * bm_sg u := by
  unfold bm_d
  grind
theorem bm_sgn {a b c U V W : Int} (hU : 0 < U) (hV : 0 < V) (hW : 0 < W) (e : c * V = a * W + b * U) : (a < 0 → b ≤ 0 → c < 0) ∧ (a ≤ 0 → b < 0 → c < 0) ∧ (a = 0 → b = 0 → c = 0) := by
  have neg : c * V < 0 → c < 0 := by
    intro h
    rcases Int.lt_or_le c 0 with z | z
    · exact z
    · have := Int.mul_nonneg z (Int.le_of_lt hV)
      omega
  refine ⟨fun ha hb => neg ?_, fun ha hb => neg ?_, fun ha hb => ?_⟩
  · have h1 : a * W < 0 := Int.mul_neg_of_neg_of_pos ha hW
    have h2 : b * U ≤ 0 := Int.mul_nonpos_of_nonpos_of_nonneg hb (Int.le_of_lt hU)
    omega
  · have h1 : a * W ≤ 0 := Int.mul_nonpos_of_nonpos_of_nonneg ha (Int.le_of_lt hW)
    have h2 : b * U < 0 := Int.mul_neg_of_neg_of_pos hb hU
    omega
  · subst ha hb
    rw [Int.zero_mul, Int.zero_mul] at e
    rcases Int.mul_eq_zero.mp (show c * V = 0 by omega) with z | z
    · exact z
    · omega
theorem bm_cm_neg {v w : bm_V} : bm_cm v w < 0 ↔ bm_d v w 0 < 0 ∨ (bm_d v w 0 = 0 ∧ bm_d v w 1 < 0) ∨ (bm_d v w 0 = 0 ∧ bm_d v w 1 = 0 ∧ bm_d v w 2 < 0) := by
  unfold bm_cm
  by_cases h0 : bm_d v w 0 = 0
  · by_cases h1 : bm_d v w 1 = 0
    · simp [h0, h1]
    · simp [h0, h1]
  · simp [h0]
theorem bm_cm_tr {u v w : bm_V} (hu : bm_P u) (hv : bm_P v) (hw : bm_P w) (h1 : bm_cm u v < 0) (h2 : bm_cm v w < 0) : bm_cm u w < 0 := by
  have pu := hu.2.2.2.1
  have pv := hv.2.2.2.1
  have pw := hw.2.2.2.1
  obtain ⟨a0, b0, c0⟩ := bm_sgn pu pv pw (bm_d_tr u v w 0)
  obtain ⟨a1, b1, c1⟩ := bm_sgn pu pv pw (bm_d_tr u v w 1)
  obtain ⟨a2, b2, c2⟩ := bm_sgn pu pv pw (bm_d_tr u v w 2)
  rw [bm_cm_neg] at h1 h2 ⊢
  rcases h1 with h1 | ⟨h1, k1⟩ | ⟨h1, k1, l1⟩ <;> rcases h2 with h2 | ⟨h2, k2⟩ | ⟨h2, k2, l2⟩
  · exact Or.inl (a0 h1 (by omega))
  · exact Or.inl (a0 h1 (by omega))
  · exact Or.inl (a0 h1 (by omega))
  · exact Or.inl (b0 (by omega) h2)
  · exact Or.inr (Or.inl ⟨c0 h1 h2, a1 k1 (by omega)⟩)
  · exact Or.inr (Or.inl ⟨c0 h1 h2, a1 k1 (by omega)⟩)
  · exact Or.inl (b0 (by omega) h2)
  · exact Or.inr (Or.inl ⟨c0 h1 h2, b1 (by omega) k2⟩)
  · exact Or.inr (Or.inr ⟨c0 h1 h2, c1 k1 k2, a2 l1 (by omega)⟩)
