/-! gains -/
def bm_gn (A : Nat → Nat → Int) (v : bm_V) (j : Nat) : Int := v.1 * A 0 j + v.2.1 * A 1 j + v.2.2 * A 2 j
/-- m is the most over the set O -/
def bm_M (A : Nat → Nat → Int) (O : Nat) (v : bm_V) (m : Int) : Prop := (∀ j, j < 3 → O.testBit j = true → bm_gn A v j ≤ m) ∧ ∃ j, j < 3 ∧ O.testBit j = true ∧ bm_gn A v j = m
/-- the set of the least and of the greatest element -/
def bm_fs (T : Nat) : Nat := if T.testBit 0 then 0 else if T.testBit 1 then 1 else 2
def bm_ls (T : Nat) : Nat := if T.testBit 2 then 2 else if T.testBit 1 then 1 else 0
def bm_sz (T : Nat) : Nat := (T.testBit 0).toNat + (T.testBit 1).toNat + (T.testBit 2).toNat
def bm_cr (A : Nat → Nat → Int) (b c : Nat) : Int := (A b 0 - A b 1) * (A c 1 - A c 2) - (A c 0 - A c 1) * (A b 1 - A b 2)
/-- the solution before it is made small -/
def bm_raw (A : Nat → Nat → Int) (S T : Nat) : bm_V :=
  if S = 1 then (1, 0, 0) else if S = 2 then (0, 1, 0) else if S = 4 then (0, 0, 1)
  else if S = 3 then (-(A 1 (bm_fs T) - A 1 (bm_ls T)), A 0 (bm_fs T) - A 0 (bm_ls T), 0)
  else if S = 5 then (-(A 2 (bm_fs T) - A 2 (bm_ls T)), 0, A 0 (bm_fs T) - A 0 (bm_ls T))
  else if S = 6 then (0, -(A 2 (bm_fs T) - A 2 (bm_ls T)), A 1 (bm_fs T) - A 1 (bm_ls T))
  else (bm_cr A 1 2, bm_cr A 2 0, bm_cr A 0 1)
/-- a demand: the support S within M, the ties T within O, as many of the one as of the other -/
def bm_fit (M O S T : Nat) : Prop := S ≠ 0 ∧ S &&& M = S ∧ T &&& O = T ∧ bm_sz S = bm_sz T
theorem bm_sg_gn {A : Nat → Nat → Int} {x v : bm_V} (e1 : x.1 * bm_sg v = v.1 * bm_sg x) (e2 : x.2.1 * bm_sg v = v.2.1 * bm_sg x) (e3 : x.2.2 * bm_sg v = v.2.2 * bm_sg x) (j : Nat) : bm_gn A x j * bm_sg v = bm_gn A v j * bm_sg x := by
  unfold bm_gn
  generalize bm_sg v = s at *
  generalize bm_sg x = t at *
  generalize A 0 j = a
  generalize A 1 j = b
  generalize A 2 j = c
  grind
/-! the ratio -/
theorem bm_ratio : ∀ (L : List (Int × Int)), (∀ c, c ∈ L → 0 ≤ c.1 ∧ (c.1 = 0 → c.2 = 0)) → (∃ c, c ∈ L ∧ c.2 < 0) →
    ∃ p q : Int, 0 < p ∧ 0 < q ∧ (∀ c, c ∈ L → 0 ≤ p * c.1 + q * c.2) ∧ ∃ c, c ∈ L ∧ 0 < c.1 ∧ p * c.1 + q * c.2 = 0 := by
  intro L
  induction L with
  | nil =>
    rintro - ⟨c, hc, -⟩
    cases hc
  | cons c L ih =>
    intro h hn
    have hc := h c (List.mem_cons_self ..)
    have hL : ∀ c, c ∈ L → 0 ≤ c.1 ∧ (c.1 = 0 → c.2 = 0) := fun d hd => h d (List.mem_cons_of_mem _ hd)
    have own : c.2 < 0 → 0 < c.1 := by
      intro z
      rcases Int.lt_or_eq_of_le hc.1 with y | y
      · exact y
      · have := hc.2 y.symm
        omega
    have self : (-c.2) * c.1 + c.1 * c.2 = 0 := by
      rw [Int.neg_mul, Int.mul_comm c.1 c.2]
      omega
    by_cases z : ∃ d, d ∈ L ∧ d.2 < 0
    · obtain ⟨p, q, hp, hq, hall, t, ht, ht1, ht2⟩ := ih hL z
      by_cases y : 0 ≤ p * c.1 + q * c.2
      · refine ⟨p, q, hp, hq, ?_, t, List.mem_cons_of_mem _ ht, ht1, ht2⟩
        intro d hd
        rcases List.mem_cons.mp hd with rfl | hd
        · exact y
        · exact hall d hd
      · have hc2 : c.2 < 0 := by
          rcases Int.lt_or_le c.2 0 with w | w
          · exact w
          · exfalso
            apply y
            have := Int.mul_nonneg (Int.le_of_lt hp) hc.1
            have := Int.mul_nonneg (Int.le_of_lt hq) w
            omega
        have hc1 := own hc2
        refine ⟨-c.2, c.1, by omega, hc1, ?_, c, List.mem_cons_self .., hc1, self⟩
        intro d hd
        rcases List.mem_cons.mp hd with rfl | hd
        · omega
        · have hd0 := hL d hd
          have hda := hall d hd
          rcases Int.lt_or_le d.2 0 with w | w
          · have k1 : 0 ≤ (-c.2) * (p * d.1 + q * d.2) := Int.mul_nonneg (by omega) hda
            have k2 : 0 < (p * c.1 + q * c.2) * d.2 := Int.mul_pos_of_neg_of_neg (by omega) w
            have k3 : p * (-c.2 * d.1 + c.1 * d.2) = (-c.2) * (p * d.1 + q * d.2) + (p * c.1 + q * c.2) * d.2 := by grind
            have k4 : 0 ≤ p * (-c.2 * d.1 + c.1 * d.2) := by omega
            exact Int.nonneg_of_mul_nonneg_right k4 hp
          · have := Int.mul_nonneg (show 0 ≤ -c.2 by omega) hd0.1
            have := Int.mul_nonneg (Int.le_of_lt hc1) w
            omega
    · obtain ⟨d, hd, hd2⟩ := hn
      have hc2 : c.2 < 0 := by
        rcases List.mem_cons.mp hd with rfl | hd
        · exact hd2
        · exact absurd ⟨d, hd, hd2⟩ z
      have hc1 := own hc2
      refine ⟨-c.2, c.1, by omega, hc1, ?_, c, List.mem_cons_self .., hc1, self⟩
      intro d hd
      rcases List.mem_cons.mp hd with rfl | hd
      · omega
      · have hd0 := hL d hd
        have w : 0 ≤ d.2 := by
          rcases Int.lt_or_le d.2 0 with w | w
          · exact absurd ⟨d, hd, w⟩ z
          · exact w
        have := Int.mul_nonneg (show 0 ≤ -c.2 by omega) hd0.1
        have := Int.mul_nonneg (Int.le_of_lt hc1) w
        omega
def bm_nz (a : Int) : Nat := if a = 0 then 0 else 1
theorem bm_nz_le {a b : Int} (h : a = 0 → b = 0) : bm_nz b ≤ bm_nz a := by
  unfold bm_nz
  by_cases z : a = 0
  · rw [if_pos z, if_pos (h z)]
    exact Nat.le_refl _
  · rw [if_neg z]
    split <;> omega
theorem bm_nz_lt {a b : Int} (h : 0 < a) (hb : b = 0) : bm_nz b < bm_nz a := by
  unfold bm_nz
  rw [if_pos hb, if_neg (by omega)]
  omega
/-- the slack at j -/
def bm_sl (A : Nat → Nat → Int) (O : Nat) (x : bm_V) (m : Int) (j : Nat) : Int := if O.testBit j = true then m - bm_gn A x j else 0
def bm_mu (A : Nat → Nat → Int) (O : Nat) (x : bm_V) (m : Int) : Nat := bm_nz x.1 + bm_nz x.2.1 + bm_nz x.2.2 + bm_nz (bm_sl A O x m 0) + bm_nz (bm_sl A O x m 1) + bm_nz (bm_sl A O x m 2)
def bm_X (M : Nat) (x : bm_V) : Prop := 0 ≤ x.1 ∧ 0 ≤ x.2.1 ∧ 0 ≤ x.2.2 ∧ 0 < bm_sg x ∧ (M.testBit 0 = false → x.1 = 0) ∧ (M.testBit 1 = false → x.2.1 = 0) ∧ (M.testBit 2 = false → x.2.2 = 0)
def bm_mv (p q : Int) (x d : bm_V) : bm_V := (p * x.1 + q * d.1, p * x.2.1 + q * d.2.1, p * x.2.2 + q * d.2.2)
theorem bm_mv_gn (A : Nat → Nat → Int) (p q : Int) (x d : bm_V) (j : Nat) : bm_gn A (bm_mv p q x d) j = p * bm_gn A x j + q * bm_gn A d j := by
  unfold bm_gn bm_mv
  dsimp only
  generalize A 0 j = a
  generalize A 1 j = b
  generalize A 2 j = c
  grind
/-- a step along a direction: nothing that was tight loosens, something becomes tight -/
theorem bm_step {A : Nat → Nat → Int} {M O : Nat} {x d : bm_V} {m l : Int} (hx : bm_X M x) (hm : bm_M A O x m)
    (d0 : bm_sg d = 0) (dn : d ≠ (0, 0, 0)) (z1 : x.1 = 0 → d.1 = 0) (z2 : x.2.1 = 0 → d.2.1 = 0) (z3 : x.2.2 = 0 → d.2.2 = 0)
    (ht : ∀ j, j < 3 → O.testBit j = true → bm_gn A x j = m → bm_gn A d j = l) (hl : l ≤ 0) :
    ∃ x' m', bm_X M x' ∧ bm_M A O x' m' ∧ (∀ j, j < 3 → O.testBit j = true → bm_gn A x j = m → bm_gn A x' j = m') ∧ m' * bm_sg x ≤ m * bm_sg x' ∧ bm_mu A O x' m' < bm_mu A O x m := by
  obtain ⟨x1, x2, x3, xs, s1, s2, s3⟩ := hx
  have sl0 : ∀ j, j < 3 → 0 ≤ bm_sl A O x m j := by
    intro j hj
    unfold bm_sl
    by_cases z : O.testBit j = true
    · rw [if_pos z]
      have := hm.1 j hj z
      omega
    · rw [if_neg z]
      exact Int.le_refl _
  have slz : ∀ j, j < 3 → bm_sl A O x m j = 0 → bm_sl A O d l j = 0 := by
    intro j hj
    unfold bm_sl
    by_cases z : O.testBit j = true
    · rw [if_pos z, if_pos z]
      intro e
      have := ht j hj z (by omega)
      omega
    · rw [if_neg z, if_neg z]
      intro; rfl
  have hneg : d.1 < 0 ∨ d.2.1 < 0 ∨ d.2.2 < 0 := by
    obtain ⟨a, b, c⟩ := d
    unfold bm_sg at d0
    dsimp only at d0 ⊢
    have : ¬ (a = 0 ∧ b = 0 ∧ c = 0) := by
      rintro ⟨rfl, rfl, rfl⟩
      exact dn rfl
    omega
  obtain ⟨p, q, hp, hq, hall, t, htm, ht1, ht2⟩ := bm_ratio [(x.1, d.1), (x.2.1, d.2.1), (x.2.2, d.2.2), (bm_sl A O x m 0, bm_sl A O d l 0), (bm_sl A O x m 1, bm_sl A O d l 1), (bm_sl A O x m 2, bm_sl A O d l 2)]
    (by
      intro c hc
      simp only [List.mem_cons, List.not_mem_nil, or_false] at hc
      rcases hc with rfl | rfl | rfl | rfl | rfl | rfl
      · exact ⟨x1, z1⟩
      · exact ⟨x2, z2⟩
      · exact ⟨x3, z3⟩
      · exact ⟨sl0 0 (by omega), slz 0 (by omega)⟩
      · exact ⟨sl0 1 (by omega), slz 1 (by omega)⟩
      · exact ⟨sl0 2 (by omega), slz 2 (by omega)⟩)
    (by
      rcases hneg with h | h | h
      · exact ⟨_, List.mem_cons_self .., h⟩
      · exact ⟨_, List.mem_cons_of_mem _ (List.mem_cons_self ..), h⟩
      · exact ⟨_, List.mem_cons_of_mem _ (List.mem_cons_of_mem _ (List.mem_cons_self ..)), h⟩)
  have n1 := hall (x.1, d.1) (by simp)
  have n2 := hall (x.2.1, d.2.1) (by simp)
  have n3 := hall (x.2.2, d.2.2) (by simp)
  have n4 := hall (bm_sl A O x m 0, bm_sl A O d l 0) (by simp)
  have n5 := hall (bm_sl A O x m 1, bm_sl A O d l 1) (by simp)
  have n6 := hall (bm_sl A O x m 2, bm_sl A O d l 2) (by simp)
  dsimp only at n1 n2 n3 n4 n5 n6
  have slm : ∀ j, bm_sl A O (bm_mv p q x d) (p * m + q * l) j = p * bm_sl A O x m j + q * bm_sl A O d l j := by
    intro j
    unfold bm_sl
    by_cases z : O.testBit j = true
    · rw [if_pos z, if_pos z, if_pos z, bm_mv_gn]
      grind
    · rw [if_neg z, if_neg z, if_neg z]
      omega
  have keep : ∀ a b : Int, (a = 0 → b = 0) → a = 0 → p * a + q * b = 0 := by
    intro a b h ha
    rw [ha, h ha]
    omega
  have hsg : bm_sg (bm_mv p q x d) = p * bm_sg x := by
    unfold bm_sg at d0 ⊢
    unfold bm_mv
    dsimp only
    have e : q * (d.1 + d.2.1 + d.2.2) = 0 := by rw [d0, Int.mul_zero]
    grind
  refine ⟨bm_mv p q x d, p * m + q * l, ⟨n1, n2, n3, ?_, fun h => keep _ _ z1 (s1 h), fun h => keep _ _ z2 (s2 h), fun h => keep _ _ z3 (s3 h)⟩, ⟨?_, ?_⟩, ?_, ?_, ?_⟩
  · rw [hsg]
    exact Int.mul_pos hp xs
  · intro j hj hO
    have e := slm j
    have : 0 ≤ bm_sl A O (bm_mv p q x d) (p * m + q * l) j := by
      rw [e]
      have hj3 : j = 0 ∨ j = 1 ∨ j = 2 := by omega
      rcases hj3 with rfl | rfl | rfl
      · exact n4
      · exact n5
      · exact n6
    unfold bm_sl at this
    rw [if_pos hO] at this
    omega
  · obtain ⟨j, hj, hO, e⟩ := hm.2
    exact ⟨j, hj, hO, by rw [bm_mv_gn, e, ht j hj hO e]⟩
  · intro j hj hO e
    rw [bm_mv_gn, e, ht j hj hO e]
  · rw [hsg]
    have h1 : q * l * bm_sg x ≤ 0 := Int.mul_nonpos_of_nonpos_of_nonneg (Int.mul_nonpos_of_nonneg_of_nonpos (Int.le_of_lt hq) hl) (Int.le_of_lt xs)
    have h2 : (p * m + q * l) * bm_sg x = m * (p * bm_sg x) + q * l * bm_sg x := by grind
    omega
  · have m1 := bm_nz_le (keep _ _ z1)
    have m2 := bm_nz_le (keep _ _ z2)
    have m3 := bm_nz_le (keep _ _ z3)
    have m4 := bm_nz_le (keep _ _ (slz 0 (by omega)))
    have m5 := bm_nz_le (keep _ _ (slz 1 (by omega)))
    have m6 := bm_nz_le (keep _ _ (slz 2 (by omega)))
    unfold bm_mu
    rw [slm 0, slm 1, slm 2]
    unfold bm_mv
    dsimp only
    have hlt := bm_nz_lt ht1 ht2
    simp only [List.mem_cons, List.not_mem_nil, or_false] at htm
    rcases htm with rfl | rfl | rfl | rfl | rfl | rfl <;> dsimp only at hlt <;> omega
