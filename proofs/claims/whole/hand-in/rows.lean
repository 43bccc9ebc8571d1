section
theorem pk_us {f : Nat → Int32} {k : Nat} {x : Int32} : upd f k x k = x := if_pos rfl
theorem pk_un {f : Nat → Int32} {k j : Nat} {x : Int32} (h : j ≠ k) : upd f k x j = f j := if_neg h
theorem pk_sub {a b : Nat} (h : b ≤ a) : nI a - nI b = nI (a - b) := by
  obtain ⟨c, rfl⟩ : ∃ c, a = c + b := ⟨a - b, by omega⟩
  rw [← nI_add, Int32.add_sub_cancel, Nat.add_sub_cancel]
theorem pk_m1 (n : Nat) : nI (n + 1) + (-1) = nI n := by
  rw [← nI_1, Int32.add_assoc, show (1 : Int32) + (-1) = 0 from rfl, Int32.add_zero]
theorem pk_mul (a b : Nat) : nI a * nI b = nI (a * b) := (Int32.ofNat_mul a b).symm
theorem pk_div {a d : Nat} (ha : a < 2 ^ 31) (h0 : 0 < d) (hd : d < 2 ^ 31) : nI a / nI d = nI (a / d) := by
  apply Int32.toInt_inj.mp
  rw [lg_idiv_nonneg (by rw [nI_toInt ha]; omega) (by rw [nI_toInt hd]; omega), nI_toInt ha, nI_toInt hd, nI_toInt (Nat.lt_of_le_of_lt (Nat.div_le_self a d) ha)]
  first | rfl | exact (Int.natCast_ediv _ _).symm
theorem pk_rem {a d : Nat} (ha : a < 2 ^ 31) (h0 : 0 < d) (hd : d < 2 ^ 31) : nI a - nI a / nI d * nI d = nI (a % d) := by
  rw [pk_div ha h0 hd, pk_mul, pk_sub (Nat.div_mul_le_self a d)]
  exact congrArg nI (by have := Nat.div_add_mod' a d; omega)
theorem pk_sub_toInt {a b : Nat} (ha : a < 2 ^ 30) (hb : b < 2 ^ 30) : (nI a - nI b).toInt = (a : Int) - b := by
  rw [Int32.toInt_sub, nI_toInt (by omega), nI_toInt (by omega)]
  exact Int.bmod_eq_of_le (by omega) (by omega)
theorem pk_sneg {a b : Nat} (hb : b < 2 ^ 30) (h : a < b) : nI a - nI b < 0 := by
  rw [Int32.lt_iff_toInt_lt, pk_sub_toInt (by omega) hb, show (0 : Int32).toInt = 0 from by decide]
  omega
theorem pk_ix (x : Int32) {n : Nat} (hn : n < 2 ^ 31) : x < 0 ∨ nI n ≤ x ∨ ∃ j : Nat, j < n ∧ x = nI j := by
  by_cases h : x < 0
  · exact Or.inl h
  · obtain ⟨j, hj, rfl⟩ := nI_of h
    by_cases h2 : j < n
    · exact Or.inr (Or.inr ⟨j, h2, rfl⟩)
    · exact Or.inr (Or.inl (nI_le (by omega) hj))
theorem pk_le {x y : Int32} {A B : Prop} (a b : Nat) (f : a ≤ b → A) (g : b < a → B) (hx : x = nI a := by rfl) (hy : y = nI b := by rfl) (ha : a < 2 ^ 31 := by omega) (hb : b < 2 ^ 31 := by omega) : (x ≤ y → A) ∧ (¬ x ≤ y → B) := by
  subst hx hy
  rw [nI_leI ha hb]
  exact ⟨f, fun z => g (by omega)⟩
theorem pk_lt {x y : Int32} {A B : Prop} (a b : Nat) (f : a < b → A) (g : b ≤ a → B) (hx : x = nI a := by rfl) (hy : y = nI b := by rfl) (ha : a < 2 ^ 31 := by omega) (hb : b < 2 ^ 31 := by omega) : (x < y → A) ∧ (¬ x < y → B) := by
  subst hx hy
  rw [nI_ltI ha hb]
  exact ⟨f, fun z => g (by omega)⟩
theorem pk_eq {x y : Int32} {A B : Prop} (a b : Nat) (f : a = b → A) (g : a ≠ b → B) (hx : x = nI a := by rfl) (hy : y = nI b := by rfl) (ha : a < 2 ^ 31 := by omega) (hb : b < 2 ^ 31 := by omega) : (x = y → A) ∧ (¬ x = y → B) := by
  subst hx hy
  rw [nI_eq ha hb]
  exact ⟨f, g⟩
theorem pk_in {x : Int32} (n N : Nat) (h : n < N) (hx : x = nI n := by rfl) (hN : N < 2 ^ 31 := by omega) : vp_in x N := by
  subst hx
  exact vp_in_nI h hN
theorem pk_cl {x : Int32} (n : Nat) (hx : x = nI n := by rfl) (h : n < 2 ^ 31 := by omega) : x.toNatClampNeg = n := by
  subst hx
  exact nI_clamp h
theorem pk_tn {n : Nat} (h : n < 2 ^ 32) : (nI n).toBitVec.toNat = n := Nat.mod_eq_of_lt h
theorem pk_and (x : Int32) {m : Int32} (k : Nat) (hm : m.toBitVec.toNat = 2 ^ k - 1) : x &&& m = nI (x.toBitVec.toNat % 2 ^ k) := by
  apply Int32.toBitVec_inj.mp
  apply BitVec.eq_of_toNat_eq
  rw [Int32.toBitVec_and, BitVec.toNat_and, hm, Nat.and_two_pow_sub_one_eq_mod]
  show _ = (BitVec.ofNat 32 _).toNat
  rw [BitVec.toNat_ofNat]
  exact (Nat.mod_eq_of_lt (Nat.lt_of_le_of_lt (Nat.mod_le _ _) x.toBitVec.isLt)).symm
theorem pk_andN {n : Nat} (h : n < 2 ^ 32) {m : Int32} (k : Nat) (hm : m.toBitVec.toNat = 2 ^ k - 1) : nI n &&& m = nI (n % 2 ^ k) := by
  rw [pk_and _ k hm, pk_tn h]
theorem pk_andE (x : Int32) {m : Int32} (k : Nat) (hm : m.toBitVec.toNat = 2 ^ k - 1) : ∃ j : Nat, j < 2 ^ k ∧ x &&& m = nI j := ⟨_, Nat.mod_lt _ (Nat.two_pow_pos k), pk_and x k hm⟩
theorem pk_andIn (x : Int32) {m : Int32} (k : Nat) (hm : m.toBitVec.toNat = 2 ^ k - 1) (hk : k ≤ 30) : vp_in (x &&& m) (2 ^ k) := by
  obtain ⟨j, hj, e⟩ := pk_andE x k hm
  rw [e]
  exact vp_in_nI hj (Nat.lt_of_le_of_lt (Nat.pow_le_pow_right (by decide) hk) (by decide))
theorem pk_shl (a s : Int32) (k : Nat) (hs : (s.toBitVec.smod 32).toNat = k) : (a <<< s).toBitVec.toNat = a.toBitVec.toNat * 2 ^ k % 2 ^ 32 := by
  show (a.toBitVec <<< (s.toBitVec.smod 32).toNat).toNat = _
  rw [hs, BitVec.toNat_shiftLeft, Nat.shiftLeft_eq]
theorem pk_shlN {n : Nat} (s : Int32) (k : Nat) (hs : (s.toBitVec.smod 32).toNat = k) (h : n * 2 ^ k < 2 ^ 32) : nI n <<< s = nI (n * 2 ^ k) := by
  apply Int32.toBitVec_inj.mp
  apply BitVec.eq_of_toNat_eq
  have hn : n < 2 ^ 32 := Nat.lt_of_le_of_lt (Nat.le_mul_of_pos_right n (Nat.two_pow_pos k)) h
  rw [pk_shl _ _ k hs, pk_tn hn, pk_tn h, Nat.mod_eq_of_lt h]
theorem pk_shr (a s : Int32) (k : Nat) (hs : (s.toBitVec.smod 32).toNat = k) : (a >>> s).toInt = a.toInt >>> k := by
  show (a.toBitVec.sshiftRight (s.toBitVec.smod 32).toNat).toInt = _
  rw [hs, BitVec.toInt_sshiftRight]
  rfl
theorem pk_shrN {n : Nat} (h : n < 2 ^ 31) (s : Int32) (k : Nat) (hs : (s.toBitVec.smod 32).toNat = k) : nI n >>> s = nI (n / 2 ^ k) := by
  apply Int32.toInt_inj.mp
  have h2 : n / 2 ^ k ≤ n := Nat.div_le_self _ _
  rw [pk_shr _ _ k hs, nI_toInt h, nI_toInt (by omega), Int.shiftRight_eq_div_pow]
  rfl
/-- an Int as an Int32 -/
def bm_i (a : Int) : Int32 := Int32.ofInt a
theorem bm_iT {a : Int} (h1 : -2147483648 ≤ a) (h2 : a < 2147483648) : (bm_i a).toInt = a := Int32.toInt_ofInt_of_le (by omega) (by omega)
theorem bm_nI (n : Nat) : nI n = bm_i n := Int32.ofInt_eq_ofNat.symm
theorem bm_o (x : Int32) : x = bm_i x.toInt := (Int32.ofInt_toInt x).symm
theorem bm_add (a b : Int) : bm_i a + bm_i b = bm_i (a + b) := (Int32.ofInt_add a b).symm
theorem bm_sub (a b : Int) : bm_i a - bm_i b = bm_i (a - b) := (Int32.ofInt_sub a b).symm
theorem bm_mul (a b : Int) : bm_i a * bm_i b = bm_i (a * b) := (Int32.ofInt_mul a b).symm
theorem bm_neg (a : Int) : -bm_i a = bm_i (-a) := (Int32.ofInt_neg a).symm
theorem bm_0 : bm_i 0 = 0 := rfl
theorem bm_1 : bm_i 1 = 1 := rfl
theorem bm_le {a b : Int} (h1 : -2147483648 ≤ a) (h2 : a < 2147483648) (h3 : -2147483648 ≤ b) (h4 : b < 2147483648) : bm_i a ≤ bm_i b ↔ a ≤ b := by
  rw [Int32.le_iff_toInt_le, bm_iT h1 h2, bm_iT h3 h4]
theorem bm_lt {a b : Int} (h1 : -2147483648 ≤ a) (h2 : a < 2147483648) (h3 : -2147483648 ≤ b) (h4 : b < 2147483648) : bm_i a < bm_i b ↔ a < b := by
  rw [Int32.lt_iff_toInt_lt, bm_iT h1 h2, bm_iT h3 h4]
theorem bm_eq {a b : Int} (h1 : -2147483648 ≤ a) (h2 : a < 2147483648) (h3 : -2147483648 ≤ b) (h4 : b < 2147483648) : bm_i a = bm_i b ↔ a = b := by
  rw [← Int32.toInt_inj, bm_iT h1 h2, bm_iT h3 h4]
theorem bm_div {a b : Int} (h1 : -2147483648 ≤ a) (h2 : a < 2147483648) (h3 : 0 < b) (h4 : b < 2147483648) : bm_i a / bm_i b = bm_i (a.tdiv b) := by
  have hb : bm_i b ≠ -1 := by
    intro h
    have e : (bm_i b).toInt = b := bm_iT (by omega) h4
    rw [h] at e
    have : ((-1 : Int32)).toInt = -1 := by decide
    omega
  have e := Int32.toInt_div_of_ne_right (bm_i a) (bm_i b) hb
  rw [bm_iT h1 h2, bm_iT (by omega) h4] at e
  rw [← e]
  exact bm_o _
theorem bm_cl {a : Int} (h1 : 0 ≤ a) (h2 : a < 2147483648) : (bm_i a).toNatClampNeg = a.toNat := by
  obtain ⟨n, rfl⟩ := Int.eq_ofNat_of_zero_le h1
  rw [← bm_nI]
  exact nI_clamp (by omega)
/-! Euclid -/
def bm_fib : Nat → Nat
  | 0 => 0
  | 1 => 1
  | n + 2 => bm_fib (n + 1) + bm_fib n
theorem bm_fib_pos : ∀ n, 0 < bm_fib (n + 1)
  | 0 => by decide
  | n + 1 => by
    show 0 < bm_fib (n + 1) + bm_fib n
    have := bm_fib_pos n
    omega
theorem bm_fib41 : bm_fib 41 = 165580141 := by simp [bm_fib]
/-- n steps are enough -/
def bm_En (n g h : Nat) : Prop := h < bm_fib (n + 1) ∨ (g < bm_fib (n + 2) ∧ h < g)
theorem bm_En0 {g h : Nat} (e : bm_En 0 g h) : h = 0 := by
  rcases e with e | ⟨e, f⟩
  · have : bm_fib (0 + 1) = 1 := rfl
    omega
  · have : bm_fib (0 + 2) = 1 := rfl
    omega
theorem bm_EnS {n g h : Nat} (e : bm_En (n + 1) g h) (h0 : 0 < h) : bm_En n h (g % h) := by
  have hr : g % h < h := Nat.mod_lt _ h0
  rcases e with e | ⟨e, f⟩
  · exact Or.inr ⟨e, hr⟩
  · by_cases z : h < bm_fib (n + 2)
    · exact Or.inr ⟨z, hr⟩
    · refine Or.inl ?_
      have e1 : bm_fib (n + 1 + 2) = bm_fib (n + 2) + bm_fib (n + 1) := rfl
      have : g % h ≤ g - h := by
        rw [Nat.mod_eq_sub_mod (Nat.le_of_lt f)]
        exact Nat.mod_le _ _
      omega
theorem bm_En_0 {n g : Nat} : bm_En n g 0 := Or.inl (bm_fib_pos n)
theorem bm_En40 {g h : Nat} (e : h < 165580141) : bm_En 40 g h := Or.inl (by rw [bm_fib41]; exact e)
end
section
/-! triples of integers -/
abbrev bm_V : Type := Int × Int × Int
def bm_at (v : bm_V) (i : Nat) : Int := if i = 0 then v.1 else if i = 1 then v.2.1 else v.2.2
def bm_sg (v : bm_V) : Int := v.1 + v.2.1 + v.2.2
def bm_g3 (v : bm_V) : Nat := Nat.gcd (Nat.gcd v.1.natAbs v.2.1.natAbs) v.2.2.natAbs
/-- nonnegative, not zero, without a common divisor -/
def bm_P (v : bm_V) : Prop := 0 ≤ v.1 ∧ 0 ≤ v.2.1 ∧ 0 ≤ v.2.2 ∧ 0 < bm_sg v ∧ bm_g3 v = 1
def bm_e (m : bm_V) : Int := if bm_sg m < 0 then -1 else 1
def bm_ok (m : bm_V) : Prop := bm_sg m ≠ 0 ∧ 0 ≤ bm_e m * m.1 ∧ 0 ≤ bm_e m * m.2.1 ∧ 0 ≤ bm_e m * m.2.2
def bm_nv (m : bm_V) : bm_V := ((bm_e m * m.1) / (bm_g3 m : Int), (bm_e m * m.2.1) / (bm_g3 m : Int), (bm_e m * m.2.2) / (bm_g3 m : Int))
theorem bm_g3_pos {m : bm_V} (h : bm_sg m ≠ 0) : 0 < bm_g3 m := by
  rcases Nat.eq_zero_or_pos (bm_g3 m) with z | z
  · exfalso
    unfold bm_g3 at z
    have z2 := Nat.eq_zero_of_gcd_eq_zero_right z
    have z1 := Nat.eq_zero_of_gcd_eq_zero_left z
    have z3 := Nat.eq_zero_of_gcd_eq_zero_right z1
    have z4 := Nat.eq_zero_of_gcd_eq_zero_left z1
    unfold bm_sg at h
    omega
  · exact z
theorem bm_g3_d {m : bm_V} : (bm_g3 m : Int) ∣ m.1 ∧ (bm_g3 m : Int) ∣ m.2.1 ∧ (bm_g3 m : Int) ∣ m.2.2 := by
  refine ⟨Int.ofNat_dvd_left.mpr ?_, Int.ofNat_dvd_left.mpr ?_, Int.ofNat_dvd_left.mpr ?_⟩
  · exact Nat.dvd_trans (Nat.gcd_dvd_left _ _) (Nat.gcd_dvd_left _ _)
  · exact Nat.dvd_trans (Nat.gcd_dvd_left _ _) (Nat.gcd_dvd_right _ _)
  · exact Nat.gcd_dvd_right _ _
theorem bm_g3_mul (v : bm_V) (c : Int) : bm_g3 (c * v.1, c * v.2.1, c * v.2.2) = c.natAbs * bm_g3 v := by
  unfold bm_g3
  simp only [Int.natAbs_mul, Nat.gcd_mul_left]
theorem bm_e_sq (m : bm_V) : bm_e m * bm_e m = 1 := by
  unfold bm_e
  split <;> rfl
theorem bm_nv_mul {m : bm_V} (h : bm_sg m ≠ 0) : m = ((bm_e m * bm_g3 m) * (bm_nv m).1, (bm_e m * bm_g3 m) * (bm_nv m).2.1, (bm_e m * bm_g3 m) * (bm_nv m).2.2) := by
  obtain ⟨d1, d2, d3⟩ := bm_g3_d (m := m)
  have key : ∀ a : Int, (bm_g3 m : Int) ∣ a → (bm_e m * bm_g3 m) * ((bm_e m * a) / (bm_g3 m : Int)) = a := by
    intro a ha
    have : (bm_g3 m : Int) ∣ bm_e m * a := Int.dvd_mul_of_dvd_right ha
    rw [Int.mul_assoc, Int.mul_ediv_cancel' this, ← Int.mul_assoc, bm_e_sq, Int.one_mul]
  have k1 := key _ d1
  have k2 := key _ d2
  have k3 := key _ d3
  unfold bm_nv
  simp only [k1, k2, k3]
theorem bm_nv_P {m : bm_V} (h : bm_ok m) : bm_P (bm_nv m) := by
  obtain ⟨h0, h1, h2, h3⟩ := h
  have hg : (0 : Int) < bm_g3 m := by have := bm_g3_pos h0; omega
  have n1 : 0 ≤ (bm_nv m).1 := Int.ediv_nonneg h1 (by omega)
  have n2 : 0 ≤ (bm_nv m).2.1 := Int.ediv_nonneg h2 (by omega)
  have n3 : 0 ≤ (bm_nv m).2.2 := Int.ediv_nonneg h3 (by omega)
  have hm := bm_nv_mul h0
  have hs : bm_sg m = (bm_e m * bm_g3 m) * bm_sg (bm_nv m) := by
    have e1 := congrArg Prod.fst hm
    have e2 := congrArg (fun v : bm_V => v.2.1) hm
    have e3 := congrArg (fun v : bm_V => v.2.2) hm
    dsimp only at e1 e2 e3
    unfold bm_sg
    rw [Int.mul_add, Int.mul_add, ← e1, ← e2, ← e3]
  have hs0 : bm_sg (bm_nv m) ≠ 0 := by
    intro z
    rw [z, Int.mul_zero] at hs
    exact h0 hs
  refine ⟨n1, n2, n3, ?_, ?_⟩
  · unfold bm_sg at hs0 ⊢
    omega
  · have e := congrArg bm_g3 hm
    rw [bm_g3_mul, Int.natAbs_mul] at e
    have ee : (bm_e m).natAbs = 1 := by
      unfold bm_e
      split <;> rfl
    rw [ee, Nat.one_mul, Int.natAbs_natCast] at e
    have hg' : 0 < bm_g3 m := bm_g3_pos h0
    have : bm_g3 m * 1 = bm_g3 m * bm_g3 (bm_nv m) := by omega
    exact (Nat.eq_of_mul_eq_mul_left hg' this).symm
/-- proportional without common divisors: the same -/
theorem bm_P_eq {v w : bm_V} (hv : bm_P v) (hw : bm_P w) (e1 : v.1 * bm_sg w = w.1 * bm_sg v) (e2 : v.2.1 * bm_sg w = w.2.1 * bm_sg v) (e3 : v.2.2 * bm_sg w = w.2.2 * bm_sg v) : v = w := by
  have a := bm_g3_mul v (bm_sg w)
  have b := bm_g3_mul w (bm_sg v)
  rw [hv.2.2.2.2, Nat.mul_one] at a
  rw [hw.2.2.2.2, Nat.mul_one] at b
  have c : (bm_sg w * v.1, bm_sg w * v.2.1, bm_sg w * v.2.2) = (bm_sg v * w.1, bm_sg v * w.2.1, bm_sg v * w.2.2) := by
    rw [Int.mul_comm _ v.1, Int.mul_comm _ v.2.1, Int.mul_comm _ v.2.2, e1, e2, e3, Int.mul_comm _ w.1, Int.mul_comm _ w.2.1, Int.mul_comm _ w.2.2]
  rw [c, b] at a
  have p := hv.2.2.2.1
  have q := hw.2.2.2.1
  have s : bm_sg v = bm_sg w := by omega
  rw [s] at e1 e2 e3
  have z : bm_sg w ≠ 0 := by omega
  have f1 := Int.eq_of_mul_eq_mul_right z e1
  have f2 := Int.eq_of_mul_eq_mul_right z e2
  have f3 := Int.eq_of_mul_eq_mul_right z e3
  obtain ⟨v1, v2, v3⟩ := v
  obtain ⟨w1, w2, w3⟩ := w
  simp only at f1 f2 f3
  rw [f1, f2, f3]
/-- what a nonnegative multiple shows -/
theorem bm_ok_of {m x : bm_V} (h0 : bm_sg m ≠ 0) (x1 : 0 ≤ x.1) (x2 : 0 ≤ x.2.1) (x3 : 0 ≤ x.2.2) (xs : 0 < bm_sg x) (e1 : x.1 * bm_sg m = m.1 * bm_sg x) (e2 : x.2.1 * bm_sg m = m.2.1 * bm_sg x) (e3 : x.2.2 * bm_sg m = m.2.2 * bm_sg x) : bm_ok m := by
  have key : ∀ a b : Int, 0 ≤ a → a * bm_sg m = b * bm_sg x → 0 ≤ bm_e m * b := by
    intro a b ha e
    have hp : 0 ≤ a * (bm_e m * bm_sg m) := by
      apply Int.mul_nonneg ha
      unfold bm_e
      split <;> omega
    have : (bm_e m * b) * bm_sg x = a * (bm_e m * bm_sg m) := by
      rw [Int.mul_assoc, ← e, Int.mul_left_comm]
    rw [← this] at hp
    exact Int.nonneg_of_mul_nonneg_left hp xs
  exact ⟨h0, key _ _ x1 e1, key _ _ x2 e2, key _ _ x3 e3⟩
theorem bm_pr_of {m x : bm_V} (h0 : bm_sg m ≠ 0) {a b : Int} (c : Int) (hc : c ≠ 0) {v : Int} (sv : Int) (hm : b = c * v) (hs : bm_sg m = c * sv) (e : a * bm_sg m = b * bm_sg x) : a * sv = v * bm_sg x := by
  rw [hm, hs, Int.mul_left_comm, Int.mul_assoc] at e
  exact Int.eq_of_mul_eq_mul_left hc e
/-! the order -/
def bm_d (v w : bm_V) (i : Nat) : Int := bm_at v i * bm_sg w - bm_at w i * bm_sg v
def bm_cm (v w : bm_V) : Int := if bm_d v w 0 ≠ 0 then bm_d v w 0 else if bm_d v w 1 ≠ 0 then bm_d v w 1 else bm_d v w 2
theorem bm_d_anti (v w : bm_V) (i : Nat) : bm_d w v i = - bm_d v w i := by
  unfold bm_d
  omega
theorem bm_cm_anti (v w : bm_V) : bm_cm w v = - bm_cm v w := by
  unfold bm_cm
  rw [bm_d_anti v w 0, bm_d_anti v w 1, bm_d_anti v w 2]
  repeat' split
  all_goals omega
theorem bm_cm_eq {v w : bm_V} (hv : bm_P v) (hw : bm_P w) (h : bm_cm v w = 0) : v = w := by
  have : bm_d v w 0 = 0 ∧ bm_d v w 1 = 0 ∧ bm_d v w 2 = 0 := by
    unfold bm_cm at h
    revert h
    repeat' split
    all_goals intro h; omega
  obtain ⟨d0, d1, d2⟩ := this
  unfold bm_d bm_at at d0 d1 d2
  simp only [if_true, Nat.one_ne_zero, if_false] at d0 d1 d2
  have d2' : v.2.2 * bm_sg w - w.2.2 * bm_sg v = 0 := d2
  exact bm_P_eq hv hw (by omega) (by omega) (by omega)
theorem bm_cm_self (v : bm_V) : bm_cm v v = 0 := by
  unfold bm_cm bm_d
  simp
theorem bm_d_tr (u v w : bm_V) (i : Nat) : bm_d u w i * bm_sg v = bm_d u v i * bm_sg w + bm_d v w i * bm_sg u := by
  unfold bm_d
  grind
theorem bm_sgn {a b c U V W : Int} (hU : 0 < U) (hV : 0 < V) (hW : 0 < W) (e : c * V = a * W + b * U) : (a < 0 → b ≤ 0 → c < 0) ∧ (a ≤ 0 → b < 0 → c < 0) ∧ (a = 0 → b = 0 → c = 0) := by
  have neg : c * V < 0 → c < 0 := by
    intro h
    rcases Int.lt_or_le c 0 with z | z
    · exact z
    · have := Int.mul_nonneg z (Int.le_of_lt hV)
      omega
  refine ⟨fun ha hb => neg ?_, fun ha hb => neg ?_, fun ha hb => ?_⟩
  · have h1 : a * W < 0 := Int.mul_neg_of_neg_of_pos ha hW
    have h2 : b * U ≤ 0 := Int.mul_nonpos_of_nonpos_of_nonneg hb (Int.le_of_lt hU)
    omega
  · have h1 : a * W ≤ 0 := Int.mul_nonpos_of_nonpos_of_nonneg ha (Int.le_of_lt hW)
    have h2 : b * U < 0 := Int.mul_neg_of_neg_of_pos hb hU
    omega
  · subst ha hb
    rw [Int.zero_mul, Int.zero_mul] at e
    rcases Int.mul_eq_zero.mp (show c * V = 0 by omega) with z | z
    · exact z
    · omega
theorem bm_cm_neg {v w : bm_V} : bm_cm v w < 0 ↔ bm_d v w 0 < 0 ∨ (bm_d v w 0 = 0 ∧ bm_d v w 1 < 0) ∨ (bm_d v w 0 = 0 ∧ bm_d v w 1 = 0 ∧ bm_d v w 2 < 0) := by
  unfold bm_cm
  by_cases h0 : bm_d v w 0 = 0
  · by_cases h1 : bm_d v w 1 = 0
    · simp [h0, h1]
    · simp [h0, h1]
  · simp [h0]
theorem bm_cm_tr {u v w : bm_V} (hu : bm_P u) (hv : bm_P v) (hw : bm_P w) (h1 : bm_cm u v < 0) (h2 : bm_cm v w < 0) : bm_cm u w < 0 := by
  have pu := hu.2.2.2.1
  have pv := hv.2.2.2.1
  have pw := hw.2.2.2.1
  obtain ⟨a0, b0, c0⟩ := bm_sgn pu pv pw (bm_d_tr u v w 0)
  obtain ⟨a1, b1, c1⟩ := bm_sgn pu pv pw (bm_d_tr u v w 1)
  obtain ⟨a2, b2, c2⟩ := bm_sgn pu pv pw (bm_d_tr u v w 2)
  rw [bm_cm_neg] at h1 h2 ⊢
  rcases h1 with h1 | ⟨h1, k1⟩ | ⟨h1, k1, l1⟩ <;> rcases h2 with h2 | ⟨h2, k2⟩ | ⟨h2, k2, l2⟩
  · exact Or.inl (a0 h1 (by omega))
  · exact Or.inl (a0 h1 (by omega))
  · exact Or.inl (a0 h1 (by omega))
  · exact Or.inl (b0 (by omega) h2)
  · exact Or.inr (Or.inl ⟨c0 h1 h2, a1 k1 (by omega)⟩)
  · exact Or.inr (Or.inl ⟨c0 h1 h2, a1 k1 (by omega)⟩)
  · exact Or.inl (b0 (by omega) h2)
  · exact Or.inr (Or.inl ⟨c0 h1 h2, b1 (by omega) k2⟩)
  · exact Or.inr (Or.inr ⟨c0 h1 h2, c1 k1 k2, a2 l1 (by omega)⟩)
end
section
/-! gains -/
def bm_gn (A : Nat → Nat → Int) (v : bm_V) (j : Nat) : Int := v.1 * A 0 j + v.2.1 * A 1 j + v.2.2 * A 2 j
/-- m is the most over the set O -/
def bm_M (A : Nat → Nat → Int) (O : Nat) (v : bm_V) (m : Int) : Prop := (∀ j, j < 3 → O.testBit j = true → bm_gn A v j ≤ m) ∧ ∃ j, j < 3 ∧ O.testBit j = true ∧ bm_gn A v j = m
/-- the set of the least and of the greatest element -/
def bm_fs (T : Nat) : Nat := if T.testBit 0 then 0 else if T.testBit 1 then 1 else 2
def bm_ls (T : Nat) : Nat := if T.testBit 2 then 2 else if T.testBit 1 then 1 else 0
def bm_sz (T : Nat) : Nat := (T.testBit 0).toNat + (T.testBit 1).toNat + (T.testBit 2).toNat
def bm_cr (A : Nat → Nat → Int) (b c : Nat) : Int := (A b 0 - A b 1) * (A c 1 - A c 2) - (A c 0 - A c 1) * (A b 1 - A b 2)
/-- the solution before it is made small -/
def bm_raw (A : Nat → Nat → Int) (S T : Nat) : bm_V :=
  if S = 1 then (1, 0, 0) else if S = 2 then (0, 1, 0) else if S = 4 then (0, 0, 1)
  else if S = 3 then (-(A 1 (bm_fs T) - A 1 (bm_ls T)), A 0 (bm_fs T) - A 0 (bm_ls T), 0)
  else if S = 5 then (-(A 2 (bm_fs T) - A 2 (bm_ls T)), 0, A 0 (bm_fs T) - A 0 (bm_ls T))
  else if S = 6 then (0, -(A 2 (bm_fs T) - A 2 (bm_ls T)), A 1 (bm_fs T) - A 1 (bm_ls T))
  else (bm_cr A 1 2, bm_cr A 2 0, bm_cr A 0 1)
/-- a demand: the support S within M, the ties T within O, as many of the one as of the other -/
def bm_fit (M O S T : Nat) : Prop := S ≠ 0 ∧ S &&& M = S ∧ T &&& O = T ∧ bm_sz S = bm_sz T
theorem bm_sg_gn {A : Nat → Nat → Int} {x v : bm_V} (e1 : x.1 * bm_sg v = v.1 * bm_sg x) (e2 : x.2.1 * bm_sg v = v.2.1 * bm_sg x) (e3 : x.2.2 * bm_sg v = v.2.2 * bm_sg x) (j : Nat) : bm_gn A x j * bm_sg v = bm_gn A v j * bm_sg x := by
  unfold bm_gn
  generalize bm_sg v = s at *
  generalize bm_sg x = t at *
  generalize A 0 j = a
  generalize A 1 j = b
  generalize A 2 j = c
  grind
/-! the ratio -/
theorem bm_ratio : ∀ (L : List (Int × Int)), (∀ c, c ∈ L → 0 ≤ c.1 ∧ (c.1 = 0 → c.2 = 0)) → (∃ c, c ∈ L ∧ c.2 < 0) →
    ∃ p q : Int, 0 < p ∧ 0 < q ∧ (∀ c, c ∈ L → 0 ≤ p * c.1 + q * c.2) ∧ ∃ c, c ∈ L ∧ 0 < c.1 ∧ p * c.1 + q * c.2 = 0 := by
  intro L
  induction L with
  | nil =>
    rintro - ⟨c, hc, -⟩
    cases hc
  | cons c L ih =>
    intro h hn
    have hc := h c (List.mem_cons_self ..)
    have hL : ∀ c, c ∈ L → 0 ≤ c.1 ∧ (c.1 = 0 → c.2 = 0) := fun d hd => h d (List.mem_cons_of_mem _ hd)
    have own : c.2 < 0 → 0 < c.1 := by
      intro z
      rcases Int.lt_or_eq_of_le hc.1 with y | y
      · exact y
      · have := hc.2 y.symm
        omega
    have self : (-c.2) * c.1 + c.1 * c.2 = 0 := by
      rw [Int.neg_mul, Int.mul_comm c.1 c.2]
      omega
    by_cases z : ∃ d, d ∈ L ∧ d.2 < 0
    · obtain ⟨p, q, hp, hq, hall, t, ht, ht1, ht2⟩ := ih hL z
      by_cases y : 0 ≤ p * c.1 + q * c.2
      · refine ⟨p, q, hp, hq, ?_, t, List.mem_cons_of_mem _ ht, ht1, ht2⟩
        intro d hd
        rcases List.mem_cons.mp hd with rfl | hd
        · exact y
        · exact hall d hd
      · have hc2 : c.2 < 0 := by
          rcases Int.lt_or_le c.2 0 with w | w
          · exact w
          · exfalso
            apply y
            have := Int.mul_nonneg (Int.le_of_lt hp) hc.1
            have := Int.mul_nonneg (Int.le_of_lt hq) w
            omega
        have hc1 := own hc2
        refine ⟨-c.2, c.1, by omega, hc1, ?_, c, List.mem_cons_self .., hc1, self⟩
        intro d hd
        rcases List.mem_cons.mp hd with rfl | hd
        · omega
        · have hd0 := hL d hd
          have hda := hall d hd
          rcases Int.lt_or_le d.2 0 with w | w
          · have k1 : 0 ≤ (-c.2) * (p * d.1 + q * d.2) := Int.mul_nonneg (by omega) hda
            have k2 : 0 < (p * c.1 + q * c.2) * d.2 := Int.mul_pos_of_neg_of_neg (by omega) w
            have k3 : p * (-c.2 * d.1 + c.1 * d.2) = (-c.2) * (p * d.1 + q * d.2) + (p * c.1 + q * c.2) * d.2 := by grind
            have k4 : 0 ≤ p * (-c.2 * d.1 + c.1 * d.2) := by omega
            exact Int.nonneg_of_mul_nonneg_right k4 hp
          · have := Int.mul_nonneg (show 0 ≤ -c.2 by omega) hd0.1
            have := Int.mul_nonneg (Int.le_of_lt hc1) w
            omega
    · obtain ⟨d, hd, hd2⟩ := hn
      have hc2 : c.2 < 0 := by
        rcases List.mem_cons.mp hd with rfl | hd
        · exact hd2
        · exact absurd ⟨d, hd, hd2⟩ z
      have hc1 := own hc2
      refine ⟨-c.2, c.1, by omega, hc1, ?_, c, List.mem_cons_self .., hc1, self⟩
      intro d hd
      rcases List.mem_cons.mp hd with rfl | hd
      · omega
      · have hd0 := hL d hd
        have w : 0 ≤ d.2 := by
          rcases Int.lt_or_le d.2 0 with w | w
          · exact absurd ⟨d, hd, w⟩ z
          · exact w
        have := Int.mul_nonneg (show 0 ≤ -c.2 by omega) hd0.1
        have := Int.mul_nonneg (Int.le_of_lt hc1) w
        omega
def bm_nz (a : Int) : Nat := if a = 0 then 0 else 1
theorem bm_nz_le {a b : Int} (h : a = 0 → b = 0) : bm_nz b ≤ bm_nz a := by
  unfold bm_nz
  by_cases z : a = 0
  · rw [if_pos z, if_pos (h z)]
    exact Nat.le_refl _
  · rw [if_neg z]
    split <;> omega
theorem bm_nz_lt {a b : Int} (h : 0 < a) (hb : b = 0) : bm_nz b < bm_nz a := by
  unfold bm_nz
  rw [if_pos hb, if_neg (by omega)]
  omega
/-- the slack at j -/
def bm_sl (A : Nat → Nat → Int) (O : Nat) (x : bm_V) (m : Int) (j : Nat) : Int := if O.testBit j = true then m - bm_gn A x j else 0
def bm_mu (A : Nat → Nat → Int) (O : Nat) (x : bm_V) (m : Int) : Nat := bm_nz x.1 + bm_nz x.2.1 + bm_nz x.2.2 + bm_nz (bm_sl A O x m 0) + bm_nz (bm_sl A O x m 1) + bm_nz (bm_sl A O x m 2)
def bm_X (M : Nat) (x : bm_V) : Prop := 0 ≤ x.1 ∧ 0 ≤ x.2.1 ∧ 0 ≤ x.2.2 ∧ 0 < bm_sg x ∧ (M.testBit 0 = false → x.1 = 0) ∧ (M.testBit 1 = false → x.2.1 = 0) ∧ (M.testBit 2 = false → x.2.2 = 0)
def bm_mv (p q : Int) (x d : bm_V) : bm_V := (p * x.1 + q * d.1, p * x.2.1 + q * d.2.1, p * x.2.2 + q * d.2.2)
theorem bm_mv_gn (A : Nat → Nat → Int) (p q : Int) (x d : bm_V) (j : Nat) : bm_gn A (bm_mv p q x d) j = p * bm_gn A x j + q * bm_gn A d j := by
  unfold bm_gn bm_mv
  dsimp only
  generalize A 0 j = a
  generalize A 1 j = b
  generalize A 2 j = c
  grind
/-- a step along a direction: nothing that was tight loosens, something becomes tight -/
theorem bm_step {A : Nat → Nat → Int} {M O : Nat} {x d : bm_V} {m l : Int} (hx : bm_X M x) (hm : bm_M A O x m)
    (d0 : bm_sg d = 0) (dn : d ≠ (0, 0, 0)) (z1 : x.1 = 0 → d.1 = 0) (z2 : x.2.1 = 0 → d.2.1 = 0) (z3 : x.2.2 = 0 → d.2.2 = 0)
    (ht : ∀ j, j < 3 → O.testBit j = true → bm_gn A x j = m → bm_gn A d j = l) (hl : l ≤ 0) :
    ∃ x' m', bm_X M x' ∧ bm_M A O x' m' ∧ (∀ j, j < 3 → O.testBit j = true → bm_gn A x j = m → bm_gn A x' j = m') ∧ m' * bm_sg x ≤ m * bm_sg x' ∧ bm_mu A O x' m' < bm_mu A O x m := by
  obtain ⟨x1, x2, x3, xs, s1, s2, s3⟩ := hx
  have sl0 : ∀ j, j < 3 → 0 ≤ bm_sl A O x m j := by
    intro j hj
    unfold bm_sl
    by_cases z : O.testBit j = true
    · rw [if_pos z]
      have := hm.1 j hj z
      omega
    · rw [if_neg z]
      exact Int.le_refl _
  have slz : ∀ j, j < 3 → bm_sl A O x m j = 0 → bm_sl A O d l j = 0 := by
    intro j hj
    unfold bm_sl
    by_cases z : O.testBit j = true
    · rw [if_pos z, if_pos z]
      intro e
      have := ht j hj z (by omega)
      omega
    · rw [if_neg z, if_neg z]
      intro; rfl
  have hneg : d.1 < 0 ∨ d.2.1 < 0 ∨ d.2.2 < 0 := by
    obtain ⟨a, b, c⟩ := d
    unfold bm_sg at d0
    dsimp only at d0 ⊢
    have : ¬ (a = 0 ∧ b = 0 ∧ c = 0) := by
      rintro ⟨rfl, rfl, rfl⟩
      exact dn rfl
    omega
  obtain ⟨p, q, hp, hq, hall, t, htm, ht1, ht2⟩ := bm_ratio [(x.1, d.1), (x.2.1, d.2.1), (x.2.2, d.2.2), (bm_sl A O x m 0, bm_sl A O d l 0), (bm_sl A O x m 1, bm_sl A O d l 1), (bm_sl A O x m 2, bm_sl A O d l 2)]
    (by
      intro c hc
      simp only [List.mem_cons, List.not_mem_nil, or_false] at hc
      rcases hc with rfl | rfl | rfl | rfl | rfl | rfl
      · exact ⟨x1, z1⟩
      · exact ⟨x2, z2⟩
      · exact ⟨x3, z3⟩
      · exact ⟨sl0 0 (by omega), slz 0 (by omega)⟩
      · exact ⟨sl0 1 (by omega), slz 1 (by omega)⟩
      · exact ⟨sl0 2 (by omega), slz 2 (by omega)⟩)
    (by
      rcases hneg with h | h | h
      · exact ⟨_, List.mem_cons_self .., h⟩
      · exact ⟨_, List.mem_cons_of_mem _ (List.mem_cons_self ..), h⟩
      · exact ⟨_, List.mem_cons_of_mem _ (List.mem_cons_of_mem _ (List.mem_cons_self ..)), h⟩)
  have n1 := hall (x.1, d.1) (by simp)
  have n2 := hall (x.2.1, d.2.1) (by simp)
  have n3 := hall (x.2.2, d.2.2) (by simp)
  have n4 := hall (bm_sl A O x m 0, bm_sl A O d l 0) (by simp)
  have n5 := hall (bm_sl A O x m 1, bm_sl A O d l 1) (by simp)
  have n6 := hall (bm_sl A O x m 2, bm_sl A O d l 2) (by simp)
  dsimp only at n1 n2 n3 n4 n5 n6
  have slm : ∀ j, bm_sl A O (bm_mv p q x d) (p * m + q * l) j = p * bm_sl A O x m j + q * bm_sl A O d l j := by
    intro j
    unfold bm_sl
    by_cases z : O.testBit j = true
    · rw [if_pos z, if_pos z, if_pos z, bm_mv_gn]
      grind
    · rw [if_neg z, if_neg z, if_neg z]
      omega
  have keep : ∀ a b : Int, (a = 0 → b = 0) → a = 0 → p * a + q * b = 0 := by
    intro a b h ha
    rw [ha, h ha]
    omega
  have hsg : bm_sg (bm_mv p q x d) = p * bm_sg x := by
    unfold bm_sg at d0 ⊢
    unfold bm_mv
    dsimp only
    have e : q * (d.1 + d.2.1 + d.2.2) = 0 := by rw [d0, Int.mul_zero]
    grind
  refine ⟨bm_mv p q x d, p * m + q * l, ⟨n1, n2, n3, ?_, fun h => keep _ _ z1 (s1 h), fun h => keep _ _ z2 (s2 h), fun h => keep _ _ z3 (s3 h)⟩, ⟨?_, ?_⟩, ?_, ?_, ?_⟩
  · rw [hsg]
    exact Int.mul_pos hp xs
  · intro j hj hO
    have e := slm j
    have : 0 ≤ bm_sl A O (bm_mv p q x d) (p * m + q * l) j := by
      rw [e]
      have hj3 : j = 0 ∨ j = 1 ∨ j = 2 := by omega
      rcases hj3 with rfl | rfl | rfl
      · exact n4
      · exact n5
      · exact n6
    unfold bm_sl at this
    rw [if_pos hO] at this
    omega
  · obtain ⟨j, hj, hO, e⟩ := hm.2
    exact ⟨j, hj, hO, by rw [bm_mv_gn, e, ht j hj hO e]⟩
  · intro j hj hO e
    rw [bm_mv_gn, e, ht j hj hO e]
  · rw [hsg]
    have h1 : q * l * bm_sg x ≤ 0 := Int.mul_nonpos_of_nonpos_of_nonneg (Int.mul_nonpos_of_nonneg_of_nonpos (Int.le_of_lt hq) hl) (Int.le_of_lt xs)
    have h2 : (p * m + q * l) * bm_sg x = m * (p * bm_sg x) + q * l * bm_sg x := by grind
    omega
  · have m1 := bm_nz_le (keep _ _ z1)
    have m2 := bm_nz_le (keep _ _ z2)
    have m3 := bm_nz_le (keep _ _ z3)
    have m4 := bm_nz_le (keep _ _ (slz 0 (by omega)))
    have m5 := bm_nz_le (keep _ _ (slz 1 (by omega)))
    have m6 := bm_nz_le (keep _ _ (slz 2 (by omega)))
    unfold bm_mu
    rw [slm 0, slm 1, slm 2]
    unfold bm_mv
    dsimp only
    have hlt := bm_nz_lt ht1 ht2
    simp only [List.mem_cons, List.not_mem_nil, or_false] at htm
    rcases htm with rfl | rfl | rfl | rfl | rfl | rfl <;> dsimp only at hlt <;> omega
end
section
theorem bm_sub8 (M : Nat) (_hM : M < 8) (S : Nat) (hS : S < 8) (h0 : S.testBit 0 = true → M.testBit 0 = true) (h1 : S.testBit 1 = true → M.testBit 1 = true) (h2 : S.testBit 2 = true → M.testBit 2 = true) : S &&& M = S := by
  apply Nat.eq_of_testBit_eq
  intro i
  rw [Nat.testBit_and]
  cases e : S.testBit i
  · rfl
  · have hi : i < 3 := by
      rcases Nat.lt_or_ge i 3 with h | h
      · exact h
      · have : S.testBit i = false := Nat.testBit_lt_two_pow (Nat.lt_of_lt_of_le hS (Nat.pow_le_pow_right (n := 2) (by decide) h))
        rw [this] at e
        cases e
    have hi3 : i = 0 ∨ i = 1 ∨ i = 2 := by omega
    rcases hi3 with rfl | rfl | rfl
    · rw [h0 e]; rfl
    · rw [h1 e]; rfl
    · rw [h2 e]; rfl
theorem bm_is7 (O : Nat) (hO : O < 8) (h0 : O.testBit 0 = true) (h1 : O.testBit 1 = true) (h2 : O.testBit 2 = true) : O = 7 := by
  have h : O = 0 ∨ O = 1 ∨ O = 2 ∨ O = 3 ∨ O = 4 ∨ O = 5 ∨ O = 6 ∨ O = 7 := by omega
  rcases h with rfl | rfl | rfl | rfl | rfl | rfl | rfl | rfl <;> first | rfl | (exact absurd h0 (by decide)) | (exact absurd h1 (by decide)) | (exact absurd h2 (by decide))
theorem bm_dir (u z : bm_V) (h : (u.2.1 * z.2.2 - u.2.2 * z.2.1) + (u.2.2 * z.1 - u.1 * z.2.2) + (u.1 * z.2.1 - u.2.1 * z.1) = 0) :
    ∃ d : bm_V, bm_sg d = 0 ∧ d ≠ (0, 0, 0) ∧ d.1 * u.1 + d.2.1 * u.2.1 + d.2.2 * u.2.2 = 0 ∧ d.1 * z.1 + d.2.1 * z.2.1 + d.2.2 * z.2.2 = 0 := by
  obtain ⟨u1, u2, u3⟩ := u
  obtain ⟨z1, z2, z3⟩ := z
  dsimp only at h ⊢
  by_cases hu : u1 = u2 ∧ u2 = u3
  · obtain ⟨rfl, rfl⟩ := hu
    by_cases hz : z1 = z2 ∧ z2 = z3
    · obtain ⟨rfl, rfl⟩ := hz
      refine ⟨(1, -1, 0), by decide, by decide, ?_, ?_⟩ <;> dsimp only <;> omega
    · refine ⟨(z3 - z2, z1 - z3, z2 - z1), ?_, ?_, ?_, ?_⟩
      · unfold bm_sg; dsimp only; omega
      · intro e
        have e1 := congrArg Prod.fst e
        have e2 := congrArg (fun v : bm_V => v.2.1) e
        dsimp only at e1 e2
        omega
      · dsimp only; grind
      · dsimp only; grind
  · refine ⟨(u3 - u2, u1 - u3, u2 - u1), ?_, ?_, ?_, ?_⟩
    · unfold bm_sg; dsimp only; omega
    · intro e
      have e1 := congrArg Prod.fst e
      have e2 := congrArg (fun v : bm_V => v.2.1) e
      dsimp only at e1 e2
      omega
    · dsimp only; grind
    · dsimp only; grind
/-- x is the solution of a demand whose ties are tight at x -/
def bm_CA (A : Nat → Nat → Int) (M O : Nat) (x : bm_V) (m : Int) : Prop := ∃ S T, S < 8 ∧ T < 8 ∧ bm_fit M O S T ∧ bm_sg (bm_raw A S T) ≠ 0 ∧ x.1 * bm_sg (bm_raw A S T) = (bm_raw A S T).1 * bm_sg x ∧ x.2.1 * bm_sg (bm_raw A S T) = (bm_raw A S T).2.1 * bm_sg x ∧ x.2.2 * bm_sg (bm_raw A S T) = (bm_raw A S T).2.2 * bm_sg x ∧ ∀ j, j < 3 → T.testBit j = true → bm_gn A x j = m
/-- there is a direction that keeps all that is tight -/
def bm_CB (A : Nat → Nat → Int) (O : Nat) (x : bm_V) (m : Int) : Prop := ∃ d : bm_V, bm_sg d = 0 ∧ d ≠ (0, 0, 0) ∧ (x.1 = 0 → d.1 = 0) ∧ (x.2.1 = 0 → d.2.1 = 0) ∧ (x.2.2 = 0 → d.2.2 = 0) ∧ ∀ j k, j < 3 → k < 3 → O.testBit j = true → bm_gn A x j = m → O.testBit k = true → bm_gn A x k = m → bm_gn A d j = bm_gn A d k

theorem bm_v1_0 {A : Nat → Nat → Int} {M O : Nat} {x : bm_V} {m : Int} (hO : O < 8) (hM8 : M < 8) (hm : bm_M A O x m) (hM : M.testBit 0 = true) (h1 : x.2.1 = 0) (h2 : x.2.2 = 0) : bm_CA A M O x m := by
  obtain ⟨j, hj, hOj, e⟩ := hm.2
  have hj3 : j = 0 ∨ j = 1 ∨ j = 2 := by omega
  rcases hj3 with rfl | rfl | rfl
  · refine ⟨1, 1, by omega, by omega, ⟨by decide, bm_sub8 M hM8 1 (by omega) (fun _ => hM) (fun h => absurd h (by decide)) (fun h => absurd h (by decide)), bm_sub8 O hO 1 (by omega) (fun _ => hOj) (fun h => absurd h (by decide)) (fun h => absurd h (by decide)), by decide⟩, by show (1 : Int) + 0 + 0 ≠ 0; decide, ?_, ?_, ?_, ?_⟩
    · show x.1 * 1 = 1 * (x.1 + x.2.1 + x.2.2)
      omega
    · show x.2.1 * 1 = 0 * (x.1 + x.2.1 + x.2.2)
      omega
    · show x.2.2 * 1 = 0 * (x.1 + x.2.1 + x.2.2)
      omega
    · intro k hk hkt
      have : k = 0 := by
        have hk3 : k = 0 ∨ k = 1 ∨ k = 2 := by omega
        rcases hk3 with rfl | rfl | rfl <;> revert hkt <;> decide
      rw [this, e]
  · refine ⟨1, 2, by omega, by omega, ⟨by decide, bm_sub8 M hM8 1 (by omega) (fun _ => hM) (fun h => absurd h (by decide)) (fun h => absurd h (by decide)), bm_sub8 O hO 2 (by omega) (fun h => absurd h (by decide)) (fun _ => hOj) (fun h => absurd h (by decide)), by decide⟩, by show (1 : Int) + 0 + 0 ≠ 0; decide, ?_, ?_, ?_, ?_⟩
    · show x.1 * 1 = 1 * (x.1 + x.2.1 + x.2.2)
      omega
    · show x.2.1 * 1 = 0 * (x.1 + x.2.1 + x.2.2)
      omega
    · show x.2.2 * 1 = 0 * (x.1 + x.2.1 + x.2.2)
      omega
    · intro k hk hkt
      have : k = 1 := by
        have hk3 : k = 0 ∨ k = 1 ∨ k = 2 := by omega
        rcases hk3 with rfl | rfl | rfl <;> revert hkt <;> decide
      rw [this, e]
  · refine ⟨1, 4, by omega, by omega, ⟨by decide, bm_sub8 M hM8 1 (by omega) (fun _ => hM) (fun h => absurd h (by decide)) (fun h => absurd h (by decide)), bm_sub8 O hO 4 (by omega) (fun h => absurd h (by decide)) (fun h => absurd h (by decide)) (fun _ => hOj), by decide⟩, by show (1 : Int) + 0 + 0 ≠ 0; decide, ?_, ?_, ?_, ?_⟩
    · show x.1 * 1 = 1 * (x.1 + x.2.1 + x.2.2)
      omega
    · show x.2.1 * 1 = 0 * (x.1 + x.2.1 + x.2.2)
      omega
    · show x.2.2 * 1 = 0 * (x.1 + x.2.1 + x.2.2)
      omega
    · intro k hk hkt
      have : k = 2 := by
        have hk3 : k = 0 ∨ k = 1 ∨ k = 2 := by omega
        rcases hk3 with rfl | rfl | rfl <;> revert hkt <;> decide
      rw [this, e]
theorem bm_v1_1 {A : Nat → Nat → Int} {M O : Nat} {x : bm_V} {m : Int} (hO : O < 8) (hM8 : M < 8) (hm : bm_M A O x m) (hM : M.testBit 1 = true) (h1 : x.1 = 0) (h2 : x.2.2 = 0) : bm_CA A M O x m := by
  obtain ⟨j, hj, hOj, e⟩ := hm.2
  have hj3 : j = 0 ∨ j = 1 ∨ j = 2 := by omega
  rcases hj3 with rfl | rfl | rfl
  · refine ⟨2, 1, by omega, by omega, ⟨by decide, bm_sub8 M hM8 2 (by omega) (fun h => absurd h (by decide)) (fun _ => hM) (fun h => absurd h (by decide)), bm_sub8 O hO 1 (by omega) (fun _ => hOj) (fun h => absurd h (by decide)) (fun h => absurd h (by decide)), by decide⟩, by show (0 : Int) + 1 + 0 ≠ 0; decide, ?_, ?_, ?_, ?_⟩
    · show x.1 * 1 = 0 * (x.1 + x.2.1 + x.2.2)
      omega
    · show x.2.1 * 1 = 1 * (x.1 + x.2.1 + x.2.2)
      omega
    · show x.2.2 * 1 = 0 * (x.1 + x.2.1 + x.2.2)
      omega
    · intro k hk hkt
      have : k = 0 := by
        have hk3 : k = 0 ∨ k = 1 ∨ k = 2 := by omega
        rcases hk3 with rfl | rfl | rfl <;> revert hkt <;> decide
      rw [this, e]
  · refine ⟨2, 2, by omega, by omega, ⟨by decide, bm_sub8 M hM8 2 (by omega) (fun h => absurd h (by decide)) (fun _ => hM) (fun h => absurd h (by decide)), bm_sub8 O hO 2 (by omega) (fun h => absurd h (by decide)) (fun _ => hOj) (fun h => absurd h (by decide)), by decide⟩, by show (0 : Int) + 1 + 0 ≠ 0; decide, ?_, ?_, ?_, ?_⟩
    · show x.1 * 1 = 0 * (x.1 + x.2.1 + x.2.2)
      omega
    · show x.2.1 * 1 = 1 * (x.1 + x.2.1 + x.2.2)
      omega
    · show x.2.2 * 1 = 0 * (x.1 + x.2.1 + x.2.2)
      omega
    · intro k hk hkt
      have : k = 1 := by
        have hk3 : k = 0 ∨ k = 1 ∨ k = 2 := by omega
        rcases hk3 with rfl | rfl | rfl <;> revert hkt <;> decide
      rw [this, e]
  · refine ⟨2, 4, by omega, by omega, ⟨by decide, bm_sub8 M hM8 2 (by omega) (fun h => absurd h (by decide)) (fun _ => hM) (fun h => absurd h (by decide)), bm_sub8 O hO 4 (by omega) (fun h => absurd h (by decide)) (fun h => absurd h (by decide)) (fun _ => hOj), by decide⟩, by show (0 : Int) + 1 + 0 ≠ 0; decide, ?_, ?_, ?_, ?_⟩
    · show x.1 * 1 = 0 * (x.1 + x.2.1 + x.2.2)
      omega
    · show x.2.1 * 1 = 1 * (x.1 + x.2.1 + x.2.2)
      omega
    · show x.2.2 * 1 = 0 * (x.1 + x.2.1 + x.2.2)
      omega
    · intro k hk hkt
      have : k = 2 := by
        have hk3 : k = 0 ∨ k = 1 ∨ k = 2 := by omega
        rcases hk3 with rfl | rfl | rfl <;> revert hkt <;> decide
      rw [this, e]
theorem bm_v1_2 {A : Nat → Nat → Int} {M O : Nat} {x : bm_V} {m : Int} (hO : O < 8) (hM8 : M < 8) (hm : bm_M A O x m) (hM : M.testBit 2 = true) (h1 : x.1 = 0) (h2 : x.2.1 = 0) : bm_CA A M O x m := by
  obtain ⟨j, hj, hOj, e⟩ := hm.2
  have hj3 : j = 0 ∨ j = 1 ∨ j = 2 := by omega
  rcases hj3 with rfl | rfl | rfl
  · refine ⟨4, 1, by omega, by omega, ⟨by decide, bm_sub8 M hM8 4 (by omega) (fun h => absurd h (by decide)) (fun h => absurd h (by decide)) (fun _ => hM), bm_sub8 O hO 1 (by omega) (fun _ => hOj) (fun h => absurd h (by decide)) (fun h => absurd h (by decide)), by decide⟩, by show (0 : Int) + 0 + 1 ≠ 0; decide, ?_, ?_, ?_, ?_⟩
    · show x.1 * 1 = 0 * (x.1 + x.2.1 + x.2.2)
      omega
    · show x.2.1 * 1 = 0 * (x.1 + x.2.1 + x.2.2)
      omega
    · show x.2.2 * 1 = 1 * (x.1 + x.2.1 + x.2.2)
      omega
    · intro k hk hkt
      have : k = 0 := by
        have hk3 : k = 0 ∨ k = 1 ∨ k = 2 := by omega
        rcases hk3 with rfl | rfl | rfl <;> revert hkt <;> decide
      rw [this, e]
  · refine ⟨4, 2, by omega, by omega, ⟨by decide, bm_sub8 M hM8 4 (by omega) (fun h => absurd h (by decide)) (fun h => absurd h (by decide)) (fun _ => hM), bm_sub8 O hO 2 (by omega) (fun h => absurd h (by decide)) (fun _ => hOj) (fun h => absurd h (by decide)), by decide⟩, by show (0 : Int) + 0 + 1 ≠ 0; decide, ?_, ?_, ?_, ?_⟩
    · show x.1 * 1 = 0 * (x.1 + x.2.1 + x.2.2)
      omega
    · show x.2.1 * 1 = 0 * (x.1 + x.2.1 + x.2.2)
      omega
    · show x.2.2 * 1 = 1 * (x.1 + x.2.1 + x.2.2)
      omega
    · intro k hk hkt
      have : k = 1 := by
        have hk3 : k = 0 ∨ k = 1 ∨ k = 2 := by omega
        rcases hk3 with rfl | rfl | rfl <;> revert hkt <;> decide
      rw [this, e]
  · refine ⟨4, 4, by omega, by omega, ⟨by decide, bm_sub8 M hM8 4 (by omega) (fun h => absurd h (by decide)) (fun h => absurd h (by decide)) (fun _ => hM), bm_sub8 O hO 4 (by omega) (fun h => absurd h (by decide)) (fun h => absurd h (by decide)) (fun _ => hOj), by decide⟩, by show (0 : Int) + 0 + 1 ≠ 0; decide, ?_, ?_, ?_, ?_⟩
    · show x.1 * 1 = 0 * (x.1 + x.2.1 + x.2.2)
      omega
    · show x.2.1 * 1 = 0 * (x.1 + x.2.1 + x.2.2)
      omega
    · show x.2.2 * 1 = 1 * (x.1 + x.2.1 + x.2.2)
      omega
    · intro k hk hkt
      have : k = 2 := by
        have hk3 : k = 0 ∨ k = 1 ∨ k = 2 := by omega
        rcases hk3 with rfl | rfl | rfl <;> revert hkt <;> decide
      rw [this, e]
theorem bm_v2_01_01 {A : Nat → Nat → Int} {M O : Nat} {x : bm_V} {m : Int} (hO : O < 8) (hM8 : M < 8) (hMa : M.testBit 0 = true) (hMb : M.testBit 1 = true) (h0 : x.2.2 = 0) (oj : O.testBit 0 = true) (ok : O.testBit 1 = true) (ej : bm_gn A x 0 = m) (ek : bm_gn A x 1 = m) (hd : A 0 0 - A 1 0 ≠ A 0 1 - A 1 1) : bm_CA A M O x m := by
  have e : bm_gn A x 0 = bm_gn A x 1 := ej.trans ek.symm
  unfold bm_gn at e
  refine ⟨3, 3, by omega, by omega, ⟨by decide, bm_sub8 M hM8 3 (by omega) (fun _ => hMa) (fun _ => hMb) (fun h => absurd h (by decide)), bm_sub8 O hO 3 (by omega) (fun _ => oj) (fun _ => ok) (fun h => absurd h (by decide)), by decide⟩, ?_, ?_, ?_, ?_, ?_⟩
  · show -(A 1 0 - A 1 1) + (A 0 0 - A 0 1) + 0 ≠ 0
    omega
  · show x.1 * (-(A 1 0 - A 1 1) + (A 0 0 - A 0 1) + 0) = -(A 1 0 - A 1 1) * (x.1 + x.2.1 + x.2.2)
    rw [h0] at e ⊢
    grind
  · show x.2.1 * (-(A 1 0 - A 1 1) + (A 0 0 - A 0 1) + 0) = (A 0 0 - A 0 1) * (x.1 + x.2.1 + x.2.2)
    rw [h0] at e ⊢
    grind
  · show x.2.2 * (-(A 1 0 - A 1 1) + (A 0 0 - A 0 1) + 0) = 0 * (x.1 + x.2.1 + x.2.2)
    rw [h0] at e ⊢
    grind
  · intro i hi hit
    have : i = 0 ∨ i = 1 := by
      have hk3 : i = 0 ∨ i = 1 ∨ i = 2 := by omega
      rcases hk3 with rfl | rfl | rfl <;> revert hit <;> decide
    rcases this with rfl | rfl
    · exact ej
    · exact ek
theorem bm_v2_01_02 {A : Nat → Nat → Int} {M O : Nat} {x : bm_V} {m : Int} (hO : O < 8) (hM8 : M < 8) (hMa : M.testBit 0 = true) (hMb : M.testBit 1 = true) (h0 : x.2.2 = 0) (oj : O.testBit 0 = true) (ok : O.testBit 2 = true) (ej : bm_gn A x 0 = m) (ek : bm_gn A x 2 = m) (hd : A 0 0 - A 1 0 ≠ A 0 2 - A 1 2) : bm_CA A M O x m := by
  have e : bm_gn A x 0 = bm_gn A x 2 := ej.trans ek.symm
  unfold bm_gn at e
  refine ⟨3, 5, by omega, by omega, ⟨by decide, bm_sub8 M hM8 3 (by omega) (fun _ => hMa) (fun _ => hMb) (fun h => absurd h (by decide)), bm_sub8 O hO 5 (by omega) (fun _ => oj) (fun h => absurd h (by decide)) (fun _ => ok), by decide⟩, ?_, ?_, ?_, ?_, ?_⟩
  · show -(A 1 0 - A 1 2) + (A 0 0 - A 0 2) + 0 ≠ 0
    omega
  · show x.1 * (-(A 1 0 - A 1 2) + (A 0 0 - A 0 2) + 0) = -(A 1 0 - A 1 2) * (x.1 + x.2.1 + x.2.2)
    rw [h0] at e ⊢
    grind
  · show x.2.1 * (-(A 1 0 - A 1 2) + (A 0 0 - A 0 2) + 0) = (A 0 0 - A 0 2) * (x.1 + x.2.1 + x.2.2)
    rw [h0] at e ⊢
    grind
  · show x.2.2 * (-(A 1 0 - A 1 2) + (A 0 0 - A 0 2) + 0) = 0 * (x.1 + x.2.1 + x.2.2)
    rw [h0] at e ⊢
    grind
  · intro i hi hit
    have : i = 0 ∨ i = 2 := by
      have hk3 : i = 0 ∨ i = 1 ∨ i = 2 := by omega
      rcases hk3 with rfl | rfl | rfl <;> revert hit <;> decide
    rcases this with rfl | rfl
    · exact ej
    · exact ek
theorem bm_v2_01_12 {A : Nat → Nat → Int} {M O : Nat} {x : bm_V} {m : Int} (hO : O < 8) (hM8 : M < 8) (hMa : M.testBit 0 = true) (hMb : M.testBit 1 = true) (h0 : x.2.2 = 0) (oj : O.testBit 1 = true) (ok : O.testBit 2 = true) (ej : bm_gn A x 1 = m) (ek : bm_gn A x 2 = m) (hd : A 0 1 - A 1 1 ≠ A 0 2 - A 1 2) : bm_CA A M O x m := by
  have e : bm_gn A x 1 = bm_gn A x 2 := ej.trans ek.symm
  unfold bm_gn at e
  refine ⟨3, 6, by omega, by omega, ⟨by decide, bm_sub8 M hM8 3 (by omega) (fun _ => hMa) (fun _ => hMb) (fun h => absurd h (by decide)), bm_sub8 O hO 6 (by omega) (fun h => absurd h (by decide)) (fun _ => oj) (fun _ => ok), by decide⟩, ?_, ?_, ?_, ?_, ?_⟩
  · show -(A 1 1 - A 1 2) + (A 0 1 - A 0 2) + 0 ≠ 0
    omega
  · show x.1 * (-(A 1 1 - A 1 2) + (A 0 1 - A 0 2) + 0) = -(A 1 1 - A 1 2) * (x.1 + x.2.1 + x.2.2)
    rw [h0] at e ⊢
    grind
  · show x.2.1 * (-(A 1 1 - A 1 2) + (A 0 1 - A 0 2) + 0) = (A 0 1 - A 0 2) * (x.1 + x.2.1 + x.2.2)
    rw [h0] at e ⊢
    grind
  · show x.2.2 * (-(A 1 1 - A 1 2) + (A 0 1 - A 0 2) + 0) = 0 * (x.1 + x.2.1 + x.2.2)
    rw [h0] at e ⊢
    grind
  · intro i hi hit
    have : i = 1 ∨ i = 2 := by
      have hk3 : i = 0 ∨ i = 1 ∨ i = 2 := by omega
      rcases hk3 with rfl | rfl | rfl <;> revert hit <;> decide
    rcases this with rfl | rfl
    · exact ej
    · exact ek
theorem bm_v2_01 {A : Nat → Nat → Int} {M O : Nat} {x : bm_V} {m : Int} (hO : O < 8) (hM8 : M < 8) (hMa : M.testBit 0 = true) (hMb : M.testBit 1 = true) (ha : x.1 ≠ 0) (hb : x.2.1 ≠ 0) (h0 : x.2.2 = 0) : bm_CA A M O x m ∨ bm_CB A O x m := by
  by_cases c : bm_CA A M O x m
  · exact Or.inl c
  · right
    have key : ∀ j k, j < 3 → k < 3 → O.testBit j = true → bm_gn A x j = m → O.testBit k = true → bm_gn A x k = m → j < k → A 0 j - A 1 j = A 0 k - A 1 k := by
      intro j k hj hk oj ej ok ek hjk
      rcases Decidable.em (A 0 j - A 1 j = A 0 k - A 1 k) with y | y
      · exact y
      · exfalso
        apply c
        have hh : (j = 0 ∧ k = 1) ∨ (j = 0 ∧ k = 2) ∨ (j = 1 ∧ k = 2) := by omega
        rcases hh with ⟨rfl, rfl⟩ | ⟨rfl, rfl⟩ | ⟨rfl, rfl⟩
        · exact bm_v2_01_01 hO hM8 hMa hMb h0 oj ok ej ek y
        · exact bm_v2_01_02 hO hM8 hMa hMb h0 oj ok ej ek y
        · exact bm_v2_01_12 hO hM8 hMa hMb h0 oj ok ej ek y
    refine ⟨(1, -1, 0), by decide, by decide, by dsimp only; omega, by dsimp only; omega, by dsimp only; omega, ?_⟩
    intro j k hj hk oj ej ok ek
    unfold bm_gn
    dsimp only
    rcases Nat.lt_trichotomy j k with h | h | h
    · have := key j k hj hk oj ej ok ek h
      omega
    · rw [h]
    · have := key k j hk hj ok ek oj ej h
      omega
theorem bm_v2_02_01 {A : Nat → Nat → Int} {M O : Nat} {x : bm_V} {m : Int} (hO : O < 8) (hM8 : M < 8) (hMa : M.testBit 0 = true) (hMb : M.testBit 2 = true) (h0 : x.2.1 = 0) (oj : O.testBit 0 = true) (ok : O.testBit 1 = true) (ej : bm_gn A x 0 = m) (ek : bm_gn A x 1 = m) (hd : A 0 0 - A 2 0 ≠ A 0 1 - A 2 1) : bm_CA A M O x m := by
  have e : bm_gn A x 0 = bm_gn A x 1 := ej.trans ek.symm
  unfold bm_gn at e
  refine ⟨5, 3, by omega, by omega, ⟨by decide, bm_sub8 M hM8 5 (by omega) (fun _ => hMa) (fun h => absurd h (by decide)) (fun _ => hMb), bm_sub8 O hO 3 (by omega) (fun _ => oj) (fun _ => ok) (fun h => absurd h (by decide)), by decide⟩, ?_, ?_, ?_, ?_, ?_⟩
  · show -(A 2 0 - A 2 1) + 0 + (A 0 0 - A 0 1) ≠ 0
    omega
  · show x.1 * (-(A 2 0 - A 2 1) + 0 + (A 0 0 - A 0 1)) = -(A 2 0 - A 2 1) * (x.1 + x.2.1 + x.2.2)
    rw [h0] at e ⊢
    grind
  · show x.2.1 * (-(A 2 0 - A 2 1) + 0 + (A 0 0 - A 0 1)) = 0 * (x.1 + x.2.1 + x.2.2)
    rw [h0] at e ⊢
    grind
  · show x.2.2 * (-(A 2 0 - A 2 1) + 0 + (A 0 0 - A 0 1)) = (A 0 0 - A 0 1) * (x.1 + x.2.1 + x.2.2)
    rw [h0] at e ⊢
    grind
  · intro i hi hit
    have : i = 0 ∨ i = 1 := by
      have hk3 : i = 0 ∨ i = 1 ∨ i = 2 := by omega
      rcases hk3 with rfl | rfl | rfl <;> revert hit <;> decide
    rcases this with rfl | rfl
    · exact ej
    · exact ek
theorem bm_v2_02_02 {A : Nat → Nat → Int} {M O : Nat} {x : bm_V} {m : Int} (hO : O < 8) (hM8 : M < 8) (hMa : M.testBit 0 = true) (hMb : M.testBit 2 = true) (h0 : x.2.1 = 0) (oj : O.testBit 0 = true) (ok : O.testBit 2 = true) (ej : bm_gn A x 0 = m) (ek : bm_gn A x 2 = m) (hd : A 0 0 - A 2 0 ≠ A 0 2 - A 2 2) : bm_CA A M O x m := by
  have e : bm_gn A x 0 = bm_gn A x 2 := ej.trans ek.symm
  unfold bm_gn at e
  refine ⟨5, 5, by omega, by omega, ⟨by decide, bm_sub8 M hM8 5 (by omega) (fun _ => hMa) (fun h => absurd h (by decide)) (fun _ => hMb), bm_sub8 O hO 5 (by omega) (fun _ => oj) (fun h => absurd h (by decide)) (fun _ => ok), by decide⟩, ?_, ?_, ?_, ?_, ?_⟩
  · show -(A 2 0 - A 2 2) + 0 + (A 0 0 - A 0 2) ≠ 0
    omega
  · show x.1 * (-(A 2 0 - A 2 2) + 0 + (A 0 0 - A 0 2)) = -(A 2 0 - A 2 2) * (x.1 + x.2.1 + x.2.2)
    rw [h0] at e ⊢
    grind
  · show x.2.1 * (-(A 2 0 - A 2 2) + 0 + (A 0 0 - A 0 2)) = 0 * (x.1 + x.2.1 + x.2.2)
    rw [h0] at e ⊢
    grind
  · show x.2.2 * (-(A 2 0 - A 2 2) + 0 + (A 0 0 - A 0 2)) = (A 0 0 - A 0 2) * (x.1 + x.2.1 + x.2.2)
    rw [h0] at e ⊢
    grind
  · intro i hi hit
    have : i = 0 ∨ i = 2 := by
      have hk3 : i = 0 ∨ i = 1 ∨ i = 2 := by omega
      rcases hk3 with rfl | rfl | rfl <;> revert hit <;> decide
    rcases this with rfl | rfl
    · exact ej
    · exact ek
theorem bm_v2_02_12 {A : Nat → Nat → Int} {M O : Nat} {x : bm_V} {m : Int} (hO : O < 8) (hM8 : M < 8) (hMa : M.testBit 0 = true) (hMb : M.testBit 2 = true) (h0 : x.2.1 = 0) (oj : O.testBit 1 = true) (ok : O.testBit 2 = true) (ej : bm_gn A x 1 = m) (ek : bm_gn A x 2 = m) (hd : A 0 1 - A 2 1 ≠ A 0 2 - A 2 2) : bm_CA A M O x m := by
  have e : bm_gn A x 1 = bm_gn A x 2 := ej.trans ek.symm
  unfold bm_gn at e
  refine ⟨5, 6, by omega, by omega, ⟨by decide, bm_sub8 M hM8 5 (by omega) (fun _ => hMa) (fun h => absurd h (by decide)) (fun _ => hMb), bm_sub8 O hO 6 (by omega) (fun h => absurd h (by decide)) (fun _ => oj) (fun _ => ok), by decide⟩, ?_, ?_, ?_, ?_, ?_⟩
  · show -(A 2 1 - A 2 2) + 0 + (A 0 1 - A 0 2) ≠ 0
    omega
  · show x.1 * (-(A 2 1 - A 2 2) + 0 + (A 0 1 - A 0 2)) = -(A 2 1 - A 2 2) * (x.1 + x.2.1 + x.2.2)
    rw [h0] at e ⊢
    grind
  · show x.2.1 * (-(A 2 1 - A 2 2) + 0 + (A 0 1 - A 0 2)) = 0 * (x.1 + x.2.1 + x.2.2)
    rw [h0] at e ⊢
    grind
  · show x.2.2 * (-(A 2 1 - A 2 2) + 0 + (A 0 1 - A 0 2)) = (A 0 1 - A 0 2) * (x.1 + x.2.1 + x.2.2)
    rw [h0] at e ⊢
    grind
  · intro i hi hit
    have : i = 1 ∨ i = 2 := by
      have hk3 : i = 0 ∨ i = 1 ∨ i = 2 := by omega
      rcases hk3 with rfl | rfl | rfl <;> revert hit <;> decide
    rcases this with rfl | rfl
    · exact ej
    · exact ek
theorem bm_v2_02 {A : Nat → Nat → Int} {M O : Nat} {x : bm_V} {m : Int} (hO : O < 8) (hM8 : M < 8) (hMa : M.testBit 0 = true) (hMb : M.testBit 2 = true) (ha : x.1 ≠ 0) (hb : x.2.2 ≠ 0) (h0 : x.2.1 = 0) : bm_CA A M O x m ∨ bm_CB A O x m := by
  by_cases c : bm_CA A M O x m
  · exact Or.inl c
  · right
    have key : ∀ j k, j < 3 → k < 3 → O.testBit j = true → bm_gn A x j = m → O.testBit k = true → bm_gn A x k = m → j < k → A 0 j - A 2 j = A 0 k - A 2 k := by
      intro j k hj hk oj ej ok ek hjk
      rcases Decidable.em (A 0 j - A 2 j = A 0 k - A 2 k) with y | y
      · exact y
      · exfalso
        apply c
        have hh : (j = 0 ∧ k = 1) ∨ (j = 0 ∧ k = 2) ∨ (j = 1 ∧ k = 2) := by omega
        rcases hh with ⟨rfl, rfl⟩ | ⟨rfl, rfl⟩ | ⟨rfl, rfl⟩
        · exact bm_v2_02_01 hO hM8 hMa hMb h0 oj ok ej ek y
        · exact bm_v2_02_02 hO hM8 hMa hMb h0 oj ok ej ek y
        · exact bm_v2_02_12 hO hM8 hMa hMb h0 oj ok ej ek y
    refine ⟨(1, 0, -1), by decide, by decide, by dsimp only; omega, by dsimp only; omega, by dsimp only; omega, ?_⟩
    intro j k hj hk oj ej ok ek
    unfold bm_gn
    dsimp only
    rcases Nat.lt_trichotomy j k with h | h | h
    · have := key j k hj hk oj ej ok ek h
      omega
    · rw [h]
    · have := key k j hk hj ok ek oj ej h
      omega
theorem bm_v2_12_01 {A : Nat → Nat → Int} {M O : Nat} {x : bm_V} {m : Int} (hO : O < 8) (hM8 : M < 8) (hMa : M.testBit 1 = true) (hMb : M.testBit 2 = true) (h0 : x.1 = 0) (oj : O.testBit 0 = true) (ok : O.testBit 1 = true) (ej : bm_gn A x 0 = m) (ek : bm_gn A x 1 = m) (hd : A 1 0 - A 2 0 ≠ A 1 1 - A 2 1) : bm_CA A M O x m := by
  have e : bm_gn A x 0 = bm_gn A x 1 := ej.trans ek.symm
  unfold bm_gn at e
  refine ⟨6, 3, by omega, by omega, ⟨by decide, bm_sub8 M hM8 6 (by omega) (fun h => absurd h (by decide)) (fun _ => hMa) (fun _ => hMb), bm_sub8 O hO 3 (by omega) (fun _ => oj) (fun _ => ok) (fun h => absurd h (by decide)), by decide⟩, ?_, ?_, ?_, ?_, ?_⟩
  · show 0 + -(A 2 0 - A 2 1) + (A 1 0 - A 1 1) ≠ 0
    omega
  · show x.1 * (0 + -(A 2 0 - A 2 1) + (A 1 0 - A 1 1)) = 0 * (x.1 + x.2.1 + x.2.2)
    rw [h0] at e ⊢
    grind
  · show x.2.1 * (0 + -(A 2 0 - A 2 1) + (A 1 0 - A 1 1)) = -(A 2 0 - A 2 1) * (x.1 + x.2.1 + x.2.2)
    rw [h0] at e ⊢
    grind
  · show x.2.2 * (0 + -(A 2 0 - A 2 1) + (A 1 0 - A 1 1)) = (A 1 0 - A 1 1) * (x.1 + x.2.1 + x.2.2)
    rw [h0] at e ⊢
    grind
  · intro i hi hit
    have : i = 0 ∨ i = 1 := by
      have hk3 : i = 0 ∨ i = 1 ∨ i = 2 := by omega
      rcases hk3 with rfl | rfl | rfl <;> revert hit <;> decide
    rcases this with rfl | rfl
    · exact ej
    · exact ek
theorem bm_v2_12_02 {A : Nat → Nat → Int} {M O : Nat} {x : bm_V} {m : Int} (hO : O < 8) (hM8 : M < 8) (hMa : M.testBit 1 = true) (hMb : M.testBit 2 = true) (h0 : x.1 = 0) (oj : O.testBit 0 = true) (ok : O.testBit 2 = true) (ej : bm_gn A x 0 = m) (ek : bm_gn A x 2 = m) (hd : A 1 0 - A 2 0 ≠ A 1 2 - A 2 2) : bm_CA A M O x m := by
  have e : bm_gn A x 0 = bm_gn A x 2 := ej.trans ek.symm
  unfold bm_gn at e
  refine ⟨6, 5, by omega, by omega, ⟨by decide, bm_sub8 M hM8 6 (by omega) (fun h => absurd h (by decide)) (fun _ => hMa) (fun _ => hMb), bm_sub8 O hO 5 (by omega) (fun _ => oj) (fun h => absurd h (by decide)) (fun _ => ok), by decide⟩, ?_, ?_, ?_, ?_, ?_⟩
  · show 0 + -(A 2 0 - A 2 2) + (A 1 0 - A 1 2) ≠ 0
    omega
  · show x.1 * (0 + -(A 2 0 - A 2 2) + (A 1 0 - A 1 2)) = 0 * (x.1 + x.2.1 + x.2.2)
    rw [h0] at e ⊢
    grind
  · show x.2.1 * (0 + -(A 2 0 - A 2 2) + (A 1 0 - A 1 2)) = -(A 2 0 - A 2 2) * (x.1 + x.2.1 + x.2.2)
    rw [h0] at e ⊢
    grind
  · show x.2.2 * (0 + -(A 2 0 - A 2 2) + (A 1 0 - A 1 2)) = (A 1 0 - A 1 2) * (x.1 + x.2.1 + x.2.2)
    rw [h0] at e ⊢
    grind
  · intro i hi hit
    have : i = 0 ∨ i = 2 := by
      have hk3 : i = 0 ∨ i = 1 ∨ i = 2 := by omega
      rcases hk3 with rfl | rfl | rfl <;> revert hit <;> decide
    rcases this with rfl | rfl
    · exact ej
    · exact ek
theorem bm_v2_12_12 {A : Nat → Nat → Int} {M O : Nat} {x : bm_V} {m : Int} (hO : O < 8) (hM8 : M < 8) (hMa : M.testBit 1 = true) (hMb : M.testBit 2 = true) (h0 : x.1 = 0) (oj : O.testBit 1 = true) (ok : O.testBit 2 = true) (ej : bm_gn A x 1 = m) (ek : bm_gn A x 2 = m) (hd : A 1 1 - A 2 1 ≠ A 1 2 - A 2 2) : bm_CA A M O x m := by
  have e : bm_gn A x 1 = bm_gn A x 2 := ej.trans ek.symm
  unfold bm_gn at e
  refine ⟨6, 6, by omega, by omega, ⟨by decide, bm_sub8 M hM8 6 (by omega) (fun h => absurd h (by decide)) (fun _ => hMa) (fun _ => hMb), bm_sub8 O hO 6 (by omega) (fun h => absurd h (by decide)) (fun _ => oj) (fun _ => ok), by decide⟩, ?_, ?_, ?_, ?_, ?_⟩
  · show 0 + -(A 2 1 - A 2 2) + (A 1 1 - A 1 2) ≠ 0
    omega
  · show x.1 * (0 + -(A 2 1 - A 2 2) + (A 1 1 - A 1 2)) = 0 * (x.1 + x.2.1 + x.2.2)
    rw [h0] at e ⊢
    grind
  · show x.2.1 * (0 + -(A 2 1 - A 2 2) + (A 1 1 - A 1 2)) = -(A 2 1 - A 2 2) * (x.1 + x.2.1 + x.2.2)
    rw [h0] at e ⊢
    grind
  · show x.2.2 * (0 + -(A 2 1 - A 2 2) + (A 1 1 - A 1 2)) = (A 1 1 - A 1 2) * (x.1 + x.2.1 + x.2.2)
    rw [h0] at e ⊢
    grind
  · intro i hi hit
    have : i = 1 ∨ i = 2 := by
      have hk3 : i = 0 ∨ i = 1 ∨ i = 2 := by omega
      rcases hk3 with rfl | rfl | rfl <;> revert hit <;> decide
    rcases this with rfl | rfl
    · exact ej
    · exact ek
theorem bm_v2_12 {A : Nat → Nat → Int} {M O : Nat} {x : bm_V} {m : Int} (hO : O < 8) (hM8 : M < 8) (hMa : M.testBit 1 = true) (hMb : M.testBit 2 = true) (ha : x.2.1 ≠ 0) (hb : x.2.2 ≠ 0) (h0 : x.1 = 0) : bm_CA A M O x m ∨ bm_CB A O x m := by
  by_cases c : bm_CA A M O x m
  · exact Or.inl c
  · right
    have key : ∀ j k, j < 3 → k < 3 → O.testBit j = true → bm_gn A x j = m → O.testBit k = true → bm_gn A x k = m → j < k → A 1 j - A 2 j = A 1 k - A 2 k := by
      intro j k hj hk oj ej ok ek hjk
      rcases Decidable.em (A 1 j - A 2 j = A 1 k - A 2 k) with y | y
      · exact y
      · exfalso
        apply c
        have hh : (j = 0 ∧ k = 1) ∨ (j = 0 ∧ k = 2) ∨ (j = 1 ∧ k = 2) := by omega
        rcases hh with ⟨rfl, rfl⟩ | ⟨rfl, rfl⟩ | ⟨rfl, rfl⟩
        · exact bm_v2_12_01 hO hM8 hMa hMb h0 oj ok ej ek y
        · exact bm_v2_12_02 hO hM8 hMa hMb h0 oj ok ej ek y
        · exact bm_v2_12_12 hO hM8 hMa hMb h0 oj ok ej ek y
    refine ⟨(0, 1, -1), by decide, by decide, by dsimp only; omega, by dsimp only; omega, by dsimp only; omega, ?_⟩
    intro j k hj hk oj ej ok ek
    unfold bm_gn
    dsimp only
    rcases Nat.lt_trichotomy j k with h | h | h
    · have := key j k hj hk oj ej ok ek h
      omega
    · rw [h]
    · have := key k j hk hj ok ek oj ej h
      omega
theorem bm_v3a {A : Nat → Nat → Int} {M O : Nat} {x : bm_V} {m : Int} (hM : M = 7) (hO : O = 7) (e0 : bm_gn A x 0 = m) (e1 : bm_gn A x 1 = m) (e2 : bm_gn A x 2 = m) (hd : bm_cr A 1 2 + bm_cr A 2 0 + bm_cr A 0 1 ≠ 0) : bm_CA A M O x m := by
  subst hM hO
  have f1 : bm_gn A x 0 = bm_gn A x 1 := e0.trans e1.symm
  have f2 : bm_gn A x 1 = bm_gn A x 2 := e1.trans e2.symm
  unfold bm_gn at f1 f2
  refine ⟨7, 7, by omega, by omega, ⟨by decide, by decide, by decide, by decide⟩, hd, ?_, ?_, ?_, ?_⟩
  · show x.1 * (bm_cr A 1 2 + bm_cr A 2 0 + bm_cr A 0 1) = bm_cr A 1 2 * (x.1 + x.2.1 + x.2.2)
    unfold bm_cr
    grind
  · show x.2.1 * (bm_cr A 1 2 + bm_cr A 2 0 + bm_cr A 0 1) = bm_cr A 2 0 * (x.1 + x.2.1 + x.2.2)
    unfold bm_cr
    grind
  · show x.2.2 * (bm_cr A 1 2 + bm_cr A 2 0 + bm_cr A 0 1) = bm_cr A 0 1 * (x.1 + x.2.1 + x.2.2)
    unfold bm_cr
    grind
  · intro j hj _
    have hj3 : j = 0 ∨ j = 1 ∨ j = 2 := by omega
    rcases hj3 with rfl | rfl | rfl
    · exact e0
    · exact e1
    · exact e2
theorem bm_v3b {A : Nat → Nat → Int} {O : Nat} {x : bm_V} {m : Int} (u z : bm_V) (h1 : x.1 ≠ 0) (h2 : x.2.1 ≠ 0) (h3 : x.2.2 ≠ 0) (h : (u.2.1 * z.2.2 - u.2.2 * z.2.1) + (u.2.2 * z.1 - u.1 * z.2.2) + (u.1 * z.2.1 - u.2.1 * z.1) = 0)
    (k : ∀ d : bm_V, d.1 * u.1 + d.2.1 * u.2.1 + d.2.2 * u.2.2 = 0 → d.1 * z.1 + d.2.1 * z.2.1 + d.2.2 * z.2.2 = 0 → ∀ j k, j < k → k < 3 → O.testBit j = true → bm_gn A x j = m → O.testBit k = true → bm_gn A x k = m → bm_gn A d j = bm_gn A d k) : bm_CB A O x m := by
  obtain ⟨d, d0, dn, du, dz⟩ := bm_dir u z h
  refine ⟨d, d0, dn, fun e => absurd e h1, fun e => absurd e h2, fun e => absurd e h3, ?_⟩
  intro j k' hj hk oj ej ok ek
  rcases Nat.lt_trichotomy j k' with y | y | y
  · exact k d du dz j k' y hk oj ej ok ek
  · rw [y]
  · exact (k d du dz k' j y hj ok ek oj ej).symm
theorem bm_v3 {A : Nat → Nat → Int} {M O : Nat} {x : bm_V} {m : Int} (hO : O < 8) (hM : M = 7) (h1 : x.1 ≠ 0) (h2 : x.2.1 ≠ 0) (h3 : x.2.2 ≠ 0) : bm_CA A M O x m ∨ bm_CB A O x m := by
  by_cases t0 : O.testBit 0 = true ∧ bm_gn A x 0 = m
  · by_cases t1 : O.testBit 1 = true ∧ bm_gn A x 1 = m
    · by_cases t2 : O.testBit 2 = true ∧ bm_gn A x 2 = m
      · have hO7 : O = 7 := bm_is7 O hO t0.1 t1.1 t2.1
        by_cases hd : bm_cr A 1 2 + bm_cr A 2 0 + bm_cr A 0 1 = 0
        · right
          refine bm_v3b (A 0 0 - A 0 1, A 1 0 - A 1 1, A 2 0 - A 2 1) (A 0 1 - A 0 2, A 1 1 - A 1 2, A 2 1 - A 2 2) h1 h2 h3 ?_ ?_
          · dsimp only
            unfold bm_cr at hd
            grind
          · intro d du dz j k hjk hk _ _ _ _
            dsimp only at du dz
            unfold bm_gn
            have hh : (j = 0 ∧ k = 1) ∨ (j = 0 ∧ k = 2) ∨ (j = 1 ∧ k = 2) := by omega
            rcases hh with ⟨rfl, rfl⟩ | ⟨rfl, rfl⟩ | ⟨rfl, rfl⟩ <;> grind
        · exact Or.inl (bm_v3a hM hO7 t0.2 t1.2 t2.2 hd)
      · right
        refine bm_v3b (A 0 0 - A 0 1, A 1 0 - A 1 1, A 2 0 - A 2 1) (0, 0, 0) h1 h2 h3 (by dsimp only; omega) ?_
        intro d du _ j k hjk hk oj ej ok ek
        have : ¬ k = 2 := by
          rintro rfl
          exact t2 ⟨ok, ek⟩
        obtain ⟨rfl, rfl⟩ : j = 0 ∧ k = 1 := by omega
        dsimp only at du
        unfold bm_gn
        grind
    · right
      refine bm_v3b (A 0 0 - A 0 2, A 1 0 - A 1 2, A 2 0 - A 2 2) (0, 0, 0) h1 h2 h3 (by dsimp only; omega) ?_
      intro d du _ j k hjk hk oj ej ok ek
      have n1 : ¬ k = 1 := by
        rintro rfl
        exact t1 ⟨ok, ek⟩
      have n2 : ¬ j = 1 := by
        rintro rfl
        exact t1 ⟨oj, ej⟩
      obtain ⟨rfl, rfl⟩ : j = 0 ∧ k = 2 := by omega
      dsimp only at du
      unfold bm_gn
      grind
  · right
    refine bm_v3b (A 0 1 - A 0 2, A 1 1 - A 1 2, A 2 1 - A 2 2) (0, 0, 0) h1 h2 h3 (by dsimp only; omega) ?_
    intro d du _ j k hjk hk oj ej ok ek
    have n2 : ¬ j = 0 := by
      rintro rfl
      exact t0 ⟨oj, ej⟩
    obtain ⟨rfl, rfl⟩ : j = 1 ∧ k = 2 := by omega
    dsimp only at du
    unfold bm_gn
    grind
theorem bm_alt {A : Nat → Nat → Int} {M O : Nat} {x : bm_V} {m : Int} (hO : O < 8) (hM8 : M < 8) (hx : bm_X M x) (hm : bm_M A O x m) : bm_CA A M O x m ∨ bm_CB A O x m := by
  obtain ⟨x1, x2, x3, xs, s1, s2, s3⟩ := hx
  have b0 : x.1 ≠ 0 → M.testBit 0 = true := fun h => by
    cases e : M.testBit 0
    · exact absurd (s1 e) h
    · rfl
  have b1 : x.2.1 ≠ 0 → M.testBit 1 = true := fun h => by
    cases e : M.testBit 1
    · exact absurd (s2 e) h
    · rfl
  have b2 : x.2.2 ≠ 0 → M.testBit 2 = true := fun h => by
    cases e : M.testBit 2
    · exact absurd (s3 e) h
    · rfl
  by_cases h1 : x.1 = 0 <;> by_cases h2 : x.2.1 = 0 <;> by_cases h3 : x.2.2 = 0
  · unfold bm_sg at xs
    omega
  · exact Or.inl (bm_v1_2 hO hM8 hm (b2 h3) h1 h2)
  · exact Or.inl (bm_v1_1 hO hM8 hm (b1 h2) h1 h3)
  · exact bm_v2_12 hO hM8 (b1 h2) (b2 h3) h2 h3 h1
  · exact Or.inl (bm_v1_0 hO hM8 hm (b0 h1) h2 h3)
  · exact bm_v2_02 hO hM8 (b0 h1) (b2 h3) h1 h3 h2
  · exact bm_v2_01 hO hM8 (b0 h1) (b1 h2) h1 h2 h3
  · exact bm_v3 hO (bm_is7 M hM8 (b0 h1) (b1 h2) (b2 h3)) h1 h2 h3
/-- a corner: a demand whose solution has its ties among the most -/
def bm_cor (A : Nat → Nat → Int) (M O S T : Nat) (v : bm_V) : Prop := bm_fit M O S T ∧ bm_ok (bm_raw A S T) ∧ v = bm_nv (bm_raw A S T) ∧ ∃ m, bm_M A O v m ∧ ∀ j, j < 3 → T.testBit j = true → bm_gn A v j = m
/-- from every mix a corner is reached: nothing tight is lost, the most does not grow -/
theorem bm_vertex {A : Nat → Nat → Int} {M O : Nat} (hO : O < 8) (hM8 : M < 8) : ∀ (n : Nat) (x : bm_V) (m : Int), bm_mu A O x m < n → bm_X M x → bm_M A O x m →
    ∃ S T v mv, S < 8 ∧ T < 8 ∧ bm_cor A M O S T v ∧ bm_M A O v mv ∧ (∀ j, j < 3 → O.testBit j = true → bm_gn A x j = m → bm_gn A v j = mv) ∧ mv * bm_sg x ≤ m * bm_sg v := by
  intro n
  induction n with
  | zero =>
    intro x m hn
    omega
  | succ n ih =>
    intro x m hn hx hm
    rcases bm_alt hO hM8 hx hm with ⟨S, T, hS, hT, hf, h0, e1, e2, e3, ht⟩ | ⟨d, d0, dn, z1, z2, z3, hd⟩
    · have hok : bm_ok (bm_raw A S T) := bm_ok_of h0 hx.1 hx.2.1 hx.2.2.1 hx.2.2.2.1 e1 e2 e3
      have hP := bm_nv_P hok
      have hmul := bm_nv_mul h0
      have hc : bm_e (bm_raw A S T) * (bm_g3 (bm_raw A S T) : Int) ≠ 0 := by
        intro z
        rw [z] at hmul
        simp only [Int.zero_mul] at hmul
        apply h0
        rw [hmul]
        rfl
      generalize hcc : bm_e (bm_raw A S T) * (bm_g3 (bm_raw A S T) : Int) = c at hmul hc
      generalize hv : bm_nv (bm_raw A S T) = v at hmul hP
      generalize hr : bm_raw A S T = r at *
      have m1 : r.1 = c * v.1 := congrArg Prod.fst hmul
      have m2 : r.2.1 = c * v.2.1 := congrArg (fun v : bm_V => v.2.1) hmul
      have m3 : r.2.2 = c * v.2.2 := congrArg (fun v : bm_V => v.2.2) hmul
      have ms : bm_sg r = c * bm_sg v := by
        unfold bm_sg
        rw [m1, m2, m3, Int.mul_add, Int.mul_add]
      have f1 := bm_pr_of (x := x) h0 c hc (bm_sg v) m1 ms e1
      have f2 := bm_pr_of (x := x) h0 c hc (bm_sg v) m2 ms e2
      have f3 := bm_pr_of (x := x) h0 c hc (bm_sg v) m3 ms e3
      have hg := bm_sg_gn (A := A) f1 f2 f3
      have hsx := hx.2.2.2.1
      have hsv := hP.2.2.2.1
      obtain ⟨j0, hj0, hO0, t0⟩ := hm.2
      have tight : ∀ j, j < 3 → bm_gn A x j = m → bm_gn A v j = bm_gn A v j0 := by
        intro j hj e
        have a := hg j
        have b := hg j0
        rw [e] at a
        rw [t0] at b
        exact Int.eq_of_mul_eq_mul_right (by omega) (a.symm.trans b)
      have hM : bm_M A O v (bm_gn A v j0) := by
        refine ⟨?_, j0, hj0, hO0, rfl⟩
        intro j hj hOj
        have a := hg j
        have b := hg j0
        rw [t0] at b
        have := hm.1 j hj hOj
        have : bm_gn A x j * bm_sg v ≤ m * bm_sg v := Int.mul_le_mul_of_nonneg_right this (by omega)
        rw [a, b] at this
        exact Int.le_of_mul_le_mul_right this hsx
      refine ⟨S, T, v, bm_gn A v j0, hS, hT, ⟨hf, by rw [hr]; exact hok, by rw [hr, hv], bm_gn A v j0, hM, ?_⟩, hM, ?_, ?_⟩
      · intro j hj hTj
        exact tight j hj (ht j hj hTj)
      · intro j hj _ e
        exact tight j hj e
      · have b := hg j0
        rw [t0] at b
        omega
    · obtain ⟨j0, hj0, hO0, t0⟩ := hm.2
      have go : ∀ (d : bm_V) (l : Int), bm_sg d = 0 → d ≠ (0, 0, 0) → (x.1 = 0 → d.1 = 0) → (x.2.1 = 0 → d.2.1 = 0) → (x.2.2 = 0 → d.2.2 = 0) → (∀ j, j < 3 → O.testBit j = true → bm_gn A x j = m → bm_gn A d j = l) → l ≤ 0 → ∃ S T v mv, S < 8 ∧ T < 8 ∧ bm_cor A M O S T v ∧ bm_M A O v mv ∧ (∀ j, j < 3 → O.testBit j = true → bm_gn A x j = m → bm_gn A v j = mv) ∧ mv * bm_sg x ≤ m * bm_sg v := by
        intro d l d0 dn z1 z2 z3 ht hl
        obtain ⟨x', m', hx', hm', hk, hle, hmu⟩ := bm_step hx hm d0 dn z1 z2 z3 ht hl
        obtain ⟨S, T, v, mv, hS, hT, hcor, hMv, hkeep, hle2⟩ := ih x' m' (by omega) hx' hm'
        refine ⟨S, T, v, mv, hS, hT, hcor, hMv, fun j hj hOj e => hkeep j hj hOj (hk j hj hOj e), ?_⟩
        have hsx := hx.2.2.2.1
        have hsx' := hx'.2.2.2.1
        have hsv : 0 < bm_sg v := by
          obtain ⟨hf, hok, hv, -⟩ := hcor
          rw [hv]
          exact (bm_nv_P hok).2.2.2.1
        have a : (mv * bm_sg x') * bm_sg x ≤ (m' * bm_sg v) * bm_sg x := Int.mul_le_mul_of_nonneg_right hle2 (by omega)
        have b : (m' * bm_sg x) * bm_sg v ≤ (m * bm_sg x') * bm_sg v := Int.mul_le_mul_of_nonneg_right hle (by omega)
        have c1 : (mv * bm_sg x') * bm_sg x = (mv * bm_sg x) * bm_sg x' := by grind
        have c2 : (m' * bm_sg v) * bm_sg x = (m' * bm_sg x) * bm_sg v := by grind
        have c3 : (m * bm_sg x') * bm_sg v = (m * bm_sg v) * bm_sg x' := by grind
        have : (mv * bm_sg x) * bm_sg x' ≤ (m * bm_sg v) * bm_sg x' := by omega
        exact Int.le_of_mul_le_mul_right this hsx'
      rcases Int.lt_or_le 0 (bm_gn A d j0) with y | y
      · have hneg : ∀ j, bm_gn A (-d.1, -d.2.1, -d.2.2) j = - bm_gn A d j := by
          intro j
          unfold bm_gn
          dsimp only
          grind
        refine go (-d.1, -d.2.1, -d.2.2) (- bm_gn A d j0) ?_ ?_ ?_ ?_ ?_ ?_ (by omega)
        · unfold bm_sg at d0 ⊢
          dsimp only
          omega
        · intro e
          apply dn
          have e1 : -d.1 = 0 := congrArg Prod.fst e
          have e2 : -d.2.1 = 0 := congrArg (fun v : bm_V => v.2.1) e
          have e3 : -d.2.2 = 0 := congrArg (fun v : bm_V => v.2.2) e
          obtain ⟨a, b, c⟩ := d
          dsimp only at e1 e2 e3
          rw [show a = 0 by omega, show b = 0 by omega, show c = 0 by omega]
        · intro h; have := z1 h; dsimp only; omega
        · intro h; have := z2 h; dsimp only; omega
        · intro h; have := z3 h; dsimp only; omega
        · intro j hj hOj e
          rw [hneg, hd j j0 hj hj0 hOj e hO0 t0]
      · exact go d (bm_gn A d j0) d0 dn z1 z2 z3 (fun j hj hOj e => hd j j0 hj hj0 hOj e hO0 t0) y
end
section
/-! the most, the replies -/
def bm_mf (A : Nat → Nat → Int) (O : Nat) (v : bm_V) (m : Int) (j : Nat) : Int := if O.testBit j = true ∧ m < bm_gn A v j then bm_gn A v j else m
def bm_mx (A : Nat → Nat → Int) (O : Nat) (v : bm_V) : Int := bm_mf A O v (bm_mf A O v (bm_mf A O v (-1000000) 0) 1) 2
def bm_rb (A : Nat → Nat → Int) (O : Nat) (v : bm_V) (m : Int) (j : Nat) : Bool := O.testBit j && decide (bm_gn A v j = m)
def bm_rp (A : Nat → Nat → Int) (O : Nat) (v : bm_V) : Nat := (bm_rb A O v (bm_mx A O v) 0).toNat + 2 * (bm_rb A O v (bm_mx A O v) 1).toNat + 4 * (bm_rb A O v (bm_mx A O v) 2).toNat
theorem bm_3b (a b c : Bool) : (a.toNat + 2 * b.toNat + 4 * c.toNat).testBit 0 = a ∧ (a.toNat + 2 * b.toNat + 4 * c.toNat).testBit 1 = b ∧ (a.toNat + 2 * b.toNat + 4 * c.toNat).testBit 2 = c ∧ a.toNat + 2 * b.toNat + 4 * c.toNat < 8 := by
  revert a b c
  decide
theorem bm_rp8 (A : Nat → Nat → Int) (O : Nat) (v : bm_V) : bm_rp A O v < 8 := (bm_3b _ _ _).2.2.2
theorem bm_rp_b (A : Nat → Nat → Int) (O : Nat) (v : bm_V) {j : Nat} (hj : j < 3) : (bm_rp A O v).testBit j = bm_rb A O v (bm_mx A O v) j := by
  have h := bm_3b (bm_rb A O v (bm_mx A O v) 0) (bm_rb A O v (bm_mx A O v) 1) (bm_rb A O v (bm_mx A O v) 2)
  have hj3 : j = 0 ∨ j = 1 ∨ j = 2 := by omega
  rcases hj3 with rfl | rfl | rfl
  · exact h.1
  · exact h.2.1
  · exact h.2.2.1
theorem bm_rp_t {A : Nat → Nat → Int} {O : Nat} {v : bm_V} {j : Nat} (hj : j < 3) : (bm_rp A O v).testBit j = true ↔ O.testBit j = true ∧ bm_gn A v j = bm_mx A O v := by
  rw [bm_rp_b A O v hj]
  unfold bm_rb
  simp
theorem bm_M_u {A : Nat → Nat → Int} {O : Nat} {v : bm_V} {m m' : Int} (h : bm_M A O v m) (h' : bm_M A O v m') : m = m' := by
  obtain ⟨a, j, hj, hO, e⟩ := h
  obtain ⟨a', j', hj', hO', e'⟩ := h'
  have := a j' hj' hO'
  have := a' j hj hO
  omega
theorem bm_mx_M {A : Nat → Nat → Int} {O : Nat} {v : bm_V} (hb : ∀ j, j < 3 → -1000000 < bm_gn A v j) (hO : ∃ j, j < 3 ∧ O.testBit j = true) : bm_M A O v (bm_mx A O v) := by
  have b0 := hb 0 (by omega)
  have b1 := hb 1 (by omega)
  have b2 := hb 2 (by omega)
  have all : ∀ j, j < 3 → O.testBit j = true → bm_gn A v j ≤ bm_mx A O v := by
    intro j hj
    have hj3 : j = 0 ∨ j = 1 ∨ j = 2 := by omega
    unfold bm_mx bm_mf
    rcases hj3 with rfl | rfl | rfl <;> intro h <;> simp only [h, true_and] <;> (repeat' split) <;> omega
  refine ⟨all, ?_⟩
  have : bm_mx A O v = -1000000 ∨ ∃ j, j < 3 ∧ O.testBit j = true ∧ bm_gn A v j = bm_mx A O v := by
    have st : ∀ m j, j < 3 → (m = -1000000 ∨ ∃ j, j < 3 ∧ O.testBit j = true ∧ bm_gn A v j = m) → (bm_mf A O v m j = -1000000 ∨ ∃ i, i < 3 ∧ O.testBit i = true ∧ bm_gn A v i = bm_mf A O v m j) := by
      intro m j hj h
      unfold bm_mf
      split
      · rename_i hh
        exact Or.inr ⟨j, hj, hh.1, rfl⟩
      · exact h
    exact st _ 2 (by omega) (st _ 1 (by omega) (st _ 0 (by omega) (Or.inl rfl)))
  rcases this with h | h
  · obtain ⟨j, hj, hOj⟩ := hO
    have := all j hj hOj
    have := hb j hj
    omega
  · exact h
/-! bounds -/
def bm_A9 (A : Nat → Nat → Int) : Prop := ∀ i j, i < 3 → j < 3 → -9 ≤ A i j ∧ A i j ≤ 9
theorem bm_p18 {a b : Int} {s t : Int} (ha : -s ≤ a) (ha' : a ≤ s) (hb : -t ≤ b) (hb' : b ≤ t) : -(s * t) ≤ a * b ∧ a * b ≤ s * t := by
  have hs : 0 ≤ s := by omega
  have ht : 0 ≤ t := by omega
  have h1 : (a * b).natAbs = a.natAbs * b.natAbs := Int.natAbs_mul a b
  have h2 : a.natAbs * b.natAbs ≤ s.toNat * t.toNat := Nat.mul_le_mul (by omega) (by omega)
  have h3 : ((s.toNat * t.toNat : Nat) : Int) = s * t := by
    rw [Int.natCast_mul, Int.toNat_of_nonneg hs, Int.toNat_of_nonneg ht]
  omega
theorem bm_fs3 (T : Nat) : bm_fs T < 3 := by unfold bm_fs; repeat' split
                                             all_goals omega
theorem bm_ls3 (T : Nat) : bm_ls T < 3 := by unfold bm_ls; repeat' split
                                             all_goals omega
def bm_b3 (v : bm_V) : Prop := (-648 ≤ v.1 ∧ v.1 ≤ 648) ∧ (-648 ≤ v.2.1 ∧ v.2.1 ≤ 648) ∧ (-648 ≤ v.2.2 ∧ v.2.2 ≤ 648)
theorem bm_cr_b {A : Nat → Nat → Int} (hA : bm_A9 A) {b c : Nat} (hb : b < 3) (hc : c < 3) : -648 ≤ bm_cr A b c ∧ bm_cr A b c ≤ 648 := by
  unfold bm_cr
  have h1 := hA b 0 hb (by omega)
  have h2 := hA b 1 hb (by omega)
  have h3 := hA b 2 hb (by omega)
  have h4 := hA c 0 hc (by omega)
  have h5 := hA c 1 hc (by omega)
  have h6 := hA c 2 hc (by omega)
  have k1 := bm_p18 (a := A b 0 - A b 1) (b := A c 1 - A c 2) (s := 18) (t := 18) (by omega) (by omega) (by omega) (by omega)
  have k2 := bm_p18 (a := A c 0 - A c 1) (b := A b 1 - A b 2) (s := 18) (t := 18) (by omega) (by omega) (by omega) (by omega)
  omega
theorem bm_raw_b {A : Nat → Nat → Int} (hA : bm_A9 A) (S T : Nat) : bm_b3 (bm_raw A S T) := by
  have f := bm_fs3 T
  have l := bm_ls3 T
  have a1 := hA 0 _ (by omega) f
  have a2 := hA 1 _ (by omega) f
  have a3 := hA 2 _ (by omega) f
  have a4 := hA 0 _ (by omega) l
  have a5 := hA 1 _ (by omega) l
  have a6 := hA 2 _ (by omega) l
  have c1 := bm_cr_b hA (b := 1) (c := 2) (by omega) (by omega)
  have c2 := bm_cr_b hA (b := 2) (c := 0) (by omega) (by omega)
  have c3 := bm_cr_b hA (b := 0) (c := 1) (by omega) (by omega)
  unfold bm_raw bm_b3
  repeat' split
  all_goals dsimp only
  all_goals omega
theorem bm_nv_b {m : bm_V} (hb : bm_b3 m) (h : bm_ok m) : bm_b3 (bm_nv m) := by
  have hP := bm_nv_P h
  obtain ⟨h0, h1, h2, h3⟩ := h
  have hg : (0 : Int) < bm_g3 m := by have := bm_g3_pos h0; omega
  obtain ⟨⟨a1, a2⟩, ⟨b1, b2⟩, c1, c2⟩ := hb
  have key : ∀ a : Int, -648 ≤ a → a ≤ 648 → 0 ≤ bm_e m * a → (bm_e m * a) / (bm_g3 m : Int) ≤ 648 := by
    intro a x y z
    have h1 : (bm_e m * a) / (bm_g3 m : Int) ≤ bm_e m * a := Int.ediv_le_self _ z
    have h2 : bm_e m * a ≤ 648 := by
      unfold bm_e
      split <;> omega
    omega
  have k1 := key _ a1 a2 h1
  have k2 := key _ b1 b2 h2
  have k3 := key _ c1 c2 h3
  have p1 := hP.1
  have p2 := hP.2.1
  have p3 := hP.2.2.1
  unfold bm_b3
  unfold bm_nv at *
  dsimp only at *
  omega
theorem bm_gn_b {A : Nat → Nat → Int} (hA : bm_A9 A) {v : bm_V} (hv : bm_b3 v) {j : Nat} (hj : j < 3) : -17496 ≤ bm_gn A v j ∧ bm_gn A v j ≤ 17496 := by
  obtain ⟨⟨a1, a2⟩, ⟨b1, b2⟩, c1, c2⟩ := hv
  unfold bm_gn
  have h1 := hA 0 j (by omega) hj
  have h2 := hA 1 j (by omega) hj
  have h3 := hA 2 j (by omega) hj
  have k1 := bm_p18 (a := v.1) (b := A 0 j) (s := 648) (t := 9) (by omega) (by omega) (by omega) (by omega)
  have k2 := bm_p18 (a := v.2.1) (b := A 1 j) (s := 648) (t := 9) (by omega) (by omega) (by omega) (by omega)
  have k3 := bm_p18 (a := v.2.2) (b := A 2 j) (s := 648) (t := 9) (by omega) (by omega) (by omega) (by omega)
  omega
/-! sorted lists -/
def bm_S (L : List bm_V) : Prop := List.Pairwise (fun a b => bm_cm a b < 0) L ∧ ∀ v, v ∈ L → bm_P v
theorem bm_S_nil : bm_S [] := ⟨List.Pairwise.nil, fun _ h => by cases h⟩
theorem bm_S_uniq : ∀ {L1 L2 : List bm_V}, bm_S L1 → bm_S L2 → (∀ x, x ∈ L1 ↔ x ∈ L2) → L1 = L2
  | [], [], _, _, _ => rfl
  | [], b :: L2, _, _, h => by
    have := (h b).mpr (List.mem_cons_self ..)
    cases this
  | a :: L1, [], _, _, h => by
    have := (h a).mp (List.mem_cons_self ..)
    cases this
  | a :: L1, b :: L2, h1, h2, h => by
    obtain ⟨s1, p1⟩ := h1
    obtain ⟨s2, p2⟩ := h2
    have r1 : ∀ x, x ∈ L1 → bm_cm a x < 0 := fun x hx => List.rel_of_pairwise_cons s1 hx
    have r2 : ∀ x, x ∈ L2 → bm_cm b x < 0 := fun x hx => List.rel_of_pairwise_cons s2 hx
    have e : a = b := by
      rcases List.mem_cons.mp ((h a).mp (List.mem_cons_self ..)) with z | z
      · exact z
      · rcases List.mem_cons.mp ((h b).mpr (List.mem_cons_self ..)) with y | y
        · exact y.symm
        · have c1 := r2 _ z
          have c2 := r1 _ y
          have := bm_cm_anti a b
          omega
    subst e
    have ir : ∀ L : List bm_V, (∀ x, x ∈ L → bm_cm a x < 0) → ¬ a ∈ L := by
      intro L hL ha
      have := hL a ha
      rw [bm_cm_self] at this
      omega
    have n1 := ir L1 r1
    have n2 := ir L2 r2
    have : L1 = L2 := by
      apply bm_S_uniq ⟨List.Pairwise.of_cons s1, fun v hv => p1 v (List.mem_cons_of_mem _ hv)⟩ ⟨List.Pairwise.of_cons s2, fun v hv => p2 v (List.mem_cons_of_mem _ hv)⟩
      intro x
      constructor
      · intro hx
        rcases List.mem_cons.mp ((h x).mp (List.mem_cons_of_mem _ hx)) with z | z
        · rw [z] at hx
          exact absurd hx n1
        · exact z
      · intro hx
        rcases List.mem_cons.mp ((h x).mpr (List.mem_cons_of_mem _ hx)) with z | z
        · rw [z] at hx
          exact absurd hx n2
        · exact z
    rw [this]
def bm_ins (L : List bm_V) (p : Nat) (v : bm_V) : List bm_V := L.take p ++ v :: L.drop p
theorem bm_ins_mem {L : List bm_V} {p : Nat} {v x : bm_V} : x ∈ bm_ins L p v ↔ x = v ∨ x ∈ L := by
  unfold bm_ins
  rw [List.mem_append, List.mem_cons]
  have : x ∈ L ↔ x ∈ L.take p ∨ x ∈ L.drop p := by
    rw [← List.mem_append, List.take_append_drop]
  rw [this]
  constructor
  · rintro (h | h | h)
    · exact Or.inr (Or.inl h)
    · exact Or.inl h
    · exact Or.inr (Or.inr h)
  · rintro (h | h | h)
    · exact Or.inr (Or.inl h)
    · exact Or.inl h
    · exact Or.inr (Or.inr h)
theorem bm_ins_len {L : List bm_V} {p : Nat} {v : bm_V} (hp : p ≤ L.length) : (bm_ins L p v).length = L.length + 1 := by
  unfold bm_ins
  rw [List.length_append, List.length_cons, List.length_take, List.length_drop]
  omega
theorem bm_ins_lt {L : List bm_V} {p : Nat} {v : bm_V} (hp : p ≤ L.length) {k : Nat} (hk : k < p) : (bm_ins L p v)[k]? = L[k]? := by
  unfold bm_ins
  rw [List.getElem?_append_left (by rw [List.length_take]; omega), List.getElem?_take_of_lt hk]
theorem bm_ins_eq {L : List bm_V} {p : Nat} {v : bm_V} (hp : p ≤ L.length) : (bm_ins L p v)[p]? = some v := by
  unfold bm_ins
  rw [List.getElem?_append_right (by rw [List.length_take]; omega), List.length_take, Nat.min_eq_left hp, Nat.sub_self]
  rfl
theorem bm_ins_gt {L : List bm_V} {p : Nat} {v : bm_V} (hp : p ≤ L.length) {k : Nat} (hk : p ≤ k) : (bm_ins L p v)[k + 1]? = L[k]? := by
  unfold bm_ins
  rw [List.getElem?_append_right (by rw [List.length_take]; omega), List.length_take, Nat.min_eq_left hp, show k + 1 - p = (k - p) + 1 by omega, List.getElem?_cons_succ, List.getElem?_drop, show p + (k - p) = k by omega]
theorem bm_S_ins {L : List bm_V} {p : Nat} {v : bm_V} (hS : bm_S L) (hv : bm_P v) (lo : ∀ k w, k < p → L[k]? = some w → bm_cm w v < 0) (hi : ∀ k w, p ≤ k → L[k]? = some w → bm_cm v w < 0) : bm_S (bm_ins L p v) := by
  obtain ⟨s, pr⟩ := hS
  have lo' : ∀ w, w ∈ L.take p → bm_cm w v < 0 := by
    intro w hw
    obtain ⟨k, hk⟩ := List.mem_iff_getElem?.mp hw
    by_cases z : k < p
    · rw [List.getElem?_take_of_lt z] at hk
      exact lo k w z hk
    · rw [List.getElem?_take_eq_none (by omega)] at hk
      cases hk
  have hi' : ∀ w, w ∈ L.drop p → bm_cm v w < 0 := by
    intro w hw
    obtain ⟨k, hk⟩ := List.mem_iff_getElem?.mp hw
    rw [List.getElem?_drop] at hk
    exact hi (p + k) w (by omega) hk
  constructor
  · unfold bm_ins
    rw [List.pairwise_append]
    refine ⟨List.Pairwise.sublist (List.take_sublist _ _) s, ?_, ?_⟩
    · rw [List.pairwise_cons]
      exact ⟨fun w hw => hi' w hw, List.Pairwise.sublist (List.drop_sublist _ _) s⟩
    · intro a ha b hb
      rcases List.mem_cons.mp hb with rfl | hb
      · exact lo' a ha
      · exact bm_cm_tr (pr a (List.mem_of_mem_take ha)) hv (pr b (List.mem_of_mem_drop hb)) (lo' a ha) (hi' b hb)
  · intro w hw
    rcases bm_ins_mem.mp hw with rfl | hw
    · exact hv
    · exact pr w hw
theorem bm_S_rel {L : List bm_V} (hS : bm_S L) {i j : Nat} {a b : bm_V} (ha : L[i]? = some a) (hb : L[j]? = some b) (hij : i < j) : bm_cm a b < 0 := by
  obtain ⟨hi, rfl⟩ := List.getElem?_eq_some_iff.mp ha
  obtain ⟨hj, rfl⟩ := List.getElem?_eq_some_iff.mp hb
  exact List.pairwise_iff_getElem.mp hS.1 i j hi hj hij
theorem bm_pig : ∀ (L C : List bm_V), L.Nodup → (∀ x, x ∈ L → x ∈ C) → L.length ≤ C.length
  | [], _, _, _ => Nat.zero_le _
  | a :: L, C, hn, h => by
    obtain ⟨h1, h2⟩ := List.nodup_cons.mp hn
    have ha := h a (List.mem_cons_self ..)
    have := bm_pig L (C.erase a) h2 (by
      intro x hx
      have : x ≠ a := by
        rintro rfl
        exact h1 hx
      exact (List.mem_erase_of_ne this).mpr (h x (List.mem_cons_of_mem _ hx)))
    rw [List.length_erase_of_mem ha] at this
    have : 0 < C.length := List.length_pos_of_mem ha
    rw [List.length_cons]
    omega
theorem bm_S_nodup {L : List bm_V} (h : bm_S L) : L.Nodup := by
  refine List.Pairwise.imp ?_ h.1
  intro a b hab e
  rw [e, bm_cm_self] at hab
  omega
def bm_C (A : Nat → Nat → Int) : List bm_V := [(1, 1), (2, 1), (4, 1), (3, 3), (3, 5), (3, 6), (5, 3), (5, 5), (5, 6), (6, 3), (6, 5), (6, 6), (7, 7)].map (fun q : Nat × Nat => bm_nv (bm_raw A q.1 q.2))
theorem bm_fit_C {A : Nat → Nat → Int} {M O S T : Nat} (hS : S < 8) (hT : T < 8) (h : bm_fit M O S T) : bm_nv (bm_raw A S T) ∈ bm_C A := by
  obtain ⟨h0, -, -, hz⟩ := h
  have k : ∀ S T : Fin 8, S.val ≠ 0 → bm_sz S.val = bm_sz T.val → (S.val, T.val) ∈ [(1, 1), (2, 1), (4, 1), (3, 3), (3, 5), (3, 6), (5, 3), (5, 5), (5, 6), (6, 3), (6, 5), (6, 6), (7, 7)] ∨ S.val = 1 ∨ S.val = 2 ∨ S.val = 4 := by decide +kernel
  rcases k ⟨S, hS⟩ ⟨T, hT⟩ h0 hz with h | h | h | h
  · exact List.mem_map.mpr ⟨(S, T), h, rfl⟩
  · dsimp only at h
    subst h
    exact List.mem_map.mpr ⟨(1, 1), by decide, rfl⟩
  · dsimp only at h
    subst h
    exact List.mem_map.mpr ⟨(2, 1), by decide, rfl⟩
  · dsimp only at h
    subst h
    exact List.mem_map.mpr ⟨(4, 1), by decide, rfl⟩
theorem bm_len13 {A : Nat → Nat → Int} {L : List bm_V} (hS : bm_S L) (h : ∀ x, x ∈ L → x ∈ bm_C A) : L.length ≤ 13 := bm_pig L (bm_C A) (bm_S_nodup hS) h
end
section
/-! tables -/
theorem bx_tb : ∀ (m : Fin 8) (c : Fin 3), ((nI m.val >>> (nI c.val &&& 31)) &&& 1) = if m.val.testBit c.val then 1 else 0 := by decide +kernel
theorem bx_bit {A B : Prop} {m c : Nat} (hm : m < 8) (hc : c < 3) (f : m.testBit c = true → A) (g : m.testBit c = false → B) : (((nI m >>> (nI c &&& 31)) &&& 1) = 1 → A) ∧ (¬ ((nI m >>> (nI c &&& 31)) &&& 1) = 1 → B) := by
  have e := bx_tb ⟨m, hm⟩ ⟨c, hc⟩
  dsimp only at e
  rw [e]
  cases h : m.testBit c
  · exact br_f (by simp) (g h)
  · exact br_t (by simp) (f h)
theorem bx_bit0 {A B : Prop} {m c : Nat} (hm : m < 8) (hc : c < 3) (f : m.testBit c = false → A) (g : m.testBit c = true → B) : (((nI m >>> (nI c &&& 31)) &&& 1) = 0 → A) ∧ (¬ ((nI m >>> (nI c &&& 31)) &&& 1) = 0 → B) := by
  have e := bx_tb ⟨m, hm⟩ ⟨c, hc⟩
  dsimp only at e
  rw [e]
  cases h : m.testBit c
  · exact br_t (by simp) (f h)
  · exact br_f (by simp) (g h)
theorem bx_sh : ∀ c : Fin 3, (1 : Int32) <<< (nI c.val &&& 31) = nI (2 ^ c.val) := by decide +kernel
theorem bx_or8 : ∀ a b : Fin 8, nI a.val ||| nI b.val = nI (a.val ||| b.val) := by decide +kernel
theorem bx_or {a b : Nat} (ha : a < 8) (hb : b < 8) : nI a ||| nI b = nI (a ||| b) := bx_or8 ⟨a, ha⟩ ⟨b, hb⟩
theorem bx_orl {a b : Nat} (ha : a < 8) (hb : b < 8) : a ||| b < 8 := Nat.or_lt_two_pow (n := 3) ha hb
theorem bx_bits : ∀ z : Fin 8, ((nI z.val &&& 1) + ((nI z.val >>> ((1 : Int32) &&& 31)) &&& 1)) + ((nI z.val >>> ((2 : Int32) &&& 31)) &&& 1) = nI (bm_sz z.val) := by decide +kernel
theorem bx_1s {s : Nat} (hs : s < 2) : (1 : Int32) - nI s = nI (1 - s) := by
  have h : s = 0 ∨ s = 1 := by omega
  rcases h with rfl | rfl <;> rfl
theorem bx_i (w z : Nat) : nI w * 9 + nI z = nI (9 * w + z) := by
  show nI w * nI 9 + nI z = _
  rw [pk_mul, nI_add, Nat.mul_comm]
theorem bx_3 (i c : Nat) : 3 * nI i + nI c = nI (3 * i + c) := by
  show nI 3 * nI i + nI c = _
  rw [pk_mul, nI_add]
/-! the tables of payments -/
def bm_ix (w s i j : Nat) : Nat := 9 * w + (if s = 0 then 3 * i + j else 3 * j + i)
def bm_A (p : Nat → Int32) (w s : Nat) (i j : Nat) : Int := (p (bm_ix w s i j)).toInt
def bm_p9 (p : Nat → Int32) : Prop := ∀ j, -9 ≤ (p j).toInt ∧ (p j).toInt ≤ 9
theorem bm_Ao (p : Nat → Int32) (w s i j : Nat) : p (bm_ix w s i j) = bm_i (bm_A p w s i j) := bm_o _
theorem bm_A9p {p : Nat → Int32} (h : bm_p9 p) (w s : Nat) : bm_A9 (bm_A p w s) := fun _ _ _ _ => h _
theorem bm_ix18 {w s i j : Nat} (hw : w < 2) (hi : i < 3) (hj : j < 3) : bm_ix w s i j < 18 := by
  unfold bm_ix
  split <;> omega
/-- an array of three holds a triple -/
def bm_H (a : Nat → Int32) (v : bm_V) : Prop := a 0 = bm_i v.1 ∧ a 1 = bm_i v.2.1 ∧ a 2 = bm_i v.2.2
theorem bm_H_at {a : Nat → Int32} {v : bm_V} (h : bm_H a v) {i : Nat} (hi : i < 3) : a i = bm_i (bm_at v i) := by
  have hi3 : i = 0 ∨ i = 1 ∨ i = 2 := by omega
  rcases hi3 with rfl | rfl | rfl
  · exact h.1
  · exact h.2.1
  · exact h.2.2
section
variable {fr fc fm ft fb : Int32} {ap ae am ac aq aw ar ah : Nat → Int32}
theorem bx_gain {post : Int32 → Prop} {w s c : Nat} {v : bm_V} (hw : w < 2) (hc : c < 3) (hs : s < 2) (hm : bm_H am v) (h : post (bm_i (bm_gn (bm_A ap w s) v c))) : wpX_gain post (fr, fc, fm, ft, fb, ap, ae, am, ac, aq, aw, ar, ah) (nI w) (nI s) (nI c) := by
  have step : ∀ (n i : Nat) (x : Int32), i < 3 → wX_gain_6 post (nI w) (nI s) (nI c) fr fc fm ft fb ap ae am ac aq aw ar ah n (x + am i * ap (bm_ix w s i c)) (nI (i + 1)) → wX_gain_6 post (nI w) (nI s) (nI c) fr fc fm ft fb ap ae am ac aq aw ar ah (n + 1) x (nI i) := by
    intro n i x hi hk
    refine br_f (nI_ge (b := 3) hi (by decide)) ?_
    have st : ∀ z : Nat, bm_ix w s i c = 9 * w + z → wX_gain_31 post (wX_gain_6 post (nI w) (nI s) (nI c) fr fc fm ft fb ap ae am ac aq aw ar ah n) (nI w) (nI s) (nI c) x (nI i) (nI z) fr fc fm ft fb ap ae am ac aq aw ar ah := by
      intro z hz
      have hlt : 9 * w + z < 18 := by rw [← hz]; exact bm_ix18 hw hi hc
      refine ⟨vp_in_nI hi (by decide), pk_in (9 * w + z) 18 hlt (bx_i w z), ?_⟩
      intro y ey k ek
      rw [pk_cl (9 * w + z) (bx_i w z) (by omega), nI_clamp (by omega), ← hz] at ey
      rw [nI_1] at ek
      subst ey ek
      exact hk
    have h2 : s = 0 ∨ s = 1 := by omega
    rcases h2 with rfl | rfl
    · refine br_t rfl ?_
      rw [bx_3]
      exact st _ rfl
    · refine br_f (by decide) ?_
      rw [bx_3]
      exact st _ rfl
  refine ⟨4, step 3 0 0 (by omega) (step 2 1 _ (by omega) (step 1 2 _ (by omega) (br_t (by decide) ?_)))⟩
  rw [hm.1, hm.2.1, hm.2.2, bm_Ao ap, bm_Ao ap, bm_Ao ap, bm_mul, bm_mul, bm_mul, ← bm_0, bm_add, bm_add, bm_add]
  have e : 0 + v.1 * bm_A ap w s 0 c + v.2.1 * bm_A ap w s 1 c + v.2.2 * bm_A ap w s 2 c = bm_gn (bm_A ap w s) v c := by
    unfold bm_gn
    omega
  rw [e]
  exact h
/-- the replies found so far -/
def bm_RI (A : Nat → Nat → Int) (O : Nat) (v : bm_V) (n f : Nat) (m : Int) : Prop := f < 8 ∧ (∀ j, j < 3 → (f.testBit j = true ↔ j < n ∧ O.testBit j = true ∧ bm_gn A v j = m)) ∧ (∀ j, j < n → O.testBit j = true → bm_gn A v j ≤ m) ∧ (f = 0 → ∀ j, j < n → O.testBit j = false)
theorem bm_RI0 (A : Nat → Nat → Int) (O : Nat) (v : bm_V) : bm_RI A O v 0 0 0 := ⟨by omega, fun j _ => ⟨fun h => by simp at h, fun h => absurd h.1 (by omega)⟩, fun j hj => absurd hj (by omega), fun _ j hj => absurd hj (by omega)⟩
theorem bm_8e {a b : Nat} (ha : a < 8) (hb : b < 8) (h : ∀ j, j < 3 → a.testBit j = b.testBit j) : a = b := by
  apply Nat.eq_of_testBit_eq
  intro i
  rcases Nat.lt_or_ge i 3 with hi | hi
  · exact h i hi
  · rw [Nat.testBit_lt_two_pow (Nat.lt_of_lt_of_le ha (Nat.pow_le_pow_right (n := 2) (by decide) hi)), Nat.testBit_lt_two_pow (Nat.lt_of_lt_of_le hb (Nat.pow_le_pow_right (n := 2) (by decide) hi))]
theorem bm_2t {c j : Nat} : (2 ^ c).testBit j = true ↔ j = c := by
  rw [Nat.testBit_two_pow]
  simp
  exact ⟨fun h => h.symm, fun h => h.symm⟩
theorem bm_28 {c : Nat} (hc : c < 3) : 2 ^ c < 8 := by
  have h : c = 0 ∨ c = 1 ∨ c = 2 := by omega
  rcases h with rfl | rfl | rfl <;> decide
theorem bm_RIs {A : Nat → Nat → Int} {O : Nat} {v : bm_V} {n f : Nat} {m : Int} (h : bm_RI A O v n f m) (hn : n < 3) (hO : O.testBit n = false) : bm_RI A O v (n + 1) f m := by
  obtain ⟨h1, h2, h3, h4⟩ := h
  have key : ∀ j, j < n + 1 → O.testBit j = true → j < n := by
    intro j hj hOj
    rcases Nat.lt_or_ge j n with z | z
    · exact z
    · have : j = n := by omega
      rw [this, hO] at hOj
      cases hOj
  refine ⟨h1, fun j hj => ?_, fun j hj hOj => h3 j (key j hj hOj) hOj, fun hf j hj => ?_⟩
  · rw [h2 j hj]
    exact ⟨fun ⟨a, b⟩ => ⟨by omega, b⟩, fun ⟨a, b⟩ => ⟨key j a b.1, b⟩⟩
  · cases e : O.testBit j
    · rfl
    · have := h4 hf j (key j hj e)
      rw [this] at e
      cases e
theorem bm_RIn {A : Nat → Nat → Int} {O : Nat} {v : bm_V} {n f : Nat} {m : Int} (h : bm_RI A O v n f m) (hn : n < 3) (hO : O.testBit n = true) (hg : f = 0 ∨ m < bm_gn A v n) : bm_RI A O v (n + 1) (2 ^ n) (bm_gn A v n) := by
  obtain ⟨h1, h2, h3, h4⟩ := h
  have lt : ∀ j, j < n → O.testBit j = true → bm_gn A v j < bm_gn A v n := by
    intro j hj hOj
    rcases hg with z | z
    · have := h4 z j hj
      rw [this] at hOj
      cases hOj
    · have := h3 j hj hOj
      omega
  refine ⟨bm_28 hn, fun j hj => ?_, fun j hj hOj => ?_, fun hf => ?_⟩
  · rw [bm_2t]
    constructor
    · rintro rfl
      exact ⟨by omega, hO, rfl⟩
    · rintro ⟨a, b, c⟩
      rcases Nat.lt_or_ge j n with z | z
      · have := lt j z b
        omega
      · omega
  · rcases Nat.lt_or_ge j n with z | z
    · have := lt j z hOj
      omega
    · rw [show j = n by omega]
      exact Int.le_refl _
  · have := Nat.two_pow_pos n
    omega
theorem bm_RIe {A : Nat → Nat → Int} {O : Nat} {v : bm_V} {n f : Nat} {m : Int} (h : bm_RI A O v n f m) (hn : n < 3) (hO : O.testBit n = true) (hg : bm_gn A v n = m) : bm_RI A O v (n + 1) (f ||| 2 ^ n) m := by
  obtain ⟨h1, h2, h3, h4⟩ := h
  refine ⟨bx_orl h1 (bm_28 hn), fun j hj => ?_, fun j hj hOj => ?_, fun hf => ?_⟩
  · rw [Nat.testBit_or, Bool.or_eq_true, bm_2t, h2 j hj]
    constructor
    · rintro (⟨a, b, c⟩ | rfl)
      · exact ⟨by omega, b, c⟩
      · exact ⟨by omega, hO, hg⟩
    · rintro ⟨a, b, c⟩
      rcases Nat.lt_or_ge j n with z | z
      · exact Or.inl ⟨z, b, c⟩
      · exact Or.inr (by omega)
  · rcases Nat.lt_or_ge j n with z | z
    · exact h3 j z hOj
    · rw [show j = n by omega, hg]
      exact Int.le_refl _
  · have : (f ||| 2 ^ n).testBit n = true := by rw [Nat.testBit_or, Bool.or_eq_true]; exact Or.inr (bm_2t.mpr rfl)
    rw [hf] at this
    simp at this
theorem bm_RIl {A : Nat → Nat → Int} {O : Nat} {v : bm_V} {n f : Nat} {m : Int} (h : bm_RI A O v n f m) (hn : n < 3) (hO : O.testBit n = true) (hf : f ≠ 0) (hg : bm_gn A v n < m) : bm_RI A O v (n + 1) f m := by
  obtain ⟨h1, h2, h3, h4⟩ := h
  refine ⟨h1, fun j hj => ?_, fun j hj hOj => ?_, fun z => absurd z hf⟩
  · rw [h2 j hj]
    refine ⟨fun ⟨a, b⟩ => ⟨by omega, b⟩, fun ⟨a, b, c⟩ => ⟨?_, b, c⟩⟩
    rcases Nat.lt_or_ge j n with z | z
    · exact z
    · rw [show j = n by omega] at c
      omega
  · rcases Nat.lt_or_ge j n with z | z
    · exact h3 j z hOj
    · rw [show j = n by omega]
      omega
theorem bm_RI3 {A : Nat → Nat → Int} {O : Nat} {v : bm_V} {f : Nat} {m : Int} (hb : ∀ j, j < 3 → -1000000 < bm_gn A v j) (h : bm_RI A O v 3 f m) : f = bm_rp A O v := by
  obtain ⟨h1, h2, h3, h4⟩ := h
  apply bm_8e h1 (bm_rp8 _ _ _)
  intro j hj
  rw [Bool.eq_iff_iff, h2 j hj, bm_rp_t hj]
  by_cases z : f = 0
  · have := h4 z j hj
    rw [this]
    simp
  · have hM : bm_M A O v m := by
      refine ⟨h3, ?_⟩
      rcases Classical.em (∃ j, j < 3 ∧ f.testBit j = true) with ⟨i, hi, hf⟩ | hne
      · obtain ⟨a, b, c⟩ := (h2 i hi).mp hf
        exact ⟨i, hi, b, c⟩
      · exfalso
        apply z
        apply bm_8e h1 (by omega)
        intro i hi
        rw [Nat.zero_testBit]
        cases e : f.testBit i
        · rfl
        · exact absurd ⟨i, hi, e⟩ hne
    have hO : ∃ j, j < 3 ∧ O.testBit j = true := by
      obtain ⟨j, a, b, c⟩ := hM.2
      exact ⟨j, a, b⟩
    rw [bm_M_u hM (bm_mx_M hb hO)]
    exact ⟨fun ⟨_, b⟩ => b, fun b => ⟨hj, b⟩⟩
theorem bx_rtm {post : Int32 → Prop} {s O : Nat} {v : bm_V} (hs : s < 2) (hO : O < 8) (hp : bm_p9 ap) (hv : bm_b3 v) (hm : bm_H am v) (h : post (nI (bm_rp (bm_A ap (1 - s) s) O v))) : wpX_repliesToMix post (fr, fc, fm, ft, fb, ap, ae, am, ac, aq, aw, ar, ah) (nI s) (nI O) := by
  have gb : ∀ j, j < 3 → -17496 ≤ bm_gn (bm_A ap (1 - s) s) v j ∧ bm_gn (bm_A ap (1 - s) s) v j ≤ 17496 := fun j hj => bm_gn_b (bm_A9p hp _ _) hv hj
  have step : ∀ (n c f : Nat) (m : Int), c < 3 → -17496 ≤ m → m ≤ 17496 → bm_RI (bm_A ap (1 - s) s) O v c f m → (∀ f' m', -17496 ≤ m' → m' ≤ 17496 → bm_RI (bm_A ap (1 - s) s) O v (c + 1) f' m' → wX_repliesToMix_8 post (nI s) (nI O) fr fc fm ft fb ap ae am ac aq aw ar ah n (nI f') (bm_i m') (nI (c + 1))) → wX_repliesToMix_8 post (nI s) (nI O) fr fc fm ft fb ap ae am ac aq aw ar ah (n + 1) (nI f) (bm_i m) (nI c) := by
    intro n c f m hc hm1 hm2 hI hk
    refine br_f (nI_ge (b := 3) hc (by decide)) (bx_bit hO hc (fun hOc => ?_) (fun hOc => ?_))
    · rw [bx_1s hs]
      refine bx_gain (by omega) hc hs hm ?_
      have g := gb c hc
      have new : (f = 0 ∨ m < bm_gn (bm_A ap (1 - s) s) v c) → wX_repliesToMix_47 post (wX_repliesToMix_8 post (nI s) (nI O) fr fc fm ft fb ap ae am ac aq aw ar ah n) (nI s) (nI O) (nI c) (bm_i (bm_gn (bm_A ap (1 - s) s) v c)) fr fc fm ft fb ap ae am ac aq aw ar ah := by
        intro hh y ey k ek
        rw [bx_sh ⟨c, hc⟩] at ey
        rw [nI_1] at ek
        subst ey ek
        exact hk _ _ g.1 g.2 (bm_RIn hI hc hOc hh)
      refine pk_eq f 0 (fun hf => new (Or.inl hf)) (fun hf => ?_) rfl rfl (by have := hI.1; omega) (by omega)
      rw [bm_le (by omega) (by omega) (by omega) (by omega), bm_eq (by omega) (by omega) (by omega) (by omega)]
      refine br_c (fun hle => br_c (fun he => ?_) (fun hne => ?_)) (fun hnle => new (Or.inr (by omega)))
      · intro y ey k ek
        rw [bx_sh ⟨c, hc⟩, bx_or hI.1 (bm_28 hc)] at ey
        rw [nI_1] at ek
        subst ey ek
        exact hk _ _ hm1 hm2 (bm_RIe hI hc hOc he)
      · intro k ek
        rw [nI_1] at ek
        subst ek
        exact hk _ _ hm1 hm2 (bm_RIl hI hc hOc hf (by omega))
    · intro k ek
      rw [nI_1] at ek
      subst ek
      exact hk _ _ hm1 hm2 (bm_RIs hI hc hOc)
  refine ⟨4, step 3 0 0 0 (by omega) (by omega) (by omega) (bm_RI0 _ _ _) (fun f1 m1 a1 b1 I1 => step 2 1 f1 m1 (by omega) a1 b1 I1 (fun f2 m2 a2 b2 I2 => step 1 2 f2 m2 (by omega) a2 b2 I2 (fun f3 m3 a3 b3 I3 => br_t (by decide) ?_)))⟩
  rw [bm_RI3 (fun j hj => by have := gb j hj; omega) I3]
  exact h
end
end
section
theorem bm_gcdS (g h : Nat) : Nat.gcd g h = Nat.gcd h (g % h) := by
  rw [Nat.gcd_comm g h, Nat.gcd_rec h g, Nat.gcd_comm]
theorem bx_cd25 {post : Int32 → Prop} : ∀ n g h t : Nat, bm_En n g h → g < 2 ^ 31 → h < 2 ^ 31 → t + n ≤ 999 → post (nI (Nat.gcd g h)) → wX_commonDivisor_25 post (n + 1) (nI g) (nI h) (nI t) := by
  intro n
  induction n with
  | zero =>
    intro g h t e hg hh ht hp
    have h0 := bm_En0 e
    subst h0
    rw [Nat.gcd_zero_right] at hp
    exact br_f (nI_ge (b := 1000) (by omega) (by decide)) (br_t rfl hp)
  | succ n ih =>
    intro g h t e hg hh ht hp
    refine br_f (nI_ge (b := 1000) (by omega) (by decide)) ?_
    by_cases z : h = 0
    · subst z
      rw [Nat.gcd_zero_right] at hp
      exact br_t rfl hp
    · have hn : ¬ nI h = 0 := nI_ne0 (by omega) hh
      refine br_f hn ⟨hn, ?_⟩
      intro y ey k ek
      rw [pk_rem hg (by omega) hh] at ey
      rw [nI_1] at ek
      subst ey ek
      have hr : g % h < h := Nat.mod_lt _ (by omega)
      refine ih h (g % h) (t + 1) (bm_EnS e (by omega)) hh (by omega) (by omega) ?_
      rw [← bm_gcdS]
      exact hp
theorem bm_abs {a : Int} (h : 0 ≤ a) : bm_i a = nI a.natAbs := by
  rw [bm_nI]
  congr 1
  omega
theorem bm_absn {a : Int} (h : a < 0) : -bm_i a = nI a.natAbs := by
  rw [bm_nI, bm_neg]
  congr 1
  omega
theorem bx_cd {post : Int32 → Prop} {a b : Int} (ha : a.natAbs < 2147483648) (hb : b.natAbs < 165580141) (h : post (nI (Nat.gcd a.natAbs b.natAbs))) : wpX_commonDivisor post (bm_i a) (bm_i b) := by
  have go : wX_commonDivisor_10 post (bm_i b) (nI a.natAbs) := by
    have k := bx_cd25 (post := post) 40 a.natAbs b.natAbs 0 (bm_En40 hb) ha (by omega) (by omega) h
    rcases Int.lt_or_le b 0 with z | z
    · refine br_f ?_ ?_
      · rw [← bm_0, bm_le (by omega) (by omega) (by omega) (by omega)]
        omega
      · intro y ey
        rw [bm_absn z] at ey
        subst ey
        exact ⟨41, k⟩
    · refine br_t ?_ ?_
      · rw [← bm_0, bm_le (by omega) (by omega) (by omega) (by omega)]
        omega
      · rw [bm_abs z]
        exact ⟨41, k⟩
  rcases Int.lt_or_le a 0 with z | z
  · refine br_f ?_ ?_
    · rw [← bm_0, bm_le (by omega) (by omega) (by omega) (by omega)]
      omega
    · rw [bm_absn z]
      exact go
  · refine br_t ?_ ?_
    · rw [← bm_0, bm_le (by omega) (by omega) (by omega) (by omega)]
      omega
    · rw [bm_abs z]
      exact go
/-! the equations -/
def bm_put (a : Nat → Int32) (f : Nat) (r : bm_V) : Nat → Int32 := upd (upd (upd a f (bm_i r.1)) (f + 1) (bm_i r.2.1)) (f + 2) (bm_i r.2.2)
def bm_un (c : Nat) : bm_V := (if 0 = c then 1 else 0, if 1 = c then 1 else 0, if 2 = c then 1 else 0)
def bm_df (A : Nat → Nat → Int) (c g : Nat) : bm_V := (A 0 c - A 0 g, A 1 c - A 1 g, A 2 c - A 2 g)
def bm_fi : Option Nat → Int32
  | none => -1
  | some g => nI g
def bm_w1 (z c : Nat) (q : Nat × (Nat → Int32)) : Nat × (Nat → Int32) := if z.testBit c = true ∧ q.1 < 6 then (q.1 + 3, bm_put q.2 q.1 (bm_un c)) else q
def bm_w2 (A : Nat → Nat → Int) (a c : Nat) (f : Nat) (e : Nat → Int32) : Option Nat → Nat × Option Nat × (Nat → Int32)
  | none => if a.testBit c = true then (f, some c, e) else (f, none, e)
  | some g => if a.testBit c = true ∧ f < 6 then (f + 3, some g, bm_put e f (bm_df A c g)) else (f, some g, e)
def bm_w (A : Nat → Nat → Int) (z a c : Nat) (q : Nat × Option Nat × (Nat → Int32)) : Nat × Option Nat × (Nat → Int32) := bm_w2 A a c (bm_w1 z c (q.1, q.2.2)).1 (bm_w1 z c (q.1, q.2.2)).2 q.2.1
def bm_wt (A : Nat → Nat → Int) (z a : Nat) (e : Nat → Int32) : Nat × Option Nat × (Nat → Int32) := bm_w A z a 2 (bm_w A z a 1 (bm_w A z a 0 (0, none, e)))
section
variable {fr fc fm ft fb : Int32} {ap ae am ac aq aw ar ah : Nat → Int32}
theorem bx_35 {post : SX → Prop} {J9 : Int32 → Int32 → Int32 → (Nat → Int32) → (Nat → Int32) → (Nat → Int32) → (Nat → Int32) → (Nat → Int32) → (Nat → Int32) → (Nat → Int32) → (Nat → Int32) → Prop} {x1 x2 x3 x4 x6 : Int32} {f c : Nat} (hf : f ≤ 3) (hc : c < 3)
    (h : wX_writeEquations_72 post J9 x1 x2 x3 x4 (nI (f + 3)) x6 (nI c) fr fc fm ft fb ap (bm_put ae f (bm_un c)) am ac aq aw ar ah) : ∃ n, wX_writeEquations_35 post J9 x1 x2 x3 x4 (nI f) x6 (nI c) fr fc fm ft fb n 0 ap ae am ac aq aw ar ah := by
  have step : ∀ (n i : Nat) (e : Nat → Int32), i < 3 → wX_writeEquations_35 post J9 x1 x2 x3 x4 (nI f) x6 (nI c) fr fc fm ft fb n (nI (i + 1)) ap (upd e (f + i) (bm_i (if i = c then 1 else 0))) am ac aq aw ar ah → wX_writeEquations_35 post J9 x1 x2 x3 x4 (nI f) x6 (nI c) fr fc fm ft fb (n + 1) (nI i) ap e am ac aq aw ar ah := by
    intro n i e hi hk
    refine br_f (nI_ge (b := 3) hi (by decide)) (pk_eq i c (fun z => ?_) (fun z => ?_) rfl rfl (by omega) (by omega))
    · refine ⟨pk_in (f + i) 6 (by omega) (nI_add f i), ?_⟩
      intro y ey k ek
      rw [nI_add, nI_clamp (by omega)] at ey
      rw [nI_1] at ek
      subst ey ek
      rw [if_pos z] at hk
      exact hk
    · refine ⟨pk_in (f + i) 6 (by omega) (nI_add f i), ?_⟩
      intro y ey k ek
      rw [nI_add, nI_clamp (by omega)] at ey
      rw [nI_1] at ek
      subst ey ek
      rw [if_neg z] at hk
      exact hk
  refine ⟨4, step 3 0 _ (by omega) (step 2 1 _ (by omega) (step 1 2 _ (by omega) (br_t (by decide) ?_)))⟩
  intro y ey
  rw [show nI f + 3 = nI (f + 3) from nI_add f 3] at ey
  subst ey
  exact h
theorem bx_117 {post : SX → Prop} {J9 : Int32 → Int32 → Int32 → (Nat → Int32) → (Nat → Int32) → (Nat → Int32) → (Nat → Int32) → (Nat → Int32) → (Nat → Int32) → (Nat → Int32) → (Nat → Int32) → Prop} {x3 x4 : Int32} {s w f c g : Nat} (hs : s < 2) (hw : w < 2) (hf : f ≤ 3) (hc : c < 3) (hg : g < 3)
    (h : J9 (nI (f + 3)) (nI g) (nI (c + 1)) ap (bm_put ae f (bm_df (bm_A ap w s) c g)) am ac aq aw ar ah) : ∃ n, wX_writeEquations_117 post J9 (nI s) (nI w) x3 x4 (nI f) (nI g) (nI c) fr fc fm ft fb n 0 ap ae am ac aq aw ar ah := by
  have step : ∀ (n i : Nat) (e : Nat → Int32), i < 3 → wX_writeEquations_117 post J9 (nI s) (nI w) x3 x4 (nI f) (nI g) (nI c) fr fc fm ft fb n (nI (i + 1)) ap (upd e (f + i) (bm_i (bm_A ap w s i c - bm_A ap w s i g))) am ac aq aw ar ah → wX_writeEquations_117 post J9 (nI s) (nI w) x3 x4 (nI f) (nI g) (nI c) fr fc fm ft fb (n + 1) (nI i) ap e am ac aq aw ar ah := by
    intro n i e hi hk
    have st : ∀ y z : Nat, bm_ix w s i c = 9 * w + y → bm_ix w s i g = 9 * w + z → wX_writeEquations_167 post J9 (wX_writeEquations_117 post J9 (nI s) (nI w) x3 x4 (nI f) (nI g) (nI c) fr fc fm ft fb n) (nI s) (nI w) x3 x4 (nI f) (nI g) (nI c) (nI i) (nI y) (nI z) fr fc fm ft fb ap e am ac aq aw ar ah := by
      intro y z hy hz
      have l1 : 9 * w + y < 18 := by rw [← hy]; exact bm_ix18 hw hi hc
      have l2 : 9 * w + z < 18 := by rw [← hz]; exact bm_ix18 hw hi hg
      refine ⟨pk_in (9 * w + y) 18 l1 (bx_i w y), pk_in (9 * w + z) 18 l2 (bx_i w z), pk_in (f + i) 6 (by omega) (nI_add f i), ?_⟩
      intro e' ee k ek
      rw [nI_add, nI_clamp (by omega), pk_cl (9 * w + y) (bx_i w y) (by omega), pk_cl (9 * w + z) (bx_i w z) (by omega), ← hy, ← hz, bm_Ao ap, bm_Ao ap, bm_sub] at ee
      rw [nI_1] at ek
      subst ee ek
      exact hk
    refine br_f (nI_ge (b := 3) hi (by decide)) ?_
    have h2 : s = 0 ∨ s = 1 := by omega
    rcases h2 with rfl | rfl
    · refine br_t rfl (br_t rfl ?_)
      rw [bx_3, bx_3]
      exact st _ _ rfl rfl
    · refine br_f (by decide) (br_f (by decide) ?_)
      rw [bx_3, bx_3]
      exact st _ _ rfl rfl
  refine ⟨4, step 3 0 _ (by omega) (step 2 1 _ (by omega) (step 1 2 _ (by omega) (br_t (by decide) ?_)))⟩
  intro y ey k ek
  rw [show nI f + 3 = nI (f + 3) from nI_add f 3] at ey
  rw [nI_1] at ek
  subst ey ek
  exact h
theorem bx_w1ok {z c f : Nat} {e : Nat → Int32} (h : f = 0 ∨ f = 3 ∨ f = 6) : (bm_w1 z c (f, e)).1 = 0 ∨ (bm_w1 z c (f, e)).1 = 3 ∨ (bm_w1 z c (f, e)).1 = 6 := by
  unfold bm_w1
  split
  · dsimp only at *
    omega
  · exact h
theorem bx_w2ok {A : Nat → Nat → Int} {a c f : Nat} {e : Nat → Int32} {g : Option Nat} (hc : c < 3) (h : f = 0 ∨ f = 3 ∨ f = 6) (hg : ∀ y, g = some y → y < 3) : ((bm_w2 A a c f e g).1 = 0 ∨ (bm_w2 A a c f e g).1 = 3 ∨ (bm_w2 A a c f e g).1 = 6) ∧ ∀ y, (bm_w2 A a c f e g).2.1 = some y → y < 3 := by
  cases g with
  | none =>
    unfold bm_w2
    dsimp only
    split
    · refine ⟨h, fun y hy => ?_⟩
      cases hy
      exact hc
    · exact ⟨h, fun y hy => by cases hy⟩
  | some g =>
    unfold bm_w2
    dsimp only
    split
    · refine ⟨by dsimp only; omega, fun y hy => ?_⟩
      cases hy
      exact hg _ rfl
    · exact ⟨h, fun y hy => by cases hy; exact hg _ rfl⟩
theorem bx_72 {post : SX → Prop} {J9 : Int32 → Int32 → Int32 → (Nat → Int32) → (Nat → Int32) → (Nat → Int32) → (Nat → Int32) → (Nat → Int32) → (Nat → Int32) → (Nat → Int32) → (Nat → Int32) → Prop} {x3 : Int32} {s w f c a : Nat} {g : Option Nat} (hs : s < 2) (hw : w < 2) (ha : a < 8) (hf : f = 0 ∨ f = 3 ∨ f = 6) (hc : c < 3) (hg : ∀ y, g = some y → y < 3)
    (h : J9 (nI (bm_w2 (bm_A ap w s) a c f ae g).1) (bm_fi (bm_w2 (bm_A ap w s) a c f ae g).2.1) (nI (c + 1)) ap ((bm_w2 (bm_A ap w s) a c f ae g).2.2) am ac aq aw ar ah) : wX_writeEquations_72 post J9 (nI s) (nI w) x3 (nI a) (nI f) (bm_fi g) (nI c) fr fc fm ft fb ap ae am ac aq aw ar ah := by
  cases g with
  | none =>
    refine bx_bit ha hc (fun hb => br_t rfl ?_) (fun hb => ?_)
    · intro k ek
      rw [nI_1] at ek
      subst ek
      unfold bm_w2 at h
      rw [if_pos hb] at h
      exact h
    · refine bx_bit ha hc (fun hb' => by rw [hb] at hb'; cases hb') (fun _ => ?_)
      intro k ek
      rw [nI_1] at ek
      subst ek
      unfold bm_w2 at h
      rw [if_neg (by rw [hb]; decide)] at h
      exact h
  | some g =>
    have hg3 := hg g rfl
    have go : wX_writeEquations_96 post J9 (nI s) (nI w) x3 (nI a) (nI f) (nI g) (nI c) fr fc fm ft fb ap ae am ac aq aw ar ah := by
      unfold bm_w2 at h
      dsimp only at h
      refine bx_bit ha hc (fun hb => pk_le 6 f (fun z => ?_) (fun z => ?_) rfl rfl (by omega) (by omega)) (fun hb => ?_)
      · intro k ek
        rw [nI_1] at ek
        subst ek
        rw [if_neg (by omega)] at h
        exact h
      · rw [if_pos ⟨hb, z⟩] at h
        exact bx_117 hs hw (by omega) hc hg3 h
      · intro k ek
        rw [nI_1] at ek
        subst ek
        rw [if_neg (by rw [hb]; rintro ⟨q, -⟩; cases q)] at h
        exact h
    refine bx_bit ha hc (fun hb => br_f ?_ go) (fun hb => go)
    have : ∀ g : Fin 3, ¬ nI g.val = -1 := by decide +kernel
    exact this ⟨g, hg3⟩
theorem bx_9 {post : SX → Prop} {s w c a z : Nat} {q : Nat × Option Nat × (Nat → Int32)} (n : Nat) (hs : s < 2) (hw : w < 2) (ha : a < 8) (hz : z < 8) (hf : q.1 = 0 ∨ q.1 = 3 ∨ q.1 = 6) (hc : c < 3) (hg : ∀ y, q.2.1 = some y → y < 3)
    (h : wX_writeEquations_9 post (nI s) (nI w) (nI z) (nI a) fr fc fm ft fb n (nI (bm_w (bm_A ap w s) z a c q).1) (bm_fi (bm_w (bm_A ap w s) z a c q).2.1) (nI (c + 1)) ap ((bm_w (bm_A ap w s) z a c q).2.2) am ac aq aw ar ah) : wX_writeEquations_9 post (nI s) (nI w) (nI z) (nI a) fr fc fm ft fb (n + 1) (nI q.1) (bm_fi q.2.1) (nI c) ap q.2.2 am ac aq aw ar ah := by
  obtain ⟨f, g, e⟩ := q
  unfold bm_w at h
  dsimp only at h hf hg ⊢
  refine br_f (nI_ge (b := 3) hc (by decide)) (bx_bit hz hc (fun hb => pk_le 6 f (fun y => ?_) (fun y => ?_) rfl rfl (by omega) (by omega)) (fun hb => ?_))
  · have e1 : bm_w1 z c (f, e) = (f, e) := by unfold bm_w1; rw [if_neg (by dsimp only; omega)]
    rw [e1] at h
    exact bx_72 hs hw ha hf hc hg h
  · have e1 : bm_w1 z c (f, e) = (f + 3, bm_put e f (bm_un c)) := by unfold bm_w1; rw [if_pos ⟨hb, y⟩]
    rw [e1] at h
    exact bx_35 (by omega) hc (bx_72 hs hw ha (by omega) hc hg h)
  · have e1 : bm_w1 z c (f, e) = (f, e) := by unfold bm_w1; rw [if_neg (by rw [hb]; rintro ⟨q, -⟩; cases q)]
    rw [e1] at h
    exact bx_72 hs hw ha hf hc hg h
theorem bx_wok {A : Nat → Nat → Int} {z a c : Nat} {q : Nat × Option Nat × (Nat → Int32)} (hf : q.1 = 0 ∨ q.1 = 3 ∨ q.1 = 6) (hc : c < 3) (hg : ∀ y, q.2.1 = some y → y < 3) : ((bm_w A z a c q).1 = 0 ∨ (bm_w A z a c q).1 = 3 ∨ (bm_w A z a c q).1 = 6) ∧ ∀ y, (bm_w A z a c q).2.1 = some y → y < 3 := bx_w2ok hc (bx_w1ok hf) hg
theorem bx_we {post : SX → Prop} {s w a z : Nat} (hs : s < 2) (hw : w < 2) (ha : a < 8) (hz : z < 8) (h : post (fr, fc, fm, ft, fb, ap, (bm_wt (bm_A ap w s) z a ae).2.2, am, ac, aq, aw, ar, ah)) : wpX_writeEquations post (fr, fc, fm, ft, fb, ap, ae, am, ac, aq, aw, ar, ah) (nI s) (nI w) (nI z) (nI a) := by
  have o0 : ((0, none, ae) : Nat × Option Nat × (Nat → Int32)).1 = 0 ∨ ((0, none, ae) : Nat × Option Nat × (Nat → Int32)).1 = 3 ∨ ((0, none, ae) : Nat × Option Nat × (Nat → Int32)).1 = 6 := Or.inl rfl
  have g0 : ∀ y, ((0, none, ae) : Nat × Option Nat × (Nat → Int32)).2.1 = some y → y < 3 := fun y hy => by cases hy
  have k1 := bx_wok (A := bm_A ap w s) (z := z) (a := a) (c := 0) o0 (by omega) g0
  have k2 := bx_wok (A := bm_A ap w s) (z := z) (a := a) (c := 1) k1.1 (by omega) k1.2
  refine ⟨4, bx_9 (c := 0) (q := (0, none, ae)) 3 hs hw ha hz o0 (by omega) g0 (bx_9 (c := 1) 2 hs hw ha hz k1.1 (by omega) k1.2 (bx_9 (c := 2) 1 hs hw ha hz k2.1 (by omega) k2.2 (br_t (by decide) h)))⟩
end
def bm_x (r t : bm_V) : bm_V := (r.2.1 * t.2.2 - r.2.2 * t.2.1, r.2.2 * t.1 - r.1 * t.2.2, r.1 * t.2.1 - r.2.1 * t.1)
def bm_ng (v : bm_V) : bm_V := (-v.1, -v.2.1, -v.2.2)
def bm_H6 (a : Nat → Int32) (r t : bm_V) : Prop := (a 0 = bm_i r.1 ∧ a 1 = bm_i r.2.1 ∧ a 2 = bm_i r.2.2) ∧ (a 3 = bm_i t.1 ∧ a 4 = bm_i t.2.1 ∧ a 5 = bm_i t.2.2)

theorem bm_e_0_7 (A : Nat → Nat → Int) (e : Nat → Int32) : ∃ r t, bm_H6 (bm_wt A 0 7 e).2.2 r t ∧ (bm_x r t = bm_raw A 7 7 ∨ bm_x r t = bm_ng (bm_raw A 7 7)) := by
  refine ⟨(bm_df A 1 0), (bm_df A 2 0), ⟨⟨rfl, rfl, rfl⟩, rfl, rfl, rfl⟩, Or.inl ?_⟩
  have : bm_raw A 7 7 = bm_raw A 7 7 := rfl
  refine Prod.ext ?_ (Prod.ext ?_ ?_)
  all_goals simp [bm_x, bm_raw, bm_ng, bm_un, bm_df, bm_fs, bm_ls, bm_cr, Nat.testBit, Nat.shiftRight_eq_div_pow]
  all_goals grind
theorem bm_e_1_3 (A : Nat → Nat → Int) (e : Nat → Int32) : ∃ r t, bm_H6 (bm_wt A 1 3 e).2.2 r t ∧ (bm_x r t = bm_raw A 6 3 ∨ bm_x r t = bm_ng (bm_raw A 6 3)) := by
  refine ⟨(bm_un 0), (bm_df A 1 0), ⟨⟨rfl, rfl, rfl⟩, rfl, rfl, rfl⟩, Or.inr ?_⟩
  have : bm_ng (bm_raw A 6 3) = bm_ng (bm_raw A 6 3) := rfl
  refine Prod.ext ?_ (Prod.ext ?_ ?_)
  all_goals simp [bm_x, bm_raw, bm_ng, bm_un, bm_df, bm_fs, bm_ls, bm_cr, Nat.testBit, Nat.shiftRight_eq_div_pow]
  all_goals grind
theorem bm_e_1_5 (A : Nat → Nat → Int) (e : Nat → Int32) : ∃ r t, bm_H6 (bm_wt A 1 5 e).2.2 r t ∧ (bm_x r t = bm_raw A 6 5 ∨ bm_x r t = bm_ng (bm_raw A 6 5)) := by
  refine ⟨(bm_un 0), (bm_df A 2 0), ⟨⟨rfl, rfl, rfl⟩, rfl, rfl, rfl⟩, Or.inr ?_⟩
  have : bm_ng (bm_raw A 6 5) = bm_ng (bm_raw A 6 5) := rfl
  refine Prod.ext ?_ (Prod.ext ?_ ?_)
  all_goals simp [bm_x, bm_raw, bm_ng, bm_un, bm_df, bm_fs, bm_ls, bm_cr, Nat.testBit, Nat.shiftRight_eq_div_pow]
  all_goals grind
theorem bm_e_1_6 (A : Nat → Nat → Int) (e : Nat → Int32) : ∃ r t, bm_H6 (bm_wt A 1 6 e).2.2 r t ∧ (bm_x r t = bm_raw A 6 6 ∨ bm_x r t = bm_ng (bm_raw A 6 6)) := by
  refine ⟨(bm_un 0), (bm_df A 2 1), ⟨⟨rfl, rfl, rfl⟩, rfl, rfl, rfl⟩, Or.inr ?_⟩
  have : bm_ng (bm_raw A 6 6) = bm_ng (bm_raw A 6 6) := rfl
  refine Prod.ext ?_ (Prod.ext ?_ ?_)
  all_goals simp [bm_x, bm_raw, bm_ng, bm_un, bm_df, bm_fs, bm_ls, bm_cr, Nat.testBit, Nat.shiftRight_eq_div_pow]
  all_goals grind
theorem bm_e_2_3 (A : Nat → Nat → Int) (e : Nat → Int32) : ∃ r t, bm_H6 (bm_wt A 2 3 e).2.2 r t ∧ (bm_x r t = bm_raw A 5 3 ∨ bm_x r t = bm_ng (bm_raw A 5 3)) := by
  refine ⟨(bm_un 1), (bm_df A 1 0), ⟨⟨rfl, rfl, rfl⟩, rfl, rfl, rfl⟩, Or.inl ?_⟩
  have : bm_raw A 5 3 = bm_raw A 5 3 := rfl
  refine Prod.ext ?_ (Prod.ext ?_ ?_)
  all_goals simp [bm_x, bm_raw, bm_ng, bm_un, bm_df, bm_fs, bm_ls, bm_cr, Nat.testBit, Nat.shiftRight_eq_div_pow]
  all_goals grind
theorem bm_e_2_5 (A : Nat → Nat → Int) (e : Nat → Int32) : ∃ r t, bm_H6 (bm_wt A 2 5 e).2.2 r t ∧ (bm_x r t = bm_raw A 5 5 ∨ bm_x r t = bm_ng (bm_raw A 5 5)) := by
  refine ⟨(bm_un 1), (bm_df A 2 0), ⟨⟨rfl, rfl, rfl⟩, rfl, rfl, rfl⟩, Or.inl ?_⟩
  have : bm_raw A 5 5 = bm_raw A 5 5 := rfl
  refine Prod.ext ?_ (Prod.ext ?_ ?_)
  all_goals simp [bm_x, bm_raw, bm_ng, bm_un, bm_df, bm_fs, bm_ls, bm_cr, Nat.testBit, Nat.shiftRight_eq_div_pow]
  all_goals grind
theorem bm_e_2_6 (A : Nat → Nat → Int) (e : Nat → Int32) : ∃ r t, bm_H6 (bm_wt A 2 6 e).2.2 r t ∧ (bm_x r t = bm_raw A 5 6 ∨ bm_x r t = bm_ng (bm_raw A 5 6)) := by
  refine ⟨(bm_un 1), (bm_df A 2 1), ⟨⟨rfl, rfl, rfl⟩, rfl, rfl, rfl⟩, Or.inl ?_⟩
  have : bm_raw A 5 6 = bm_raw A 5 6 := rfl
  refine Prod.ext ?_ (Prod.ext ?_ ?_)
  all_goals simp [bm_x, bm_raw, bm_ng, bm_un, bm_df, bm_fs, bm_ls, bm_cr, Nat.testBit, Nat.shiftRight_eq_div_pow]
  all_goals grind
theorem bm_e_3_1 (A : Nat → Nat → Int) (e : Nat → Int32) : ∃ r t, bm_H6 (bm_wt A 3 1 e).2.2 r t ∧ (bm_x r t = bm_raw A 4 1 ∨ bm_x r t = bm_ng (bm_raw A 4 1)) := by
  refine ⟨(bm_un 0), (bm_un 1), ⟨⟨rfl, rfl, rfl⟩, rfl, rfl, rfl⟩, Or.inl ?_⟩
  have : bm_raw A 4 1 = bm_raw A 4 1 := rfl
  refine Prod.ext ?_ (Prod.ext ?_ ?_)
  all_goals simp [bm_x, bm_raw, bm_ng, bm_un, bm_df, bm_fs, bm_ls, bm_cr, Nat.testBit, Nat.shiftRight_eq_div_pow]
  all_goals grind
theorem bm_e_3_2 (A : Nat → Nat → Int) (e : Nat → Int32) : ∃ r t, bm_H6 (bm_wt A 3 2 e).2.2 r t ∧ (bm_x r t = bm_raw A 4 2 ∨ bm_x r t = bm_ng (bm_raw A 4 2)) := by
  refine ⟨(bm_un 0), (bm_un 1), ⟨⟨rfl, rfl, rfl⟩, rfl, rfl, rfl⟩, Or.inl ?_⟩
  have : bm_raw A 4 2 = bm_raw A 4 2 := rfl
  refine Prod.ext ?_ (Prod.ext ?_ ?_)
  all_goals simp [bm_x, bm_raw, bm_ng, bm_un, bm_df, bm_fs, bm_ls, bm_cr, Nat.testBit, Nat.shiftRight_eq_div_pow]
  all_goals grind
theorem bm_e_3_4 (A : Nat → Nat → Int) (e : Nat → Int32) : ∃ r t, bm_H6 (bm_wt A 3 4 e).2.2 r t ∧ (bm_x r t = bm_raw A 4 4 ∨ bm_x r t = bm_ng (bm_raw A 4 4)) := by
  refine ⟨(bm_un 0), (bm_un 1), ⟨⟨rfl, rfl, rfl⟩, rfl, rfl, rfl⟩, Or.inl ?_⟩
  have : bm_raw A 4 4 = bm_raw A 4 4 := rfl
  refine Prod.ext ?_ (Prod.ext ?_ ?_)
  all_goals simp [bm_x, bm_raw, bm_ng, bm_un, bm_df, bm_fs, bm_ls, bm_cr, Nat.testBit, Nat.shiftRight_eq_div_pow]
  all_goals grind
theorem bm_e_4_3 (A : Nat → Nat → Int) (e : Nat → Int32) : ∃ r t, bm_H6 (bm_wt A 4 3 e).2.2 r t ∧ (bm_x r t = bm_raw A 3 3 ∨ bm_x r t = bm_ng (bm_raw A 3 3)) := by
  refine ⟨(bm_df A 1 0), (bm_un 2), ⟨⟨rfl, rfl, rfl⟩, rfl, rfl, rfl⟩, Or.inl ?_⟩
  have : bm_raw A 3 3 = bm_raw A 3 3 := rfl
  refine Prod.ext ?_ (Prod.ext ?_ ?_)
  all_goals simp [bm_x, bm_raw, bm_ng, bm_un, bm_df, bm_fs, bm_ls, bm_cr, Nat.testBit, Nat.shiftRight_eq_div_pow]
  all_goals grind
theorem bm_e_4_5 (A : Nat → Nat → Int) (e : Nat → Int32) : ∃ r t, bm_H6 (bm_wt A 4 5 e).2.2 r t ∧ (bm_x r t = bm_raw A 3 5 ∨ bm_x r t = bm_ng (bm_raw A 3 5)) := by
  refine ⟨(bm_un 2), (bm_df A 2 0), ⟨⟨rfl, rfl, rfl⟩, rfl, rfl, rfl⟩, Or.inr ?_⟩
  have : bm_ng (bm_raw A 3 5) = bm_ng (bm_raw A 3 5) := rfl
  refine Prod.ext ?_ (Prod.ext ?_ ?_)
  all_goals simp [bm_x, bm_raw, bm_ng, bm_un, bm_df, bm_fs, bm_ls, bm_cr, Nat.testBit, Nat.shiftRight_eq_div_pow]
  all_goals grind
theorem bm_e_4_6 (A : Nat → Nat → Int) (e : Nat → Int32) : ∃ r t, bm_H6 (bm_wt A 4 6 e).2.2 r t ∧ (bm_x r t = bm_raw A 3 6 ∨ bm_x r t = bm_ng (bm_raw A 3 6)) := by
  refine ⟨(bm_un 2), (bm_df A 2 1), ⟨⟨rfl, rfl, rfl⟩, rfl, rfl, rfl⟩, Or.inr ?_⟩
  have : bm_ng (bm_raw A 3 6) = bm_ng (bm_raw A 3 6) := rfl
  refine Prod.ext ?_ (Prod.ext ?_ ?_)
  all_goals simp [bm_x, bm_raw, bm_ng, bm_un, bm_df, bm_fs, bm_ls, bm_cr, Nat.testBit, Nat.shiftRight_eq_div_pow]
  all_goals grind
theorem bm_e_5_1 (A : Nat → Nat → Int) (e : Nat → Int32) : ∃ r t, bm_H6 (bm_wt A 5 1 e).2.2 r t ∧ (bm_x r t = bm_raw A 2 1 ∨ bm_x r t = bm_ng (bm_raw A 2 1)) := by
  refine ⟨(bm_un 0), (bm_un 2), ⟨⟨rfl, rfl, rfl⟩, rfl, rfl, rfl⟩, Or.inr ?_⟩
  have : bm_ng (bm_raw A 2 1) = bm_ng (bm_raw A 2 1) := rfl
  refine Prod.ext ?_ (Prod.ext ?_ ?_)
  all_goals simp [bm_x, bm_raw, bm_ng, bm_un, bm_df, bm_fs, bm_ls, bm_cr, Nat.testBit, Nat.shiftRight_eq_div_pow]
  all_goals grind
theorem bm_e_5_2 (A : Nat → Nat → Int) (e : Nat → Int32) : ∃ r t, bm_H6 (bm_wt A 5 2 e).2.2 r t ∧ (bm_x r t = bm_raw A 2 2 ∨ bm_x r t = bm_ng (bm_raw A 2 2)) := by
  refine ⟨(bm_un 0), (bm_un 2), ⟨⟨rfl, rfl, rfl⟩, rfl, rfl, rfl⟩, Or.inr ?_⟩
  have : bm_ng (bm_raw A 2 2) = bm_ng (bm_raw A 2 2) := rfl
  refine Prod.ext ?_ (Prod.ext ?_ ?_)
  all_goals simp [bm_x, bm_raw, bm_ng, bm_un, bm_df, bm_fs, bm_ls, bm_cr, Nat.testBit, Nat.shiftRight_eq_div_pow]
  all_goals grind
theorem bm_e_5_4 (A : Nat → Nat → Int) (e : Nat → Int32) : ∃ r t, bm_H6 (bm_wt A 5 4 e).2.2 r t ∧ (bm_x r t = bm_raw A 2 4 ∨ bm_x r t = bm_ng (bm_raw A 2 4)) := by
  refine ⟨(bm_un 0), (bm_un 2), ⟨⟨rfl, rfl, rfl⟩, rfl, rfl, rfl⟩, Or.inr ?_⟩
  have : bm_ng (bm_raw A 2 4) = bm_ng (bm_raw A 2 4) := rfl
  refine Prod.ext ?_ (Prod.ext ?_ ?_)
  all_goals simp [bm_x, bm_raw, bm_ng, bm_un, bm_df, bm_fs, bm_ls, bm_cr, Nat.testBit, Nat.shiftRight_eq_div_pow]
  all_goals grind
theorem bm_e_6_1 (A : Nat → Nat → Int) (e : Nat → Int32) : ∃ r t, bm_H6 (bm_wt A 6 1 e).2.2 r t ∧ (bm_x r t = bm_raw A 1 1 ∨ bm_x r t = bm_ng (bm_raw A 1 1)) := by
  refine ⟨(bm_un 1), (bm_un 2), ⟨⟨rfl, rfl, rfl⟩, rfl, rfl, rfl⟩, Or.inl ?_⟩
  have : bm_raw A 1 1 = bm_raw A 1 1 := rfl
  refine Prod.ext ?_ (Prod.ext ?_ ?_)
  all_goals simp [bm_x, bm_raw, bm_ng, bm_un, bm_df, bm_fs, bm_ls, bm_cr, Nat.testBit, Nat.shiftRight_eq_div_pow]
  all_goals grind
theorem bm_e_6_2 (A : Nat → Nat → Int) (e : Nat → Int32) : ∃ r t, bm_H6 (bm_wt A 6 2 e).2.2 r t ∧ (bm_x r t = bm_raw A 1 2 ∨ bm_x r t = bm_ng (bm_raw A 1 2)) := by
  refine ⟨(bm_un 1), (bm_un 2), ⟨⟨rfl, rfl, rfl⟩, rfl, rfl, rfl⟩, Or.inl ?_⟩
  have : bm_raw A 1 2 = bm_raw A 1 2 := rfl
  refine Prod.ext ?_ (Prod.ext ?_ ?_)
  all_goals simp [bm_x, bm_raw, bm_ng, bm_un, bm_df, bm_fs, bm_ls, bm_cr, Nat.testBit, Nat.shiftRight_eq_div_pow]
  all_goals grind
theorem bm_e_6_4 (A : Nat → Nat → Int) (e : Nat → Int32) : ∃ r t, bm_H6 (bm_wt A 6 4 e).2.2 r t ∧ (bm_x r t = bm_raw A 1 4 ∨ bm_x r t = bm_ng (bm_raw A 1 4)) := by
  refine ⟨(bm_un 1), (bm_un 2), ⟨⟨rfl, rfl, rfl⟩, rfl, rfl, rfl⟩, Or.inl ?_⟩
  have : bm_raw A 1 4 = bm_raw A 1 4 := rfl
  refine Prod.ext ?_ (Prod.ext ?_ ?_)
  all_goals simp [bm_x, bm_raw, bm_ng, bm_un, bm_df, bm_fs, bm_ls, bm_cr, Nat.testBit, Nat.shiftRight_eq_div_pow]
  all_goals grind
theorem bm_eqs {A : Nat → Nat → Int} {e : Nat → Int32} {z a : Nat} (hz : z < 8) (ha : a < 8) (h0 : a ≠ 0) (h : bm_sz z + bm_sz a = 3) : ∃ r t, bm_H6 (bm_wt A z a e).2.2 r t ∧ (bm_x r t = bm_raw A (7 - z) a ∨ bm_x r t = bm_ng (bm_raw A (7 - z) a)) := by
  have k : ∀ z a : Fin 8, a.val ≠ 0 → bm_sz z.val + bm_sz a.val = 3 → (z.val, a.val) ∈ [(0, 7), (1, 3), (1, 5), (1, 6), (2, 3), (2, 5), (2, 6), (3, 1), (3, 2), (3, 4), (4, 3), (4, 5), (4, 6), (5, 1), (5, 2), (5, 4), (6, 1), (6, 2), (6, 4)] := by decide +kernel
  have m := k ⟨z, hz⟩ ⟨a, ha⟩ h0 h
  simp only [List.mem_cons, List.not_mem_nil, or_false, Prod.mk.injEq] at m
  rcases m with ⟨rfl, rfl⟩ | ⟨rfl, rfl⟩ | ⟨rfl, rfl⟩ | ⟨rfl, rfl⟩ | ⟨rfl, rfl⟩ | ⟨rfl, rfl⟩ | ⟨rfl, rfl⟩ | ⟨rfl, rfl⟩ | ⟨rfl, rfl⟩ | ⟨rfl, rfl⟩ | ⟨rfl, rfl⟩ | ⟨rfl, rfl⟩ | ⟨rfl, rfl⟩ | ⟨rfl, rfl⟩ | ⟨rfl, rfl⟩ | ⟨rfl, rfl⟩ | ⟨rfl, rfl⟩ | ⟨rfl, rfl⟩ | ⟨rfl, rfl⟩
  · exact bm_e_0_7 A e
  · exact bm_e_1_3 A e
  · exact bm_e_1_5 A e
  · exact bm_e_1_6 A e
  · exact bm_e_2_3 A e
  · exact bm_e_2_5 A e
  · exact bm_e_2_6 A e
  · exact bm_e_3_1 A e
  · exact bm_e_3_2 A e
  · exact bm_e_3_4 A e
  · exact bm_e_4_3 A e
  · exact bm_e_4_5 A e
  · exact bm_e_4_6 A e
  · exact bm_e_5_1 A e
  · exact bm_e_5_2 A e
  · exact bm_e_5_4 A e
  · exact bm_e_6_1 A e
  · exact bm_e_6_2 A e
  · exact bm_e_6_4 A e
end
section
theorem bm_b3_ng {m : bm_V} (h : bm_b3 m) : bm_b3 (bm_ng m) := by
  unfold bm_b3 bm_ng at *
  dsimp only
  omega
theorem bm_sg_ng (m : bm_V) : bm_sg (bm_ng m) = - bm_sg m := by
  unfold bm_sg bm_ng
  dsimp only
  omega
theorem bm_e_ng {m : bm_V} (h : bm_sg m ≠ 0) : bm_e (bm_ng m) = - bm_e m := by
  unfold bm_e
  rw [bm_sg_ng]
  split <;> split <;> omega
theorem bm_g3_ng (m : bm_V) : bm_g3 (bm_ng m) = bm_g3 m := by
  unfold bm_g3 bm_ng
  dsimp only
  rw [Int.natAbs_neg, Int.natAbs_neg, Int.natAbs_neg]
theorem bm_ok_ng {m : bm_V} : bm_ok (bm_ng m) ↔ bm_ok m := by
  unfold bm_ok
  by_cases h : bm_sg m = 0
  · rw [bm_sg_ng, h]
    simp
  · rw [bm_e_ng h, bm_sg_ng]
    unfold bm_ng
    dsimp only
    rw [Int.neg_mul_neg, Int.neg_mul_neg, Int.neg_mul_neg]
    omega
theorem bm_nv_ng {m : bm_V} (h : bm_sg m ≠ 0) : bm_nv (bm_ng m) = bm_nv m := by
  unfold bm_nv
  rw [bm_e_ng h, bm_g3_ng]
  unfold bm_ng
  dsimp only
  rw [Int.neg_mul_neg, Int.neg_mul_neg, Int.neg_mul_neg]
/-- with the sign of its sum -/
def bm_em (m : bm_V) : bm_V := (bm_e m * m.1, bm_e m * m.2.1, bm_e m * m.2.2)
theorem bm_em_sg {m : bm_V} : bm_sg (bm_em m) = bm_e m * bm_sg m := by
  unfold bm_em bm_sg
  dsimp only
  rw [Int.mul_add, Int.mul_add]
theorem bm_em_b {m : bm_V} (h : bm_b3 m) : bm_b3 (bm_em m) := by
  unfold bm_b3 bm_em bm_e at *
  dsimp only
  split <;> omega
theorem bm_ok_em {m : bm_V} : bm_ok m ↔ 0 < bm_sg (bm_em m) ∧ 0 ≤ (bm_em m).1 ∧ 0 ≤ (bm_em m).2.1 ∧ 0 ≤ (bm_em m).2.2 := by
  rw [bm_em_sg]
  unfold bm_ok
  have : bm_sg m ≠ 0 ↔ 0 < bm_e m * bm_sg m := by
    unfold bm_e
    split <;> omega
  rw [this]
  rfl
theorem bm_em_g3 (m : bm_V) : bm_g3 (bm_em m) = bm_g3 m := by
  unfold bm_g3 bm_em bm_e
  dsimp only
  split
  · simp [Int.natAbs_neg]
  · simp
theorem bm_sg_b {m : bm_V} (h : bm_b3 m) : -1944 ≤ bm_sg m ∧ bm_sg m ≤ 1944 := by
  unfold bm_b3 at h
  unfold bm_sg
  omega
theorem bm_sg_nv {m : bm_V} (h : bm_sg m ≠ 0) : bm_sg (bm_em m) = bm_g3 m * bm_sg (bm_nv m) := by
  obtain ⟨d1, d2, d3⟩ := bm_g3_d (m := m)
  have key : ∀ a : Int, (bm_g3 m : Int) ∣ a → (bm_g3 m : Int) * ((bm_e m * a) / (bm_g3 m : Int)) = bm_e m * a := fun a ha => Int.mul_ediv_cancel' (Int.dvd_mul_of_dvd_right ha)
  unfold bm_sg bm_em bm_nv
  dsimp only
  rw [Int.mul_add, Int.mul_add, key _ d1, key _ d2, key _ d3]
section
variable {fr fc fm ft fb : Int32} {ap ae am ac aq aw ar ah : Nat → Int32}
theorem bx_165 {post : Int32 → SX → Prop} {m : bm_V} (hb : bm_b3 m) (hm : bm_H am m) (hw : fm = bm_i (bm_sg m)) (h1 : (0 < bm_sg m ∧ 0 ≤ m.1 ∧ 0 ≤ m.2.1 ∧ 0 ≤ m.2.2) → post 1 (fr, fc, fm, ft, fb, ap, ae, am, ac, aq, aw, ar, ah)) (h0 : ¬ (0 < bm_sg m ∧ 0 ≤ m.1 ∧ 0 ≤ m.2.1 ∧ 0 ≤ m.2.2) → post 0 (fr, fc, fm, ft, fb, ap, ae, am, ac, aq, aw, ar, ah)) : wX_crossEquations_165 post fr fc fm ft fb ap ae am ac aq aw ar ah := by
  have hs := bm_sg_b hb
  unfold bm_b3 at hb
  unfold wX_crossEquations_165
  rw [hm.1, hm.2.1, hm.2.2, ← bm_0]
  have e : fm ≤ bm_i 0 ↔ bm_sg m ≤ 0 := by rw [hw, bm_le (by omega) (by omega) (by omega) (by omega)]
  rw [e, bm_lt (by omega) (by omega) (by omega) (by omega), bm_lt (by omega) (by omega) (by omega) (by omega), bm_lt (by omega) (by omega) (by omega) (by omega)]
  exact br_c (fun z => h0 (by omega)) (fun z => br_c (fun z => h0 (by omega)) (fun z => br_c (fun z => h0 (by omega)) (fun z => br_c (fun z => h0 (by omega)) (fun z => h1 (by omega)))))
theorem bx_cross {post : Int32 → SX → Prop} {r t : bm_V} (hb : bm_b3 (bm_x r t)) (he : bm_H6 ae r t)
    (h1 : bm_ok (bm_x r t) → ∀ am', bm_H am' (bm_em (bm_x r t)) → post 1 (fr, fc, bm_i (bm_sg (bm_em (bm_x r t))), ft, fb, ap, ae, am', ac, aq, aw, ar, ah))
    (h0 : ¬ bm_ok (bm_x r t) → ∀ fm' am', post 0 (fr, fc, fm', ft, fb, ap, ae, am', ac, aq, aw, ar, ah)) : wpX_crossEquations post (fr, fc, fm, ft, fb, ap, ae, am, ac, aq, aw, ar, ah) := by
  obtain ⟨⟨e0, e1, e2⟩, e3, e4, e5⟩ := he
  intro m2 k2 m4 k4 m6 k6 w ew
  have hH : bm_H m6 (bm_x r t) := by
    rw [k6, k4, k2, e0, e1, e2, e3, e4, e5]
    refine ⟨?_, ?_, ?_⟩
    · show bm_i r.2.1 * bm_i t.2.2 - bm_i r.2.2 * bm_i t.2.1 = _
      rw [bm_mul, bm_mul, bm_sub]
      rfl
    · show bm_i r.2.2 * bm_i t.1 - bm_i r.1 * bm_i t.2.2 = _
      rw [bm_mul, bm_mul, bm_sub]
      rfl
    · show bm_i r.1 * bm_i t.2.1 - bm_i r.2.1 * bm_i t.1 = _
      rw [bm_mul, bm_mul, bm_sub]
      rfl
  clear k6 k4 k2
  rw [hH.1, hH.2.1, hH.2.2, bm_add, bm_add] at ew
  generalize hmm : bm_x r t = m at *
  have hs := bm_sg_b hb
  have ew' : w = bm_i (bm_sg m) := ew
  clear ew
  subst ew'
  have hle : (0 : Int32) ≤ bm_i (bm_sg m) ↔ 0 ≤ bm_sg m := by rw [← bm_0, bm_le (by omega) (by omega) (by omega) (by omega)]
  rw [hle]
  refine br_c (fun z => ?_) (fun z => ?_)
  · have ee : bm_em m = m := by
      unfold bm_em bm_e
      rw [if_neg (by omega), Int.one_mul, Int.one_mul, Int.one_mul]
    have ho := bm_ok_em (m := m)
    rw [ee] at h1 ho
    exact bx_165 hb hH rfl (fun q => h1 (ho.mpr q) _ hH) (fun q => h0 (fun q' => q (ho.mp q')) _ _)
  · have ee : bm_em m = bm_ng m := by
      unfold bm_em bm_e bm_ng
      rw [if_pos (by omega), Int.neg_one_mul, Int.neg_one_mul, Int.neg_one_mul]
    have ho := bm_ok_em (m := m)
    rw [ee] at h1 ho
    intro f ef
    rw [bm_neg, ← bm_sg_ng] at ef
    have step : ∀ (n i : Nat) (a : Nat → Int32), i < 3 → wX_crossEquations_141 post fr fc f ft fb n (nI (i + 1)) ap ae (upd a i (-(a i))) ac aq aw ar ah → wX_crossEquations_141 post fr fc f ft fb (n + 1) (nI i) ap ae a ac aq aw ar ah := by
      intro n i a hi hk
      refine br_f (nI_ge (b := 3) hi (by decide)) ⟨vp_in_nI hi (by decide), vp_in_nI hi (by decide), ?_⟩
      intro y ey k ek
      rw [nI_clamp (by omega)] at ey
      rw [nI_1] at ek
      subst ey ek
      exact hk
    refine ⟨4, step 3 0 _ (by omega) (step 2 1 _ (by omega) (step 1 2 _ (by omega) (br_t (by decide) ?_)))⟩
    have hH' : bm_H (upd (upd (upd m6 0 (-(m6 0))) 1 (-(upd m6 0 (-(m6 0)) 1))) 2 (-(upd (upd m6 0 (-(m6 0))) 1 (-(upd m6 0 (-(m6 0)) 1)) 2))) (bm_ng m) := by
      refine ⟨?_, ?_, ?_⟩
      · show -(m6 0) = _
        rw [hH.1, bm_neg]
        rfl
      · show -(m6 1) = _
        rw [hH.2.1, bm_neg]
        rfl
      · show -(m6 2) = _
        rw [hH.2.2, bm_neg]
        rfl
    subst ef
    exact bx_165 (bm_b3_ng hb) hH' rfl (fun q => h1 (ho.mpr q) _ hH') (fun q => h0 (fun q' => q (ho.mp q')) _ _)
theorem bx_118 {post : Int32 → SX → Prop} {m : bm_V} (hb : bm_b3 m) (hok : bm_ok m) (hm : bm_H am (bm_em m)) (hw : fm = bm_i (bm_sg (bm_em m)))
    (h1 : ∀ am', bm_H am' (bm_nv m) → post 1 (fr, fc, bm_i (bm_sg (bm_nv m)), ft, fb, ap, ae, am', ac, aq, aw, ar, ah)) : ∃ n, wX_solve_118 post (nI (bm_g3 m)) fr fc fm ft fb n 0 ap ae am ac aq aw ar ah := by
  have hg0 := bm_g3_pos hok.1
  have hs := bm_sg_b (bm_em_b hb)
  have hg1 : bm_g3 m ≤ 1944 := by
    have := bm_sg_nv hok.1
    have hp := (bm_nv_P hok).2.2.2.1
    have q : (bm_g3 m : Int) * 1 ≤ bm_g3 m * bm_sg (bm_nv m) := Int.mul_le_mul_of_nonneg_left (by omega) (by omega)
    omega
  have hne : ¬ nI (bm_g3 m) = 0 := nI_ne0 hg0 (by omega)
  have step : ∀ (n i : Nat) (a : Nat → Int32), i < 3 → wX_solve_118 post (nI (bm_g3 m)) fr fc fm ft fb n (nI (i + 1)) ap ae (upd a i (a i / nI (bm_g3 m))) ac aq aw ar ah → wX_solve_118 post (nI (bm_g3 m)) fr fc fm ft fb (n + 1) (nI i) ap ae a ac aq aw ar ah := by
    intro n i a hi hk
    refine br_f (nI_ge (b := 3) hi (by decide)) ⟨vp_in_nI hi (by decide), hne, vp_in_nI hi (by decide), ?_⟩
    intro y ey k ek
    rw [nI_clamp (by omega)] at ey
    rw [nI_1] at ek
    subst ey ek
    exact hk
  refine ⟨4, step 3 0 _ (by omega) (step 2 1 _ (by omega) (step 1 2 _ (by omega) (br_t (by decide) ⟨hne, ?_⟩)))⟩
  intro f ef
  have hbe := bm_em_b hb
  unfold bm_b3 at hbe
  have ho := bm_ok_em.mp hok
  have dv : ∀ a : Int, 0 ≤ a → a ≤ 648 → bm_i a / nI (bm_g3 m) = bm_i (a / (bm_g3 m : Int)) := by
    intro a a0 a1
    rw [bm_nI, bm_div (by omega) (by omega) (by omega) (by omega), Int.tdiv_eq_ediv_of_nonneg a0]
  rw [hw, bm_nI, bm_div (by omega) (by omega) (by omega) (by omega), Int.tdiv_eq_ediv_of_nonneg (by omega), bm_sg_nv hok.1, Int.mul_ediv_cancel_left _ (by omega)] at ef
  subst ef
  refine h1 _ ⟨?_, ?_, ?_⟩
  · show am 0 / _ = _
    rw [hm.1, dv _ (by omega) (by omega)]
    rfl
  · show am 1 / _ = _
    rw [hm.2.1, dv _ (by omega) (by omega)]
    rfl
  · show am 2 / _ = _
    rw [hm.2.2, dv _ (by omega) (by omega)]
    rfl
end
theorem bx_t1 : ∀ z m : Fin 8, (nI z.val ||| nI m.val = 7 ↔ (7 - z.val) &&& m.val = 7 - z.val) := by decide +kernel
theorem bx_t2 : ∀ a o : Fin 8, (nI a.val ||| nI o.val = nI o.val ↔ a.val &&& o.val = a.val) := by decide +kernel
theorem bx_t4 : ∀ z : Fin 8, bm_sz (7 - z.val) + bm_sz z.val = 3 := by decide +kernel
theorem bx_t5 : ∀ z : Fin 8, bm_sz z.val = 0 → z.val = 0 := by decide +kernel
theorem bx_t6 : ∀ z : Fin 8, bm_sz z.val ≤ 3 := by decide +kernel
theorem bx_t7 : ∀ d : Fin 64, nI d.val >>> ((3 : Int32) &&& 31) = nI (d.val / 8) ∧ nI d.val &&& 7 = nI (d.val % 8) := by decide +kernel
section
variable {fr fc fm ft fb : Int32} {ap ae am ac aq aw ar ah : Nat → Int32}
theorem bx_solve {post : Int32 → SX → Prop} {s w M O d : Nat} (hs : s < 2) (hw : w < 2) (hM : M < 8) (hO : O < 8) (hd : d < 64) (hp : bm_p9 ap)
    (h1 : bm_fit M O (7 - d / 8) (d % 8) → bm_ok (bm_raw (bm_A ap w s) (7 - d / 8) (d % 8)) → ∀ ae' am', bm_H am' (bm_nv (bm_raw (bm_A ap w s) (7 - d / 8) (d % 8))) → post 1 (fr, fc, bm_i (bm_sg (bm_nv (bm_raw (bm_A ap w s) (7 - d / 8) (d % 8)))), ft, fb, ap, ae', am', ac, aq, aw, ar, ah))
    (h0 : ¬ (bm_fit M O (7 - d / 8) (d % 8) ∧ bm_ok (bm_raw (bm_A ap w s) (7 - d / 8) (d % 8))) → ∀ fm' ae' am', post 0 (fr, fc, fm', ft, fb, ap, ae', am', ac, aq, aw, ar, ah)) : wpX_solve post (fr, fc, fm, ft, fb, ap, ae, am, ac, aq, aw, ar, ah) (nI s) (nI w) (nI M) (nI O) (nI d) := by
  have hz : d / 8 < 8 := by omega
  have ha : d % 8 < 8 := by omega
  intro z ez a ea
  rw [(bx_t7 ⟨d, hd⟩).1] at ez
  rw [(bx_t7 ⟨d, hd⟩).2] at ea
  dsimp only at ez ea
  generalize d / 8 = Z at *
  generalize d % 8 = T at *
  subst ez ea
  have e1 := bx_t1 ⟨Z, hz⟩ ⟨M, hM⟩
  have e2 := bx_t2 ⟨T, ha⟩ ⟨O, hO⟩
  have e4 := bx_t4 ⟨Z, hz⟩
  have e5 := bx_t5 ⟨T, ha⟩
  have e6 := bx_t5 ⟨7 - Z, by omega⟩
  dsimp only at e1 e2 e4 e5 e6
  rw [e1, e2]
  refine br_c (fun c1 => br_c (fun c2 => ?_) (fun c2 => h0 (fun q => c2 q.1.2.2.1) _ _ _)) (fun c1 => h0 (fun q => c1 q.1.2.1) _ _ _)
  refine pk_eq T 0 (fun c3 => h0 (fun q => ?_) _ _ _) (fun c3 => ?_) rfl rfl (by omega) (by omega)
  · have := q.1.2.2.2
    have q0 := q.1.1
    subst c3
    exact q0 (e6 this)
  · show wpX_bits _ _
    unfold wpX_bits
    rw [bx_bits ⟨Z, hz⟩, bx_bits ⟨T, ha⟩]
    intro y ey
    rw [nI_add] at ey
    subst ey
    dsimp only
    have z3 := bx_t6 ⟨Z, hz⟩
    have t3 := bx_t6 ⟨T, ha⟩
    dsimp only at z3 t3
    refine pk_eq (bm_sz Z + bm_sz T) 3 (fun c4 => ?_) (fun c4 => h0 (fun q => ?_) _ _ _) rfl rfl (by omega) (by omega)
    · have hfit : bm_fit M O (7 - Z) T := by
        refine ⟨fun q => ?_, c1, c2, by omega⟩
        rw [q] at e4
        have : bm_sz 0 = 0 := by decide
        exact c3 (e5 (by omega))
      refine bx_we hs hw ha hz ?_
      obtain ⟨r, t, hH, hx⟩ := bm_eqs (A := bm_A ap w s) (e := ae) hz ha c3 c4
      have hrb := bm_raw_b (bm_A9p hp w s) (7 - Z) T
      have hxb : bm_b3 (bm_x r t) := by
        rcases hx with hx | hx
        · rw [hx]; exact hrb
        · rw [hx]; exact bm_b3_ng hrb
      have hxo : bm_ok (bm_x r t) ↔ bm_ok (bm_raw (bm_A ap w s) (7 - Z) T) := by
        rcases hx with hx | hx
        · rw [hx]
        · rw [hx]; exact bm_ok_ng
      refine bx_cross hxb hH (fun hok am' hm' => ?_) (fun hok fm' am' => ?_)
      · have hok' := hxo.mp hok
        have hxn : bm_nv (bm_x r t) = bm_nv (bm_raw (bm_A ap w s) (7 - Z) T) := by
          rcases hx with hx | hx
          · rw [hx]
          · rw [hx]; exact bm_nv_ng hok'.1
        dsimp only
        refine br_f (by decide) ?_
        have hbe := bm_em_b hxb
        unfold bm_b3 at hbe
        rw [hm'.1, hm'.2.1, hm'.2.2]
        refine bx_cd (by omega) (by omega) ?_
        rw [bm_nI]
        have gl : Nat.gcd (bm_em (bm_x r t)).1.natAbs (bm_em (bm_x r t)).2.1.natAbs ≤ 648 := by
          rcases Nat.eq_zero_or_pos (bm_em (bm_x r t)).1.natAbs with zz | zz
          · rw [zz, Nat.gcd_zero_left]
            omega
          · have := Nat.le_of_dvd zz (Nat.gcd_dvd_left (bm_em (bm_x r t)).1.natAbs (bm_em (bm_x r t)).2.1.natAbs)
            omega
        refine bx_cd (by omega) (by omega) ?_
        have eg : Nat.gcd ((Nat.gcd (bm_em (bm_x r t)).1.natAbs (bm_em (bm_x r t)).2.1.natAbs : Nat) : Int).natAbs (bm_em (bm_x r t)).2.2.natAbs = bm_g3 (bm_x r t) := by
          rw [Int.natAbs_natCast, ← bm_em_g3]
          rfl
        rw [eg]
        have hg0 := bm_g3_pos hok.1
        have hgb : bm_g3 (bm_x r t) < 2 ^ 31 := by
          have := bm_sg_nv hok.1
          have hp := (bm_nv_P hok).2.2.2.1
          have q : (bm_g3 (bm_x r t) : Int) * 1 ≤ bm_g3 (bm_x r t) * bm_sg (bm_nv (bm_x r t)) := Int.mul_le_mul_of_nonneg_left (by omega) (by omega)
          have := bm_sg_b (bm_em_b hxb)
          omega
        refine pk_le (bm_g3 (bm_x r t)) 1 (fun c5 => ?_) (fun c5 => ?_) rfl rfl hgb (by omega)
        · have g1 : bm_g3 (bm_x r t) = 1 := by omega
          have en : bm_em (bm_x r t) = bm_nv (bm_x r t) := by
            unfold bm_em bm_nv
            rw [g1]
            simp
          rw [en, hxn] at hm' ⊢
          exact h1 hfit hok' _ _ hm'
        · refine bx_118 hxb hok hm' rfl (fun am'' hm'' => ?_)
          rw [hxn] at hm'' ⊢
          exact h1 hfit hok' _ _ hm''
      · refine br_t rfl ?_
        exact h0 (fun q => hok (hxo.mpr q.2)) _ _ _
    · have := q.1.2.2.2
      omega
end
end
section
/-! corners and their lists -/
def bm_K (A : Nat → Nat → Int) (M O S T : Nat) : Prop := bm_fit M O S T ∧ bm_ok (bm_raw A S T) ∧ T &&& bm_rp A O (bm_nv (bm_raw A S T)) = T
def bm_XH (A : Nat → Nat → Int) (O : Nat) (aq aw ar : Nat → Int32) (n : Nat) (v : bm_V) : Prop := (∀ i, i < 3 → aq (3 * n + i) = bm_i (bm_at v i)) ∧ aw n = bm_i (bm_sg v) ∧ ar n = nI (bm_rp A O v)
/-- the slot n' of the second holds what n of the first held -/
def bm_se (aq aw ar : Nat → Int32) (n : Nat) (aq' aw' ar' : Nat → Int32) (n' : Nat) : Prop := (∀ i, i < 3 → aq' (3 * n' + i) = aq (3 * n + i)) ∧ aw' n' = aw n ∧ ar' n' = ar n
theorem bm_se_r (aq aw ar : Nat → Int32) (n : Nat) : bm_se aq aw ar n aq aw ar n := ⟨fun _ _ => rfl, rfl, rfl⟩
theorem bm_se_t {aq aw ar aq' aw' ar' aq2 aw2 ar2 : Nat → Int32} {n n' n2 : Nat} (h : bm_se aq aw ar n aq' aw' ar' n') (h' : bm_se aq' aw' ar' n' aq2 aw2 ar2 n2) : bm_se aq aw ar n aq2 aw2 ar2 n2 := ⟨fun i hi => (h'.1 i hi).trans (h.1 i hi), h'.2.1.trans h.2.1, h'.2.2.trans h.2.2⟩
theorem bm_se_H {A : Nat → Nat → Int} {O : Nat} {aq aw ar aq' aw' ar' : Nat → Int32} {n n' : Nat} {v : bm_V} (h : bm_se aq aw ar n aq' aw' ar' n') (hH : bm_XH A O aq aw ar n v) : bm_XH A O aq' aw' ar' n' v := ⟨fun i hi => (h.1 i hi).trans (hH.1 i hi), h.2.1.trans hH.2.1, h.2.2.trans hH.2.2⟩
def bm_XL (A : Nat → Nat → Int) (O b : Nat) (aq aw ar : Nat → Int32) (L : List bm_V) : Prop := ∀ k v, L[k]? = some v → bm_XH A O aq aw ar (b + k) v
theorem bm_at_b {v : bm_V} (h : bm_b3 v) (i : Nat) : -648 ≤ bm_at v i ∧ bm_at v i ≤ 648 := by
  unfold bm_at
  unfold bm_b3 at h
  repeat' split
  all_goals omega
theorem bm_d_b {v w : bm_V} (hv : bm_b3 v) (hw : bm_b3 w) (i : Nat) : -3000000 ≤ bm_d v w i ∧ bm_d v w i ≤ 3000000 := by
  unfold bm_d
  have a := bm_at_b hv i
  have b := bm_at_b hw i
  have c := bm_sg_b hv
  have d := bm_sg_b hw
  have k1 := bm_p18 (a := bm_at v i) (b := bm_sg w) (s := 648) (t := 1944) (by omega) (by omega) (by omega) (by omega)
  have k2 := bm_p18 (a := bm_at w i) (b := bm_sg v) (s := 648) (t := 1944) (by omega) (by omega) (by omega) (by omega)
  omega
theorem bm_cm_b {v w : bm_V} (hv : bm_b3 v) (hw : bm_b3 w) : -3000000 ≤ bm_cm v w ∧ bm_cm v w ≤ 3000000 := by
  have d0 := bm_d_b hv hw 0
  have d1 := bm_d_b hv hw 1
  have d2 := bm_d_b hv hw 2
  unfold bm_cm
  repeat' split
  all_goals omega
section
variable {fr fc fm ft fb : Int32} {ap ae am ac aq aw ar ah : Nat → Int32}
theorem bx_cmp {post : Int32 → Prop} {A : Nat → Nat → Int} {O n : Nat} {v w : bm_V} (hn : n < 128) (hv : bm_b3 v) (hw : bm_b3 w) (hm : bm_H am v) (hf : fm = bm_i (bm_sg v)) (hs : bm_XH A O aq aw ar n w) (h : post (bm_i (bm_cm v w))) : wpX_compareMix post (fr, fc, fm, ft, fb, ap, ae, am, ac, aq, aw, ar, ah) (nI n) := by
  have step : ∀ (q i : Nat), i < 3 → (bm_d v w i = 0 → wX_compareMix_2 post (nI n) fr fc fm ft fb ap ae am ac aq aw ar ah q (nI (i + 1))) → (bm_d v w i ≠ 0 → post (bm_i (bm_d v w i))) → wX_compareMix_2 post (nI n) fr fc fm ft fb ap ae am ac aq aw ar ah (q + 1) (nI i) := by
    intro q i hi h1 h2
    refine br_f (nI_ge (b := 3) hi (by decide)) ⟨vp_in_nI hi (by decide), vp_in_nI hn (by decide), pk_in (3 * n + i) 384 (by omega) (bx_3 n i), ?_⟩
    intro y ey
    rw [bx_3, nI_clamp (by omega), nI_clamp (by omega), nI_clamp (by omega), hs.1 i hi, hs.2.1, bm_H_at hm hi, hf, bm_mul, bm_mul, bm_sub] at ey
    have ey' : y = bm_i (bm_d v w i) := ey
    clear ey
    subst ey'
    have db := bm_d_b hv hw i
    rw [← bm_0, bm_eq (by omega) (by omega) (by omega) (by omega)]
    refine br_c (fun z => ?_) (fun z => h2 z)
    intro k ek
    rw [nI_1] at ek
    subst ek
    exact h1 z
  unfold bm_cm at h
  refine ⟨4, step 3 0 (by omega) (fun z0 => step 2 1 (by omega) (fun z1 => step 1 2 (by omega) (fun z2 => br_t (by decide) ?_) (fun z2 => ?_)) (fun z1 => ?_)) (fun z0 => ?_)⟩
  · rw [if_neg (by omega), if_neg (by omega), z2] at h
    exact h
  · rw [if_neg (by omega), if_neg (by omega)] at h
    exact h
  · rw [if_neg (by omega), if_pos z1] at h
    exact h
  · rw [if_pos z0] at h
    exact h
theorem bx_copy {post : SX → Prop} {a b : Nat} (ha : a < 128) (hb : b < 128) (hab : a ≠ b)
    (h : ∀ aq' aw' ar', bm_se aq aw ar a aq' aw' ar' b → (∀ n, n ≠ b → bm_se aq aw ar n aq' aw' ar' n) → post (fr, fc, fm, ft, fb, ap, ae, am, ac, aq', aw', ar', ah)) : wpX_copyCorner post (fr, fc, fm, ft, fb, ap, ae, am, ac, aq, aw, ar, ah) (nI a) (nI b) := by
  have step : ∀ (q i : Nat) (e : Nat → Int32), i < 3 → (∀ j, j < i → e (3 * b + j) = aq (3 * a + j)) → (∀ j, (∀ k, k < i → j ≠ 3 * b + k) → e j = aq j) → (∀ e', (∀ j, j < i + 1 → e' (3 * b + j) = aq (3 * a + j)) → (∀ j, (∀ k, k < i + 1 → j ≠ 3 * b + k) → e' j = aq j) → wX_copyCorner_2 post (nI a) (nI b) fr fc fm ft fb q (nI (i + 1)) ap ae am ac e' aw ar ah) → wX_copyCorner_2 post (nI a) (nI b) fr fc fm ft fb (q + 1) (nI i) ap ae am ac e aw ar ah := by
    intro q i e hi h1 h2 hk
    refine br_f (nI_ge (b := 3) hi (by decide)) ⟨pk_in (3 * a + i) 384 (by omega) (bx_3 a i), pk_in (3 * b + i) 384 (by omega) (bx_3 b i), ?_⟩
    intro y ey k ek
    rw [bx_3, bx_3, nI_clamp (by omega), nI_clamp (by omega)] at ey
    rw [nI_1] at ek
    subst ey ek
    refine hk _ (fun j hj => ?_) (fun j hj => ?_)
    · by_cases z : j = i
      · subst z
        rw [pk_us]
        exact h2 _ (fun k hk => by omega)
      · rw [pk_un (by omega)]
        exact h1 j (by omega)
    · rw [pk_un (hj i (by omega))]
      exact h2 j (fun k hk => hj k (by omega))
  refine ⟨4, step 3 0 _ (by omega) (fun j hj => absurd hj (by omega)) (fun j _ => rfl) (fun e1 a1 b1 => step 2 1 _ (by omega) a1 b1 (fun e2 a2 b2 => step 1 2 _ (by omega) a2 b2 (fun e3 a3 b3 => br_t (by decide) ?_)))⟩
  refine ⟨vp_in_nI ha (by decide), vp_in_nI hb (by decide), ?_⟩
  intro w ew
  refine ⟨vp_in_nI ha (by decide), vp_in_nI hb (by decide), ?_⟩
  intro r er
  rw [nI_clamp (by omega), nI_clamp (by omega)] at ew er
  subst ew er
  refine h _ _ _ ⟨fun i hi => a3 i hi, pk_us, pk_us⟩ (fun n hn => ⟨fun i hi => b3 _ (fun k hk => by omega), pk_un hn, pk_un hn⟩)
/-- the writing at the end of an insertion -/
theorem bx_92 {post : SX → Prop} {A : Nat → Nat → Int} {O s n c : Nat} {v : bm_V} (hs : s < 2) (hn : n < 128) (hm : bm_H am v) (hf : fm = bm_i (bm_sg v)) (hc : ac s = nI c)
    (h : ∀ aq' aw' ar', bm_XH A O aq' aw' ar' n v → (∀ k, k ≠ n → bm_se aq aw ar k aq' aw' ar' k) → post (fr, fc, fm, ft, fb, ap, ae, am, upd ac s (nI (c + 1)), aq', aw', ar', ah)) : ∃ q, wX_insertCorner_92 post (nI s) (nI (bm_rp A O v)) (nI n) fr fc fm ft fb q 0 ap ae am ac aq aw ar ah := by
  have step : ∀ (q i : Nat) (e : Nat → Int32), i < 3 → (∀ j, j < i → e (3 * n + j) = bm_i (bm_at v j)) → (∀ j, (∀ k, k < i → j ≠ 3 * n + k) → e j = aq j) → (∀ e', (∀ j, j < i + 1 → e' (3 * n + j) = bm_i (bm_at v j)) → (∀ j, (∀ k, k < i + 1 → j ≠ 3 * n + k) → e' j = aq j) → wX_insertCorner_92 post (nI s) (nI (bm_rp A O v)) (nI n) fr fc fm ft fb q (nI (i + 1)) ap ae am ac e' aw ar ah) → wX_insertCorner_92 post (nI s) (nI (bm_rp A O v)) (nI n) fr fc fm ft fb (q + 1) (nI i) ap ae am ac e aw ar ah := by
    intro q i e hi h1 h2 hk
    refine br_f (nI_ge (b := 3) hi (by decide)) ⟨vp_in_nI hi (by decide), pk_in (3 * n + i) 384 (by omega) (bx_3 n i), ?_⟩
    intro y ey k ek
    rw [bx_3, nI_clamp (by omega), nI_clamp (by omega), bm_H_at hm hi] at ey
    rw [nI_1] at ek
    subst ey ek
    refine hk _ (fun j hj => ?_) (fun j hj => ?_)
    · by_cases z : j = i
      · subst z
        exact pk_us
      · rw [pk_un (by omega)]
        exact h1 j (by omega)
    · rw [pk_un (hj i (by omega))]
      exact h2 j (fun k hk => hj k (by omega))
  refine ⟨4, step 3 0 _ (by omega) (fun j hj => absurd hj (by omega)) (fun j _ => rfl) (fun e1 a1 b1 => step 2 1 _ (by omega) a1 b1 (fun e2 a2 b2 => step 1 2 _ (by omega) a2 b2 (fun e3 a3 b3 => br_t (by decide) ?_)))⟩
  refine ⟨vp_in_nI hn (by decide), ?_⟩
  intro w ew
  refine ⟨vp_in_nI hn (by decide), ?_⟩
  intro r er
  refine ⟨vp_in_nI hs (by decide), vp_in_nI hs (by decide), ?_⟩
  intro cc ec
  rw [nI_clamp (by omega)] at ew er
  rw [nI_clamp (by omega), hc, nI_1] at ec
  subst ew er ec
  exact h _ _ _ ⟨fun i hi => a3 i hi, by rw [pk_us, hf], pk_us⟩ (fun k hk => ⟨fun i hi => b3 _ (fun k' hk' => by omega), pk_un hk, pk_un hk⟩)
/-- the shift -/
theorem bx_66 {post : SX → Prop} {A : Nat → Nat → Int} {O s b p : Nat} {L : List bm_V} {v : bm_V} (hs : s < 2) (hb : b + L.length < 128) (hp : p ≤ L.length) (hm : bm_H am v) (hf : fm = bm_i (bm_sg v)) (hc : ac s = nI L.length) (hL : bm_XL A O b aq aw ar L)
    (h : ∀ aq' aw' ar', bm_XL A O b aq' aw' ar' (bm_ins L p v) → (∀ n, n < b ∨ b + L.length < n → bm_se aq aw ar n aq' aw' ar' n) → post (fr, fc, fm, ft, fb, ap, ae, am, upd ac s (nI (L.length + 1)), aq', aw', ar', ah)) :
    ∀ (k q : Nat) (aq1 aw1 ar1 : Nat → Int32), p ≤ k → k ≤ L.length → k - p < q → (∀ n, n ≤ b + k ∨ b + L.length < n → bm_se aq aw ar n aq1 aw1 ar1 n) → (∀ j, k ≤ j → j < L.length → bm_se aq aw ar (b + j) aq1 aw1 ar1 (b + j + 1)) → wX_insertCorner_66 post (nI s) (nI (bm_rp A O v)) (nI (b + p)) q (nI (b + k)) fr fc fm ft fb ap ae am ac aq1 aw1 ar1 ah := by
  intro k
  induction k with
  | zero =>
    intro q aq1 aw1 ar1 hpk hkl hq h1 h2
    obtain ⟨q, rfl⟩ : ∃ q', q = q' + 1 := ⟨q - 1, by omega⟩
    refine br_t (nI_le (by omega) (by omega)) ?_
    have p0 : p = 0 := by omega
    subst p0
    refine bx_92 (A := A) (O := O) hs (by omega) hm hf hc (fun aq' aw' ar' hH hse => h _ _ _ ?_ ?_)
    · intro j w hj
      rcases j with _ | j
      · rw [bm_ins_eq hp] at hj
        cases hj
        exact hH
      · rw [bm_ins_gt hp (by omega)] at hj
        have hjl : j < L.length := (List.getElem?_eq_some_iff.mp hj).1
        exact bm_se_H (bm_se_t (h2 j (by omega) hjl) (hse _ (by omega))) (hL j w hj)
    · intro n hn
      exact bm_se_t (h1 n (by omega)) (hse n (by omega))
  | succ k ih =>
    intro q aq1 aw1 ar1 hpk hkl hq h1 h2
    obtain ⟨q, rfl⟩ : ∃ q', q = q' + 1 := ⟨q - 1, by omega⟩
    by_cases z : p = k + 1
    · subst z
      refine br_t (nI_le (by omega) (by omega)) ?_
      refine bx_92 (A := A) (O := O) hs (by omega) hm hf hc (fun aq' aw' ar' hH hse => h _ _ _ ?_ ?_)
      · intro j w hj
        rcases Nat.lt_trichotomy j (k + 1) with y | y | y
        · rw [bm_ins_lt hp y] at hj
          exact bm_se_H (bm_se_t (h1 _ (by omega)) (hse _ (by omega))) (hL j w hj)
        · subst y
          rw [bm_ins_eq hp] at hj
          cases hj
          exact hH
        · obtain ⟨j, rfl⟩ : ∃ j', j = j' + 1 := ⟨j - 1, by omega⟩
          rw [bm_ins_gt hp (by omega)] at hj
          have hjl : j < L.length := (List.getElem?_eq_some_iff.mp hj).1
          exact bm_se_H (bm_se_t (h2 j (by omega) hjl) (hse _ (by omega))) (hL j w hj)
      · intro n hn
        exact bm_se_t (h1 n (by omega)) (hse n (by omega))
    · refine br_f (nI_ge (by omega) (by omega)) ?_
      rw [show nI (b + (k + 1)) - 1 = nI (b + k) from nI_pred (b + k)]
      refine bx_copy (by omega) (by omega) (by omega) (fun aq' aw' ar' hc1 hc2 => ?_)
      intro y ey
      rw [show nI (b + (k + 1)) + (-1) = nI (b + k) from pk_m1 (b + k)] at ey
      subst ey
      refine ih q aq' aw' ar' (by omega) (by omega) (by omega) (fun n hn => ?_) (fun j hj hjl => ?_)
      · exact bm_se_t (h1 n (by omega)) (hc2 n (by omega))
      · by_cases y : j = k
        · subst y
          exact bm_se_t (h1 _ (by omega)) hc1
        · exact bm_se_t (h2 j (by omega) hjl) (hc2 _ (by omega))
theorem bx_ins {post : SX → Prop} {A : Nat → Nat → Int} {O s : Nat} {L : List bm_V} {v : bm_V} (hs : s < 2) (hl : L.length < 60) (hS : bm_S L) (hb : ∀ w, w ∈ L → bm_b3 w) (hv : bm_P v) (hvb : bm_b3 v) (hm : bm_H am v) (hf : fm = bm_i (bm_sg v)) (hc : ac s = nI L.length) (hL : bm_XL A O (64 * s) aq aw ar L)
    (h : ∀ ac' aq' aw' ar' L', bm_S L' → (∀ x, x ∈ L' ↔ x = v ∨ x ∈ L) → bm_XL A O (64 * s) aq' aw' ar' L' → ac' s = nI L'.length → (∀ j, j ≠ s → ac' j = ac j) → (∀ n, n < 64 * s ∨ 64 * s + 64 ≤ n → bm_se aq aw ar n aq' aw' ar' n) → post (fr, fc, fm, ft, fb, ap, ae, am, ac', aq', aw', ar', ah)) : wpX_insertCorner post (fr, fc, fm, ft, fb, ap, ae, am, ac, aq, aw, ar, ah) (nI s) (nI (bm_rp A O v)) := by
  intro b0 eb0
  rw [show nI s * 64 = nI (64 * s) by rw [Nat.mul_comm, ← pk_mul]; rfl] at eb0
  subst eb0
  refine ⟨vp_in_nI hs (by decide), ?_⟩
  intro e0 ee0
  rw [nI_clamp (by omega), hc, nI_add] at ee0
  subst ee0
  have e56 : ∀ (p : Nat) (o : Int32), p ≤ L.length → ¬ o = 0 → (∀ k w, k < p → L[k]? = some w → bm_cm w v < 0) → (∀ k w, p ≤ k → L[k]? = some w → bm_cm v w < 0) → wX_insertCorner_56 post (nI s) (nI (bm_rp A O v)) (nI (64 * s + L.length)) (nI (64 * s + p)) o fr fc fm ft fb ap ae am ac aq aw ar ah := by
    intro p o hp ho lo hi
    refine br_f ho ⟨L.length + 1, bx_66 hs (by omega) hp hm hf hc hL ?_ L.length (L.length + 1) _ _ _ hp (Nat.le_refl _) (by omega) (fun n _ => bm_se_r _ _ _ _) (fun j hj hjl => absurd hjl (by omega))⟩
    intro aq' aw' ar' hL' hse
    refine h _ _ _ _ (bm_ins L p v) (bm_S_ins hS hv lo hi) (fun x => bm_ins_mem) hL' ?_ (fun j hj => pk_un hj) (fun n hn => hse n (by omega))
    rw [pk_us, bm_ins_len hp]
  have loop : ∀ (m k q : Nat) (o : Int32), k + m = L.length → m < q → ¬ o = 0 → (∀ j w, j < k → L[j]? = some w → bm_cm w v < 0) → wX_insertCorner_24 post (nI s) (nI (bm_rp A O v)) (nI (64 * s + L.length)) fr fc fm ft fb ap ae am ac aq aw ar ah q (nI (64 * s + k)) o (nI (64 * s + k)) := by
    intro m
    induction m with
    | zero =>
      intro k q o hk hq ho lo
      obtain ⟨q, rfl⟩ : ∃ q', q = q' + 1 := ⟨q - 1, by omega⟩
      have : k = L.length := by omega
      subst this
      refine br_t (nI_le (by omega) (by omega)) (e56 _ o (Nat.le_refl _) ho lo (fun j w hj hw => ?_))
      have := (List.getElem?_eq_some_iff.mp hw).1
      omega
    | succ m ih =>
      intro k q o hk hq ho lo
      obtain ⟨q, rfl⟩ : ∃ q', q = q' + 1 := ⟨q - 1, by omega⟩
      refine br_f (nI_ge (by omega) (by omega)) ?_
      obtain ⟨w, hw⟩ : ∃ w, L[k]? = some w := ⟨_, List.getElem?_eq_getElem (by omega)⟩
      have hwm : w ∈ L := List.mem_of_getElem? hw
      have hwb := hb w hwm
      have cb := bm_cm_b hvb hwb
      refine bx_cmp (A := A) (O := O) (by omega) hvb hwb hm hf (hL k w hw) ?_
      rw [← bm_0, bm_lt (by omega) (by omega) (by omega) (by omega)]
      refine br_c (fun z => ?_) (fun z => ?_)
      · intro y1 e1 y2 e2
        rw [show nI (64 * s + k) + 1 = nI (64 * s + (k + 1)) from nI_1 _] at e1 e2
        subst e1 e2
        refine ih (k + 1) q _ (by omega) (by omega) ?_ (fun j w' hj hw' => ?_)
        · rw [← bm_0, bm_eq (by omega) (by omega) (by omega) (by omega)]
          omega
        · by_cases y : j = k
          · subst y
            rw [hw] at hw'
            cases hw'
            have := bm_cm_anti v w
            omega
          · exact lo j w' (by omega) hw'
      · by_cases y : bm_cm v w = 0
        · have evw : v = w := bm_cm_eq hv (hS.2 w hwm) y
          refine br_t (by rw [y]; rfl) ?_
          refine h ac aq aw ar L hS (fun x => ⟨fun hx => Or.inr hx, fun hx => ?_⟩) hL hc (fun _ _ => rfl) (fun n _ => bm_se_r _ _ _ _)
          rcases hx with rfl | hx
          · rw [evw]
            exact hwm
          · exact hx
        · refine e56 k _ (by omega) ?_ lo (fun j w' hj hw' => ?_)
          · rw [← bm_0, bm_eq (by omega) (by omega) (by omega) (by omega)]
            omega
          · by_cases y2 : j = k
            · subst y2
              rw [hw] at hw'
              cases hw'
              omega
            · exact bm_cm_tr hv (hS.2 w hwm) (hS.2 w' (List.mem_of_getElem? hw')) (by omega) (bm_S_rel hS hw hw' (by omega))
  exact ⟨L.length + 1, loop L.length 0 (L.length + 1) 1 (by omega) (by omega) (by decide) (fun j w hj _ => absurd hj (by omega))⟩
end
end
section
def bm_IsL (A : Nat → Nat → Int) (M O : Nat) (L : List bm_V) : Prop := bm_S L ∧ ∀ x, x ∈ L ↔ ∃ S T, S < 8 ∧ T < 8 ∧ bm_K A M O S T ∧ x = bm_nv (bm_raw A S T)
theorem bm_IsL_u {A : Nat → Nat → Int} {M O : Nat} {L L' : List bm_V} (h : bm_IsL A M O L) (h' : bm_IsL A M O L') : L = L' := bm_S_uniq h.1 h'.1 (fun x => by rw [h.2, h'.2])
theorem bm_IsL_b {A : Nat → Nat → Int} {M O : Nat} {L : List bm_V} (hA : bm_A9 A) (h : bm_IsL A M O L) : L.length ≤ 13 ∧ (∀ w, w ∈ L → bm_b3 w) ∧ ∀ w, w ∈ L → bm_P w := by
  refine ⟨bm_len13 (A := A) h.1 (fun x hx => ?_), fun w hw => ?_, h.1.2⟩
  · obtain ⟨S, T, hS, hT, hK, rfl⟩ := (h.2 x).mp hx
    exact bm_fit_C hS hT hK.1
  · obtain ⟨S, T, hS, hT, hK, rfl⟩ := (h.2 w).mp hw
    exact bm_nv_b (bm_raw_b hA _ _) hK.2.1
theorem bx_all : ∀ R : Fin 4, ((1 : Int32) <<< (nI R.val &&& 31)) - 1 = nI (2 ^ R.val - 1) := by decide +kernel
def bm_n (R C s : Nat) : Nat := if s = 0 then R else C
def bm_RC (R C : Nat) : Prop := 1 ≤ R ∧ R ≤ 3 ∧ 1 ≤ C ∧ C ≤ 3
theorem bm_n13 {R C s : Nat} (h : bm_RC R C) : 1 ≤ bm_n R C s ∧ bm_n R C s ≤ 3 := by
  unfold bm_RC at h
  unfold bm_n
  split <;> omega
theorem bm_all8 {n : Nat} (h : n ≤ 3) : 2 ^ n - 1 < 8 := by
  have : n = 0 ∨ n = 1 ∨ n = 2 ∨ n = 3 := by omega
  rcases this with rfl | rfl | rfl | rfl <;> decide
theorem bm_allT : ∀ (n : Fin 4) (j : Fin 3), ((2 ^ n.val - 1).testBit j.val = true ↔ j.val < n.val) := by decide +kernel
theorem bx_t8 : ∀ (d : Fin 64) (f : Fin 8), ((nI d.val &&& 7) &&& (nI f.val ^^^ (-1)) = 0 ↔ (d.val % 8) &&& f.val = d.val % 8) := by decide +kernel
section
variable {fr fc fm ft fb : Int32} {ap ae am ac aq aw ar ah : Nat → Int32}
theorem bx_every {post : Int32 → Prop} {R C s : Nat} (h : bm_RC R C) (hs : s < 2) (hp : post (nI (2 ^ bm_n R C s - 1))) : wpX_everyChoice post (nI R, nI C, fm, ft, fb, ap, ae, am, ac, aq, aw, ar, ah) (nI s) := by
  have h2 : s = 0 ∨ s = 1 := by omega
  unfold bm_RC at h
  rcases h2 with rfl | rfl
  · refine br_t rfl ?_
    rw [bx_all ⟨R, by omega⟩]
    exact hp
  · refine br_f (by decide) ?_
    rw [bx_all ⟨C, by omega⟩]
    exact hp
/-- the corners met by the demands below d -/
def bm_lst (A : Nat → Nat → Int) (M O d : Nat) (L : List bm_V) : Prop := bm_S L ∧ ∀ x, x ∈ L ↔ ∃ e, e < d ∧ bm_K A M O (7 - e / 8) (e % 8) ∧ x = bm_nv (bm_raw A (7 - e / 8) (e % 8))
theorem bx_fc24 {post : SX → Prop} {R C s M O : Nat} (hM : M < 8) (hO : O < 8) (hs : s < 2) (hp : bm_p9 ap)
    (h : ∀ fm' ae' am' ac' aq' aw' ar' L, bm_IsL (bm_A ap (1 - s) s) M O L → bm_XL (bm_A ap (1 - s) s) O (64 * s) aq' aw' ar' L → ac' s = nI L.length → (∀ j, j ≠ s → ac' j = ac j) → (∀ n, n < 64 * s ∨ 64 * s + 64 ≤ n → bm_se aq aw ar n aq' aw' ar' n) → post (fr, fc, fm', ft, fb, ap, ae', am', ac', aq', aw', ar', ah)) :
    ∀ (m d q : Nat) (fm' : Int32) (ae' am' ac' aq' aw' ar' : Nat → Int32) (L : List bm_V), d + m = 64 → m < q → bm_lst (bm_A ap (1 - s) s) M O d L → bm_XL (bm_A ap (1 - s) s) O (64 * s) aq' aw' ar' L → ac' s = nI L.length → (∀ j, j ≠ s → ac' j = ac j) → (∀ n, n < 64 * s ∨ 64 * s + 64 ≤ n → bm_se aq aw ar n aq' aw' ar' n) → wX_findCorners_24 post (nI s) (nI M) (nI O) q (nI d) fr fc fm' ft fb ap ae' am' ac' aq' aw' ar' ah := by
  intro m
  induction m with
  | zero =>
    intro d q fm' ae' am' ac' aq' aw' ar' L hd hq hL hX hc hcj hfr
    obtain ⟨q, rfl⟩ : ∃ q', q = q' + 1 := ⟨q - 1, by omega⟩
    have : d = 64 := by omega
    subst this
    refine br_t (by decide) (h _ _ _ _ _ _ _ L ⟨hL.1, fun x => ?_⟩ hX hc hcj hfr)
    rw [hL.2]
    constructor
    · rintro ⟨e, he, hK, hx⟩
      exact ⟨_, _, by omega, by omega, hK, hx⟩
    · rintro ⟨S, T, hS, hT, hK, hx⟩
      refine ⟨8 * (7 - S) + T, by omega, ?_⟩
      rw [show 7 - (8 * (7 - S) + T) / 8 = S by omega, show (8 * (7 - S) + T) % 8 = T by omega]
      exact ⟨hK, hx⟩
  | succ m ih =>
    intro d q fm' ae' am' ac' aq' aw' ar' L hd hq hL hX hc hcj hfr
    obtain ⟨q, rfl⟩ : ∃ q', q = q' + 1 := ⟨q - 1, by omega⟩
    have hA := bm_A9p hp (1 - s) s
    have skip : ¬ bm_K (bm_A ap (1 - s) s) M O (7 - d / 8) (d % 8) → bm_lst (bm_A ap (1 - s) s) M O (d + 1) L := by
      intro hn
      refine ⟨hL.1, fun x => ?_⟩
      rw [hL.2]
      constructor
      · rintro ⟨e, he, hK, hx⟩
        exact ⟨e, by omega, hK, hx⟩
      · rintro ⟨e, he, hK, hx⟩
        refine ⟨e, ?_, hK, hx⟩
        rcases Nat.lt_or_ge e d with z | z
        · exact z
        · have : e = d := by omega
          subst this
          exact absurd hK hn
    refine br_f (nI_ge (b := 64) (by omega) (by decide)) ?_
    rw [bx_1s hs]
    refine bx_solve hs (by omega) hM hO (by omega) hp (fun hfit hok ae2 am2 hm2 => ?_) (fun hno fm2 ae2 am2 => ?_)
    · refine br_f (by decide) ?_
      have hb := bm_nv_b (bm_raw_b hA _ _) hok
      refine bx_rtm hs hO hp hb hm2 ?_
      rw [bx_t8 ⟨d, by omega⟩ ⟨_, bm_rp8 _ _ _⟩]
      refine br_c (fun z => ?_) (fun z => ?_)
      · have hlen : L.length ≤ 13 := bm_len13 (A := bm_A ap (1 - s) s) hL.1 (fun x hx => by
          obtain ⟨e, he, hK, rfl⟩ := (hL.2 x).mp hx
          exact bm_fit_C (by omega) (by omega) hK.1)
        refine bx_ins (A := bm_A ap (1 - s) s) (O := O) (L := L) hs (by omega) hL.1 (fun w hw => ?_) (bm_nv_P hok) hb hm2 rfl hc hX ?_
        · obtain ⟨e, he, hK, rfl⟩ := (hL.2 w).mp hw
          exact bm_nv_b (bm_raw_b hA _ _) hK.2.1
        · intro ac3 aq3 aw3 ar3 L' hS' hmem hX' hc' hcj' hfr'
          intro y ey
          rw [nI_1] at ey
          subst ey
          refine ih (d + 1) q _ _ _ _ _ _ _ L' (by omega) (by omega) ⟨hS', fun x => ?_⟩ hX' hc' (fun j hj => (hcj' j hj).trans (hcj j hj)) (fun n hn => bm_se_t (hfr n hn) (hfr' n hn))
          rw [hmem, hL.2]
          constructor
          · rintro (hx | ⟨e, he, hK, hx⟩)
            · exact ⟨d, by omega, ⟨hfit, hok, z⟩, hx⟩
            · exact ⟨e, by omega, hK, hx⟩
          · rintro ⟨e, he, hK, hx⟩
            rcases Nat.lt_or_ge e d with y | y
            · exact Or.inr ⟨e, y, hK, hx⟩
            · have : e = d := by omega
              subst this
              exact Or.inl hx
      · intro y ey
        rw [nI_1] at ey
        subst ey
        exact ih (d + 1) q _ _ _ _ _ _ _ L (by omega) (by omega) (skip (fun hK => z hK.2.2)) hX hc hcj hfr
    · refine br_t rfl ?_
      intro y ey
      rw [nI_1] at ey
      subst ey
      exact ih (d + 1) q _ _ _ _ _ _ _ L (by omega) (by omega) (skip (fun hK => hno ⟨hK.1, hK.2.1⟩)) hX hc hcj hfr
theorem bx_fc {post : SX → Prop} {R C s : Nat} (hRC : bm_RC R C) (hs : s < 2) (hp : bm_p9 ap)
    (h : ∀ fm' ae' am' ac' aq' aw' ar' L, bm_IsL (bm_A ap (1 - s) s) (2 ^ bm_n R C s - 1) (2 ^ bm_n R C (1 - s) - 1) L → bm_XL (bm_A ap (1 - s) s) (2 ^ bm_n R C (1 - s) - 1) (64 * s) aq' aw' ar' L → ac' s = nI L.length → (∀ j, j ≠ s → ac' j = ac j) → (∀ n, n < 64 * s ∨ 64 * s + 64 ≤ n → bm_se aq aw ar n aq' aw' ar' n) → post (nI R, nI C, fm', ft, fb, ap, ae', am', ac', aq', aw', ar', ah)) : wpX_findCorners post (nI R, nI C, fm, ft, fb, ap, ae, am, ac, aq, aw, ar, ah) (nI s) := by
  unfold wpX_findCorners
  dsimp only
  refine bx_every hRC hs ?_
  rw [bx_1s hs]
  refine bx_every hRC (by omega) ?_
  refine ⟨vp_in_nI hs (by decide), ?_⟩
  intro c ec
  rw [nI_clamp (by omega)] at ec
  subst ec
  have M8 := bm_all8 (bm_n13 (s := s) hRC).2
  have O8 := bm_all8 (bm_n13 (s := 1 - s) hRC).2
  refine ⟨65, bx_fc24 (fr := nI R) (fc := nI C) (R := R) (C := C) M8 O8 hs hp ?_ 64 0 65 _ _ _ _ _ _ _ [] (by omega) (by omega) ⟨bm_S_nil, fun x => ⟨fun hx => (by cases hx), fun ⟨e, he, _⟩ => absurd he (by omega)⟩⟩ (fun k v hv => by simp at hv) (pk_us.trans rfl) (fun j hj => rfl) (fun n _ => bm_se_r _ _ _ _)⟩
  intro fm' ae' am' ac' aq' aw' ar' L h1 h2 h3 h4 h5
  exact h fm' ae' am' ac' aq' aw' ar' L h1 h2 h3 (fun j hj => (h4 j hj).trans (pk_un hj)) h5
/-- the corner v uses only what f holds -/
def bm_uo (v : bm_V) (f : Nat) : Bool := (decide (bm_at v 0 ≤ 0) || f.testBit 0) && (decide (bm_at v 1 ≤ 0) || f.testBit 1) && (decide (bm_at v 2 ≤ 0) || f.testBit 2)
theorem bx_uor {post : Int32 → Prop} {n n' f : Nat} {v : bm_V} (hn : n < 128) (hn' : n' < 128) (hf : f < 8) (hb : bm_b3 v) (h1 : ∀ i, i < 3 → aq (3 * n + i) = bm_i (bm_at v i)) (h2 : ar n' = nI f) (h : post (if bm_uo v f = true then 1 else 0)) : wpX_usesOnlyReplies post (fr, fc, fm, ft, fb, ap, ae, am, ac, aq, aw, ar, ah) (nI n) (nI n') := by
  have step : ∀ (q i : Nat), i < 3 → ((decide (bm_at v i ≤ 0) || f.testBit i) = true → wX_usesOnlyReplies_2 post (nI n) (nI n') fr fc fm ft fb ap ae am ac aq aw ar ah q (nI (i + 1))) → ((decide (bm_at v i ≤ 0) || f.testBit i) = false → post 0) → wX_usesOnlyReplies_2 post (nI n) (nI n') fr fc fm ft fb ap ae am ac aq aw ar ah (q + 1) (nI i) := by
    intro q i hi ht hf0
    refine br_f (nI_ge (b := 3) hi (by decide)) ⟨pk_in (3 * n + i) 384 (by omega) (bx_3 n i), ?_⟩
    have ab := bm_at_b hb i
    rw [bx_3, nI_clamp (by omega), h1 i hi, ← bm_0, bm_le (by omega) (by omega) (by omega) (by omega)]
    refine br_c (fun z => ?_) (fun z => ⟨vp_in_nI hn' (by decide), ?_⟩)
    · intro y ey
      rw [nI_1] at ey
      subst ey
      exact ht (by simp [z])
    · rw [nI_clamp (by omega), h2]
      refine bx_bit0 hf hi (fun y => ?_) (fun y => ?_)
      · exact hf0 (by simp [y]; omega)
      · intro k ek
        rw [nI_1] at ek
        subst ek
        exact ht (by simp [y])
  unfold bm_uo at h
  refine ⟨4, step 3 0 (by omega) (fun z0 => step 2 1 (by omega) (fun z1 => step 1 2 (by omega) (fun z2 => br_t (by decide) ?_) (fun z2 => ?_)) (fun z1 => ?_)) (fun z0 => ?_)⟩
  · rw [z0, z1, z2] at h
    exact h
  · rw [z2, Bool.and_false] at h
    exact h
  · rw [z1, Bool.and_false, Bool.false_and] at h
    exact h
  · rw [z0, Bool.false_and, Bool.false_and] at h
    exact h
end
/-! the pairs that are equilibria, in their order -/
def bm_eI (E : Nat → Nat → Bool) (i : Nat) (acc : List (Nat × Nat)) : Nat → List (Nat × Nat)
  | 0 => acc
  | j + 1 => if E i j = true then bm_eI E i acc j ++ [(i, j)] else bm_eI E i acc j
def bm_eO (E : Nat → Nat → Bool) (n1 : Nat) : Nat → List (Nat × Nat)
  | 0 => []
  | i + 1 => bm_eI E i (bm_eO E n1 i) n1
theorem bm_eI_len (E : Nat → Nat → Bool) (i : Nat) (acc : List (Nat × Nat)) : ∀ j, (bm_eI E i acc j).length ≤ acc.length + j
  | 0 => Nat.le_refl _
  | j + 1 => by
    have := bm_eI_len E i acc j
    unfold bm_eI
    split
    · rw [List.length_append]
      show _ + 1 ≤ _
      omega
    · omega
theorem bm_eO_len (E : Nat → Nat → Bool) (n1 : Nat) : ∀ i, (bm_eO E n1 i).length ≤ i * n1
  | 0 => by simp [bm_eO]
  | i + 1 => by
    have := bm_eO_len E n1 i
    have h2 := bm_eI_len E i (bm_eO E n1 i) n1
    rw [Nat.succ_mul]
    show (bm_eI E i (bm_eO E n1 i) n1).length ≤ _
    omega
theorem bm_eI_pre (E : Nat → Nat → Bool) (i : Nat) (acc : List (Nat × Nat)) {n : Nat} {q : Nat × Nat} (h : acc[n]? = some q) : ∀ j, (bm_eI E i acc j)[n]? = some q
  | 0 => h
  | j + 1 => by
    have := bm_eI_pre E i acc h j
    unfold bm_eI
    split
    · rw [List.getElem?_append_left (List.getElem?_eq_some_iff.mp this).1]
      exact this
    · exact this
theorem bm_eI_pre2 (E : Nat → Nat → Bool) (i : Nat) (acc : List (Nat × Nat)) {n j : Nat} {q : Nat × Nat} (h : (bm_eI E i acc j)[n]? = some q) : ∀ m, (bm_eI E i acc (j + m))[n]? = some q
  | 0 => h
  | m + 1 => by
    have := bm_eI_pre2 E i acc h m
    show (if E i (j + m) = true then bm_eI E i acc (j + m) ++ [(i, j + m)] else bm_eI E i acc (j + m))[n]? = some q
    split
    · rw [List.getElem?_append_left (List.getElem?_eq_some_iff.mp this).1]
      exact this
    · exact this
theorem bm_eO_pre (E : Nat → Nat → Bool) (n1 : Nat) {n i : Nat} {q : Nat × Nat} (h : (bm_eO E n1 i)[n]? = some q) : ∀ m, (bm_eO E n1 (i + m))[n]? = some q
  | 0 => h
  | m + 1 => bm_eI_pre E (i + m) _ (bm_eO_pre E n1 h m) n1
theorem bm_eI_mem (E : Nat → Nat → Bool) (i : Nat) (acc : List (Nat × Nat)) : ∀ j q, q ∈ bm_eI E i acc j → q ∈ acc ∨ (q.1 = i ∧ q.2 < j ∧ E q.1 q.2 = true)
  | 0, q, h => Or.inl h
  | j + 1, q, h => by
    unfold bm_eI at h
    split at h
    · rename_i hE
      rcases List.mem_append.mp h with h | h
      · rcases bm_eI_mem E i acc j q h with h | ⟨a, b, c⟩
        · exact Or.inl h
        · exact Or.inr ⟨a, by omega, c⟩
      · rw [List.mem_singleton] at h
        subst h
        exact Or.inr ⟨rfl, by dsimp only; omega, hE⟩
    · rcases bm_eI_mem E i acc j q h with h | ⟨a, b, c⟩
      · exact Or.inl h
      · exact Or.inr ⟨a, by omega, c⟩
theorem bm_eO_mem (E : Nat → Nat → Bool) (n1 : Nat) : ∀ i q, q ∈ bm_eO E n1 i → q.1 < i ∧ q.2 < n1 ∧ E q.1 q.2 = true
  | 0, q, h => by cases h
  | i + 1, q, h => by
    rcases bm_eI_mem E i _ n1 q h with h | ⟨a, b, c⟩
    · have := bm_eO_mem E n1 i q h
      exact ⟨by omega, this.2⟩
    · exact ⟨by omega, b, c⟩
end
section
def bm_E (p : Nat → Int32) (R C : Nat) (L0 L1 : List bm_V) (i j : Nat) : Bool := match L0[i]?, L1[j]? with
  | some v, some w => bm_uo v (bm_rp (bm_A p 0 1) (2 ^ R - 1) w) && bm_uo w (bm_rp (bm_A p 1 0) (2 ^ C - 1) v)
  | _, _ => false
/-- the chosen ones -/
def bm_Ch (kk : Int32) (l : List (Nat × Nat)) (ah : Nat → Int32) : Prop := ∀ n a b, n < 2 ^ 31 → kk = nI n → l[n]? = some (a, b) → ah 0 = nI a ∧ ah 1 = nI (64 + b)
/-- the corners of both sides as they lie in the component -/
def bm_XS (p : Nat → Int32) (R C : Nat) (L0 L1 : List bm_V) (ac aq aw ar : Nat → Int32) : Prop :=
  bm_IsL (bm_A p 1 0) (2 ^ R - 1) (2 ^ C - 1) L0 ∧ bm_IsL (bm_A p 0 1) (2 ^ C - 1) (2 ^ R - 1) L1 ∧ bm_XL (bm_A p 1 0) (2 ^ C - 1) 0 aq aw ar L0 ∧ bm_XL (bm_A p 0 1) (2 ^ R - 1) 64 aq aw ar L1 ∧ ac 0 = nI L0.length ∧ ac 1 = nI L1.length
section
variable {fr fc fm ft fb : Int32} {ap ae am ac aq aw ar ah : Nat → Int32}
theorem bx_28 {post : Int32 → SX → Prop} {J : Int32 → Int32 → (Nat → Int32) → (Nat → Int32) → (Nat → Int32) → (Nat → Int32) → (Nat → Int32) → (Nat → Int32) → (Nat → Int32) → (Nat → Int32) → Prop} {kk : Int32} {R C i : Nat} {L0 L1 : List bm_V} {acc : List (Nat × Nat)} (hp : bm_p9 ap) (hS : bm_XS ap R C L0 L1 ac aq aw ar) (hi : i < L0.length) (hacc : acc.length ≤ 1000)
    (hJ : ∀ ah2, bm_Ch kk (bm_eI (bm_E ap R C L0 L1) i acc L1.length) ah2 → J (nI (bm_eI (bm_E ap R C L0 L1) i acc L1.length).length) (nI (i + 1)) ap ae am ac aq aw ar ah2) :
    ∀ (m j q : Nat) (ah1 : Nat → Int32), j + m = L1.length → m < q → bm_Ch kk (bm_eI (bm_E ap R C L0 L1) i acc j) ah1 → wX_seek_28 post J kk (nI i) fr fc fm ft fb q (nI (bm_eI (bm_E ap R C L0 L1) i acc j).length) (nI (64 + j)) ap ae am ac aq aw ar ah1 := by
  obtain ⟨hI0, hI1, hX0, hX1, hc0, hc1⟩ := hS
  have k0 := bm_IsL_b (bm_A9p hp 1 0) hI0
  have k1 := bm_IsL_b (bm_A9p hp 0 1) hI1
  intro m
  induction m with
  | zero =>
    intro j q ah1 hj hq hC
    obtain ⟨q, rfl⟩ : ∃ q', q = q' + 1 := ⟨q - 1, by omega⟩
    have : j = L1.length := by omega
    subst this
    unfold wX_seek_28
    rw [hc1]
    refine br_t (by rw [show (64 : Int32) + nI L1.length = nI (64 + L1.length) from nI_add 64 _]; exact nI_le (by omega) (by omega)) ?_
    intro y ey
    rw [nI_1] at ey
    subst ey
    exact hJ ah1 hC
  | succ m ih =>
    intro j q ah1 hj hq hC
    obtain ⟨q, rfl⟩ : ∃ q', q = q' + 1 := ⟨q - 1, by omega⟩
    have hj1 : j < L1.length := by omega
    obtain ⟨v, hv⟩ : ∃ v, L0[i]? = some v := ⟨_, List.getElem?_eq_getElem hi⟩
    obtain ⟨w, hw⟩ : ∃ w, L1[j]? = some w := ⟨_, List.getElem?_eq_getElem hj1⟩
    have hvb := k0.2.1 v (List.mem_of_getElem? hv)
    have hwb := k1.2.1 w (List.mem_of_getElem? hw)
    have sv := hX0 i v hv
    have sw := hX1 j w hw
    rw [Nat.zero_add] at sv
    have eE : bm_E ap R C L0 L1 i j = (bm_uo v (bm_rp (bm_A ap 0 1) (2 ^ R - 1) w) && bm_uo w (bm_rp (bm_A ap 1 0) (2 ^ C - 1) v)) := by
      unfold bm_E
      rw [hv, hw]
    have len := bm_eI_len (bm_E ap R C L0 L1) i acc j
    have no : bm_E ap R C L0 L1 i j = false → bm_eI (bm_E ap R C L0 L1) i acc (j + 1) = bm_eI (bm_E ap R C L0 L1) i acc j := by
      intro h
      show (if bm_E ap R C L0 L1 i j = true then _ else _) = _
      rw [h]
      rfl
    have yes : bm_E ap R C L0 L1 i j = true → bm_eI (bm_E ap R C L0 L1) i acc (j + 1) = bm_eI (bm_E ap R C L0 L1) i acc j ++ [(i, j)] := by
      intro h
      show (if bm_E ap R C L0 L1 i j = true then _ else _) = _
      rw [if_pos h]
    have skip : bm_E ap R C L0 L1 i j = false → ∀ y, y = nI (64 + j) + 1 → wX_seek_28 post J kk (nI i) fr fc fm ft fb q (nI (bm_eI (bm_E ap R C L0 L1) i acc j).length) y ap ae am ac aq aw ar ah1 := by
      intro h y ey
      rw [show nI (64 + j) + 1 = nI (64 + (j + 1)) from nI_1 _] at ey
      subst ey
      have := ih (j + 1) q ah1 (by omega) (by omega) (by rw [no h]; exact hC)
      rw [no h] at this
      exact this
    unfold wX_seek_28
    rw [hc1]
    refine br_f (by rw [show (64 : Int32) + nI L1.length = nI (64 + L1.length) from nI_add 64 _]; exact nI_ge (by omega) (by omega)) ?_
    refine bx_uor (v := v) (f := bm_rp (bm_A ap 0 1) (2 ^ R - 1) w) (by omega) (by omega) (bm_rp8 _ _ _) hvb sv.1 sw.2.2 ?_
    cases h1 : bm_uo v (bm_rp (bm_A ap 0 1) (2 ^ R - 1) w)
    · exact br_t rfl (skip (by rw [eE, h1]; rfl))
    · refine br_f (by decide) ?_
      refine bx_uor (v := w) (f := bm_rp (bm_A ap 1 0) (2 ^ C - 1) v) (by omega) (by omega) (bm_rp8 _ _ _) hwb sw.1 sv.2.2 ?_
      cases h2 : bm_uo w (bm_rp (bm_A ap 1 0) (2 ^ C - 1) v)
      · exact br_t rfl (skip (by rw [eE, h2, Bool.and_false]))
      · have hE : bm_E ap R C L0 L1 i j = true := by rw [eE, h1, h2]; rfl
        refine br_f (by decide) (br_c (fun z => ?_) (fun z => ?_))
        · intro a1 e1 a2 e2 x ex y ey
          rw [nI_1] at ex
          rw [show nI (64 + j) + 1 = nI (64 + (j + 1)) from nI_1 _] at ey
          subst e1 e2 ex ey
          have := ih (j + 1) q (upd (upd ah1 0 (nI i)) 1 (nI (64 + j))) (by omega) (by omega) (by
            rw [yes hE]
            intro n a b hn hkn hl
            have hh : (bm_eI (bm_E ap R C L0 L1) i acc j).length = n := (nI_eq (by omega) hn).mp (z.trans hkn)
            rw [← hh, List.getElem?_append_right (Nat.le_refl _), Nat.sub_self] at hl
            cases hl
            exact ⟨rfl, rfl⟩)
          rw [yes hE, List.length_append] at this
          exact this
        · intro x ex y ey
          rw [nI_1] at ex
          rw [show nI (64 + j) + 1 = nI (64 + (j + 1)) from nI_1 _] at ey
          subst ex ey
          have := ih (j + 1) q ah1 (by omega) (by omega) (by
            rw [yes hE]
            intro n a b hn hkn hl
            have hh : ¬ (bm_eI (bm_E ap R C L0 L1) i acc j).length = n := fun q => z (by rw [hkn, q])
            rcases Nat.lt_or_ge n (bm_eI (bm_E ap R C L0 L1) i acc j).length with y | y
            · rw [List.getElem?_append_left y] at hl
              exact hC n a b hn hkn hl
            · rw [List.getElem?_append_right y, List.getElem?_eq_none (by show 1 ≤ _; omega)] at hl
              cases hl)
          rw [yes hE, List.length_append] at this
          exact this
theorem bx_14 {post : Int32 → SX → Prop} {kk : Int32} {R C : Nat} {L0 L1 : List bm_V} (hp : bm_p9 ap) (hS : bm_XS ap R C L0 L1 ac aq aw ar)
    (h : ∀ ah', bm_Ch kk (bm_eO (bm_E ap R C L0 L1) L1.length L0.length) ah' → post (nI (bm_eO (bm_E ap R C L0 L1) L1.length L0.length).length) (fr, fc, fm, ft, fb, ap, ae, am, ac, aq, aw, ar, ah')) :
    ∀ (m i q : Nat) (ah1 : Nat → Int32), i + m = L0.length → m < q → bm_Ch kk (bm_eO (bm_E ap R C L0 L1) L1.length i) ah1 → wX_seek_14 post kk fr fc fm ft fb q (nI (bm_eO (bm_E ap R C L0 L1) L1.length i).length) (nI i) ap ae am ac aq aw ar ah1 := by
  have hc0 := hS.2.2.2.2.1
  have k0 := bm_IsL_b (bm_A9p hp 1 0) hS.1
  have k1 := bm_IsL_b (bm_A9p hp 0 1) hS.2.1
  intro m
  induction m with
  | zero =>
    intro i q ah1 hi hq hC
    obtain ⟨q, rfl⟩ : ∃ q', q = q' + 1 := ⟨q - 1, by omega⟩
    have : i = L0.length := by omega
    subst this
    unfold wX_seek_14
    rw [hc0]
    exact br_t (nI_le (by omega) (by omega)) (h ah1 hC)
  | succ m ih =>
    intro i q ah1 hi hq hC
    obtain ⟨q, rfl⟩ : ∃ q', q = q' + 1 := ⟨q - 1, by omega⟩
    unfold wX_seek_14
    rw [hc0]
    refine br_f (nI_ge (by omega) (by omega)) ⟨L1.length + 1, ?_⟩
    have hl := bm_eO_len (bm_E ap R C L0 L1) L1.length i
    have : i * L1.length ≤ 13 * 13 := Nat.mul_le_mul (by omega) k1.1
    exact bx_28 hp hS (by omega) (by omega) (fun ah2 h2 => ih (i + 1) q ah2 (by omega) (by omega) h2) L1.length 0 (L1.length + 1) ah1 (by omega) (by omega) hC
theorem bx_seek {post : Int32 → SX → Prop} {kk : Int32} {R C : Nat} (hRC : bm_RC R C) (hp : bm_p9 ap)
    (h : ∀ L0 L1 fm' ae' am' ac' aq' aw' ar' ah', bm_XS ap R C L0 L1 ac' aq' aw' ar' → bm_Ch kk (bm_eO (bm_E ap R C L0 L1) L1.length L0.length) ah' → post (nI (bm_eO (bm_E ap R C L0 L1) L1.length L0.length).length) (nI R, nI C, fm', ft, fb, ap, ae', am', ac', aq', aw', ar', ah')) : wpX_seek post (nI R, nI C, fm, ft, fb, ap, ae, am, ac, aq, aw, ar, ah) kk := by
  unfold wpX_seek
  dsimp only
  refine bx_fc (s := 0) hRC (by omega) hp (fun fm1 ae1 am1 ac1 aq1 aw1 ar1 L0 hI0 hX0 hc0 _ _ => ?_)
  dsimp only
  refine bx_fc (s := 1) hRC (by omega) hp (fun fm2 ae2 am2 ac2 aq2 aw2 ar2 L1 hI1 hX1 hc1 hcj hfr => ?_)
  have k0 := bm_IsL_b (bm_A9p hp 1 0) hI0
  have hS : bm_XS ap R C L0 L1 ac2 aq2 aw2 ar2 := by
    refine ⟨hI0, hI1, ?_, hX1, (hcj 0 (by omega)).trans hc0, hc1⟩
    intro k v hv
    have := (List.getElem?_eq_some_iff.mp hv).1
    exact bm_se_H (hfr _ (by omega)) (hX0 k v hv)
  exact ⟨L0.length + 1, bx_14 hp hS (fun ah' hC => h L0 L1 _ _ _ _ _ _ _ ah' hS hC) L0.length 0 (L0.length + 1) _ (by omega) (by omega) (fun n a b _ _ hl => by cases hl)⟩
theorem bx_choose {post : Int32 → SX → Prop} {kk : Int32} {R C : Nat} (hRC : bm_RC R C) (hp : bm_p9 ap)
    (h0 : (kk < 0 ∨ ∃ n, n < 2 ^ 31 ∧ kk = nI n ∧ ∃ L0 L1, bm_IsL (bm_A ap 1 0) (2 ^ R - 1) (2 ^ C - 1) L0 ∧ bm_IsL (bm_A ap 0 1) (2 ^ C - 1) (2 ^ R - 1) L1 ∧ (bm_eO (bm_E ap R C L0 L1) L1.length L0.length)[n]? = none) → ∀ fm' ae' am' ac' aq' aw' ar' ah', post 0 (nI R, nI C, fm', ft, fb, ap, ae', am', ac', aq', aw', ar', ah'))
    (h1 : ∀ n a b L0 L1 fm' ae' am' ac' aq' aw' ar' ah', n < 2 ^ 31 → kk = nI n → bm_XS ap R C L0 L1 ac' aq' aw' ar' → (bm_eO (bm_E ap R C L0 L1) L1.length L0.length)[n]? = some (a, b) → ah' 0 = nI a → ah' 1 = nI (64 + b) → post 1 (nI R, nI C, fm', ft, fb, ap, ae', am', ac', aq', aw', ar', ah')) : wpX_choose post (nI R, nI C, fm, ft, fb, ap, ae, am, ac, aq, aw, ar, ah) kk := by
  refine br_c (fun z => h0 (Or.inl z) _ _ _ _ _ _ _ _) (fun z => ?_)
  obtain ⟨n, hn, hkn⟩ := nI_of z
  refine bx_seek hRC hp (fun L0 L1 fm' ae' am' ac' aq' aw' ar' ah' hS hC => ?_)
  have k0 := bm_IsL_b (bm_A9p hp 1 0) hS.1
  have k1 := bm_IsL_b (bm_A9p hp 0 1) hS.2.1
  have hl := bm_eO_len (bm_E ap R C L0 L1) L1.length L0.length
  have : L0.length * L1.length ≤ 13 * 13 := Nat.mul_le_mul k0.1 k1.1
  dsimp only
  subst hkn
  refine pk_le _ n (fun y => h0 (Or.inr ⟨n, hn, rfl, L0, L1, hS.1, hS.2.1, List.getElem?_eq_none y⟩) _ _ _ _ _ _ _ _) (fun y => ?_) rfl rfl (by omega) hn
  obtain ⟨⟨a, b⟩, hab⟩ : ∃ q, (bm_eO (bm_E ap R C L0 L1) L1.length L0.length)[n]? = some q := ⟨_, List.getElem?_eq_getElem y⟩
  have hc := hC n a b hn rfl hab
  exact h1 n a b L0 L1 _ _ _ _ _ _ _ _ hn rfl hS hab hc.1 hc.2
end
end
section
theorem by_9 (w z : Nat) : 9 * nI w + nI z = nI (9 * w + z) := by
  show nI 9 * nI w + nI z = _
  rw [pk_mul, nI_add]
def bm_B (p : Nat → Int32) (s : Nat) (own : Bool) (i j : Nat) : Int := if own = true then -(bm_A p s s i j) else bm_A p (1 - s) s i j
def bm_ow (own : Bool) : Int32 := if own = true then 1 else 0
theorem bm_B9 {p : Nat → Int32} (h : bm_p9 p) (s : Nat) (own : Bool) : bm_A9 (bm_B p s own) := by
  intro i j hi hj
  unfold bm_B
  split
  · have := bm_A9p h s s i j hi hj
    omega
  · exact bm_A9p h (1 - s) s i j hi hj
section
variable {yr yc : Int32} {yp ys yn yq yw ym yg : Nat → Int32}
theorem by_value {post : Int32 → Prop} {w s i j : Nat} (hw : w < 2) (hs : s < 2) (hi : i < 3) (hj : j < 3) (h : post (bm_i (bm_A yp w s i j))) : wpY_value post (yr, yc, yp, ys, yn, yq, yw, ym, yg) (nI w) (nI s) (nI i) (nI j) := by
  rw [← bm_Ao] at h
  have h2 : s = 0 ∨ s = 1 := by omega
  rcases h2 with rfl | rfl
  · refine br_t rfl ⟨?_, ?_⟩
    · rw [bx_3]
      exact pk_in (9 * w + (3 * i + j)) 18 (by omega) (by_9 _ _)
    · rw [bx_3, by_9, nI_clamp (by omega)]
      exact h
  · refine br_f (by decide) ⟨?_, ?_⟩
    · rw [bx_3]
      exact pk_in (9 * w + (3 * j + i)) 18 (by omega) (by_9 _ _)
    · rw [bx_3, by_9, nI_clamp (by omega)]
      exact h
theorem by_17 {post : SY → Prop} {J : Int32 → (Nat → Int32) → (Nat → Int32) → (Nat → Int32) → (Nat → Int32) → (Nat → Int32) → (Nat → Int32) → (Nat → Int32) → Prop} {s j : Nat} {own : Bool} {v : bm_V} (hs : s < 2) (hj : j < 3) (hm : bm_H ym v) (hg : yg j = 0)
    (h : ∀ yg', yg' j = bm_i (bm_gn (bm_B yp s own) v j) → (∀ k, k ≠ j → yg' k = yg k) → J (nI (j + 1)) yp ys yn yq yw ym yg') : ∃ n, wY_against_17 post J (nI s) (bm_ow own) (nI j) yr yc n 0 yp ys yn yq yw ym yg := by
  have step : ∀ (n i : Nat) (g : Nat → Int32), i < 3 → wY_against_17 post J (nI s) (bm_ow own) (nI j) yr yc n (nI (i + 1)) yp ys yn yq yw ym (upd g j (g j + bm_i (bm_at v i * bm_B yp s own i j))) → wY_against_17 post J (nI s) (bm_ow own) (nI j) yr yc (n + 1) (nI i) yp ys yn yq yw ym g := by
    intro n i g hi hk
    refine br_f (nI_ge (b := 3) hi (by decide)) ⟨vp_in_nI hj (by decide), vp_in_nI hi (by decide), ?_⟩
    cases own with
    | false =>
      refine br_t rfl ?_
      rw [bx_1s hs]
      refine by_value (by omega) hs hi hj ⟨vp_in_nI hj (by decide), ?_⟩
      intro y ey k ek
      rw [nI_clamp (by omega), nI_clamp (by omega), bm_H_at hm hi, bm_mul] at ey
      rw [nI_1] at ek
      subst ey ek
      exact hk
    | true =>
      refine br_f (by decide) ?_
      refine by_value hs hs hi hj ⟨vp_in_nI hj (by decide), ?_⟩
      intro y ey k ek
      rw [nI_clamp (by omega), nI_clamp (by omega), bm_H_at hm hi, bm_neg, bm_mul] at ey
      rw [nI_1] at ek
      subst ey ek
      exact hk
  refine ⟨4, step 3 0 _ (by omega) (step 2 1 _ (by omega) (step 1 2 _ (by omega) (br_t (by decide) ?_)))⟩
  intro y ey
  rw [nI_1] at ey
  subst ey
  refine h _ ?_ (fun k hk => by rw [pk_un hk, pk_un hk, pk_un hk])
  rw [pk_us, pk_us, pk_us, hg, ← bm_0, bm_add, bm_add, bm_add]
  congr 1
  unfold bm_gn
  show 0 + v.1 * _ + v.2.1 * _ + v.2.2 * _ = _
  omega
theorem by_against {post : SY → Prop} {s : Nat} {own : Bool} {v : bm_V} (hs : s < 2) (hm : bm_H ym v) (h : ∀ yg', (∀ j, j < 3 → yg' j = bm_i (bm_gn (bm_B yp s own) v j)) → post (yr, yc, yp, ys, yn, yq, yw, ym, yg')) : wpY_against post (yr, yc, yp, ys, yn, yq, yw, ym, yg) (nI s) (bm_ow own) := by
  have step : ∀ (n j : Nat) (g : Nat → Int32), j < 3 → (∀ k, k < j → g k = bm_i (bm_gn (bm_B yp s own) v k)) → (∀ g', (∀ k, k < j + 1 → g' k = bm_i (bm_gn (bm_B yp s own) v k)) → wY_against_2 post (nI s) (bm_ow own) yr yc n (nI (j + 1)) yp ys yn yq yw ym g') → wY_against_2 post (nI s) (bm_ow own) yr yc (n + 1) (nI j) yp ys yn yq yw ym g := by
    intro n j g hj h1 hk
    refine br_f (nI_ge (b := 3) hj (by decide)) ⟨vp_in_nI hj (by decide), ?_⟩
    intro y ey
    rw [nI_clamp (by omega)] at ey
    subst ey
    refine by_17 hs hj hm pk_us (fun yg' e1 e2 => hk _ (fun k hk => ?_))
    by_cases z : k = j
    · subst z
      exact e1
    · rw [e2 k z, pk_un z]
      exact h1 k (by omega)
  exact ⟨4, step 3 0 _ (by omega) (fun k hk => absurd hk (by omega)) (fun g1 h1 => step 2 1 _ (by omega) h1 (fun g2 h2 => step 1 2 _ (by omega) h2 (fun g3 h3 => br_t (by decide) (h g3 h3))))⟩
theorem by_greatest {post : Int32 → Prop} {A : Nat → Nat → Int} {O : Nat} {v : bm_V} (hO : O < 8) (hA : bm_A9 A) (hv : bm_b3 v) (hg : ∀ j, j < 3 → yg j = bm_i (bm_gn A v j)) (h : post (bm_i (bm_mx A O v))) : wpY_greatest post (yr, yc, yp, ys, yn, yq, yw, ym, yg) (nI O) := by
  have mb : ∀ m j, j < 3 → -1000000 ≤ m ∧ m ≤ 17496 → -1000000 ≤ bm_mf A O v m j ∧ bm_mf A O v m j ≤ 17496 := by
    intro m j hj hm
    have := bm_gn_b hA hv hj
    unfold bm_mf
    split <;> omega
  have step : ∀ (n j : Nat) (m : Int), j < 3 → -1000000 ≤ m ∧ m ≤ 17496 → wY_greatest_5 post (nI O) yr yc yp ys yn yq yw ym yg n (bm_i (bm_mf A O v m j)) (nI (j + 1)) → wY_greatest_5 post (nI O) yr yc yp ys yn yq yw ym yg (n + 1) (bm_i m) (nI j) := by
    intro n j m hj hm hk
    have gb := bm_gn_b hA hv hj
    refine br_f (nI_ge (b := 3) hj (by decide)) (bx_bit hO hj (fun z => ⟨vp_in_nI hj (by decide), ?_⟩) (fun z => ?_))
    · rw [nI_clamp (by omega), hg j hj, bm_le (by omega) (by omega) (by omega) (by omega)]
      refine br_c (fun y => ?_) (fun y => ⟨vp_in_nI hj (by decide), ?_⟩)
      · intro k ek
        rw [nI_1] at ek
        subst ek
        unfold bm_mf at hk
        rw [if_neg (by omega)] at hk
        exact hk
      · intro x ex k ek
        rw [nI_1] at ek
        subst ex ek
        unfold bm_mf at hk
        rw [if_pos ⟨z, by omega⟩] at hk
        exact hk
    · intro k ek
      rw [nI_1] at ek
      subst ek
      unfold bm_mf at hk
      rw [if_neg (by rw [z]; rintro ⟨q, -⟩; cases q)] at hk
      exact hk
  have m0 : -1000000 ≤ (-1000000 : Int) ∧ (-1000000 : Int) ≤ 17496 := by omega
  have m1 := mb _ 0 (by omega) m0
  have m2 := mb _ 1 (by omega) m1
  exact ⟨4, step 3 0 (-1000000) (by omega) m0 (step 2 1 _ (by omega) m1 (step 1 2 _ (by omega) m2 (br_t (by decide) h)))⟩
theorem by_c26 {post : Int32 → Prop} : ∀ n g h t : Nat, bm_En n g h → g < 2 ^ 31 → h < 2 ^ 31 → t + n = 40 → post (nI (max 1 (Nat.gcd g h))) → wY_common_26 post yr yc yp ys yn yq yw ym yg (n + 1) (nI g) (nI h) (nI t) := by
  intro n
  induction n with
  | zero =>
    intro g h t e hg hh ht hp
    have h0 := bm_En0 e
    subst h0
    rw [Nat.gcd_zero_right] at hp
    refine br_t (nI_le (a := 40) (by omega) (by omega)) (pk_le 1 g (fun z => ?_) (fun z => ?_) rfl rfl (by omega) (by omega))
    · rw [Nat.max_eq_right z] at hp
      exact hp
    · rw [Nat.max_eq_left (by omega)] at hp
      exact hp
  | succ n ih =>
    intro g h t e hg hh ht hp
    refine br_f (nI_ge (b := 40) (by omega) (by decide)) ?_
    by_cases z : h = 0
    · subst z
      refine br_t rfl ?_
      intro k ek
      rw [nI_1] at ek
      subst ek
      exact ih g 0 (t + 1) bm_En_0 hg hh (by omega) hp
    · have hn : ¬ nI h = 0 := nI_ne0 (by omega) hh
      refine br_f hn (br_f hn ⟨hn, ?_⟩)
      intro y ey k ek
      rw [pk_rem hg (by omega) hh] at ey
      rw [nI_1] at ek
      subst ey ek
      have hr : g % h < h := Nat.mod_lt _ (by omega)
      refine ih h (g % h) (t + 1) (bm_EnS e (by omega)) hh (by omega) (by omega) ?_
      rw [← bm_gcdS]
      exact hp
theorem by_common {post : Int32 → Prop} {a b : Int} (ha : a.natAbs < 2147483648) (hb : b.natAbs < 165580141) (h : post (nI (max 1 (Nat.gcd a.natAbs b.natAbs)))) : wpY_common post (yr, yc, yp, ys, yn, yq, yw, ym, yg) (bm_i a) (bm_i b) := by
  have go : wY_common_10 post (bm_i b) (nI a.natAbs) yr yc yp ys yn yq yw ym yg := by
    have k := by_c26 (yr := yr) (yc := yc) (yp := yp) (ys := ys) (yn := yn) (yq := yq) (yw := yw) (ym := ym) (yg := yg) (post := post) 40 a.natAbs b.natAbs 0 (bm_En40 hb) ha (by omega) (by omega) h
    rcases Int.lt_or_le b 0 with z | z
    · refine br_f ?_ ?_
      · rw [← bm_0, bm_le (by omega) (by omega) (by omega) (by omega)]
        omega
      · intro y ey
        rw [bm_absn z] at ey
        subst ey
        exact ⟨41, k⟩
    · refine br_t ?_ ?_
      · rw [← bm_0, bm_le (by omega) (by omega) (by omega) (by omega)]
        omega
      · rw [bm_abs z]
        exact ⟨41, k⟩
  rcases Int.lt_or_le a 0 with z | z
  · refine br_f ?_ ?_
    · rw [← bm_0, bm_le (by omega) (by omega) (by omega) (by omega)]
      omega
    · rw [bm_absn z]
      exact go
  · refine br_t ?_ ?_
    · rw [← bm_0, bm_le (by omega) (by omega) (by omega) (by omega)]
      omega
    · rw [bm_abs z]
      exact go
theorem by_atom {post : Int32 → Prop} {w s i j k : Nat} (hw : w < 2) (hs : s < 2) (hi : i < 3) (hj : j < 3) (hk : k < 3) (h : post (bm_i (bm_A yp w s i j - bm_A yp w s i k))) : wpY_atom post (yr, yc, yp, ys, yn, yq, yw, ym, yg) (nI w) (nI s) (nI i) (nI j) (nI k) := by
  unfold wpY_atom
  dsimp only
  refine by_value hw hs hi hj (by_value hw hs hi hk ?_)
  rw [bm_sub]
  exact h
end
theorem by_fs : ∀ T : Fin 8, (if (nI T.val &&& 1) = 1 then (0 : Int32) else if (nI T.val &&& 2) = 2 then 1 else 2) = nI (bm_fs T.val) := by decide +kernel
theorem by_ls : ∀ T : Fin 8, (if (nI T.val &&& 4) = 4 then (2 : Int32) else if (nI T.val &&& 2) = 2 then 1 else 0) = nI (bm_ls T.val) := by decide +kernel
section
variable {yr yc : Int32} {yp ys yn yq yw ym yg : Nat → Int32}
theorem by_first {post : Int32 → Prop} {T : Nat} (hT : T < 8) (h : post (nI (bm_fs T))) : wpY_first post (yr, yc, yp, ys, yn, yq, yw, ym, yg) (nI T) := by
  rw [← by_fs ⟨T, hT⟩] at h
  dsimp only at h
  refine br_c (fun z => ?_) (fun z => br_c (fun y => ?_) (fun y => ?_))
  · rw [if_pos z] at h
    exact h
  · rw [if_neg z, if_pos y] at h
    exact h
  · rw [if_neg z, if_neg y] at h
    exact h
theorem by_last {post : Int32 → Prop} {T : Nat} (hT : T < 8) (h : post (nI (bm_ls T))) : wpY_last post (yr, yc, yp, ys, yn, yq, yw, ym, yg) (nI T) := by
  rw [← by_ls ⟨T, hT⟩] at h
  dsimp only at h
  refine br_c (fun z => ?_) (fun z => br_c (fun y => ?_) (fun y => ?_))
  · rw [if_pos z] at h
    exact h
  · rw [if_neg z, if_pos y] at h
    exact h
  · rw [if_neg z, if_neg y] at h
    exact h
theorem by_size {post : Int32 → Prop} {T : Nat} (hT : T < 8) (h : post (nI (bm_sz T))) : wpY_size post (yr, yc, yp, ys, yn, yq, yw, ym, yg) (nI T) := by
  unfold wpY_size
  dsimp only
  rw [bx_bits ⟨T, hT⟩]
  exact h
end
end
section
theorem bm_nv_at {m : bm_V} (h : bm_sg m ≠ 0) (i : Nat) : (bm_e m * bm_at m i).tdiv (bm_g3 m : Int) = bm_at (bm_nv m) i ∧ (0 ≤ bm_at (bm_nv m) i ↔ 0 ≤ bm_e m * bm_at m i) := by
  obtain ⟨d1, d2, d3⟩ := bm_g3_d (m := m)
  have hg : (0 : Int) < bm_g3 m := by have := bm_g3_pos h; omega
  have key : ∀ a : Int, (bm_g3 m : Int) ∣ a → (bm_e m * a).tdiv (bm_g3 m : Int) = (bm_e m * a) / (bm_g3 m : Int) ∧ (0 ≤ (bm_e m * a) / (bm_g3 m : Int) ↔ 0 ≤ bm_e m * a) := by
    intro a ha
    have hd : (bm_g3 m : Int) ∣ bm_e m * a := Int.dvd_mul_of_dvd_right ha
    refine ⟨Int.tdiv_eq_ediv_of_dvd hd, ⟨fun q => ?_, fun q => Int.ediv_nonneg q (by omega)⟩⟩
    have := Int.mul_ediv_cancel' hd
    have := Int.mul_nonneg (Int.le_of_lt hg) q
    omega
  unfold bm_nv bm_at
  dsimp only
  split
  · exact key _ d1
  · split
    · exact key _ d2
    · exact key _ d3
section
variable {yr yc : Int32} {yp ys yn yq yw ym yg : Nat → Int32}
theorem by_342 {post : Int32 → SY → Prop} {m : bm_V} (hb : bm_b3 m) (h0 : bm_sg m ≠ 0) (hm : bm_H ym m) (h1 : bm_ok m → ∀ ym', bm_H ym' (bm_nv m) → post 1 (yr, yc, yp, ys, yn, yq, yw, ym', yg)) (h2 : ¬ bm_ok m → ∀ ym', post 0 (yr, yc, yp, ys, yn, yq, yw, ym', yg)) : ∃ n, wY_solve_342 post (bm_i (bm_e m)) (nI (bm_g3 m)) yr yc n 0 yp ys yn yq yw ym yg := by
  have hg0 := bm_g3_pos h0
  have hs := bm_sg_b hb
  have hg1 : bm_g3 m ≤ 1944 := by
    have e := bm_sg_nv h0
    rcases Decidable.em (bm_sg (bm_nv m) = 0) with z | z
    · exfalso
      rw [z, Int.mul_zero, bm_em_sg] at e
      unfold bm_e at e
      split at e <;> omega
    · have q := bm_sg_b (bm_em_b hb)
      have n1 : (bm_sg (bm_em m)).natAbs = bm_g3 m * (bm_sg (bm_nv m)).natAbs := by rw [e, Int.natAbs_mul, Int.natAbs_natCast]
      have n2 : bm_g3 m * 1 ≤ bm_g3 m * (bm_sg (bm_nv m)).natAbs := Nat.mul_le_mul_left _ (by omega)
      omega
  have hne : ¬ nI (bm_g3 m) = 0 := nI_ne0 hg0 (by omega)
  have step : ∀ (n i : Nat) (a : Nat → Int32), i < 3 → a i = bm_i (bm_at m i) → (0 ≤ bm_e m * bm_at m i → wY_solve_342 post (bm_i (bm_e m)) (nI (bm_g3 m)) yr yc n (nI (i + 1)) yp ys yn yq yw (upd a i (bm_i (bm_at (bm_nv m) i))) yg) → (¬ 0 ≤ bm_e m * bm_at m i → ∀ ym', post 0 (yr, yc, yp, ys, yn, yq, yw, ym', yg)) → wY_solve_342 post (bm_i (bm_e m)) (nI (bm_g3 m)) yr yc (n + 1) (nI i) yp ys yn yq yw a yg := by
    intro n i a hi ha hk hn
    refine br_f (nI_ge (b := 3) hi (by decide)) ⟨vp_in_nI hi (by decide), br_t (nI_le (a := 1) (by omega) (by omega)) ⟨hne, vp_in_nI hi (by decide), ?_⟩⟩
    intro y ey
    have ab := bm_at_b hb i
    have eb : -648 ≤ bm_e m * bm_at m i ∧ bm_e m * bm_at m i ≤ 648 := by
      unfold bm_e
      split <;> omega
    obtain ⟨n1, n2⟩ := bm_nv_at h0 i
    rw [nI_clamp (by omega), ha, bm_mul, bm_nI, bm_div (by omega) (by omega) (by omega) (by omega), n1] at ey
    subst ey
    refine ⟨vp_in_nI hi (by decide), ?_⟩
    rw [nI_clamp (by omega), pk_us, ← bm_0]
    have nb : -648 ≤ bm_at (bm_nv m) i ∧ bm_at (bm_nv m) i ≤ 648 := by
      rw [← n1]
      have q : ((bm_e m * bm_at m i).tdiv (bm_g3 m : Int)).natAbs = (bm_e m * bm_at m i).natAbs / bm_g3 m := by
        rw [Int.natAbs_tdiv, Int.natAbs_natCast]
        rfl
      have := Nat.div_le_self (bm_e m * bm_at m i).natAbs (bm_g3 m)
      omega
    rw [bm_le (by omega) (by omega) (by omega) (by omega), n2]
    refine br_c (fun z => ?_) (fun z => hn z _)
    intro k ek
    rw [nI_1] at ek
    subst ek
    exact hk z
  refine ⟨4, step 3 0 _ (by omega) hm.1 (fun z0 => step 2 1 _ (by omega) (by rw [pk_un (by omega)]; exact hm.2.1) (fun z1 => step 1 2 _ (by omega) (by rw [pk_un (by omega), pk_un (by omega)]; exact hm.2.2) (fun z2 => br_t (by decide) (h1 ⟨h0, z0, z1, z2⟩ _ ⟨rfl, rfl, rfl⟩)) (fun z2 => h2 (fun q => z2 q.2.2.2))) (fun z1 => h2 (fun q => z1 q.2.2.1))) (fun z0 => h2 (fun q => z0 q.2.1))⟩
theorem by_248 {post : Int32 → SY → Prop} {m : bm_V} (hb : bm_b3 m) (h0 : bm_sg m ≠ 0) (hm : bm_H ym m) (h1 : bm_ok m → ∀ ym', bm_H ym' (bm_nv m) → post 1 (yr, yc, yp, ys, yn, yq, yw, ym', yg)) (h2 : ¬ bm_ok m → ∀ ym', post 0 (yr, yc, yp, ys, yn, yq, yw, ym', yg)) : wY_solve_248 post (bm_i (bm_e m)) yr yc yp ys yn yq yw ym yg := by
  have tail := by_342 (yr := yr) (yc := yc) (yp := yp) (ys := ys) (yn := yn) (yq := yq) (yw := yw) (yg := yg) hb h0 hm h1 h2
  have hb' := hb
  unfold bm_b3 at hb'
  unfold wY_solve_248
  have l1 : Nat.gcd m.1.natAbs m.2.1.natAbs ≤ 648 := by
    rcases Nat.eq_zero_or_pos m.1.natAbs with zz | zz
    · rw [zz, Nat.gcd_zero_left]
      omega
    · have := Nat.le_of_dvd zz (Nat.gcd_dvd_left m.1.natAbs m.2.1.natAbs)
      omega
  have go : 0 < Nat.gcd m.1.natAbs m.2.1.natAbs → wY_solve_316 post (bm_i (bm_e m)) (nI (max 1 (Nat.gcd m.1.natAbs m.2.1.natAbs))) yr yc yp ys yn yq yw ym yg := by
    intro hpos
    rw [Nat.max_eq_right hpos]
    unfold wY_solve_316
    rw [hm.2.2, ← bm_0, bm_eq (by omega) (by omega) (by omega) (by omega)]
    refine br_c (fun z => ?_) (fun z => ?_)
    · have : bm_g3 m = Nat.gcd m.1.natAbs m.2.1.natAbs := by
        unfold bm_g3
        rw [z]
        exact Nat.gcd_zero_right _
      rw [← this]
      exact tail
    · rw [bm_nI]
      refine by_common (by omega) (by omega) ?_
      have : max 1 (Nat.gcd ((Nat.gcd m.1.natAbs m.2.1.natAbs : Nat) : Int).natAbs m.2.2.natAbs) = bm_g3 m := by
        rw [Int.natAbs_natCast]
        exact Nat.max_eq_right (bm_g3_pos h0)
      rw [this]
      exact tail
  have pos : (m.1 ≠ 0 ∨ m.2.1 ≠ 0) → 0 < Nat.gcd m.1.natAbs m.2.1.natAbs := by
    intro q
    rcases Nat.eq_zero_or_pos (Nat.gcd m.1.natAbs m.2.1.natAbs) with z | z
    · have z2 := Nat.eq_zero_of_gcd_eq_zero_right z
      have z1 := Nat.eq_zero_of_gcd_eq_zero_left z
      omega
    · exact z
  rw [hm.1, hm.2.1]
  refine by_common (by omega) (by omega) ?_
  rw [← bm_0, bm_eq (by omega) (by omega) (by omega) (by omega), bm_eq (by omega) (by omega) (by omega) (by omega)]
  refine br_c (fun z1 => br_c (fun z2 => ?_) (fun z2 => go (pos (Or.inr z2)))) (fun z1 => go (pos (Or.inl z1)))
  have g : bm_g3 m = m.2.2.natAbs := by
    unfold bm_g3
    rw [z1, z2]
    exact Nat.gcd_zero_left _
  rw [hm.2.2, bm_le (by omega) (by omega) (by omega) (by omega)]
  refine br_c (fun z3 => ?_) (fun z3 => ?_)
  · intro y ey
    rw [bm_abs z3, ← g] at ey
    subst ey
    exact tail
  · intro y ey
    rw [bm_absn (by omega), ← g] at ey
    subst ey
    exact tail
theorem by_209 {post : Int32 → SY → Prop} {m : bm_V} (hb : bm_b3 m) (hm : bm_H ym m) (h1 : bm_ok m → ∀ ym', bm_H ym' (bm_nv m) → post 1 (yr, yc, yp, ys, yn, yq, yw, ym', yg)) (h2 : ¬ bm_ok m → ∀ ym', post 0 (yr, yc, yp, ys, yn, yq, yw, ym', yg)) : wY_solve_209 post yr yc yp ys yn yq yw ym yg := by
  intro y ey
  rw [hm.1, hm.2.1, hm.2.2, bm_add, bm_add] at ey
  have ey' : y = bm_i (bm_sg m) := ey
  clear ey
  subst ey'
  have hs := bm_sg_b hb
  rw [← bm_0, bm_eq (by omega) (by omega) (by omega) (by omega), bm_le (by omega) (by omega) (by omega) (by omega)]
  refine br_c (fun z => h2 (fun q => q.1 z) _) (fun z => br_c (fun p => ?_) (fun p => ?_))
  · have : bm_e m = 1 := by unfold bm_e; rw [if_neg (by omega)]
    have k := by_248 (yr := yr) (yc := yc) (yp := yp) (ys := ys) (yn := yn) (yq := yq) (yw := yw) (yg := yg) hb z hm h1 h2
    rw [this] at k
    exact k
  · have : bm_e m = -1 := by unfold bm_e; rw [if_pos (by omega)]
    have k := by_248 (yr := yr) (yc := yc) (yp := yp) (ys := ys) (yn := yn) (yq := yq) (yw := yw) (yg := yg) hb z hm h1 h2
    rw [this] at k
    exact k

theorem by_s1 {post : Int32 → SY → Prop} {w s T : Nat} (hw : w < 2) (hs : s < 2) (hT : T < 8) (hp : bm_p9 yp) (z0 : ym 0 = 0) (z1 : ym 1 = 0) (z2 : ym 2 = 0) (h1 : bm_ok (bm_raw (bm_A yp w s) 1 T) → ∀ ym', bm_H ym' (bm_nv (bm_raw (bm_A yp w s) 1 T)) → post 1 (yr, yc, yp, ys, yn, yq, yw, ym', yg)) (h2 : ¬ bm_ok (bm_raw (bm_A yp w s) 1 T) → ∀ ym', post 0 (yr, yc, yp, ys, yn, yq, yw, ym', yg)) : wY_solve_47 post (nI w) (nI s) (nI 1) (nI T) (nI 1) yr yc yp ys yn yq yw (upd ym 0 1) yg := by
  refine br_f (by decide) (br_f (by decide) ?_)
  refine by_209 (bm_raw_b (bm_A9p hp w s) 1 T) ⟨?_, ?_, ?_⟩ h1 h2
  · show 1 = _
    rfl
  · show ym 1 = _
    rw [z1]; rfl
  · show ym 2 = _
    rw [z2]; rfl
theorem by_s2 {post : Int32 → SY → Prop} {w s T : Nat} (hw : w < 2) (hs : s < 2) (hT : T < 8) (hp : bm_p9 yp) (z0 : ym 0 = 0) (z1 : ym 1 = 0) (z2 : ym 2 = 0) (h1 : bm_ok (bm_raw (bm_A yp w s) 2 T) → ∀ ym', bm_H ym' (bm_nv (bm_raw (bm_A yp w s) 2 T)) → post 1 (yr, yc, yp, ys, yn, yq, yw, ym', yg)) (h2 : ¬ bm_ok (bm_raw (bm_A yp w s) 2 T) → ∀ ym', post 0 (yr, yc, yp, ys, yn, yq, yw, ym', yg)) : wY_solve_47 post (nI w) (nI s) (nI 2) (nI T) (nI 1) yr yc yp ys yn yq yw (upd ym 1 1) yg := by
  refine br_f (by decide) (br_f (by decide) ?_)
  refine by_209 (bm_raw_b (bm_A9p hp w s) 2 T) ⟨?_, ?_, ?_⟩ h1 h2
  · show ym 0 = _
    rw [z0]; rfl
  · show 1 = _
    rfl
  · show ym 2 = _
    rw [z2]; rfl
theorem by_s4 {post : Int32 → SY → Prop} {w s T : Nat} (hw : w < 2) (hs : s < 2) (hT : T < 8) (hp : bm_p9 yp) (z0 : ym 0 = 0) (z1 : ym 1 = 0) (z2 : ym 2 = 0) (h1 : bm_ok (bm_raw (bm_A yp w s) 4 T) → ∀ ym', bm_H ym' (bm_nv (bm_raw (bm_A yp w s) 4 T)) → post 1 (yr, yc, yp, ys, yn, yq, yw, ym', yg)) (h2 : ¬ bm_ok (bm_raw (bm_A yp w s) 4 T) → ∀ ym', post 0 (yr, yc, yp, ys, yn, yq, yw, ym', yg)) : wY_solve_47 post (nI w) (nI s) (nI 4) (nI T) (nI 1) yr yc yp ys yn yq yw (upd ym 2 1) yg := by
  refine br_f (by decide) (br_f (by decide) ?_)
  refine by_209 (bm_raw_b (bm_A9p hp w s) 4 T) ⟨?_, ?_, ?_⟩ h1 h2
  · show ym 0 = _
    rw [z0]; rfl
  · show ym 1 = _
    rw [z1]; rfl
  · show 1 = _
    rfl
theorem by_s3 {post : Int32 → SY → Prop} {w s T : Nat} (hw : w < 2) (hs : s < 2) (hT : T < 8) (hp : bm_p9 yp) (z0 : ym 0 = 0) (z1 : ym 1 = 0) (z2 : ym 2 = 0) (h1 : bm_ok (bm_raw (bm_A yp w s) 3 T) → ∀ ym', bm_H ym' (bm_nv (bm_raw (bm_A yp w s) 3 T)) → post 1 (yr, yc, yp, ys, yn, yq, yw, ym', yg)) (h2 : ¬ bm_ok (bm_raw (bm_A yp w s) 3 T) → ∀ ym', post 0 (yr, yc, yp, ys, yn, yq, yw, ym', yg)) : wY_solve_47 post (nI w) (nI s) (nI 3) (nI T) (nI 2) yr yc yp ys yn yq yw ym yg := by
  have f3 := bm_fs3 T
  have l3 := bm_ls3 T
  refine br_t rfl ?_
  refine by_first (by omega) ?_
  refine by_last (by omega) ?_
  refine by_first hT ?_
  refine by_last hT ?_
  refine by_atom (i := 1) hw hs (by omega) f3 l3 ⟨vp_in_nI (n := 0) (by omega) (by omega), ?_⟩
  intro m1 e1
  refine by_atom (i := 0) hw hs (by omega) f3 l3 ⟨vp_in_nI (n := 1) (by omega) (by omega), ?_⟩
  intro m2 e2
  rw [show (nI (bm_fs 3)).toNatClampNeg = 0 by decide, bm_neg] at e1
  rw [show (nI (bm_ls 3)).toNatClampNeg = 1 by decide] at e2
  subst e1 e2
  refine br_f (by decide) ?_
  refine by_209 (bm_raw_b (bm_A9p hp w s) 3 T) ⟨?_, ?_, ?_⟩ h1 h2
  · rfl
  · rfl
  · show ym 2 = _
    rw [z2]; rfl
theorem by_s5 {post : Int32 → SY → Prop} {w s T : Nat} (hw : w < 2) (hs : s < 2) (hT : T < 8) (hp : bm_p9 yp) (z0 : ym 0 = 0) (z1 : ym 1 = 0) (z2 : ym 2 = 0) (h1 : bm_ok (bm_raw (bm_A yp w s) 5 T) → ∀ ym', bm_H ym' (bm_nv (bm_raw (bm_A yp w s) 5 T)) → post 1 (yr, yc, yp, ys, yn, yq, yw, ym', yg)) (h2 : ¬ bm_ok (bm_raw (bm_A yp w s) 5 T) → ∀ ym', post 0 (yr, yc, yp, ys, yn, yq, yw, ym', yg)) : wY_solve_47 post (nI w) (nI s) (nI 5) (nI T) (nI 2) yr yc yp ys yn yq yw ym yg := by
  have f3 := bm_fs3 T
  have l3 := bm_ls3 T
  refine br_t rfl ?_
  refine by_first (by omega) ?_
  refine by_last (by omega) ?_
  refine by_first hT ?_
  refine by_last hT ?_
  refine by_atom (i := 2) hw hs (by omega) f3 l3 ⟨vp_in_nI (n := 0) (by omega) (by omega), ?_⟩
  intro m1 e1
  refine by_atom (i := 0) hw hs (by omega) f3 l3 ⟨vp_in_nI (n := 2) (by omega) (by omega), ?_⟩
  intro m2 e2
  rw [show (nI (bm_fs 5)).toNatClampNeg = 0 by decide, bm_neg] at e1
  rw [show (nI (bm_ls 5)).toNatClampNeg = 2 by decide] at e2
  subst e1 e2
  refine br_f (by decide) ?_
  refine by_209 (bm_raw_b (bm_A9p hp w s) 5 T) ⟨?_, ?_, ?_⟩ h1 h2
  · rfl
  · show ym 1 = _
    rw [z1]; rfl
  · rfl
theorem by_s6 {post : Int32 → SY → Prop} {w s T : Nat} (hw : w < 2) (hs : s < 2) (hT : T < 8) (hp : bm_p9 yp) (z0 : ym 0 = 0) (z1 : ym 1 = 0) (z2 : ym 2 = 0) (h1 : bm_ok (bm_raw (bm_A yp w s) 6 T) → ∀ ym', bm_H ym' (bm_nv (bm_raw (bm_A yp w s) 6 T)) → post 1 (yr, yc, yp, ys, yn, yq, yw, ym', yg)) (h2 : ¬ bm_ok (bm_raw (bm_A yp w s) 6 T) → ∀ ym', post 0 (yr, yc, yp, ys, yn, yq, yw, ym', yg)) : wY_solve_47 post (nI w) (nI s) (nI 6) (nI T) (nI 2) yr yc yp ys yn yq yw ym yg := by
  have f3 := bm_fs3 T
  have l3 := bm_ls3 T
  refine br_t rfl ?_
  refine by_first (by omega) ?_
  refine by_last (by omega) ?_
  refine by_first hT ?_
  refine by_last hT ?_
  refine by_atom (i := 2) hw hs (by omega) f3 l3 ⟨vp_in_nI (n := 1) (by omega) (by omega), ?_⟩
  intro m1 e1
  refine by_atom (i := 1) hw hs (by omega) f3 l3 ⟨vp_in_nI (n := 2) (by omega) (by omega), ?_⟩
  intro m2 e2
  rw [show (nI (bm_fs 6)).toNatClampNeg = 1 by decide, bm_neg] at e1
  rw [show (nI (bm_ls 6)).toNatClampNeg = 2 by decide] at e2
  subst e1 e2
  refine br_f (by decide) ?_
  refine by_209 (bm_raw_b (bm_A9p hp w s) 6 T) ⟨?_, ?_, ?_⟩ h1 h2
  · show ym 0 = _
    rw [z0]; rfl
  · rfl
  · rfl
theorem by_s7 {post : Int32 → SY → Prop} {w s T : Nat} (hw : w < 2) (hs : s < 2) (hT : T < 8) (hp : bm_p9 yp) (h1 : bm_ok (bm_raw (bm_A yp w s) 7 T) → ∀ ym', bm_H ym' (bm_nv (bm_raw (bm_A yp w s) 7 T)) → post 1 (yr, yc, yp, ys, yn, yq, yw, ym', yg)) (h2 : ¬ bm_ok (bm_raw (bm_A yp w s) 7 T) → ∀ ym', post 0 (yr, yc, yp, ys, yn, yq, yw, ym', yg)) : wY_solve_47 post (nI w) (nI s) (nI 7) (nI T) (nI 3) yr yc yp ys yn yq yw ym yg := by
  refine br_f (by decide) (br_t rfl ?_)
  have step : ∀ (n i b c : Nat) (a : Nat → Int32), i < 3 → b < 3 → c < 3 → (nI i + 1) - (nI i + 1) / 3 * 3 = nI b → (nI i + 2) - (nI i + 2) / 3 * 3 = nI c → wY_solve_131 post (nI w) (nI s) yr yc n (nI (i + 1)) yp ys yn yq yw (upd a i (bm_i (bm_cr (bm_A yp w s) b c))) yg → wY_solve_131 post (nI w) (nI s) yr yc (n + 1) (nI i) yp ys yn yq yw a yg := by
    intro n i b c a hi hb hc eb ec hk
    refine br_f (nI_ge (b := 3) hi (by decide)) ⟨by decide, ?_⟩
    intro y1 e1
    refine ⟨by decide, ?_⟩
    intro y2 e2
    rw [eb] at e1
    rw [ec] at e2
    subst e1 e2
    refine by_atom (j := 0) (k := 1) hw hs hb (by omega) (by omega) ?_
    refine by_atom (j := 1) (k := 2) hw hs hc (by omega) (by omega) ?_
    refine by_atom (j := 0) (k := 1) hw hs hc (by omega) (by omega) ?_
    refine by_atom (j := 1) (k := 2) hw hs hb (by omega) (by omega) ?_
    refine ⟨vp_in_nI hi (by decide), ?_⟩
    intro m em k ek
    rw [nI_clamp (by omega), bm_mul, bm_mul, bm_sub] at em
    rw [nI_1] at ek
    subst em ek
    exact hk
  refine ⟨4, step 3 0 1 2 _ (by omega) (by omega) (by omega) (by decide) (by decide) (step 2 1 2 0 _ (by omega) (by omega) (by omega) (by decide) (by decide) (step 1 2 0 1 _ (by omega) (by omega) (by omega) (by decide) (by decide) (br_t (by decide) ?_)))⟩
  exact by_209 (bm_raw_b (bm_A9p hp w s) 7 T) ⟨rfl, rfl, rfl⟩ h1 h2
theorem by_solve {post : Int32 → SY → Prop} {w s S T : Nat} (hS : S < 8) (hS0 : S ≠ 0) (hw : w < 2) (hs : s < 2) (hT : T < 8) (hp : bm_p9 yp) (h1 : bm_ok (bm_raw (bm_A yp w s) S T) → ∀ ym', bm_H ym' (bm_nv (bm_raw (bm_A yp w s) S T)) → post 1 (yr, yc, yp, ys, yn, yq, yw, ym', yg)) (h2 : ¬ bm_ok (bm_raw (bm_A yp w s) S T) → ∀ ym', post 0 (yr, yc, yp, ys, yn, yq, yw, ym', yg)) : wpY_solve post (yr, yc, yp, ys, yn, yq, yw, ym, yg) (nI w) (nI s) (nI S) (nI T) := by
  have step : ∀ (n i : Nat) (a : Nat → Int32), i < 3 → wY_solve_3 post (nI w) (nI s) (nI S) (nI T) yr yc n (nI (i + 1)) yp ys yn yq yw (upd a i 0) yg → wY_solve_3 post (nI w) (nI s) (nI S) (nI T) yr yc (n + 1) (nI i) yp ys yn yq yw a yg := by
    intro n i a hi hk
    refine br_f (nI_ge (b := 3) hi (by decide)) ⟨vp_in_nI hi (by decide), ?_⟩
    intro m em k ek
    rw [nI_clamp (by omega)] at em
    rw [nI_1] at ek
    subst em ek
    exact hk
  refine ⟨4, step 3 0 _ (by omega) (step 2 1 _ (by omega) (step 1 2 _ (by omega) (br_t (by decide) ?_)))⟩
  refine by_size hS ?_
  have hh : S = 1 ∨ S = 2 ∨ S = 3 ∨ S = 4 ∨ S = 5 ∨ S = 6 ∨ S = 7 := by omega
  rcases hh with rfl | rfl | rfl | rfl | rfl | rfl | rfl
  · refine br_t (by decide) (by_first (by omega) ⟨vp_in_nI (n := 0) (by omega) (by omega), ?_⟩)
    intro m em
    rw [show (nI (bm_fs 1)).toNatClampNeg = 0 by decide] at em
    subst em
    exact by_s1 hw hs hT hp rfl rfl rfl h1 h2
  · refine br_t (by decide) (by_first (by omega) ⟨vp_in_nI (n := 1) (by omega) (by omega), ?_⟩)
    intro m em
    rw [show (nI (bm_fs 2)).toNatClampNeg = 1 by decide] at em
    subst em
    exact by_s2 hw hs hT hp rfl rfl rfl h1 h2
  · refine br_f (by decide) ?_
    exact by_s3 hw hs hT hp rfl rfl rfl h1 h2
  · refine br_t (by decide) (by_first (by omega) ⟨vp_in_nI (n := 2) (by omega) (by omega), ?_⟩)
    intro m em
    rw [show (nI (bm_fs 4)).toNatClampNeg = 2 by decide] at em
    subst em
    exact by_s4 hw hs hT hp rfl rfl rfl h1 h2
  · refine br_f (by decide) ?_
    exact by_s5 hw hs hT hp rfl rfl rfl h1 h2
  · refine br_f (by decide) ?_
    exact by_s6 hw hs hT hp rfl rfl rfl h1 h2
  · refine br_f (by decide) ?_
    exact by_s7 hw hs hT hp h1 h2
end
end
section
def bm_YH (yq yw : Nat → Int32) (n : Nat) (v : bm_V) : Prop := (∀ i, i < 3 → yq (3 * n + i) = bm_i (bm_at v i)) ∧ yw n = bm_i (bm_sg v)
def bm_ye (yq yw : Nat → Int32) (n : Nat) (yq' yw' : Nat → Int32) (n' : Nat) : Prop := (∀ i, i < 3 → yq' (3 * n' + i) = yq (3 * n + i)) ∧ yw' n' = yw n
theorem bm_ye_r (yq yw : Nat → Int32) (n : Nat) : bm_ye yq yw n yq yw n := ⟨fun _ _ => rfl, rfl⟩
theorem bm_ye_t {yq yw yq' yw' yq2 yw2 : Nat → Int32} {n n' n2 : Nat} (h : bm_ye yq yw n yq' yw' n') (h' : bm_ye yq' yw' n' yq2 yw2 n2) : bm_ye yq yw n yq2 yw2 n2 := ⟨fun i hi => (h'.1 i hi).trans (h.1 i hi), h'.2.trans h.2⟩
theorem bm_ye_H {yq yw yq' yw' : Nat → Int32} {n n' : Nat} {v : bm_V} (h : bm_ye yq yw n yq' yw' n') (hH : bm_YH yq yw n v) : bm_YH yq' yw' n' v := ⟨fun i hi => (h.1 i hi).trans (hH.1 i hi), h.2.trans hH.2⟩
def bm_YL (b : Nat) (yq yw : Nat → Int32) (L : List bm_V) : Prop := ∀ k v, L[k]? = some v → bm_YH yq yw (b + k) v
theorem by_16 (s k : Nat) : 16 * nI s + nI k = nI (16 * s + k) := by
  show nI 16 * nI s + nI k = _
  rw [pk_mul, nI_add]
theorem by_48 (s k i : Nat) : 48 * nI s + 3 * nI k + nI i = nI (3 * (16 * s + k) + i) := by
  show nI 48 * nI s + nI 3 * nI k + nI i = _
  rw [pk_mul, pk_mul, nI_add, nI_add]
  congr 1
  omega
theorem bm_at_ext {v w : bm_V} (h0 : bm_at v 0 = bm_at w 0) (h1 : bm_at v 1 = bm_at w 1) (h2 : bm_at v 2 = bm_at w 2) : v = w := by
  obtain ⟨a, b, c⟩ := v
  obtain ⟨d, e, f⟩ := w
  have h0' : a = d := h0
  have h1' : b = e := h1
  have h2' : c = f := h2
  rw [h0', h1', h2']
section
variable {yr yc : Int32} {yp ys yn yq yw ym yg : Nat → Int32}
theorem by_before {post : Int32 → Prop} {s k : Nat} {v w : bm_V} (hs : s < 2) (hk : k < 16) (hv : bm_b3 v) (hw : bm_b3 w) (hm : bm_H ym v) (hh : bm_YH yq yw (16 * s + k) w) (h : post (if bm_cm v w < 0 then 1 else 0)) : wpY_isBefore post (yr, yc, yp, ys, yn, yq, yw, ym, yg) (nI s) (nI k) := by
  intro x ex
  rw [hm.1, hm.2.1, hm.2.2, bm_add, bm_add] at ex
  have ex' : x = bm_i (bm_sg v) := ex
  clear ex
  subst ex'
  have step : ∀ (q i : Nat), i < 3 → (bm_d v w i = 0 → wY_isBefore_24 post (nI s) (nI k) (bm_i (bm_sg v)) yr yc yp ys yn yq yw ym yg q (nI (i + 1))) → (bm_d v w i ≠ 0 → post (if bm_d v w i < 0 then 1 else 0)) → wY_isBefore_24 post (nI s) (nI k) (bm_i (bm_sg v)) yr yc yp ys yn yq yw ym yg (q + 1) (nI i) := by
    intro q i hi h1 h2
    refine br_f (nI_ge (b := 3) hi (by decide)) ⟨vp_in_nI hi (by decide), pk_in (16 * s + k) 32 (by omega) (by_16 s k), pk_in (3 * (16 * s + k) + i) 96 (by omega) (by_48 s k i), ?_⟩
    intro y ey
    rw [by_16, by_48, nI_clamp (by omega), nI_clamp (by omega), nI_clamp (by omega), hh.1 i hi, hh.2, bm_H_at hm hi, bm_mul, bm_mul, bm_sub] at ey
    have ey' : y = bm_i (bm_d v w i) := ey
    clear ey
    subst ey'
    have db := bm_d_b hv hw i
    rw [← bm_0, bm_eq (by omega) (by omega) (by omega) (by omega), bm_le (by omega) (by omega) (by omega) (by omega)]
    refine br_c (fun z => ?_) (fun z => br_c (fun p => ?_) (fun p => ?_))
    · intro k ek
      rw [nI_1] at ek
      subst ek
      exact h1 z
    · have := h2 z
      rw [if_neg (by omega)] at this
      exact this
    · have := h2 z
      rw [if_pos (by omega)] at this
      exact this
  unfold bm_cm at h
  refine ⟨4, step 3 0 (by omega) (fun z0 => step 2 1 (by omega) (fun z1 => step 1 2 (by omega) (fun z2 => br_t (by decide) ?_) (fun z2 => ?_)) (fun z1 => ?_)) (fun z0 => ?_)⟩
  · rw [if_neg (c := bm_d v w 0 ≠ 0) (by omega), if_neg (c := bm_d v w 1 ≠ 0) (by omega), z2] at h
    exact h
  · rw [if_neg (c := bm_d v w 0 ≠ 0) (by omega), if_neg (c := bm_d v w 1 ≠ 0) (by omega)] at h
    exact h
  · rw [if_neg (c := bm_d v w 0 ≠ 0) (by omega), if_pos (c := bm_d v w 1 ≠ 0) z1] at h
    exact h
  · rw [if_pos (c := bm_d v w 0 ≠ 0) z0] at h
    exact h
theorem by_same {post : Int32 → Prop} {s k : Nat} {v w : bm_V} (hs : s < 2) (hk : k < 16) (hv : bm_b3 v) (hw : bm_b3 w) (hm : bm_H ym v) (hh : bm_YH yq yw (16 * s + k) w) (h1 : v = w → post 1) (h0 : v ≠ w → post 0) : wpY_isSame post (yr, yc, yp, ys, yn, yq, yw, ym, yg) (nI s) (nI k) := by
  have step : ∀ (q i : Nat), i < 3 → (bm_at v i = bm_at w i → wY_isSame_2 post (nI s) (nI k) yr yc yp ys yn yq yw ym yg q (nI (i + 1))) → wY_isSame_2 post (nI s) (nI k) yr yc yp ys yn yq yw ym yg (q + 1) (nI i) := by
    intro q i hi hn
    have a := bm_at_b hv i
    have b := bm_at_b hw i
    refine br_f (nI_ge (b := 3) hi (by decide)) ⟨vp_in_nI hi (by decide), pk_in (3 * (16 * s + k) + i) 96 (by omega) (by_48 s k i), ?_⟩
    rw [by_48, nI_clamp (by omega), nI_clamp (by omega), hh.1 i hi, bm_H_at hm hi, bm_eq (by omega) (by omega) (by omega) (by omega)]
    refine br_c (fun z => ?_) (fun z => h0 (fun e => z (by rw [e])))
    intro k ek
    rw [nI_1] at ek
    subst ek
    exact hn z
  exact ⟨4, step 3 0 (by omega) (fun z0 => step 2 1 (by omega) (fun z1 => step 1 2 (by omega) (fun z2 => br_t (by decide) (h1 (bm_at_ext z0 z1 z2)))))⟩
theorem by_136 {post : SY → Prop} {s k c : Nat} {v : bm_V} (hs : s < 2) (hk : k < 16) (hm : bm_H ym v) (hc : yn s = nI c)
    (h : ∀ yq' yw', bm_YH yq' yw' (16 * s + k) v → (∀ n, n ≠ 16 * s + k → bm_ye yq yw n yq' yw' n) → post (yr, yc, yp, ys, upd yn s (nI (c + 1)), yq', yw', ym, yg)) : ∃ q, wY_keep_136 post (nI s) (nI k) yr yc q 0 yp ys yn yq yw ym yg := by
  have step : ∀ (q i : Nat) (e : Nat → Int32), i < 3 → (∀ j, j < i → e (3 * (16 * s + k) + j) = bm_i (bm_at v j)) → (∀ j, (∀ l, l < i → j ≠ 3 * (16 * s + k) + l) → e j = yq j) → (∀ e', (∀ j, j < i + 1 → e' (3 * (16 * s + k) + j) = bm_i (bm_at v j)) → (∀ j, (∀ l, l < i + 1 → j ≠ 3 * (16 * s + k) + l) → e' j = yq j) → wY_keep_136 post (nI s) (nI k) yr yc q (nI (i + 1)) yp ys yn e' yw ym yg) → wY_keep_136 post (nI s) (nI k) yr yc (q + 1) (nI i) yp ys yn e yw ym yg := by
    intro q i e hi h1 h2 hk'
    refine br_f (nI_ge (b := 3) hi (by decide)) ⟨vp_in_nI hi (by decide), pk_in (3 * (16 * s + k) + i) 96 (by omega) (by_48 s k i), ?_⟩
    intro y ey l el
    rw [by_48, nI_clamp (by omega), nI_clamp (by omega), bm_H_at hm hi] at ey
    rw [nI_1] at el
    subst ey el
    refine hk' _ (fun j hj => ?_) (fun j hj => ?_)
    · by_cases z : j = i
      · subst z
        exact pk_us
      · rw [pk_un (by omega)]
        exact h1 j (by omega)
    · rw [pk_un (hj i (by omega))]
      exact h2 j (fun k hk => hj k (by omega))
  refine ⟨4, step 3 0 _ (by omega) (fun j hj => absurd hj (by omega)) (fun j _ => rfl) (fun e1 a1 b1 => step 2 1 _ (by omega) a1 b1 (fun e2 a2 b2 => step 1 2 _ (by omega) a2 b2 (fun e3 a3 b3 => br_t (by decide) ?_)))⟩
  refine ⟨pk_in (16 * s + k) 32 (by omega) (by_16 s k), ?_⟩
  intro w ew
  refine ⟨vp_in_nI hs (by decide), vp_in_nI hs (by decide), ?_⟩
  intro cc ec
  rw [by_16, nI_clamp (by omega), hm.1, hm.2.1, hm.2.2, bm_add, bm_add] at ew
  rw [nI_clamp (by omega), hc, nI_1] at ec
  subst ew ec
  exact h _ _ ⟨fun i hi => a3 i hi, pk_us⟩ (fun n hn => ⟨fun i hi => b3 _ (fun k' hk' => by omega), pk_un hn⟩)
theorem by_82 {post : SY → Prop} {J : Int32 → (Nat → Int32) → (Nat → Int32) → (Nat → Int32) → (Nat → Int32) → (Nat → Int32) → (Nat → Int32) → (Nat → Int32) → Prop} {x2 : Int32} {s k : Nat} (hs : s < 2) (hk : k < 15)
    (h : ∀ yq', (∀ i, i < 3 → yq' (3 * (16 * s + (k + 1)) + i) = yq (3 * (16 * s + k) + i)) → (∀ j, (∀ l, l < 3 → j ≠ 3 * (16 * s + (k + 1)) + l) → yq' j = yq j) → J (nI k) yp ys yn yq' yw ym yg) : ∃ q, wY_keep_82 post J (nI s) x2 (nI (k + 1)) yr yc q 0 yp ys yn yq yw ym yg := by
  have ei : ∀ i, 48 * nI s + 3 * nI (k + 1) - 3 + nI i = nI (3 * (16 * s + k) + i) := by
    intro i
    have e1 : 48 * nI s + 3 * nI (k + 1) = nI (3 * (16 * s + k) + 3) := by
      have := by_48 s (k + 1) 0
      rw [nI_0, Int32.add_zero] at this
      rw [this]
      congr 1
    rw [e1, show nI (3 * (16 * s + k) + 3) - 3 = nI (3 * (16 * s + k)) from pk_sub (a := 3 * (16 * s + k) + 3) (b := 3) (by omega), nI_add]
  have step : ∀ (q i : Nat) (e : Nat → Int32), i < 3 → (∀ j, j < i → e (3 * (16 * s + (k + 1)) + j) = yq (3 * (16 * s + k) + j)) → (∀ j, (∀ l, l < i → j ≠ 3 * (16 * s + (k + 1)) + l) → e j = yq j) → (∀ e', (∀ j, j < i + 1 → e' (3 * (16 * s + (k + 1)) + j) = yq (3 * (16 * s + k) + j)) → (∀ j, (∀ l, l < i + 1 → j ≠ 3 * (16 * s + (k + 1)) + l) → e' j = yq j) → wY_keep_82 post J (nI s) x2 (nI (k + 1)) yr yc q (nI (i + 1)) yp ys yn e' yw ym yg) → wY_keep_82 post J (nI s) x2 (nI (k + 1)) yr yc (q + 1) (nI i) yp ys yn e yw ym yg := by
    intro q i e hi h1 h2 hk'
    refine br_f (nI_ge (b := 3) hi (by decide)) ⟨pk_in (3 * (16 * s + k) + i) 96 (by omega) (ei i), pk_in (3 * (16 * s + (k + 1)) + i) 96 (by omega) (by_48 s (k + 1) i), ?_⟩
    intro y ey l el
    rw [ei, by_48, nI_clamp (by omega), nI_clamp (by omega)] at ey
    rw [nI_1] at el
    subst ey el
    refine hk' _ (fun j hj => ?_) (fun j hj => ?_)
    · by_cases z : j = i
      · subst z
        rw [pk_us]
        exact h2 _ (fun l hl => by omega)
      · rw [pk_un (by omega)]
        exact h1 j (by omega)
    · rw [pk_un (hj i (by omega))]
      exact h2 j (fun k hk => hj k (by omega))
  refine ⟨4, step 3 0 _ (by omega) (fun j hj => absurd hj (by omega)) (fun j _ => rfl) (fun e1 a1 b1 => step 2 1 _ (by omega) a1 b1 (fun e2 a2 b2 => step 1 2 _ (by omega) a2 b2 (fun e3 a3 b3 => br_t (by decide) ?_)))⟩
  intro y ey
  rw [pk_m1] at ey
  subst ey
  exact h _ a3 b3
theorem by_50 {post : SY → Prop} {s p : Nat} {L : List bm_V} {v : bm_V} (hs : s < 2) (hb : L.length < 15) (hp : p ≤ L.length) (hm : bm_H ym v) (hc : yn s = nI L.length) (hL : bm_YL (16 * s) yq yw L)
    (h : ∀ yq' yw', bm_YL (16 * s) yq' yw' (bm_ins L p v) → (∀ n, n < 16 * s ∨ 16 * s + L.length < n → bm_ye yq yw n yq' yw' n) → post (yr, yc, yp, ys, upd yn s (nI (L.length + 1)), yq', yw', ym, yg)) :
    ∀ (k q : Nat) (yq1 yw1 : Nat → Int32), p ≤ k → k ≤ L.length → k - p < q → (∀ n, n ≤ 16 * s + k ∨ 16 * s + L.length < n → bm_ye yq yw n yq1 yw1 n) → (∀ j, k ≤ j → j < L.length → bm_ye yq yw (16 * s + j) yq1 yw1 (16 * s + j + 1)) → wY_keep_50 post (nI s) (nI p) yr yc q (nI k) yp ys yn yq1 yw1 ym yg := by
  intro k
  induction k with
  | zero =>
    intro q yq1 yw1 hpk hkl hq h1 h2
    obtain ⟨q, rfl⟩ : ∃ q', q = q' + 1 := ⟨q - 1, by omega⟩
    refine br_t (nI_le (by omega) (by omega)) ?_
    have p0 : p = 0 := by omega
    subst p0
    refine by_136 hs (by omega) hm hc (fun yq' yw' hH hse => h _ _ ?_ ?_)
    · intro j w hj
      rcases j with _ | j
      · rw [bm_ins_eq hp] at hj
        cases hj
        exact hH
      · rw [bm_ins_gt hp (by omega)] at hj
        have hjl : j < L.length := (List.getElem?_eq_some_iff.mp hj).1
        exact bm_ye_H (bm_ye_t (h2 j (by omega) hjl) (hse _ (by omega))) (hL j w hj)
    · intro n hn
      exact bm_ye_t (h1 n (by omega)) (hse n (by omega))
  | succ k ih =>
    intro q yq1 yw1 hpk hkl hq h1 h2
    obtain ⟨q, rfl⟩ : ∃ q', q = q' + 1 := ⟨q - 1, by omega⟩
    by_cases z : p = k + 1
    · subst z
      refine br_t (nI_le (by omega) (by omega)) ?_
      refine by_136 hs (by omega) hm hc (fun yq' yw' hH hse => h _ _ ?_ ?_)
      · intro j w hj
        rcases Nat.lt_trichotomy j (k + 1) with y | y | y
        · rw [bm_ins_lt hp y] at hj
          exact bm_ye_H (bm_ye_t (h1 _ (by omega)) (hse _ (by omega))) (hL j w hj)
        · subst y
          rw [bm_ins_eq hp] at hj
          cases hj
          exact hH
        · obtain ⟨j, rfl⟩ : ∃ j', j = j' + 1 := ⟨j - 1, by omega⟩
          rw [bm_ins_gt hp (by omega)] at hj
          have hjl : j < L.length := (List.getElem?_eq_some_iff.mp hj).1
          exact bm_ye_H (bm_ye_t (h2 j (by omega) hjl) (hse _ (by omega))) (hL j w hj)
      · intro n hn
        exact bm_ye_t (h1 n (by omega)) (hse n (by omega))
    · refine br_f (nI_ge (by omega) (by omega)) ?_
      have e1 : 16 * nI s + nI (k + 1) - 1 = nI (16 * s + k) := by
        rw [by_16]
        exact nI_pred (16 * s + k)
      refine ⟨pk_in (16 * s + k) 32 (by omega) e1, pk_in (16 * s + (k + 1)) 32 (by omega) (by_16 s (k + 1)), ?_⟩
      intro w ew
      rw [e1, by_16, nI_clamp (by omega), nI_clamp (by omega)] at ew
      subst ew
      refine by_82 hs (by omega) (fun yq' a1 b1 => ih q yq' _ (by omega) (by omega) (by omega) (fun n hn => ?_) (fun j hj hjl => ?_))
      · refine bm_ye_t (h1 n (by omega)) ⟨fun i hi => b1 _ (fun l hl => by omega), pk_un (by omega)⟩
      · by_cases y : j = k
        · subst y
          exact bm_ye_t (h1 _ (by omega)) ⟨fun i hi => a1 i hi, pk_us⟩
        · exact bm_ye_t (h2 j (by omega) hjl) ⟨fun i hi => b1 _ (fun l hl => by omega), pk_un (by omega)⟩
theorem by_keep {post : SY → Prop} {s : Nat} {L : List bm_V} {v : bm_V} (hs : s < 2) (hl : L.length < 15) (hS : bm_S L) (hb : ∀ w, w ∈ L → bm_b3 w) (hv : bm_P v) (hvb : bm_b3 v) (hm : bm_H ym v) (hc : yn s = nI L.length) (hL : bm_YL (16 * s) yq yw L)
    (h : ∀ yn' yq' yw' L', bm_S L' → (∀ x, x ∈ L' ↔ x = v ∨ x ∈ L) → bm_YL (16 * s) yq' yw' L' → yn' s = nI L'.length → (∀ j, j ≠ s → yn' j = yn j) → (∀ n, n < 16 * s ∨ 16 * s + 16 ≤ n → bm_ye yq yw n yq' yw' n) → post (yr, yc, yp, ys, yn', yq', yw', ym, yg)) : wpY_keep post (yr, yc, yp, ys, yn, yq, yw, ym, yg) (nI s) := by
  have loop : ∀ (m k p q : Nat), k + m = L.length → m < q → p ≤ k → (∀ j w, j < p → L[j]? = some w → bm_cm w v < 0) → (∀ j w, p ≤ j → j < k → L[j]? = some w → bm_cm v w < 0) → wY_keep_4 post (nI s) yr yc yp ys yn yq yw ym yg q (nI p) (nI k) := by
    intro m
    induction m with
    | zero =>
      intro k p q hk hq hpk lo hi
      obtain ⟨q, rfl⟩ : ∃ q', q = q' + 1 := ⟨q - 1, by omega⟩
      have : k = L.length := by omega
      subst this
      refine ⟨vp_in_nI hs (by decide), ?_⟩
      rw [nI_clamp (by omega), hc]
      refine br_t (nI_le (by omega) (by omega)) ⟨vp_in_nI hs (by decide), ?_⟩
      intro x ex
      subst ex
      refine ⟨L.length + 1, by_50 hs hl hpk hm hc hL ?_ L.length (L.length + 1) _ _ hpk (Nat.le_refl _) (by omega) (fun n _ => bm_ye_r _ _ _) (fun j hj hjl => absurd hjl (by omega))⟩
      intro yq' yw' hL' hse
      refine h _ _ _ (bm_ins L p v) (bm_S_ins hS hv lo (fun j w hj hw => hi j w hj (List.getElem?_eq_some_iff.mp hw).1 hw)) (fun x => bm_ins_mem) hL' ?_ (fun j hj => pk_un hj) (fun n hn => hse n (by omega))
      rw [pk_us, bm_ins_len hpk]
    | succ m ih =>
      intro k p q hk hq hpk lo hi
      obtain ⟨q, rfl⟩ : ∃ q', q = q' + 1 := ⟨q - 1, by omega⟩
      refine ⟨vp_in_nI hs (by decide), ?_⟩
      rw [nI_clamp (by omega), hc]
      refine br_f (nI_ge (by omega) (by omega)) ?_
      obtain ⟨w, hw⟩ : ∃ w, L[k]? = some w := ⟨_, List.getElem?_eq_getElem (by omega)⟩
      have hwm : w ∈ L := List.mem_of_getElem? hw
      have hwb := hb w hwm
      refine by_same hs (by omega) hvb hwb hm (hL k w hw) (fun e => br_f (by decide) ?_) (fun ne => br_t rfl ?_)
      · refine h yn yq yw L hS (fun x => ⟨fun hx => Or.inr hx, fun hx => ?_⟩) hL hc (fun _ _ => rfl) (fun n _ => bm_ye_r _ _ _)
        rcases hx with rfl | hx
        · rw [e]
          exact hwm
        · exact hx
      · refine by_before hs (by omega) hvb hwb hm (hL k w hw) ?_
        by_cases z : bm_cm v w < 0
        · rw [if_pos z]
          refine br_f (by decide) ?_
          intro y ey
          rw [nI_1] at ey
          subst ey
          refine ih (k + 1) p q (by omega) (by omega) (by omega) lo (fun j w' hj hjk hw' => ?_)
          by_cases y : j = k
          · subst y
            rw [hw] at hw'
            cases hw'
            exact z
          · exact hi j w' hj (by omega) hw'
        · rw [if_neg z]
          refine br_t rfl ?_
          intro y1 e1 y2 e2
          rw [nI_1] at e1 e2
          subst e1 e2
          have hwv : bm_cm w v < 0 := by
            have := bm_cm_anti v w
            have : bm_cm v w ≠ 0 := fun q => ne (bm_cm_eq hv (hS.2 w hwm) q)
            omega
          refine ih (k + 1) (k + 1) q (by omega) (by omega) (by omega) (fun j w' hj hw' => ?_) (fun j w' hj hjk => absurd hjk (by omega))
          by_cases y : j = k
          · subst y
            rw [hw] at hw'
            cases hw'
            exact hwv
          · exact bm_cm_tr (hS.2 w' (List.mem_of_getElem? hw')) (hS.2 w hwm) hv (bm_S_rel hS hw' hw (by omega)) hwv
  exact ⟨L.length + 1, loop L.length 0 0 (L.length + 1) (by omega) (by omega) (by omega) (fun j w hj _ => absurd hj (by omega)) (fun j w _ hj => absurd hj (by omega))⟩
end
end
section
theorem bm_B_f (p : Nat → Int32) (s : Nat) : bm_B p s false = bm_A p (1 - s) s := by
  funext i j
  rfl
theorem bm_raw_neg (A : Nat → Nat → Int) (S T : Nat) : bm_raw (fun i j => -(A i j)) S T = bm_raw A S T ∨ bm_raw (fun i j => -(A i j)) S T = bm_ng (bm_raw A S T) := by
  unfold bm_raw
  by_cases h1 : S = 1
  · exact Or.inl (by rw [if_pos h1, if_pos h1])
  · by_cases h2 : S = 2
    · exact Or.inl (by rw [if_neg h1, if_neg h1, if_pos h2, if_pos h2])
    · by_cases h4 : S = 4
      · exact Or.inl (by rw [if_neg h1, if_neg h1, if_neg h2, if_neg h2, if_pos h4, if_pos h4])
      · rw [if_neg h1, if_neg h1, if_neg h2, if_neg h2, if_neg h4, if_neg h4]
        by_cases h3 : S = 3
        · refine Or.inr ?_
          rw [if_pos h3, if_pos h3]
          unfold bm_ng
          dsimp only
          refine Prod.ext ?_ (Prod.ext ?_ ?_) <;> dsimp only <;> omega
        · by_cases h5 : S = 5
          · refine Or.inr ?_
            rw [if_neg h3, if_neg h3, if_pos h5, if_pos h5]
            unfold bm_ng
            dsimp only
            refine Prod.ext ?_ (Prod.ext ?_ ?_) <;> dsimp only <;> omega
          · by_cases h6 : S = 6
            · refine Or.inr ?_
              rw [if_neg h3, if_neg h3, if_neg h5, if_neg h5, if_pos h6, if_pos h6]
              unfold bm_ng
              dsimp only
              refine Prod.ext ?_ (Prod.ext ?_ ?_) <;> dsimp only <;> omega
            · refine Or.inl ?_
              rw [if_neg h3, if_neg h3, if_neg h5, if_neg h5, if_neg h6, if_neg h6]
              unfold bm_cr
              refine Prod.ext ?_ (Prod.ext ?_ ?_) <;> dsimp only <;> grind
theorem bm_B_raw (p : Nat → Int32) (s : Nat) (own : Bool) (S T : Nat) : bm_raw (bm_B p s own) S T = bm_raw (bm_A p (if own = true then s else 1 - s) s) S T ∨ bm_raw (bm_B p s own) S T = bm_ng (bm_raw (bm_A p (if own = true then s else 1 - s) s) S T) := by
  cases own with
  | false => exact Or.inl rfl
  | true => exact bm_raw_neg (bm_A p s s) S T
theorem by_t1 : ∀ S M : Fin 8, (nI S.val &&& (nI M.val ^^^ (-1)) = 0 ↔ S.val &&& M.val = S.val) := by decide +kernel
section
variable {yr yc : Int32} {yp ys yn yq yw ym yg : Nat → Int32}
theorem by_solveB {post : Int32 → SY → Prop} {s S T : Nat} {own : Bool} (hS : S < 8) (hS0 : S ≠ 0) (hs : s < 2) (hT : T < 8) (hp : bm_p9 yp) (h1 : bm_ok (bm_raw (bm_B yp s own) S T) → ∀ ym', bm_H ym' (bm_nv (bm_raw (bm_B yp s own) S T)) → post 1 (yr, yc, yp, ys, yn, yq, yw, ym', yg)) (h2 : ¬ bm_ok (bm_raw (bm_B yp s own) S T) → ∀ ym', post 0 (yr, yc, yp, ys, yn, yq, yw, ym', yg)) : wpY_solve post (yr, yc, yp, ys, yn, yq, yw, ym, yg) (nI (if own = true then s else 1 - s)) (nI s) (nI S) (nI T) := by
  have hw : (if own = true then s else 1 - s) < 2 := by split <;> omega
  rcases bm_B_raw yp s own S T with e | e
  · rw [e] at h1 h2
    exact by_solve hS hS0 hw hs hT hp h1 h2
  · rw [e] at h1 h2
    refine by_solve hS hS0 hw hs hT hp (fun hok ym' hm => h1 (bm_ok_ng.mpr hok) ym' ?_) (fun hok => h2 (fun q => hok (bm_ok_ng.mp q)))
    rw [bm_nv_ng hok.1]
    exact hm
theorem by_125 {post : SY → Prop} {J : Int32 → Int32 → Int32 → (Nat → Int32) → (Nat → Int32) → (Nat → Int32) → (Nat → Int32) → (Nat → Int32) → (Nat → Int32) → (Nat → Int32) → Prop} {x1 x2 x3 x4 : Int32} {d T O : Nat} {A : Nat → Nat → Int} {v : bm_V} (hT : T < 8) (hA : bm_A9 A) (hv : bm_b3 v) (hTO : T &&& O = T) (hg : ∀ j, j < 3 → yg j = bm_i (bm_gn A v j))
    (h1 : T &&& bm_rp A O v = T → wpY_keep (fun u => match u with | (yr, yc, yp, ys, yn, yq, yw, ym, yg) => ∀ x5_57, x5_57 = nI d + 1 → J x5_57 yr yc yp ys yn yq yw ym yg) (yr, yc, yp, ys, yn, yq, yw, ym, yg) x1) (h0 : ¬ T &&& bm_rp A O v = T → J (nI (d + 1)) yr yc yp ys yn yq yw ym yg) (hmb : -1000000 ≤ bm_mx A O v ∧ bm_mx A O v ≤ 17496) : ∃ n, wY_findCorners_125 post J x1 x2 x3 x4 (nI d) (nI T) (bm_i (bm_mx A O v)) yr yc yp ys yn yq yw ym yg n 1 0 := by
  have rb : ∀ j, j < 3 → T.testBit j = true → ((bm_rp A O v).testBit j = true ↔ bm_gn A v j = bm_mx A O v) := by
    intro j hj ht
    rw [bm_rp_t hj]
    have : O.testBit j = true := by
      rw [← hTO, Nat.testBit_and, Bool.and_eq_true] at ht
      exact ht.2
    exact ⟨fun q => q.2, fun q => ⟨this, q⟩⟩
  have fin : ∀ n, T &&& bm_rp A O v = T → wY_findCorners_125 post J x1 x2 x3 x4 (nI d) (nI T) (bm_i (bm_mx A O v)) yr yc yp ys yn yq yw ym yg (n + 1) 1 (nI 3) := fun n z => br_t (by decide) (br_f (by decide) (h1 z))
  have zero : ∀ (m j n : Nat), j + m = 3 → m < n → ¬ T &&& bm_rp A O v = T → wY_findCorners_125 post J x1 x2 x3 x4 (nI d) (nI T) (bm_i (bm_mx A O v)) yr yc yp ys yn yq yw ym yg n 0 (nI j) := by
    intro m
    induction m with
    | zero =>
      intro j n hj hn z
      obtain ⟨n, rfl⟩ : ∃ n', n = n' + 1 := ⟨n - 1, by omega⟩
      have : j = 3 := by omega
      subst this
      refine br_t (by decide) (br_t rfl ?_)
      intro y ey
      rw [nI_1] at ey
      subst ey
      exact h0 z
    | succ m ih =>
      intro j n hj hn z
      obtain ⟨n, rfl⟩ : ∃ n', n = n' + 1 := ⟨n - 1, by omega⟩
      refine br_f (nI_ge (b := 3) (by omega) (by decide)) (bx_bit hT (by omega) (fun _ => ⟨vp_in_nI (by omega) (by decide), br_c (fun _ => ?_) (fun _ => ?_)⟩) (fun _ => ?_))
      all_goals
        intro y ey
        rw [nI_1] at ey
        subst ey
        exact ih (j + 1) n (by omega) (by omega) z
  have step : ∀ (n j : Nat), j < 3 → (T.testBit j = true → (bm_rp A O v).testBit j = true → wY_findCorners_125 post J x1 x2 x3 x4 (nI d) (nI T) (bm_i (bm_mx A O v)) yr yc yp ys yn yq yw ym yg n 1 (nI (j + 1))) → (T.testBit j = false → wY_findCorners_125 post J x1 x2 x3 x4 (nI d) (nI T) (bm_i (bm_mx A O v)) yr yc yp ys yn yq yw ym yg n 1 (nI (j + 1))) → 2 - j < n → wY_findCorners_125 post J x1 x2 x3 x4 (nI d) (nI T) (bm_i (bm_mx A O v)) yr yc yp ys yn yq yw ym yg (n + 1) 1 (nI j) := by
    intro n j hj ht hf hn
    have gb := bm_gn_b hA hv hj
    refine br_f (nI_ge (b := 3) hj (by decide)) (bx_bit hT hj (fun z => ⟨vp_in_nI hj (by decide), ?_⟩) (fun z => ?_))
    · rw [nI_clamp (by omega), hg j hj, bm_eq (by omega) (by omega) (by omega) (by omega)]
      refine br_c (fun p => ?_) (fun p => ?_)
      · intro y ey
        rw [nI_1] at ey
        subst ey
        exact ht z ((rb j hj z).mpr p)
      · intro y ey
        rw [nI_1] at ey
        subst ey
        refine zero (2 - j) (j + 1) n (by omega) hn (fun q => p ((rb j hj z).mp ?_))
        rw [← q, Nat.testBit_and, Bool.and_eq_true] at z
        exact z.2
    · intro y ey
      rw [nI_1] at ey
      subst ey
      exact hf z
  have done : (T.testBit 0 = true → (bm_rp A O v).testBit 0 = true) → (T.testBit 1 = true → (bm_rp A O v).testBit 1 = true) → (T.testBit 2 = true → (bm_rp A O v).testBit 2 = true) → T &&& bm_rp A O v = T := fun a b c => bm_sub8 _ (bm_rp8 _ _ _) T hT a b c
  have nf : ∀ j, T.testBit j = false → (T.testBit j = true → (bm_rp A O v).testBit j = true) := fun j e q => by rw [e] at q; cases q
  have s2 : (T.testBit 0 = true → (bm_rp A O v).testBit 0 = true) → (T.testBit 1 = true → (bm_rp A O v).testBit 1 = true) → wY_findCorners_125 post J x1 x2 x3 x4 (nI d) (nI T) (bm_i (bm_mx A O v)) yr yc yp ys yn yq yw ym yg 2 1 (nI 2) := fun a b => step 1 2 (by omega) (fun _ q => fin 0 (done a b (fun _ => q))) (fun q => fin 0 (done a b (nf 2 q))) (by omega)
  have s1 : (T.testBit 0 = true → (bm_rp A O v).testBit 0 = true) → wY_findCorners_125 post J x1 x2 x3 x4 (nI d) (nI T) (bm_i (bm_mx A O v)) yr yc yp ys yn yq yw ym yg 3 1 (nI 1) := fun a => step 2 1 (by omega) (fun _ q => s2 a (fun _ => q)) (fun q => s2 a (nf 1 q)) (by omega)
  exact ⟨4, step 3 0 (by omega) (fun _ q => s1 (fun _ => q)) (fun q => s1 (nf 0 q)) (by omega)⟩
def bm_lsy (A : Nat → Nat → Int) (M O d : Nat) (L : List bm_V) : Prop := bm_S L ∧ ∀ x, x ∈ L ↔ ∃ e, e < d ∧ bm_K A M O (e / 8) (e % 8) ∧ x = bm_nv (bm_raw A (e / 8) (e % 8))
theorem bm_mx_b {A : Nat → Nat → Int} {O : Nat} {v : bm_V} (hA : bm_A9 A) (hv : bm_b3 v) : -1000000 ≤ bm_mx A O v ∧ bm_mx A O v ≤ 17496 := by
  have mb : ∀ m j, j < 3 → -1000000 ≤ m ∧ m ≤ 17496 → -1000000 ≤ bm_mf A O v m j ∧ bm_mf A O v m j ≤ 17496 := by
    intro m j hj hm
    have := bm_gn_b hA hv hj
    unfold bm_mf
    split <;> omega
  exact mb _ 2 (by omega) (mb _ 1 (by omega) (mb _ 0 (by omega) (by omega)))
theorem by_fc10 {post : SY → Prop} {s M O : Nat} {own : Bool} (hM : M < 8) (hO : O < 8) (hs : s < 2) (hp : bm_p9 yp)
    (h : ∀ yn' yq' yw' ym' yg' L, bm_IsL (bm_B yp s own) M O L → bm_YL (16 * s) yq' yw' L → yn' s = nI L.length → (∀ j, j ≠ s → yn' j = yn j) → (∀ n, n < 16 * s ∨ 16 * s + 16 ≤ n → bm_ye yq yw n yq' yw' n) → post (yr, yc, yp, ys, yn', yq', yw', ym', yg')) :
    ∀ (m d q : Nat) (yn' yq' yw' ym' yg' : Nat → Int32) (L : List bm_V), d + m = 64 → m < q → bm_lsy (bm_B yp s own) M O d L → bm_YL (16 * s) yq' yw' L → yn' s = nI L.length → (∀ j, j ≠ s → yn' j = yn j) → (∀ n, n < 16 * s ∨ 16 * s + 16 ≤ n → bm_ye yq yw n yq' yw' n) → wY_findCorners_10 post (nI s) (nI M) (nI O) (bm_ow own) q (nI d) yr yc yp ys yn' yq' yw' ym' yg' := by
  intro m
  induction m with
  | zero =>
    intro d q yn' yq' yw' ym' yg' L hd hq hL hX hc hcj hfr
    obtain ⟨q, rfl⟩ : ∃ q', q = q' + 1 := ⟨q - 1, by omega⟩
    have : d = 64 := by omega
    subst this
    refine br_t (by decide) (h _ _ _ _ _ L ⟨hL.1, fun x => ?_⟩ hX hc hcj hfr)
    rw [hL.2]
    constructor
    · rintro ⟨e, he, hK, hx⟩
      exact ⟨_, _, by omega, by omega, hK, hx⟩
    · rintro ⟨S, T, hS, hT, hK, hx⟩
      refine ⟨8 * S + T, by omega, ?_⟩
      rw [show (8 * S + T) / 8 = S by omega, show (8 * S + T) % 8 = T by omega]
      exact ⟨hK, hx⟩
  | succ m ih =>
    intro d q yn' yq' yw' ym' yg' L hd hq hL hX hc hcj hfr
    obtain ⟨q, rfl⟩ : ∃ q', q = q' + 1 := ⟨q - 1, by omega⟩
    have hA := bm_B9 hp s own
    have skip : ¬ bm_K (bm_B yp s own) M O (d / 8) (d % 8) → bm_lsy (bm_B yp s own) M O (d + 1) L := by
      intro hn
      refine ⟨hL.1, fun x => ?_⟩
      rw [hL.2]
      constructor
      · rintro ⟨e, he, hK, hx⟩
        exact ⟨e, by omega, hK, hx⟩
      · rintro ⟨e, he, hK, hx⟩
        refine ⟨e, ?_, hK, hx⟩
        rcases Nat.lt_or_ge e d with z | z
        · exact z
        · have : e = d := by omega
          subst this
          exact absurd hK hn
    have next : ∀ ym2 yg2, ¬ bm_K (bm_B yp s own) M O (d / 8) (d % 8) → wY_findCorners_10 post (nI s) (nI M) (nI O) (bm_ow own) q (nI (d + 1)) yr yc yp ys yn' yq' yw' ym2 yg2 := fun ym2 yg2 hn => ih (d + 1) q _ _ _ _ _ L (by omega) (by omega) (skip hn) hX hc hcj hfr
    have no : ¬ bm_K (bm_B yp s own) M O (d / 8) (d % 8) → wY_findCorners_73 post (wY_findCorners_10 post (nI s) (nI M) (nI O) (bm_ow own) q) (nI s) (nI M) (nI O) (bm_ow own) (nI d) (nI (d / 8)) (nI (d % 8)) yr yc yp ys yn' yq' yw' ym' yg' := by
      intro hn
      refine br_t rfl ?_
      intro y ey
      rw [nI_1] at ey
      subst ey
      exact next _ _ hn
    refine br_f (nI_ge (b := 64) (by omega) (by decide)) ⟨by decide, ?_⟩
    intro S eS
    rw [show nI d / 8 = nI (d / 8) from pk_div (d := 8) (by omega) (by omega) (by omega)] at eS
    refine ⟨by decide, ?_⟩
    intro T eT
    rw [show nI d - nI d / 8 * 8 = nI (d % 8) from pk_rem (d := 8) (by omega) (by omega) (by omega)] at eT
    subst eS eT
    have hS8 : d / 8 < 8 := by omega
    have hT8 : d % 8 < 8 := by omega
    refine pk_le (d / 8) 0 (fun z => no (fun hK => hK.1.1 (by omega))) (fun z => ?_) rfl rfl (by omega) (by omega)
    rw [by_t1 ⟨d / 8, hS8⟩ ⟨M, hM⟩, by_t1 ⟨d % 8, hT8⟩ ⟨O, hO⟩]
    refine br_c (fun c1 => br_c (fun c2 => ?_) (fun c2 => no (fun hK => c2 hK.1.2.2.1))) (fun c1 => no (fun hK => c1 hK.1.2.1))
    refine by_size hS8 (by_size hT8 ?_)
    have z3 := bx_t6 ⟨d / 8, hS8⟩
    have t3 := bx_t6 ⟨d % 8, hT8⟩
    dsimp only at z3 t3
    refine pk_eq (bm_sz (d / 8)) (bm_sz (d % 8)) (fun c3 => ?_) (fun c3 => no (fun hK => c3 hK.1.2.2.2)) rfl rfl (by omega) (by omega)
    have hfit : bm_fit M O (d / 8) (d % 8) := ⟨by omega, c1, c2, c3⟩
    have go : wY_findCorners_94 post (wY_findCorners_10 post (nI s) (nI M) (nI O) (bm_ow own) q) (nI s) (nI M) (nI O) (bm_ow own) (nI d) (nI (d / 8)) (nI (d % 8)) (nI (if own = true then s else 1 - s)) yr yc yp ys yn' yq' yw' ym' yg' := by
      unfold wY_findCorners_94
      refine by_solveB hS8 (by omega) hs hT8 hp (fun hok ym2 hm2 => ?_) (fun hok ym2 => ?_)
      · refine br_f (by decide) ?_
        have hb := bm_nv_b (bm_raw_b hA _ _) hok
        refine by_against hs hm2 (fun yg2 hg2 => ?_)
        dsimp only
        refine by_greatest hO hA hb hg2 ?_
        refine by_125 hT8 hA hb c2 hg2 (fun c4 => ?_) (fun c4 => next _ _ (fun hK => c4 hK.2.2)) (bm_mx_b hA hb)
        have hlen : L.length ≤ 13 := bm_len13 (A := bm_B yp s own) hL.1 (fun x hx => by
          obtain ⟨e, he, hK, rfl⟩ := (hL.2 x).mp hx
          exact bm_fit_C (by omega) (by omega) hK.1)
        refine by_keep (L := L) hs (by omega) hL.1 (fun w hw => ?_) (bm_nv_P hok) hb hm2 hc hX ?_
        · obtain ⟨e, he, hK, rfl⟩ := (hL.2 w).mp hw
          exact bm_nv_b (bm_raw_b hA _ _) hK.2.1
        · intro yn3 yq3 yw3 L' hS' hmem hX' hc' hcj' hfr'
          intro y ey
          rw [nI_1] at ey
          subst ey
          refine ih (d + 1) q _ _ _ _ _ L' (by omega) (by omega) ⟨hS', fun x => ?_⟩ hX' hc' (fun j hj => (hcj' j hj).trans (hcj j hj)) (fun n hn => bm_ye_t (hfr n hn) (hfr' n hn))
          rw [hmem, hL.2]
          constructor
          · rintro (hx | ⟨e, he, hK, hx⟩)
            · exact ⟨d, by omega, ⟨hfit, hok, c4⟩, hx⟩
            · exact ⟨e, by omega, hK, hx⟩
          · rintro ⟨e, he, hK, hx⟩
            rcases Nat.lt_or_ge e d with y | y
            · exact Or.inr ⟨e, y, hK, hx⟩
            · have : e = d := by omega
              subst this
              exact Or.inl hx
      · refine br_t rfl ?_
        intro y ey
        rw [nI_1] at ey
        subst ey
        exact next _ _ (fun hK => hok hK.2.1)
    refine br_f (by decide) ?_
    cases own with
    | false =>
      refine br_t rfl ?_
      rw [bx_1s hs]
      exact go
    | true => exact br_f (by decide) go
theorem by_fc {post : SY → Prop} {s M O : Nat} {own : Bool} (hM : M < 8) (hO : O < 8) (hs : s < 2) (hp : bm_p9 yp)
    (h : ∀ yn' yq' yw' ym' yg' L, bm_IsL (bm_B yp s own) M O L → bm_YL (16 * s) yq' yw' L → yn' s = nI L.length → (∀ j, j ≠ s → yn' j = yn j) → (∀ n, n < 16 * s ∨ 16 * s + 16 ≤ n → bm_ye yq yw n yq' yw' n) → post (yr, yc, yp, ys, yn', yq', yw', ym', yg')) : wpY_findCorners post (yr, yc, yp, ys, yn, yq, yw, ym, yg) (nI s) (nI M) (nI O) (bm_ow own) := by
  refine ⟨vp_in_nI hs (by decide), ?_⟩
  intro c ec
  rw [nI_clamp (by omega)] at ec
  subst ec
  refine ⟨65, by_fc10 hM hO hs hp ?_ 64 0 65 _ _ _ _ _ [] (by omega) (by omega) ⟨bm_S_nil, fun x => ⟨fun hx => (by cases hx), fun ⟨e, he, _⟩ => absurd he (by omega)⟩⟩ (fun k v hv => by simp at hv) (pk_us.trans rfl) (fun j hj => rfl) (fun n _ => bm_ye_r _ _ _)⟩
  intro yn' yq' yw' ym' yg' L h1 h2 h3 h4 h5
  exact h yn' yq' yw' ym' yg' L h1 h2 h3 (fun j hj => (h4 j hj).trans (pk_un hj)) h5
end
end
section
theorem bm_raw_s {A : Nat → Nat → Int} {S T i : Nat} (hS : S < 8) (hS0 : S ≠ 0) (hi : i < 3) (h : S.testBit i = false) : bm_at (bm_raw A S T) i = 0 := by
  have hh : S = 1 ∨ S = 2 ∨ S = 3 ∨ S = 4 ∨ S = 5 ∨ S = 6 ∨ S = 7 := by omega
  have hi3 : i = 0 ∨ i = 1 ∨ i = 2 := by omega
  rcases hh with rfl | rfl | rfl | rfl | rfl | rfl | rfl <;> rcases hi3 with rfl | rfl | rfl <;> first | rfl | (exact absurd h (by decide))
theorem bm_nv_z {m : bm_V} {i : Nat} (h : bm_at m i = 0) : bm_at (bm_nv m) i = 0 := by
  unfold bm_at bm_nv at *
  dsimp only at *
  split
  · rename_i q
    rw [if_pos q] at h
    rw [h]
    simp
  · rename_i q
    rw [if_neg q] at h
    split
    · rename_i q2
      rw [if_pos q2] at h
      rw [h]
      simp
    · rename_i q2
      rw [if_neg q2] at h
      rw [h]
      simp
theorem bm_fit_s {A : Nat → Nat → Int} {M O S T i : Nat} (hS : S < 8) (hf : bm_fit M O S T) (hi : i < 3) (h : M.testBit i = false) : bm_at (bm_nv (bm_raw A S T)) i = 0 := by
  apply bm_nv_z
  refine bm_raw_s hS hf.1 hi ?_
  have := hf.2.1
  rw [← this, Nat.testBit_and, h, Bool.and_false]
theorem bm_IsL_s {A : Nat → Nat → Int} {M O : Nat} {L : List bm_V} (h : bm_IsL A M O L) {v : bm_V} (hv : v ∈ L) {i : Nat} (hi : i < 3) (hM : M.testBit i = false) : bm_at v i = 0 := by
  obtain ⟨S, T, hS, hT, hK, rfl⟩ := (h.2 v).mp hv
  exact bm_fit_s hS hK.1 hi hM
/-- both lists as they lie in the reference -/
def bm_YS (p : Nat → Int32) (R C : Nat) (L0 L1 : List bm_V) (yn yq yw : Nat → Int32) : Prop :=
  bm_IsL (bm_A p 1 0) (2 ^ R - 1) (2 ^ C - 1) L0 ∧ bm_IsL (bm_A p 0 1) (2 ^ C - 1) (2 ^ R - 1) L1 ∧ bm_YL 0 yq yw L0 ∧ bm_YL 16 yq yw L1 ∧ yn 0 = nI L0.length ∧ yn 1 = nI L1.length
section
variable {yr yc : Int32} {yp ys yn yq yw ym yg : Nat → Int32}
theorem by_allOf {post : Int32 → Prop} {R C s : Nat} (h : bm_RC R C) (hs : s < 2) (hp : post (nI (2 ^ bm_n R C s - 1))) : wpY_allOf post (nI R, nI C, yp, ys, yn, yq, yw, ym, yg) (nI s) := by
  have h2 : s = 0 ∨ s = 1 := by omega
  unfold bm_RC at h
  unfold wpY_allOf
  dsimp only
  rcases h2 with rfl | rfl
  · refine br_t rfl ?_
    dsimp only
    rw [bx_all ⟨R, by omega⟩]
    exact hp
  · refine br_f (by decide) ?_
    dsimp only
    rw [bx_all ⟨C, by omega⟩]
    exact hp
theorem by_look {post : SY → Prop} {s k : Nat} {v : bm_V} (hs : s < 2) (hk : k < 16) (hh : bm_YH yq yw (16 * s + k) v) (h : ∀ ym' yg', bm_H ym' v → (∀ j, j < 3 → yg' j = bm_i (bm_gn (bm_A yp (1 - s) s) v j)) → post (yr, yc, yp, ys, yn, yq, yw, ym', yg')) : wpY_look post (yr, yc, yp, ys, yn, yq, yw, ym, yg) (nI s) (nI k) := by
  have step : ∀ (q i : Nat) (a : Nat → Int32), i < 3 → wY_look_2 post (nI s) (nI k) yr yc q (nI (i + 1)) yp ys yn yq yw (upd a i (bm_i (bm_at v i))) yg → wY_look_2 post (nI s) (nI k) yr yc (q + 1) (nI i) yp ys yn yq yw a yg := by
    intro q i a hi hk'
    refine br_f (nI_ge (b := 3) hi (by decide)) ⟨pk_in (3 * (16 * s + k) + i) 96 (by omega) (by_48 s k i), vp_in_nI hi (by decide), ?_⟩
    intro y ey l el
    rw [by_48, nI_clamp (by omega), nI_clamp (by omega), hh.1 i hi] at ey
    rw [nI_1] at el
    subst ey el
    exact hk'
  refine ⟨4, step 3 0 _ (by omega) (step 2 1 _ (by omega) (step 1 2 _ (by omega) (br_t (by decide) ?_)))⟩
  refine by_against (own := false) (v := v) hs ⟨rfl, rfl, rfl⟩ (fun yg' hg => h _ _ ⟨rfl, rfl, rfl⟩ hg)
theorem by_answers {post : Int32 → SY → Prop} {R C s l k : Nat} {v w : bm_V} (hRC : bm_RC R C) (hp : bm_p9 yp) (hs : s < 2) (hl : l < 16) (hk : k < 16) (hv : bm_YH yq yw (16 * s + l) v) (hw : bm_YH yq yw (16 * (1 - s) + k) w) (hvb : bm_b3 v) (hwb : bm_b3 w) (hsup : ∀ i, i < 3 → (2 ^ bm_n R C s - 1).testBit i = false → bm_at v i = 0)
    (h : ∀ ym' yg', post (if bm_uo v (bm_rp (bm_A yp s (1 - s)) (2 ^ bm_n R C s - 1) w) = true then 1 else 0) (nI R, nI C, yp, ys, yn, yq, yw, ym', yg')) : wpY_answers post (nI R, nI C, yp, ys, yn, yq, yw, ym, yg) (nI s) (nI l) (nI k) := by
  unfold wpY_answers
  dsimp only
  rw [bx_1s hs]
  refine by_look (by omega) hk hw (fun ym' yg' hm hg => ?_)
  dsimp only
  rw [show 1 - (1 - s) = s by omega] at hg
  have hA := bm_A9p hp s (1 - s)
  have hn := bm_n13 (s := s) hRC
  have hO := bm_all8 hn.2
  refine by_allOf hRC hs ?_
  refine by_greatest hO hA hwb hg ?_
  have h' := h ym' yg'
  have mb := bm_mx_b (O := 2 ^ bm_n R C s - 1) hA hwb
  have hM : bm_M (bm_A yp s (1 - s)) (2 ^ bm_n R C s - 1) w (bm_mx (bm_A yp s (1 - s)) (2 ^ bm_n R C s - 1) w) := bm_mx_M (fun j hj => by have := bm_gn_b hA hwb hj; omega) ⟨0, by omega, (bm_allT ⟨bm_n R C s, by omega⟩ ⟨0, by omega⟩).mpr (by dsimp only; omega)⟩
  have rb : ∀ i, i < 3 → ¬ bm_at v i ≤ 0 → ((bm_rp (bm_A yp s (1 - s)) (2 ^ bm_n R C s - 1) w).testBit i = true ↔ bm_mx (bm_A yp s (1 - s)) (2 ^ bm_n R C s - 1) w ≤ bm_gn (bm_A yp s (1 - s)) w i) := by
    intro i hi hpos
    have hOi : (2 ^ bm_n R C s - 1).testBit i = true := by
      cases e : (2 ^ bm_n R C s - 1).testBit i
      · have := hsup i hi e
        omega
      · rfl
    rw [bm_rp_t hi]
    have := hM.1 i hi hOi
    exact ⟨fun q => by omega, fun q => ⟨hOi, by omega⟩⟩
  generalize bm_rp (bm_A yp s (1 - s)) (2 ^ bm_n R C s - 1) w = f at *
  generalize bm_mx (bm_A yp s (1 - s)) (2 ^ bm_n R C s - 1) w = mm at *
  clear hM hsup
  have step : ∀ (q i : Nat), i < 3 → ((decide (bm_at v i ≤ 0) || f.testBit i) = true → wY_answers_26 post (nI s) (nI l) (bm_i mm) (nI R) (nI C) yp ys yn yq yw ym' yg' q (nI (i + 1))) → ((decide (bm_at v i ≤ 0) || f.testBit i) = false → post 0 (nI R, nI C, yp, ys, yn, yq, yw, ym', yg')) → wY_answers_26 post (nI s) (nI l) (bm_i mm) (nI R) (nI C) yp ys yn yq yw ym' yg' (q + 1) (nI i) := by
    intro q i hi ht hf0
    refine br_f (nI_ge (b := 3) hi (by decide)) ⟨pk_in (3 * (16 * s + l) + i) 96 (by omega) (by_48 s l i), ?_⟩
    have ab := bm_at_b hvb i
    have gb := bm_gn_b hA hwb hi
    rw [by_48, nI_clamp (by omega), hv.1 i hi, ← bm_0, bm_le (by omega) (by omega) (by omega) (by omega)]
    refine br_c (fun z => ?_) (fun z => ⟨vp_in_nI hi (by decide), ?_⟩)
    · intro y ey
      rw [nI_1] at ey
      subst ey
      exact ht (by simp [z])
    · rw [nI_clamp (by omega), hg i hi, bm_le (by omega) (by omega) (by omega) (by omega)]
      refine br_c (fun y => ?_) (fun y => ?_)
      · intro k ek
        rw [nI_1] at ek
        subst ek
        exact ht (by rw [(rb i hi z).mpr y, Bool.or_true])
      · refine hf0 ?_
        have : f.testBit i = false := by
          cases e : f.testBit i
          · rfl
          · exact absurd ((rb i hi z).mp e) y
        rw [this]
        simp
        omega
  unfold bm_uo at h'
  refine ⟨4, step 3 0 (by omega) (fun z0 => step 2 1 (by omega) (fun z1 => step 1 2 (by omega) (fun z2 => br_t (by decide) ?_) (fun z2 => ?_)) (fun z1 => ?_)) (fun z0 => ?_)⟩
  · rw [z0, z1, z2] at h'
    exact h'
  · rw [z2, Bool.and_false] at h'
    exact h'
  · rw [z1, Bool.and_false, Bool.false_and] at h'
    exact h'
  · rw [z0, Bool.false_and, Bool.false_and] at h'
    exact h'
theorem by_isEq {post : Int32 → SY → Prop} {R C i j : Nat} {L0 L1 : List bm_V} (hRC : bm_RC R C) (hp : bm_p9 yp) (hS : bm_YS yp R C L0 L1 yn yq yw) (hi : i < L0.length) (hj : j < L1.length)
    (h : ∀ ym' yg', post (if bm_E yp R C L0 L1 i j = true then 1 else 0) (nI R, nI C, yp, ys, yn, yq, yw, ym', yg')) : wpY_isEquilibrium post (nI R, nI C, yp, ys, yn, yq, yw, ym, yg) (nI i) (nI j) := by
  obtain ⟨hI0, hI1, hX0, hX1, hc0, hc1⟩ := hS
  have k0 := bm_IsL_b (bm_A9p hp 1 0) hI0
  have k1 := bm_IsL_b (bm_A9p hp 0 1) hI1
  obtain ⟨v, hv⟩ : ∃ v, L0[i]? = some v := ⟨_, List.getElem?_eq_getElem hi⟩
  obtain ⟨w, hw⟩ : ∃ w, L1[j]? = some w := ⟨_, List.getElem?_eq_getElem hj⟩
  have hvm := List.mem_of_getElem? hv
  have hwm := List.mem_of_getElem? hw
  have hvb := k0.2.1 v hvm
  have hwb := k1.2.1 w hwm
  have eE : bm_E yp R C L0 L1 i j = (bm_uo v (bm_rp (bm_A yp 0 1) (2 ^ R - 1) w) && bm_uo w (bm_rp (bm_A yp 1 0) (2 ^ C - 1) v)) := by
    unfold bm_E
    rw [hv, hw]
  unfold wpY_isEquilibrium
  dsimp only
  refine by_answers (s := 0) (v := v) (w := w) hRC hp (by omega) (by omega) (by omega) (hX0 i v hv) (hX1 j w hw) hvb hwb (fun a ha e => bm_IsL_s hI0 hvm ha e) (fun ym1 yg1 => ?_)
  dsimp only
  cases h1 : bm_uo v (bm_rp (bm_A yp 0 1) (2 ^ R - 1) w)
  · have q := h ym1 yg1
    rw [eE, h1] at q
    refine br_t ?_ q
    show (if bm_uo v (bm_rp (bm_A yp 0 1) (2 ^ R - 1) w) = true then (1 : Int32) else 0) = 0
    rw [h1]
    rfl
  · refine br_f ?_ ?_
    · show ¬ (if bm_uo v (bm_rp (bm_A yp 0 1) (2 ^ R - 1) w) = true then (1 : Int32) else 0) = 0
      rw [h1]
      decide
    · refine by_answers (s := 1) (v := w) (w := v) hRC hp (by omega) (by omega) (by omega) (hX1 j w hw) (hX0 i v hv) hwb hvb (fun a ha e => bm_IsL_s hI1 hwm ha e) (fun ym2 yg2 => ?_)
      dsimp only
      have q := h ym2 yg2
      rw [eE, h1, Bool.true_and] at q
      refine br_c (fun z => ?_) (fun z => ?_)
      · have e : bm_uo w (bm_rp (bm_A yp 1 0) (2 ^ C - 1) v) = false := by
          cases e : bm_uo w (bm_rp (bm_A yp 1 0) (2 ^ C - 1) v)
          · rfl
          · exfalso
            have z' : (if bm_uo w (bm_rp (bm_A yp 1 0) (2 ^ C - 1) v) = true then (1 : Int32) else 0) = 0 := z
            rw [e] at z'
            exact absurd z' (by decide)
        rw [e] at q
        exact q
      · have e : bm_uo w (bm_rp (bm_A yp 1 0) (2 ^ C - 1) v) = true := by
          cases e : bm_uo w (bm_rp (bm_A yp 1 0) (2 ^ C - 1) v)
          · exfalso
            apply z
            show (if bm_uo w (bm_rp (bm_A yp 1 0) (2 ^ C - 1) v) = true then (1 : Int32) else 0) = 0
            rw [e]
            rfl
          · rfl
        rw [e] at q
        exact q
theorem by_23 {post : Int32 → SY → Prop} {J : Int32 → Int32 → Int32 → Int32 → (Nat → Int32) → (Nat → Int32) → (Nat → Int32) → (Nat → Int32) → (Nat → Int32) → (Nat → Int32) → (Nat → Int32) → Prop} {kk : Int32} {all : Bool} {R C i : Nat} {L0 L1 : List bm_V} {acc : List (Nat × Nat)} (hRC : bm_RC R C) (hp : bm_p9 yp) (hS : bm_YS yp R C L0 L1 yn yq yw) (hi : i < L0.length) (hacc : acc.length ≤ 1000)
    (hsome : all = false → ∀ n j ym' yg', n < 2 ^ 31 → kk = nI n → j < L1.length → (bm_eI (bm_E yp R C L0 L1) i acc (j + 1))[n]? = some (i, j) → post (nI (16 * i + j)) (nI R, nI C, yp, ys, yn, yq, yw, ym', yg'))
    (hJ : (all = false → ∀ n, n < 2 ^ 31 → kk = nI n → (bm_eI (bm_E yp R C L0 L1) i acc L1.length)[n]? = none) → ∀ ym' yg', J (nI (bm_eI (bm_E yp R C L0 L1) i acc L1.length).length) (nI (i + 1)) (nI R) (nI C) yp ys yn yq yw ym' yg') :
    ∀ (m j q : Nat) (ym1 yg1 : Nat → Int32), j + m = L1.length → m < q → (all = false → ∀ n, n < 2 ^ 31 → kk = nI n → (bm_eI (bm_E yp R C L0 L1) i acc j)[n]? = none) → wY_list_23 post J kk (bm_ow all) (nI i) q (nI (bm_eI (bm_E yp R C L0 L1) i acc j).length) (nI j) (nI R) (nI C) yp ys yn yq yw ym1 yg1 := by
  have k0 := bm_IsL_b (bm_A9p hp 1 0) hS.1
  have k1 := bm_IsL_b (bm_A9p hp 0 1) hS.2.1
  have hc1 := hS.2.2.2.2.2
  intro m
  induction m with
  | zero =>
    intro j q ym1 yg1 hj hq hC
    obtain ⟨q, rfl⟩ : ∃ q', q = q' + 1 := ⟨q - 1, by omega⟩
    have : j = L1.length := by omega
    subst this
    unfold wY_list_23
    rw [hc1]
    refine br_t (nI_le (by omega) (by omega)) ?_
    intro y ey
    rw [nI_1] at ey
    subst ey
    exact hJ hC ym1 yg1
  | succ m ih =>
    intro j q ym1 yg1 hj hq hC
    obtain ⟨q, rfl⟩ : ∃ q', q = q' + 1 := ⟨q - 1, by omega⟩
    have hj1 : j < L1.length := by omega
    have len := bm_eI_len (bm_E yp R C L0 L1) i acc j
    have no : bm_E yp R C L0 L1 i j = false → bm_eI (bm_E yp R C L0 L1) i acc (j + 1) = bm_eI (bm_E yp R C L0 L1) i acc j := by
      intro h
      show (if bm_E yp R C L0 L1 i j = true then _ else _) = _
      rw [h]
      rfl
    have yes : bm_E yp R C L0 L1 i j = true → bm_eI (bm_E yp R C L0 L1) i acc (j + 1) = bm_eI (bm_E yp R C L0 L1) i acc j ++ [(i, j)] := by
      intro h
      show (if bm_E yp R C L0 L1 i j = true then _ else _) = _
      rw [if_pos h]
    unfold wY_list_23
    rw [hc1]
    refine br_f (nI_ge (by omega) (by omega)) ?_
    refine by_isEq (L0 := L0) (L1 := L1) hRC hp hS hi hj1 (fun ym2 yg2 => ?_)
    dsimp only
    cases hE : bm_E yp R C L0 L1 i j
    · refine br_t rfl ?_
      intro y ey
      rw [nI_1] at ey
      subst ey
      have := ih (j + 1) q ym2 yg2 (by omega) (by omega) (by rw [no hE]; exact hC)
      rw [no hE] at this
      exact this
    · refine br_f (by decide) ?_
      have goon : (all = false → ∀ n, n < 2 ^ 31 → kk = nI n → ¬ (bm_eI (bm_E yp R C L0 L1) i acc j).length = n) → ∀ x, x = nI (bm_eI (bm_E yp R C L0 L1) i acc j).length + 1 → ∀ y, y = nI j + 1 → wY_list_23 post J kk (bm_ow all) (nI i) q x y (nI R) (nI C) yp ys yn yq yw ym2 yg2 := by
        intro hne x ex y ey
        rw [nI_1] at ex ey
        subst ex ey
        have := ih (j + 1) q ym2 yg2 (by omega) (by omega) (by
          intro hall n hn hkn
          rw [yes hE]
          have h1 := hC hall n hn hkn
          have h2 := hne hall n hn hkn
          have h3 := List.getElem?_eq_none_iff.mp h1
          exact List.getElem?_eq_none (by rw [List.length_append]; show _ + 1 ≤ _; omega))
        rw [yes hE, List.length_append] at this
        exact this
      cases all with
      | true => exact br_f (by decide) (goon (fun q => by cases q))
      | false =>
        refine br_t rfl (br_c (fun z => ?_) (fun z => goon (fun _ n hn hkn q => z (by rw [hkn, q]))))
        rw [by_16]
        refine hsome rfl _ j ym2 yg2 (by omega) z.symm hj1 ?_
        rw [yes hE, List.getElem?_append_right (Nat.le_refl _), Nat.sub_self]
        rfl
theorem by_list9 {post : Int32 → SY → Prop} {kk : Int32} {all : Bool} {R C : Nat} {L0 L1 : List bm_V} (hRC : bm_RC R C) (hp : bm_p9 yp) (hS : bm_YS yp R C L0 L1 yn yq yw)
    (hsome : all = false → ∀ n a b ym' yg', n < 2 ^ 31 → kk = nI n → (bm_eO (bm_E yp R C L0 L1) L1.length L0.length)[n]? = some (a, b) → post (nI (16 * a + b)) (nI R, nI C, yp, ys, yn, yq, yw, ym', yg'))
    (hnone : all = false → (∀ n, n < 2 ^ 31 → kk = nI n → (bm_eO (bm_E yp R C L0 L1) L1.length L0.length)[n]? = none) → ∀ ym' yg', post (-1) (nI R, nI C, yp, ys, yn, yq, yw, ym', yg'))
    (hall : all = true → ∀ ym' yg', post (nI (bm_eO (bm_E yp R C L0 L1) L1.length L0.length).length) (nI R, nI C, yp, ys, yn, yq, yw, ym', yg')) :
    ∀ (m i q : Nat) (ym1 yg1 : Nat → Int32), i + m = L0.length → m < q → (all = false → ∀ n, n < 2 ^ 31 → kk = nI n → (bm_eO (bm_E yp R C L0 L1) L1.length i)[n]? = none) → wY_list_9 post kk (bm_ow all) q (nI (bm_eO (bm_E yp R C L0 L1) L1.length i).length) (nI i) (nI R) (nI C) yp ys yn yq yw ym1 yg1 := by
  have k0 := bm_IsL_b (bm_A9p hp 1 0) hS.1
  have k1 := bm_IsL_b (bm_A9p hp 0 1) hS.2.1
  have hc0 := hS.2.2.2.2.1
  intro m
  induction m with
  | zero =>
    intro i q ym1 yg1 hi hq hC
    obtain ⟨q, rfl⟩ : ∃ q', q = q' + 1 := ⟨q - 1, by omega⟩
    have : i = L0.length := by omega
    subst this
    unfold wY_list_9
    rw [hc0]
    refine br_t (nI_le (by omega) (by omega)) ?_
    cases all with
    | false => exact br_t rfl (hnone rfl (hC rfl) _ _)
    | true => exact br_f (by decide) (hall rfl _ _)
  | succ m ih =>
    intro i q ym1 yg1 hi hq hC
    obtain ⟨q, rfl⟩ : ∃ q', q = q' + 1 := ⟨q - 1, by omega⟩
    unfold wY_list_9
    rw [hc0]
    have hl := bm_eO_len (bm_E yp R C L0 L1) L1.length i
    have : i * L1.length ≤ 13 * 13 := Nat.mul_le_mul (by omega) k1.1
    refine br_f (nI_ge (by omega) (by omega)) ⟨L1.length + 1, ?_⟩
    refine by_23 (acc := bm_eO (bm_E yp R C L0 L1) L1.length i) hRC hp hS (by omega) (by omega) ?_ (fun hn ym' yg' => ih (i + 1) q ym' yg' (by omega) (by omega) hn) L1.length 0 (L1.length + 1) ym1 yg1 (by omega) (by omega) hC
    intro hal n j ym' yg' hn hkn hj hs
    refine hsome hal n i j ym' yg' hn hkn ?_
    have h1 := bm_eI_pre2 _ _ _ hs (L1.length - (j + 1))
    rw [show j + 1 + (L1.length - (j + 1)) = L1.length by omega] at h1
    have h2 := bm_eO_pre (bm_E yp R C L0 L1) L1.length (i := i + 1) h1 (L0.length - (i + 1))
    rw [show i + 1 + (L0.length - (i + 1)) = L0.length by omega] at h2
    exact h2
theorem by_list {post : Int32 → SY → Prop} {kk : Int32} {all : Bool} {R C : Nat} (hRC : bm_RC R C) (hp : bm_p9 yp)
    (h : ∀ L0 L1 yn' yq' yw' ym' yg', bm_YS yp R C L0 L1 yn' yq' yw' →
      (all = false → ∀ n a b, n < 2 ^ 31 → kk = nI n → (bm_eO (bm_E yp R C L0 L1) L1.length L0.length)[n]? = some (a, b) → post (nI (16 * a + b)) (nI R, nI C, yp, ys, yn', yq', yw', ym', yg')) ∧
      (all = false → (∀ n, n < 2 ^ 31 → kk = nI n → (bm_eO (bm_E yp R C L0 L1) L1.length L0.length)[n]? = none) → post (-1) (nI R, nI C, yp, ys, yn', yq', yw', ym', yg')) ∧
      (all = true → post (nI (bm_eO (bm_E yp R C L0 L1) L1.length L0.length).length) (nI R, nI C, yp, ys, yn', yq', yw', ym', yg'))) : wpY_list post (nI R, nI C, yp, ys, yn, yq, yw, ym, yg) kk (bm_ow all) := by
  unfold wpY_list wpY_findAll
  dsimp only
  have R8 := bm_all8 (bm_n13 (s := 0) hRC).2
  have C8 := bm_all8 (bm_n13 (s := 1) hRC).2
  refine by_allOf (s := 0) hRC (by omega) ?_
  refine by_allOf (s := 1) hRC (by omega) ?_
  refine by_fc (s := 0) (own := false) R8 C8 (by omega) hp (fun yn1 yq1 yw1 ym1 yg1 L0 hI0 hX0 hc0 _ _ => ?_)
  dsimp only
  refine by_fc (s := 1) (own := false) C8 R8 (by omega) hp (fun yn2 yq2 yw2 ym2 yg2 L1 hI1 hX1 hc1 hcj hfr => ?_)
  dsimp only
  rw [bm_B_f] at hI0 hI1
  have k0 := bm_IsL_b (bm_A9p hp 1 0) hI0
  have hS : bm_YS yp R C L0 L1 yn2 yq2 yw2 := by
    refine ⟨hI0, hI1, ?_, hX1, (hcj 0 (by omega)).trans hc0, hc1⟩
    intro k v hv
    have := (List.getElem?_eq_some_iff.mp hv).1
    exact bm_ye_H (hfr _ (by omega)) (hX0 k v hv)
  exact ⟨L0.length + 1, by_list9 hRC hp hS (fun hal n a b ym' yg' hn hkn hs => (h L0 L1 _ _ _ ym' yg' hS).1 hal n a b hn hkn hs) (fun hal hn ym' yg' => (h L0 L1 _ _ _ ym' yg' hS).2.1 hal hn) (fun hal ym' yg' => (h L0 L1 _ _ _ ym' yg' hS).2.2 hal) L0.length 0 (L0.length + 1) _ _ (by omega) (by omega) (fun _ n _ _ => rfl)⟩
end
end
section
/-! fractions -/
def bm_q (t b : Int) : Nat := Nat.gcd t.natAbs b.natAbs
theorem bm_q_pos {t b : Int} (h : 0 < b) : 0 < bm_q t b := Nat.gcd_pos_of_pos_right _ (by omega)
theorem bm_q_le {t b : Int} (h : 0 < b) : (bm_q t b : Int) ≤ b := by
  have := Nat.le_of_dvd (by omega) (Nat.gcd_dvd_right t.natAbs b.natAbs)
  unfold bm_q
  omega
section
variable {fr fc fm ft fb : Int32} {ap ae am ac aq aw ar ah : Nat → Int32}
theorem bx_red {post : SX → Prop} {t b : Int} (ht : t.natAbs < 2147483648) (hb : 0 < b) (hb' : b < 165580141) (h : post (fr, fc, fm, bm_i (t.tdiv (bm_q t b)), bm_i (b.tdiv (bm_q t b)), ap, ae, am, ac, aq, aw, ar, ah)) : wpX_reduceFraction post (fr, fc, fm, bm_i t, bm_i b, ap, ae, am, ac, aq, aw, ar, ah) := by
  have q0 := bm_q_pos (t := t) hb
  have q1 := bm_q_le (t := t) hb
  unfold wpX_reduceFraction
  dsimp only
  refine bx_cd ht (by omega) ?_
  have e : Nat.gcd t.natAbs b.natAbs = bm_q t b := rfl
  rw [e]
  by_cases m : t = -2147483648
  · omega
  refine pk_le (bm_q t b) 1 (fun z => ?_) (fun z => ?_) rfl rfl (by omega) (by omega)
  · have : bm_q t b = 1 := by omega
    rw [this] at h
    simp only [Int.natCast_one, Int.tdiv_one] at h
    exact h
  · have hne : ¬ nI (bm_q t b) = 0 := nI_ne0 q0 (by omega)
    refine ⟨hne, ?_⟩
    intro y ey
    refine ⟨hne, ?_⟩
    intro y2 ey2
    rw [bm_nI, bm_div (by omega) (by omega) (by omega) (by omega)] at ey ey2
    subst ey ey2
    exact h
end
section
variable {yr yc : Int32} {yp ys yn yq yw ym yg : Nat → Int32}
theorem by_lowest {post : Int32 → Prop} {t b : Int} {asked : Bool} (ht : t.natAbs < 2147483648) (hb : 0 < b) (hb' : b < 165580141) (h : post (bm_i ((if asked = true then t else b).tdiv (bm_q t b)))) : wpY_lowest post (yr, yc, yp, ys, yn, yq, yw, ym, yg) (bm_i t) (bm_i b) (bm_ow asked) := by
  have q0 := bm_q_pos (t := t) hb
  have q1 := bm_q_le (t := t) hb
  have tail : wY_lowest_14 post (bm_i t) (bm_i b) (bm_ow asked) (nI (bm_q t b)) yr yc yp ys yn yq yw ym yg := by
    have go : ∀ z : Int, z.natAbs < 2147483648 → post (bm_i (z.tdiv (bm_q t b))) → wY_lowest_25 post (nI (bm_q t b)) (bm_i z) yr yc yp ys yn yq yw ym yg := by
      intro z hz hpz
      refine br_t (nI_le (a := 1) q0 (by omega)) ⟨nI_ne0 q0 (by omega), ?_⟩
      rw [bm_nI, bm_div (by omega) (by omega) (by omega) (by omega)]
      exact hpz
    cases asked with
    | false => exact br_t rfl (go b (by omega) h)
    | true => exact br_f (by decide) (go t ht h)
  unfold wpY_lowest
  dsimp only
  rw [← bm_0, bm_eq (by omega) (by omega) (by omega) (by omega)]
  refine br_c (fun z => ?_) (fun z => ?_)
  · have e : bm_q t b = b.natAbs := by
      unfold bm_q
      rw [z]
      exact Nat.gcd_zero_left _
    rw [e, ← bm_abs (by omega)] at tail
    exact tail
  · refine by_common ht (by omega) ?_
    have e : max 1 (Nat.gcd t.natAbs b.natAbs) = bm_q t b := Nat.max_eq_right q0
    rw [e]
    exact tail
end
/-! the sum of payments -/
def bm_tm (p : Nat → Int32) (s : Nat) (v w : bm_V) (i j : Nat) : Int := bm_at v i * bm_at w j * (p (9 * s + 3 * i + j)).toInt
def bm_s1 (t : Nat → Nat → Int) (i : Nat) : Nat → Int
  | 0 => 0
  | n + 1 => bm_s1 t i n + t i n
def bm_s2 (t : Nat → Nat → Int) (c : Nat) : Nat → Int
  | 0 => 0
  | i + 1 => bm_s2 t c i + bm_s1 t i c
theorem bm_s23 {t : Nat → Nat → Int} {R C : Nat} (h : bm_RC R C) (hz : ∀ i j, i < 3 → j < 3 → R ≤ i ∨ C ≤ j → t i j = 0) : bm_s2 t C R = bm_s2 t 3 3 := by
  unfold bm_RC at h
  have hR : R = 1 ∨ R = 2 ∨ R = 3 := by omega
  have hC : C = 1 ∨ C = 2 ∨ C = 3 := by omega
  have z00 := hz 0 0 (by omega) (by omega)
  have z01 := hz 0 1 (by omega) (by omega)
  have z02 := hz 0 2 (by omega) (by omega)
  have z10 := hz 1 0 (by omega) (by omega)
  have z11 := hz 1 1 (by omega) (by omega)
  have z12 := hz 1 2 (by omega) (by omega)
  have z20 := hz 2 0 (by omega) (by omega)
  have z21 := hz 2 1 (by omega) (by omega)
  have z22 := hz 2 2 (by omega) (by omega)
  rcases hR with rfl | rfl | rfl <;> rcases hC with rfl | rfl | rfl <;> simp only [bm_s2, bm_s1] <;> omega
theorem bm_tm_b {p : Nat → Int32} (hp : bm_p9 p) {s : Nat} {v w : bm_V} (hv : bm_b3 v) (hw : bm_b3 w) (i j : Nat) : -3779136 ≤ bm_tm p s v w i j ∧ bm_tm p s v w i j ≤ 3779136 := by
  unfold bm_tm
  have a := bm_at_b hv i
  have b := bm_at_b hw j
  have c := hp (9 * s + 3 * i + j)
  have k1 := bm_p18 (a := bm_at v i) (b := bm_at w j) (s := 648) (t := 648) (by omega) (by omega) (by omega) (by omega)
  have k2 := bm_p18 (a := bm_at v i * bm_at w j) (b := (p (9 * s + 3 * i + j)).toInt) (s := 419904) (t := 9) (by omega) (by omega) (by omega) (by omega)
  omega
theorem bm_s2_b {p : Nat → Int32} (hp : bm_p9 p) {s : Nat} {v w : bm_V} (hv : bm_b3 v) (hw : bm_b3 w) : -34012224 ≤ bm_s2 (bm_tm p s v w) 3 3 ∧ bm_s2 (bm_tm p s v w) 3 3 ≤ 34012224 := by
  have a00 := bm_tm_b hp hv hw (s := s) 0 0
  have a01 := bm_tm_b hp hv hw (s := s) 0 1
  have a02 := bm_tm_b hp hv hw (s := s) 0 2
  have a10 := bm_tm_b hp hv hw (s := s) 1 0
  have a11 := bm_tm_b hp hv hw (s := s) 1 1
  have a12 := bm_tm_b hp hv hw (s := s) 1 2
  have a20 := bm_tm_b hp hv hw (s := s) 2 0
  have a21 := bm_tm_b hp hv hw (s := s) 2 1
  have a22 := bm_tm_b hp hv hw (s := s) 2 2
  simp only [bm_s2, bm_s1]
  omega
theorem bm_sgsg {v w : bm_V} (hv : bm_b3 v) (hw : bm_b3 w) (hvp : bm_P v) (hwp : bm_P w) : 0 < bm_sg v * bm_sg w ∧ bm_sg v * bm_sg w ≤ 3779136 := by
  have a := bm_sg_b hv
  have b := bm_sg_b hw
  have k1 := bm_p18 (a := bm_sg v) (b := bm_sg w) (s := 1944) (t := 1944) (by omega) (by omega) (by omega) (by omega)
  exact ⟨Int.mul_pos hvp.2.2.2.1 hwp.2.2.2.1, by omega⟩
theorem bm_allF {n j : Nat} (hn : n ≤ 3) (hj : j < 3) (h : n ≤ j) : (2 ^ n - 1).testBit j = false := by
  have k := bm_allT ⟨n, by omega⟩ ⟨j, hj⟩
  dsimp only at k
  cases e : (2 ^ n - 1).testBit j
  · rfl
  · have := k.mp e
    omega
section
variable {fr fc fm ft fb : Int32} {ap ae am ac aq aw ar ah : Nat → Int32}
theorem bx_weigh {post : SX → Prop} {R C s a b : Nat} {L0 L1 : List bm_V} {v w : bm_V} (hRC : bm_RC R C) (hp : bm_p9 ap) (hs : s < 2) (hS : bm_XS ap R C L0 L1 ac aq aw ar) (h0 : ah 0 = nI a) (h1 : ah 1 = nI (64 + b)) (hv : L0[a]? = some v) (hw : L1[b]? = some w)
    (h : post (nI R, nI C, fm, bm_i ((bm_s2 (bm_tm ap s v w) 3 3).tdiv (bm_q (bm_s2 (bm_tm ap s v w) 3 3) (bm_sg v * bm_sg w))), bm_i ((bm_sg v * bm_sg w).tdiv (bm_q (bm_s2 (bm_tm ap s v w) 3 3) (bm_sg v * bm_sg w))), ap, ae, am, ac, aq, aw, ar, ah)) : wpX_weighChosen post (nI R, nI C, fm, ft, fb, ap, ae, am, ac, aq, aw, ar, ah) (nI s) := by
  obtain ⟨hI0, hI1, hX0, hX1, hc0, hc1⟩ := hS
  have k0 := bm_IsL_b (bm_A9p hp 1 0) hI0
  have k1 := bm_IsL_b (bm_A9p hp 0 1) hI1
  have hvm := List.mem_of_getElem? hv
  have hwm := List.mem_of_getElem? hw
  have hvb := k0.2.1 v hvm
  have hwb := k1.2.1 w hwm
  have hal := (List.getElem?_eq_some_iff.mp hv).1
  have hbl := (List.getElem?_eq_some_iff.mp hw).1
  have sv := hX0 a v hv
  have sw := hX1 b w hw
  rw [Nat.zero_add] at sv
  have hRC' := hRC
  unfold bm_RC at hRC'
  have e3 : bm_s2 (bm_tm ap s v w) C R = bm_s2 (bm_tm ap s v w) 3 3 := by
    apply bm_s23 hRC
    intro i j hi hj hz
    unfold bm_tm
    rcases hz with z | z
    · rw [bm_IsL_s hI0 hvm hi (bm_allF (by omega) hi z)]
      simp
    · rw [bm_IsL_s hI1 hwm hj (bm_allF (by omega) hj z)]
      simp
  have inner : ∀ (J : Int32 → Int32 → Prop) (i : Nat) (x : Int), i < R → J (bm_i (x + bm_s1 (bm_tm ap s v w) i C)) (nI (i + 1)) → ∀ (m j q : Nat), j + m = C → m < q → wX_weighChosen_15 post J (nI s) (nI i) (nI R) (nI C) fm ft fb ap ae am ac aq aw ar ah q (bm_i (x + bm_s1 (bm_tm ap s v w) i j)) (nI j) := by
    intro J i x hi hJ m
    induction m with
    | zero =>
      intro j q hj hq
      obtain ⟨q, rfl⟩ : ∃ q', q = q' + 1 := ⟨q - 1, by omega⟩
      have : j = C := by omega
      subst this
      refine br_t (nI_le (by omega) (by omega)) ?_
      intro y ey
      rw [nI_1] at ey
      subst ey
      exact hJ
    | succ m ih =>
      intro j q hj hq
      obtain ⟨q, rfl⟩ : ∃ q', q = q' + 1 := ⟨q - 1, by omega⟩
      have i1 : 3 * ah 0 + nI i = nI (3 * a + i) := by rw [h0, bx_3]
      have i2 : 3 * ah 1 + nI j = nI (3 * (64 + b) + j) := by rw [h1, bx_3]
      have i3 : nI s * 9 + 3 * nI i + nI j = nI (9 * s + 3 * i + j) := by
        show nI s * nI 9 + nI 3 * nI i + nI j = _
        rw [pk_mul, pk_mul, nI_add, nI_add, Nat.mul_comm s 9]
      refine br_f (nI_ge (by omega) (by omega)) ⟨pk_in (3 * a + i) 384 (by omega) i1, pk_in (3 * (64 + b) + j) 384 (by omega) i2, ?_⟩
      intro y ey
      refine ⟨pk_in (9 * s + 3 * i + j) 18 (by omega) i3, ?_⟩
      intro y2 ey2 k ek
      rw [i1, i2, nI_clamp (by omega), nI_clamp (by omega), sv.1 i (by omega), sw.1 j (by omega), bm_mul] at ey
      rw [i3, nI_clamp (by omega), ey, bm_o (ap (9 * s + 3 * i + j)), bm_mul, bm_add] at ey2
      rw [nI_1] at ek
      subst ek ey2
      have := ih (j + 1) q (by omega) (by omega)
      have e : x + bm_s1 (bm_tm ap s v w) i (j + 1) = x + bm_s1 (bm_tm ap s v w) i j + bm_at v i * bm_at w j * (ap (9 * s + 3 * i + j)).toInt := by
        show x + (bm_s1 (bm_tm ap s v w) i j + bm_tm ap s v w i j) = _
        unfold bm_tm
        omega
      rw [e] at this
      exact this
  have outer : ∀ (m i q : Nat), i + m = R → m < q → wX_weighChosen_4 post (nI s) (nI R) (nI C) fm ft fb ap ae am ac aq aw ar ah q (bm_i (bm_s2 (bm_tm ap s v w) C i)) (nI i) := by
    intro m
    induction m with
    | zero =>
      intro i q hi hq
      obtain ⟨q, rfl⟩ : ∃ q', q = q' + 1 := ⟨q - 1, by omega⟩
      have : i = R := by omega
      subst this
      refine br_t (nI_le (by omega) (by omega)) ?_
      refine ⟨pk_in a 128 (by omega) h0, pk_in (64 + b) 128 (by omega) h1, ?_⟩
      intro y ey
      rw [h0, h1, nI_clamp (by omega), nI_clamp (by omega), sv.2.1, sw.2.1, bm_mul] at ey
      subst ey
      rw [e3]
      have tb := bm_s2_b hp (s := s) hvb hwb
      have gb := bm_sgsg hvb hwb (k0.2.2 v hvm) (k1.2.2 w hwm)
      exact bx_red (by omega) gb.1 (by omega) h
    | succ m ih =>
      intro i q hi hq
      obtain ⟨q, rfl⟩ : ∃ q', q = q' + 1 := ⟨q - 1, by omega⟩
      refine br_f (nI_ge (by omega) (by omega)) ⟨C + 1, ?_⟩
      have := inner (wX_weighChosen_4 post (nI s) (nI R) (nI C) fm ft fb ap ae am ac aq aw ar ah q) i (bm_s2 (bm_tm ap s v w) C i) (by omega) (ih (i + 1) q (by omega) (by omega)) C 0 (C + 1) (by omega) (by omega)
      rw [show bm_s2 (bm_tm ap s v w) C i + bm_s1 (bm_tm ap s v w) i 0 = bm_s2 (bm_tm ap s v w) C i from Int.add_zero _] at this
      exact this
  exact ⟨R + 1, outer R 0 (R + 1) (by omega) (by omega)⟩
end
section
variable {yr yc : Int32} {yp ys yn yq yw ym yg : Nat → Int32}
theorem by_ge33 {post : Int32 → SY → Prop} {R C s a b : Nat} {asked : Bool} {L0 L1 : List bm_V} {v w : bm_V} (hp : bm_p9 yp) (hs : s < 2) (hS : bm_YS yp R C L0 L1 yn yq yw) (hv : L0[a]? = some v) (hw : L1[b]? = some w)
    (h : post (bm_i ((if asked = true then bm_s2 (bm_tm yp s v w) 3 3 else bm_sg v * bm_sg w).tdiv (bm_q (bm_s2 (bm_tm yp s v w) 3 3) (bm_sg v * bm_sg w)))) (yr, yc, yp, ys, yn, yq, yw, ym, yg)) : ∃ n, wY_getsOf_33 post (nI s) (bm_ow asked) (nI (16 * a + b)) yr yc yp ys yn yq yw ym yg n 0 0 := by
  obtain ⟨hI0, hI1, hX0, hX1, hc0, hc1⟩ := hS
  have k0 := bm_IsL_b (bm_A9p hp 1 0) hI0
  have k1 := bm_IsL_b (bm_A9p hp 0 1) hI1
  have hvm := List.mem_of_getElem? hv
  have hwm := List.mem_of_getElem? hw
  have hvb := k0.2.1 v hvm
  have hwb := k1.2.1 w hwm
  have hal := (List.getElem?_eq_some_iff.mp hv).1
  have hbl := (List.getElem?_eq_some_iff.mp hw).1
  have sv := hX0 a v hv
  have sw := hX1 b w hw
  rw [Nat.zero_add] at sv
  have d1 : nI (16 * a + b) / 16 = nI a := by
    rw [show nI (16 * a + b) / 16 = nI ((16 * a + b) / 16) from pk_div (d := 16) (by omega) (by omega) (by omega)]
    congr 1
    omega
  have d2 : nI (16 * a + b) - nI (16 * a + b) / 16 * 16 = nI b := by
    rw [show nI (16 * a + b) - nI (16 * a + b) / 16 * 16 = nI ((16 * a + b) % 16) from pk_rem (d := 16) (by omega) (by omega) (by omega)]
    congr 1
    omega
  have i2 : ∀ j, 48 + 3 * nI b + nI j = nI (3 * (16 + b) + j) := by
    intro j
    have := by_48 1 b j
    rw [show 16 * 1 + b = 16 + b by omega] at this
    rw [← this]
    congr 2
  have inner : ∀ (J : Int32 → Int32 → Prop) (i q : Nat) (x : Int), i < 3 → J (bm_i (x + bm_s1 (bm_tm yp s v w) i 3)) (nI (i + 1)) → wY_getsOf_42 post J (nI s) (bm_ow asked) (nI (16 * a + b)) (nI i) yr yc yp ys yn yq yw ym yg 4 (bm_i x) 0 := by
    intro J i q x hi hJ
    have step : ∀ (n j : Nat), j < 3 → wY_getsOf_42 post J (nI s) (bm_ow asked) (nI (16 * a + b)) (nI i) yr yc yp ys yn yq yw ym yg n (bm_i (x + bm_s1 (bm_tm yp s v w) i (j + 1))) (nI (j + 1)) → wY_getsOf_42 post J (nI s) (bm_ow asked) (nI (16 * a + b)) (nI i) yr yc yp ys yn yq yw ym yg (n + 1) (bm_i (x + bm_s1 (bm_tm yp s v w) i j)) (nI j) := by
      intro n j hj hk
      have i3 : 9 * nI s + 3 * nI i + nI j = nI (9 * s + 3 * i + j) := by
        show nI 9 * nI s + nI 3 * nI i + nI j = _
        rw [pk_mul, pk_mul, nI_add, nI_add]
      refine br_f (nI_ge (b := 3) hj (by decide)) ⟨by decide, pk_in (3 * a + i) 96 (by omega) (by rw [d1, bx_3]), by decide, pk_in (3 * (16 + b) + j) 96 (by omega) (by rw [d2, i2]), pk_in (9 * s + 3 * i + j) 18 (by omega) i3, ?_⟩
      intro y ey k ek
      rw [d2, i2, d1, bx_3, i3, nI_clamp (by omega), nI_clamp (by omega), nI_clamp (by omega), sv.1 i hi, sw.1 j hj, bm_o (yp (9 * s + 3 * i + j)), bm_mul, bm_mul, bm_add] at ey
      rw [nI_1] at ek
      subst ey ek
      have e : x + bm_s1 (bm_tm yp s v w) i (j + 1) = x + bm_s1 (bm_tm yp s v w) i j + bm_at v i * bm_at w j * (yp (9 * s + 3 * i + j)).toInt := by
        show x + (bm_s1 (bm_tm yp s v w) i j + bm_tm yp s v w i j) = _
        unfold bm_tm
        omega
      rw [e] at hk
      exact hk
    have z := step 3 0 (by omega) (step 2 1 (by omega) (step 1 2 (by omega) (br_t (by decide) (fun y ey => by
      rw [nI_1] at ey
      subst ey
      exact hJ))))
    rw [show x + bm_s1 (bm_tm yp s v w) i 0 = x from Int.add_zero _] at z
    exact z
  have outer : ∀ (n i : Nat), i < 3 → wY_getsOf_33 post (nI s) (bm_ow asked) (nI (16 * a + b)) yr yc yp ys yn yq yw ym yg n (bm_i (bm_s2 (bm_tm yp s v w) 3 (i + 1))) (nI (i + 1)) → wY_getsOf_33 post (nI s) (bm_ow asked) (nI (16 * a + b)) yr yc yp ys yn yq yw ym yg (n + 1) (bm_i (bm_s2 (bm_tm yp s v w) 3 i)) (nI i) := by
    intro n i hi hk
    exact br_f (nI_ge (b := 3) hi (by decide)) ⟨4, inner _ i 0 _ hi hk⟩
  refine ⟨4, outer 3 0 (by omega) (outer 2 1 (by omega) (outer 1 2 (by omega) (br_t (by decide) ?_)))⟩
  refine ⟨by decide, pk_in a 32 (by omega) d1, by decide, pk_in (16 + b) 32 (by omega) (by rw [d2]; exact nI_add 16 b), ?_⟩
  intro y ey
  rw [d2, d1, show (16 : Int32) + nI b = nI (16 + b) from nI_add 16 b, nI_clamp (by omega), nI_clamp (by omega), sv.2, sw.2, bm_mul] at ey
  subst ey
  have tb := bm_s2_b hp (s := s) hvb hwb
  have gb := bm_sgsg hvb hwb (k0.2.2 v hvm) (k1.2.2 w hwm)
  exact by_lowest (by show (bm_s2 (bm_tm yp s v w) 3 3).natAbs < _; omega) gb.1 (by omega) h
end
end
section
/-! the mathematics of replies and of what is sure -/
def bm_sol (A : Nat → Nat → Int) (M O S T : Nat) : Prop := bm_fit M O S T ∧ bm_ok (bm_raw A S T)
theorem bm_fit_O {M O S T : Nat} (hS : S < 8) (hT : T < 8) (h : bm_fit M O S T) : ∃ j, j < 3 ∧ T.testBit j = true ∧ O.testBit j = true := by
  obtain ⟨h0, -, hO, hz⟩ := h
  have hT0 : T ≠ 0 := by
    intro z
    subst z
    exact h0 (bx_t5 ⟨S, hS⟩ hz)
  rcases Classical.em (∃ j, j < 3 ∧ T.testBit j = true) with ⟨j, hj, hb⟩ | hne
  · refine ⟨j, hj, hb, ?_⟩
    rw [← hO, Nat.testBit_and, Bool.and_eq_true] at hb
    exact hb.2
  · exfalso
    apply hT0
    apply bm_8e hT (by omega)
    intro j hj
    rw [Nat.zero_testBit]
    cases e : T.testBit j
    · rfl
    · exact absurd ⟨j, hj, e⟩ hne
theorem bm_sol_X {A : Nat → Nat → Int} {M O S T : Nat} (hS : S < 8) (h : bm_sol A M O S T) : bm_X M (bm_nv (bm_raw A S T)) := by
  have hP := bm_nv_P h.2
  exact ⟨hP.1, hP.2.1, hP.2.2.1, hP.2.2.2.1, fun e => bm_fit_s (i := 0) hS h.1 (by omega) e, fun e => bm_fit_s (i := 1) hS h.1 (by omega) e, fun e => bm_fit_s (i := 2) hS h.1 (by omega) e⟩
theorem bm_gn_lo {A : Nat → Nat → Int} (hA : bm_A9 A) {v : bm_V} (hv : bm_b3 v) : ∀ j, j < 3 → -1000000 < bm_gn A v j := fun j hj => by
  have := bm_gn_b hA hv hj
  omega
theorem bm_cor_K {A : Nat → Nat → Int} {M O S T : Nat} {v : bm_V} (hA : bm_A9 A) (hS : S < 8) (hT : T < 8) (h : bm_cor A M O S T v) : bm_K A M O S T ∧ v = bm_nv (bm_raw A S T) := by
  obtain ⟨hf, hok, rfl, m, hM, ht⟩ := h
  refine ⟨⟨hf, hok, ?_⟩, rfl⟩
  obtain ⟨j0, hj0, hT0, hO0⟩ := bm_fit_O hS hT hf
  have hb := bm_nv_b (bm_raw_b hA S T) hok
  have e := bm_M_u hM (bm_mx_M (bm_gn_lo hA hb) ⟨j0, hj0, hO0⟩)
  have key : ∀ j, j < 3 → T.testBit j = true → (bm_rp A O (bm_nv (bm_raw A S T))).testBit j = true := by
    intro j hj htj
    rw [bm_rp_t hj]
    refine ⟨?_, by rw [ht j hj htj, e]⟩
    have := hf.2.2.1
    rw [← this, Nat.testBit_and, Bool.and_eq_true] at htj
    exact htj.2
  exact bm_sub8 _ (bm_rp8 _ _ _) T hT (key 0 (by omega)) (key 1 (by omega)) (key 2 (by omega))
/-- to every mix a corner that loses nothing -/
theorem bm_toK {A : Nat → Nat → Int} {M O : Nat} (hA : bm_A9 A) (hM : M < 8) (hO : O < 8) {x : bm_V} {m : Int} (hx : bm_X M x) (hm : bm_M A O x m) : ∃ S T, S < 8 ∧ T < 8 ∧ bm_K A M O S T ∧ (∀ j, j < 3 → O.testBit j = true → bm_gn A x j = m → (bm_rp A O (bm_nv (bm_raw A S T))).testBit j = true) ∧ bm_mx A O (bm_nv (bm_raw A S T)) * bm_sg x ≤ m * bm_sg (bm_nv (bm_raw A S T)) := by
  obtain ⟨S, T, v, mv, hS, hT, hc, hMv, hk, hle⟩ := bm_vertex hO hM (bm_mu A O x m + 1) x m (by omega) hx hm
  obtain ⟨hK, rfl⟩ := bm_cor_K hA hS hT hc
  have hb := bm_nv_b (bm_raw_b hA S T) hK.2.1
  obtain ⟨j0, hj0, -, hO0⟩ := bm_fit_O hS hT hK.1
  have e := bm_M_u hMv (bm_mx_M (bm_gn_lo hA hb) ⟨j0, hj0, hO0⟩)
  refine ⟨S, T, hS, hT, hK, fun j hj hOj hg => ?_, by rw [← e]; exact hle⟩
  rw [bm_rp_t hj]
  exact ⟨hOj, by rw [hk j hj hOj hg, e]⟩
def bm_RX (A : Nat → Nat → Int) (M O f : Nat) : Prop := f < 8 ∧ ∀ j, j < 3 → (f.testBit j = true ↔ ∃ S T, S < 8 ∧ T < 8 ∧ bm_sol A M O S T ∧ (bm_rp A O (bm_nv (bm_raw A S T))).testBit j = true)
def bm_RY (A : Nat → Nat → Int) (M O f : Nat) : Prop := f < 8 ∧ ∀ j, j < 3 → (f.testBit j = true ↔ ∃ S T, S < 8 ∧ T < 8 ∧ bm_K A M O S T ∧ (bm_rp A O (bm_nv (bm_raw A S T))).testBit j = true)
theorem bm_RXY {A : Nat → Nat → Int} {M O f g : Nat} (hA : bm_A9 A) (hM : M < 8) (hO : O < 8) (hf : bm_RX A M O f) (hg : bm_RY A M O g) : f = g := by
  apply bm_8e hf.1 hg.1
  intro j hj
  rw [Bool.eq_iff_iff, hf.2 j hj, hg.2 j hj]
  constructor
  · rintro ⟨S, T, hS, hT, hs, hr⟩
    have hb := bm_nv_b (bm_raw_b hA S T) hs.2
    have hr' := (bm_rp_t hj).mp hr
    have hM' := bm_mx_M (bm_gn_lo hA hb) ⟨j, hj, hr'.1⟩
    obtain ⟨S', T', hS', hT', hK, hk, -⟩ := bm_toK hA hM hO (bm_sol_X hS hs) hM'
    exact ⟨S', T', hS', hT', hK, hk j hj hr'.1 hr'.2⟩
  · rintro ⟨S, T, hS, hT, hK, hr⟩
    exact ⟨S, T, hS, hT, ⟨hK.1, hK.2.1⟩, hr⟩
/-- the fraction in lowest terms is one -/
theorem bm_red_u {t b t' b' : Int} (hb : 0 < b) (hb' : 0 < b') (h : t * b' = t' * b) : t.tdiv (bm_q t b) = t'.tdiv (bm_q t' b') ∧ b.tdiv (bm_q t b) = b'.tdiv (bm_q t' b') := by
  have g0 := bm_q_pos (t := t) hb
  have g0' := bm_q_pos (t := t') hb'
  have e1 : Nat.gcd (t * b').natAbs (b * b').natAbs = bm_q t b * b'.natAbs := by
    rw [Int.natAbs_mul, Int.natAbs_mul, Nat.gcd_mul_right]
    rfl
  have e2 : Nat.gcd (t' * b).natAbs (b * b').natAbs = bm_q t' b' * b.natAbs := by
    rw [Int.mul_comm b b', Int.natAbs_mul, Int.natAbs_mul, Nat.gcd_mul_right]
    rfl
  rw [h, e2] at e1
  have d1 : (bm_q t b : Int) ∣ t := Int.ofNat_dvd_left.mpr (Nat.gcd_dvd_left _ _)
  have d2 : (bm_q t b : Int) ∣ b := Int.ofNat_dvd_left.mpr (Nat.gcd_dvd_right _ _)
  have d3 : (bm_q t' b' : Int) ∣ t' := Int.ofNat_dvd_left.mpr (Nat.gcd_dvd_left _ _)
  have d4 : (bm_q t' b' : Int) ∣ b' := Int.ofNat_dvd_left.mpr (Nat.gcd_dvd_right _ _)
  have e3 : (bm_q t' b' : Int) * b = bm_q t b * b' := by
    have := congrArg (fun n : Nat => (n : Int)) e1
    simp only [Int.natCast_mul] at this
    rw [show ((b.natAbs : Nat) : Int) = b by omega, show ((b'.natAbs : Nat) : Int) = b' by omega] at this
    exact this
  rw [Int.tdiv_eq_ediv_of_dvd d1, Int.tdiv_eq_ediv_of_dvd d2, Int.tdiv_eq_ediv_of_dvd d3, Int.tdiv_eq_ediv_of_dvd d4]
  generalize hg : (bm_q t b : Int) = g at *
  generalize hg' : (bm_q t' b' : Int) = g' at *
  have gp : 0 < g := by omega
  have gp' : 0 < g' := by omega
  obtain ⟨u, hu⟩ := d1
  obtain ⟨c, hc⟩ := d2
  obtain ⟨u', hu'⟩ := d3
  obtain ⟨c', hc'⟩ := d4
  rw [hu, hc, hu', hc', Int.mul_ediv_cancel_left _ (by omega), Int.mul_ediv_cancel_left _ (by omega), Int.mul_ediv_cancel_left _ (by omega), Int.mul_ediv_cancel_left _ (by omega)]
  have gg : g * g' ≠ 0 := by
    have := Int.mul_pos gp gp'
    omega
  have k1 : c = c' := by
    rw [hc, hc'] at e3
    apply Int.eq_of_mul_eq_mul_left gg
    grind
  have cp : c ≠ 0 := by
    intro z
    rw [z, Int.mul_zero] at hc
    omega
  refine ⟨?_, k1⟩
  rw [hu, hc, hu', hc', ← k1] at h
  have k2 : g * g' * c ≠ 0 := by
    intro z
    rcases Int.mul_eq_zero.mp z with z | z
    · exact gg z
    · exact cp z
  apply Int.eq_of_mul_eq_mul_left k2
  grind
/-- the component's most sure fraction over the demands below d -/
def bm_SX (B : Nat → Nat → Int) (M O d : Nat) (t b : Int) : Prop := (0 < b ∧ b ≤ 1944 ∧ -17496 ≤ t ∧ t ≤ 17496) ∧ (∀ e, e < d → bm_sol B M O (7 - e / 8) (e % 8) → -(bm_mx B O (bm_nv (bm_raw B (7 - e / 8) (e % 8)))) * b ≤ t * bm_sg (bm_nv (bm_raw B (7 - e / 8) (e % 8)))) ∧ ((t = -9 ∧ b = 1) ∨ ∃ e, e < d ∧ bm_sol B M O (7 - e / 8) (e % 8) ∧ b = bm_sg (bm_nv (bm_raw B (7 - e / 8) (e % 8))) ∧ t = -(bm_mx B O (bm_nv (bm_raw B (7 - e / 8) (e % 8)))))
/-- the reference's, over the first k corners -/
def bm_SY (B : Nat → Nat → Int) (O : Nat) (L : List bm_V) (k : Nat) (t b : Int) : Prop := ((k = 0 ∧ t = 0 ∧ b = 0) ∨ (0 < b ∧ ∃ j v, j < k ∧ L[j]? = some v ∧ t = bm_mx B O v ∧ b = bm_sg v)) ∧ ∀ j v, j < k → L[j]? = some v → t * bm_sg v ≤ bm_mx B O v * b
theorem bm_mx9 {B : Nat → Nat → Int} (hB : bm_A9 B) {O : Nat} {v : bm_V} (hv : bm_P v) (hM : bm_M B O v (bm_mx B O v)) : bm_mx B O v ≤ 9 * bm_sg v := by
  obtain ⟨j, hj, -, e⟩ := hM.2
  rw [← e]
  unfold bm_gn bm_sg
  have h0 := hB 0 j (by omega) hj
  have h1 := hB 1 j (by omega) hj
  have h2 := hB 2 j (by omega) hj
  have k0 : v.1 * B 0 j ≤ v.1 * 9 := Int.mul_le_mul_of_nonneg_left h0.2 hv.1
  have k1 : v.2.1 * B 1 j ≤ v.2.1 * 9 := Int.mul_le_mul_of_nonneg_left h1.2 hv.2.1
  have k2 : v.2.2 * B 2 j ≤ v.2.2 * 9 := Int.mul_le_mul_of_nonneg_left h2.2 hv.2.2.1
  omega
theorem bm_SXY {B : Nat → Nat → Int} {M O : Nat} {L : List bm_V} {t b t' b' : Int} (hB : bm_A9 B) (hM : M < 8) (hO : O < 8) (hO0 : O.testBit 0 = true) (hM0 : M.testBit 0 = true) (hL : bm_IsL B M O L) (hx : bm_SX B M O 64 t b) (hy : bm_SY B O L L.length t' b') : 0 < b' ∧ t * b' = (-t') * b := by
  obtain ⟨⟨b0, -, -, -⟩, xall, xc⟩ := hx
  obtain ⟨yc, yall⟩ := hy
  have hne : ∃ v, v ∈ L := by
    have hX : bm_X M (1, 0, 0) := ⟨by decide, by decide, by decide, by decide, fun e => (by rw [hM0] at e; cases e), fun _ => rfl, fun _ => rfl⟩
    have hb3 : bm_b3 (1, 0, 0) := by unfold bm_b3; decide
    obtain ⟨S, T, hS, hT, hK, -, -⟩ := bm_toK hB hM hO hX (bm_mx_M (bm_gn_lo hB hb3) ⟨0, by omega, hO0⟩)
    exact ⟨_, (hL.2 _).mpr ⟨S, T, hS, hT, hK, rfl⟩⟩
  have hb' : 0 < b' ∧ ∃ v, v ∈ L ∧ t' = bm_mx B O v ∧ b' = bm_sg v := by
    rcases yc with ⟨z, -, -⟩ | ⟨p, j, v, hj, hv, e1, e2⟩
    · obtain ⟨v, hv⟩ := hne
      rw [List.eq_nil_of_length_eq_zero z] at hv
      cases hv
    · exact ⟨p, v, List.mem_of_getElem? hv, e1, e2⟩
  obtain ⟨p, v, hv, e1, e2⟩ := hb'
  refine ⟨p, ?_⟩
  obtain ⟨S, T, hS, hT, hK, hvv⟩ := (hL.2 v).mp hv
  have ge : -t' * b ≤ t * b' := by
    have := xall (8 * (7 - S) + T) (by omega)
    rw [show 7 - (8 * (7 - S) + T) / 8 = S by omega, show (8 * (7 - S) + T) % 8 = T by omega] at this
    have := this ⟨hK.1, hK.2.1⟩
    rw [← hvv, ← e1, ← e2] at this
    exact this
  have le : t * b' ≤ -t' * b := by
    rcases xc with ⟨rfl, rfl⟩ | ⟨e, he, hs, f1, f2⟩
    · have hb := bm_nv_b (bm_raw_b hB S T) hK.2.1
      have := bm_mx9 hB (v := v) (O := O) (hL.1.2 v hv) (by rw [hvv]; exact bm_mx_M (bm_gn_lo hB hb) ⟨0, by omega, hO0⟩)
      rw [← e1, ← e2] at this
      omega
    · have hb := bm_nv_b (bm_raw_b hB (7 - e / 8) (e % 8)) hs.2
      have hP := bm_nv_P hs.2
      obtain ⟨S', T', hS', hT', hK', -, hle⟩ := bm_toK hB hM hO (bm_sol_X (by omega) hs) (bm_mx_M (bm_gn_lo hB hb) ⟨0, by omega, hO0⟩)
      generalize bm_nv (bm_raw B (7 - e / 8) (e % 8)) = x at *
      have hv' : bm_nv (bm_raw B S' T') ∈ L := (hL.2 _).mpr ⟨S', T', hS', hT', hK', rfl⟩
      obtain ⟨j, hj⟩ := List.mem_iff_getElem?.mp hv'
      have hjl := (List.getElem?_eq_some_iff.mp hj).1
      have ya := yall j _ hjl hj
      have hP' := bm_nv_P hK'.2.1
      generalize bm_nv (bm_raw B S' T') = y at *
      have sx := hP.2.2.2.1
      have sy := hP'.2.2.2.1
      -- t' * sy ≤ m(y) * b',  m(y) * sx ≤ m(x) * sy,  t = -m(x), b = sx
      have k1 : (t' * bm_sg y) * bm_sg x ≤ (bm_mx B O y * b') * bm_sg x := Int.mul_le_mul_of_nonneg_right ya (by omega)
      have k2 : (bm_mx B O y * bm_sg x) * b' ≤ (bm_mx B O x * bm_sg y) * b' := Int.mul_le_mul_of_nonneg_right hle (by omega)
      have k3 : (bm_mx B O y * b') * bm_sg x = (bm_mx B O y * bm_sg x) * b' := by grind
      have k4 : (t' * bm_sg y) * bm_sg x = (t' * bm_sg x) * bm_sg y := by grind
      have k5 : (bm_mx B O x * bm_sg y) * b' = (bm_mx B O x * b') * bm_sg y := by grind
      have k6 : (t' * bm_sg x) * bm_sg y ≤ (bm_mx B O x * b') * bm_sg y := by omega
      have k7 : t' * bm_sg x ≤ bm_mx B O x * b' := Int.le_of_mul_le_mul_right k6 sy
      rw [f1, f2, Int.neg_mul, Int.neg_mul]
      omega
  omega
end
section
theorem bm_gn_neg (p : Nat → Int32) (s : Nat) (v : bm_V) (j : Nat) : bm_gn (bm_B p s true) v j = - bm_gn (bm_A p s s) v j := by
  have e : ∀ i, bm_B p s true i j = -(bm_A p s s i j) := fun i => rfl
  unfold bm_gn
  rw [e, e, e]
  grind
theorem bm_Bs (p : Nat → Int32) (s S T : Nat) : (bm_ok (bm_raw (bm_B p s true) S T) ↔ bm_ok (bm_raw (bm_A p s s) S T)) ∧ (bm_ok (bm_raw (bm_A p s s) S T) → bm_nv (bm_raw (bm_B p s true) S T) = bm_nv (bm_raw (bm_A p s s) S T)) := by
  have h : bm_raw (bm_B p s true) S T = bm_raw (bm_A p s s) S T ∨ bm_raw (bm_B p s true) S T = bm_ng (bm_raw (bm_A p s s) S T) := bm_B_raw p s true S T
  rcases h with e | e
  · rw [e]
    exact ⟨Iff.rfl, fun _ => rfl⟩
  · rw [e]
    exact ⟨bm_ok_ng, fun q => bm_nv_ng q.1⟩
section
variable {fr fc fm ft fb : Int32} {ap ae am ac aq aw ar ah : Nat → Int32}
theorem bx_ra6 {post : Int32 → SX → Prop} {s M O : Nat} (hs : s < 2) (hM : M < 8) (hO : O < 8) (hp : bm_p9 ap)
    (h : ∀ f fm' ae' am', bm_RX (bm_A ap s (1 - s)) M O f → post (nI f) (fr, fc, fm', ft, fb, ap, ae', am', ac, aq, aw, ar, ah)) :
    ∀ (m d q f : Nat) (fm' : Int32) (ae' am' : Nat → Int32), d + m = 64 → m < q → f < 8 → (∀ j, j < 3 → (f.testBit j = true ↔ ∃ e, e < d ∧ bm_sol (bm_A ap s (1 - s)) M O (7 - e / 8) (e % 8) ∧ (bm_rp (bm_A ap s (1 - s)) O (bm_nv (bm_raw (bm_A ap s (1 - s)) (7 - e / 8) (e % 8)))).testBit j = true)) → wX_repliesAmong_6 post (nI s) (nI O) (nI M) q (nI f) (nI d) fr fc fm' ft fb ap ae' am' ac aq aw ar ah := by
  intro m
  induction m with
  | zero =>
    intro d q f fm' ae' am' hd hq hf8 hf
    obtain ⟨q, rfl⟩ : ∃ q', q = q' + 1 := ⟨q - 1, by omega⟩
    have : d = 64 := by omega
    subst this
    refine br_t (by decide) (h f _ _ _ ⟨hf8, fun j hj => ?_⟩)
    rw [hf j hj]
    constructor
    · rintro ⟨e, he, hK, hx⟩
      exact ⟨_, _, by omega, by omega, hK, hx⟩
    · rintro ⟨S, T, hS, hT, hK, hx⟩
      refine ⟨8 * (7 - S) + T, by omega, ?_⟩
      rw [show 7 - (8 * (7 - S) + T) / 8 = S by omega, show (8 * (7 - S) + T) % 8 = T by omega]
      exact ⟨hK, hx⟩
  | succ m ih =>
    intro d q f fm' ae' am' hd hq hf8 hf
    obtain ⟨q, rfl⟩ : ∃ q', q = q' + 1 := ⟨q - 1, by omega⟩
    have hA := bm_A9p hp s (1 - s)
    refine br_f (nI_ge (b := 64) (by omega) (by decide)) ?_
    rw [bx_1s hs]
    refine bx_solve (by omega) hs hM hO (by omega) hp (fun hfit hok ae2 am2 hm2 => ?_) (fun hno fm2 ae2 am2 => ?_)
    · dsimp only
      refine br_f (by decide) ?_
      have hb := bm_nv_b (bm_raw_b hA _ _) hok
      refine bx_rtm (by omega) hO hp hb hm2 ?_
      rw [show 1 - (1 - s) = s by omega]
      have r8 := bm_rp8 (bm_A ap s (1 - s)) O (bm_nv (bm_raw (bm_A ap s (1 - s)) (7 - d / 8) (d % 8)))
      intro x ex y ey
      rw [bx_or hf8 r8] at ex
      rw [nI_1] at ey
      subst ex ey
      refine ih (d + 1) q _ _ _ _ (by omega) (by omega) (bx_orl hf8 r8) (fun j hj => ?_)
      rw [Nat.testBit_or, Bool.or_eq_true, hf j hj]
      constructor
      · rintro (⟨e, he, hx⟩ | hx)
        · exact ⟨e, by omega, hx⟩
        · exact ⟨d, by omega, ⟨hfit, hok⟩, hx⟩
      · rintro ⟨e, he, hs', hx⟩
        rcases Nat.lt_or_ge e d with y | y
        · exact Or.inl ⟨e, y, hs', hx⟩
        · have : e = d := by omega
          subst this
          exact Or.inr hx
    · dsimp only
      refine br_t rfl ?_
      intro y ey
      rw [nI_1] at ey
      subst ey
      refine ih (d + 1) q _ _ _ _ (by omega) (by omega) hf8 (fun j hj => ?_)
      rw [hf j hj]
      constructor
      · rintro ⟨e, he, hx⟩
        exact ⟨e, by omega, hx⟩
      · rintro ⟨e, he, hs', hx⟩
        rcases Nat.lt_or_ge e d with y | y
        · exact ⟨e, y, hs', hx⟩
        · have : e = d := by omega
          subst this
          exact absurd hs' hno
theorem bx_ra {post : Int32 → SX → Prop} {s M O : Nat} (hs : s < 2) (hM : M < 8) (hO : O < 8) (hp : bm_p9 ap)
    (h : ∀ f fm' ae' am', bm_RX (bm_A ap s (1 - s)) M O f → post (nI f) (fr, fc, fm', ft, fb, ap, ae', am', ac, aq, aw, ar, ah)) : wpX_repliesAmong post (fr, fc, fm, ft, fb, ap, ae, am, ac, aq, aw, ar, ah) (nI s) (nI O) (nI M) :=
  ⟨65, bx_ra6 hs hM hO hp h 64 0 65 0 _ _ _ (by omega) (by omega) (by omega) (fun j hj => ⟨fun q => by simp at q, fun ⟨e, he, _⟩ => absurd he (by omega)⟩)⟩
theorem bx_least {post : Int32 → Prop} {R C s : Nat} {v : bm_V} (hRC : bm_RC R C) (hs : s < 2) (hp : bm_p9 ap) (hv : bm_b3 v) (hm : bm_H am v) (h : post (bm_i (-(bm_mx (bm_B ap s true) (2 ^ bm_n R C (1 - s) - 1) v)))) : wpX_leastGain post (nI R, nI C, fm, ft, fb, ap, ae, am, ac, aq, aw, ar, ah) (nI s) := by
  have hA := bm_A9p hp s s
  have hn := bm_n13 (s := 1 - s) hRC
  unfold wpX_leastGain
  dsimp only
  rw [bx_1s hs]
  have go : wpX_gain (fun r_15 => ∃ n19, wX_leastGain_19 post (nI s) (nI (bm_n R C (1 - s))) (nI R) (nI C) fm ft fb ap ae am ac aq aw ar ah n19 r_15 1) (nI R, nI C, fm, ft, fb, ap, ae, am, ac, aq, aw, ar, ah) (nI s) (nI s) (nI 0) := by
    refine bx_gain hs (by omega) hs hm ?_
    have loop : ∀ (m c q : Nat) (l : Int), c + m = bm_n R C (1 - s) → m < q → (∀ j, j < c → l ≤ bm_gn (bm_A ap s s) v j) → (∃ j, j < c ∧ bm_gn (bm_A ap s s) v j = l) → wX_leastGain_19 post (nI s) (nI (bm_n R C (1 - s))) (nI R) (nI C) fm ft fb ap ae am ac aq aw ar ah q (bm_i l) (nI c) := by
      intro m
      induction m with
      | zero =>
        intro c q l hc hq h1 h2
        obtain ⟨q, rfl⟩ : ∃ q', q = q' + 1 := ⟨q - 1, by omega⟩
        have : c = bm_n R C (1 - s) := by omega
        subst this
        refine br_t (nI_le (by omega) (by omega)) ?_
        have hM : bm_M (bm_B ap s true) (2 ^ bm_n R C (1 - s) - 1) v (-l) := by
          refine ⟨fun j hj hOj => ?_, ?_⟩
          · have := h1 j ((bm_allT ⟨bm_n R C (1 - s), by omega⟩ ⟨j, hj⟩).mp hOj)
            rw [bm_gn_neg]
            omega
          · obtain ⟨j, hj, e⟩ := h2
            exact ⟨j, by omega, (bm_allT ⟨bm_n R C (1 - s), by omega⟩ ⟨j, by omega⟩).mpr hj, by rw [bm_gn_neg, e]⟩
        have e := bm_M_u hM (bm_mx_M (bm_gn_lo (bm_B9 hp s true) hv) (by obtain ⟨j, hj, hOj, -⟩ := hM.2; exact ⟨j, hj, hOj⟩))
        rw [← e, Int.neg_neg] at h
        exact h
      | succ m ih =>
        intro c q l hc hq h1 h2
        obtain ⟨q, rfl⟩ : ∃ q', q = q' + 1 := ⟨q - 1, by omega⟩
        have hc3 : c < 3 := by omega
        refine br_f (nI_ge (by omega) (by omega)) ?_
        refine bx_gain hs hc3 hs hm ?_
        have gb := bm_gn_b hA hv hc3
        have lb : -17496 ≤ l ∧ l ≤ 17496 := by
          obtain ⟨j, hj, e⟩ := h2
          have := bm_gn_b hA hv (j := j) (by omega)
          omega
        rw [bm_le (by omega) (by omega) (by omega) (by omega)]
        refine br_c (fun z => ?_) (fun z => ?_)
        · intro y ey
          rw [nI_1] at ey
          subst ey
          refine ih (c + 1) q l (by omega) (by omega) (fun j hj => ?_) ?_
          · by_cases y : j = c
            · rw [y]; exact z
            · exact h1 j (by omega)
          · obtain ⟨j, hj, e⟩ := h2
            exact ⟨j, by omega, e⟩
        · intro y ey
          rw [nI_1] at ey
          subst ey
          refine ih (c + 1) q _ (by omega) (by omega) (fun j hj => ?_) ⟨c, by omega, rfl⟩
          by_cases y : j = c
          · rw [y]; exact Int.le_refl _
          · have := h1 j (by omega)
            omega
    refine ⟨bm_n R C (1 - s) + 1, loop (bm_n R C (1 - s) - 1) 1 _ _ (by omega) (by omega) (fun j hj => ?_) ⟨0, by omega, rfl⟩⟩
    rw [show j = 0 by omega]
    exact Int.le_refl _
  have h2 : s = 0 ∨ s = 1 := by omega
  rcases h2 with rfl | rfl
  · exact br_f (by decide) go
  · exact br_t rfl go
theorem bx_ws28 {post : SX → Prop} {R C s : Nat} (hRC : bm_RC R C) (hs : s < 2) (hp : bm_p9 ap)
    (h : ∀ t b fm' ae' am', bm_SX (bm_B ap s true) (2 ^ bm_n R C s - 1) (2 ^ bm_n R C (1 - s) - 1) 64 t b → post (nI R, nI C, fm', bm_i (t.tdiv (bm_q t b)), bm_i (b.tdiv (bm_q t b)), ap, ae', am', ac, aq, aw, ar, ah)) :
    ∀ (m d q : Nat) (t b : Int) (fm' : Int32) (ae' am' : Nat → Int32), d + m = 64 → m < q → bm_SX (bm_B ap s true) (2 ^ bm_n R C s - 1) (2 ^ bm_n R C (1 - s) - 1) d t b → wX_weighSure_28 post (nI s) (nI (2 ^ bm_n R C s - 1)) (nI (2 ^ bm_n R C (1 - s) - 1)) q (nI d) (nI R) (nI C) fm' (bm_i t) (bm_i b) ap ae' am' ac aq aw ar ah := by
  have M8 := bm_all8 (bm_n13 (s := s) hRC).2
  have O8 := bm_all8 (bm_n13 (s := 1 - s) hRC).2
  have hA := bm_A9p hp s s
  have hB := bm_B9 hp s true
  intro m
  induction m with
  | zero =>
    intro d q t b fm' ae' am' hd hq hI
    obtain ⟨q, rfl⟩ : ∃ q', q = q' + 1 := ⟨q - 1, by omega⟩
    have : d = 64 := by omega
    subst this
    have hb := hI.1
    refine br_t (by decide) ?_
    exact bx_red (by omega) hb.1 (by omega) (h t b _ _ _ hI)
  | succ m ih =>
    intro d q t b fm' ae' am' hd hq hI
    obtain ⟨q, rfl⟩ : ∃ q', q = q' + 1 := ⟨q - 1, by omega⟩
    obtain ⟨hb, hall, hex⟩ := hI
    have hex' : ((t = -9 ∧ b = 1) ∨ ∃ e, e < d + 1 ∧ bm_sol (bm_B ap s true) (2 ^ bm_n R C s - 1) (2 ^ bm_n R C (1 - s) - 1) (7 - e / 8) (e % 8) ∧ b = bm_sg (bm_nv (bm_raw (bm_B ap s true) (7 - e / 8) (e % 8))) ∧ t = -(bm_mx (bm_B ap s true) (2 ^ bm_n R C (1 - s) - 1) (bm_nv (bm_raw (bm_B ap s true) (7 - e / 8) (e % 8))))) := by
      rcases hex with z | ⟨e, he, hh⟩
      · exact Or.inl z
      · exact Or.inr ⟨e, by omega, hh⟩
    refine br_f (nI_ge (b := 64) (by omega) (by decide)) ?_
    refine bx_solve hs hs M8 O8 (by omega) hp (fun hfit hok ae2 am2 hm2 => ?_) (fun hno fm2 ae2 am2 => ?_)
    · dsimp only
      refine br_f (by decide) ?_
      obtain ⟨bo, bn⟩ := bm_Bs ap s (7 - d / 8) (d % 8)
      have bn' := bn hok
      have okB := bo.mpr hok
      have hvb := bm_nv_b (bm_raw_b hA (7 - d / 8) (d % 8)) hok
      have hP := bm_nv_P hok
      rw [← bn'] at hm2 hvb hP ⊢
      have mb := bm_mx_b (O := 2 ^ bm_n R C (1 - s) - 1) hB hvb
      have hM : bm_M (bm_B ap s true) (2 ^ bm_n R C (1 - s) - 1) (bm_nv (bm_raw (bm_B ap s true) (7 - d / 8) (d % 8))) (bm_mx (bm_B ap s true) (2 ^ bm_n R C (1 - s) - 1) (bm_nv (bm_raw (bm_B ap s true) (7 - d / 8) (d % 8)))) := by
        obtain ⟨j, hj, -, hO⟩ := bm_fit_O (by omega) (by omega) hfit
        exact bm_mx_M (bm_gn_lo hB hvb) ⟨j, hj, hO⟩
      have mb2 : -17496 ≤ bm_mx (bm_B ap s true) (2 ^ bm_n R C (1 - s) - 1) (bm_nv (bm_raw (bm_B ap s true) (7 - d / 8) (d % 8))) := by
        obtain ⟨j, hj, -, e⟩ := hM.2
        have := bm_gn_b hB hvb hj
        omega
      refine bx_least hRC hs hp hvb hm2 ?_
      have sb := bm_sg_b hvb
      have sp := hP.2.2.2.1
      have k1 := bm_p18 (a := -(bm_mx (bm_B ap s true) (2 ^ bm_n R C (1 - s) - 1) (bm_nv (bm_raw (bm_B ap s true) (7 - d / 8) (d % 8))))) (b := b) (s := 17496) (t := 1944) (by omega) (by omega) (by omega) (by omega)
      have k2 := bm_p18 (a := t) (b := bm_sg (bm_nv (bm_raw (bm_B ap s true) (7 - d / 8) (d % 8)))) (s := 17496) (t := 1944) (by omega) (by omega) (by omega) (by omega)
      rw [bm_mul, bm_mul, bm_le (by omega) (by omega) (by omega) (by omega)]
      refine br_c (fun z => ?_) (fun z => ?_)
      · intro y ey
        rw [nI_1] at ey
        subst ey
        refine ih (d + 1) q t b _ _ _ (by omega) (by omega) ⟨hb, fun e he hse => ?_, hex'⟩
        rcases Nat.lt_or_ge e d with y | y
        · exact hall e y hse
        · have : e = d := by omega
          subst this
          exact z
      · intro y ey
        rw [nI_1] at ey
        subst ey
        refine ih (d + 1) q _ _ _ _ _ (by omega) (by omega) ⟨⟨sp, sb.2, by omega, by omega⟩, fun e he hse => ?_, Or.inr ⟨d, by omega, ⟨hfit, okB⟩, rfl, rfl⟩⟩
        rcases Nat.lt_or_ge e d with y | y
        · have hold := hall e y hse
          have hPe := bm_nv_P hse.2
          generalize bm_nv (bm_raw (bm_B ap s true) (7 - e / 8) (e % 8)) = x at *
          generalize bm_nv (bm_raw (bm_B ap s true) (7 - d / 8) (d % 8)) = w at *
          generalize hl : -(bm_mx (bm_B ap s true) (2 ^ bm_n R C (1 - s) - 1) w) = l at *
          generalize hl' : -(bm_mx (bm_B ap s true) (2 ^ bm_n R C (1 - s) - 1) x) = l' at *
          have sx := hPe.2.2.2.1
          have j1 : (l' * b) * bm_sg w ≤ (t * bm_sg x) * bm_sg w := Int.mul_le_mul_of_nonneg_right hold (by omega)
          have j2 : (t * bm_sg w) * bm_sg x ≤ (l * b) * bm_sg x := Int.mul_le_mul_of_nonneg_right (by omega) (by omega)
          have j3 : (l' * b) * bm_sg w = (l' * bm_sg w) * b := by grind
          have j4 : (t * bm_sg x) * bm_sg w = (t * bm_sg w) * bm_sg x := by grind
          have j5 : (l * b) * bm_sg x = (l * bm_sg x) * b := by grind
          exact Int.le_of_mul_le_mul_right (show (l' * bm_sg w) * b ≤ (l * bm_sg x) * b by omega) hb.1
        · have : e = d := by omega
          subst this
          exact Int.le_refl _
    · dsimp only
      refine br_t rfl ?_
      intro y ey
      rw [nI_1] at ey
      subst ey
      refine ih (d + 1) q t b _ _ _ (by omega) (by omega) ⟨hb, fun e he hse => ?_, hex'⟩
      rcases Nat.lt_or_ge e d with y | y
      · exact hall e y hse
      · have : e = d := by omega
        subst this
        exact absurd ⟨hse.1, (bm_Bs ap s _ _).1.mp hse.2⟩ hno
theorem bx_ws {post : SX → Prop} {R C s : Nat} (hRC : bm_RC R C) (hs : s < 2) (hp : bm_p9 ap)
    (h : ∀ t b fm' ae' am', bm_SX (bm_B ap s true) (2 ^ bm_n R C s - 1) (2 ^ bm_n R C (1 - s) - 1) 64 t b → post (nI R, nI C, fm', bm_i (t.tdiv (bm_q t b)), bm_i (b.tdiv (bm_q t b)), ap, ae', am', ac, aq, aw, ar, ah)) : wpX_weighSure post (nI R, nI C, fm, ft, fb, ap, ae, am, ac, aq, aw, ar, ah) (nI s) := by
  unfold wpX_weighSure
  dsimp only
  refine bx_every hRC hs ?_
  rw [bx_1s hs]
  refine bx_every hRC (by omega) ?_
  refine ⟨65, ?_⟩
  exact bx_ws28 hRC hs hp h 64 0 65 (-9) 1 _ _ _ (by omega) (by omega) ⟨by omega, fun e he => absurd he (by omega), Or.inl ⟨rfl, rfl⟩⟩
end
section
variable {yr yc : Int32} {yp ys yn yq yw ym yg : Nat → Int32}
theorem by_48r {post : Int32 → SY → Prop} {J : Int32 → Int32 → Int32 → Int32 → (Nat → Int32) → (Nat → Int32) → (Nat → Int32) → (Nat → Int32) → (Nat → Int32) → (Nat → Int32) → (Nat → Int32) → Prop} {x1 : Int32} {O k f : Nat} {A : Nat → Nat → Int} {v : bm_V} (hO : O < 8) (hf : f < 8) (hA : bm_A9 A) (hv : bm_b3 v) (hg : ∀ j, j < 3 → yg j = bm_i (bm_gn A v j)) (h : J (nI (f ||| bm_rp A O v)) (nI (k + 1)) yr yc yp ys yn yq yw ym yg) : ∃ n, wY_repliesOf_48 post J x1 (nI O) (nI k) (bm_i (bm_mx A O v)) yr yc yp ys yn yq yw ym yg n (nI f) 0 := by
  have mb := bm_mx_b (O := O) hA hv
  have step : ∀ (n j g : Nat), j < 3 → g < 8 → (∀ i, i < 3 → (g.testBit i = true ↔ f.testBit i = true ∨ (i < j ∧ (bm_rp A O v).testBit i = true))) → (∀ g', g' < 8 → (∀ i, i < 3 → (g'.testBit i = true ↔ f.testBit i = true ∨ (i < j + 1 ∧ (bm_rp A O v).testBit i = true))) → wY_repliesOf_48 post J x1 (nI O) (nI k) (bm_i (bm_mx A O v)) yr yc yp ys yn yq yw ym yg n (nI g') (nI (j + 1))) → wY_repliesOf_48 post J x1 (nI O) (nI k) (bm_i (bm_mx A O v)) yr yc yp ys yn yq yw ym yg (n + 1) (nI g) (nI j) := by
    intro n j g hj hg8 hgb hk
    have gb := bm_gn_b hA hv hj
    have no : ¬ (bm_rp A O v).testBit j = true → ∀ y, y = nI j + 1 → wY_repliesOf_48 post J x1 (nI O) (nI k) (bm_i (bm_mx A O v)) yr yc yp ys yn yq yw ym yg n (nI g) y := by
      intro hn y ey
      rw [nI_1] at ey
      subst ey
      refine hk g hg8 (fun i hi => ?_)
      rw [hgb i hi]
      constructor
      · rintro (q | ⟨q, r⟩)
        · exact Or.inl q
        · exact Or.inr ⟨by omega, r⟩
      · rintro (q | ⟨q, r⟩)
        · exact Or.inl q
        · by_cases z : i = j
          · rw [z] at r
            exact absurd r hn
          · exact Or.inr ⟨by omega, r⟩
    refine br_f (nI_ge (b := 3) hj (by decide)) (bx_bit hO hj (fun z => ⟨vp_in_nI hj (by decide), ?_⟩) (fun z => no (fun q => by rw [((bm_rp_t hj).mp q).1] at z; cases z)))
    rw [nI_clamp (by omega), hg j hj, bm_eq (by omega) (by omega) (by omega) (by omega)]
    refine br_c (fun p => ?_) (fun p => no (fun q => p ((bm_rp_t hj).mp q).2))
    intro x ex y ey
    rw [bx_sh ⟨j, hj⟩, bx_or hg8 (bm_28 hj)] at ex
    rw [nI_1] at ey
    subst ex ey
    refine hk _ (bx_orl hg8 (bm_28 hj)) (fun i hi => ?_)
    rw [Nat.testBit_or, Bool.or_eq_true, bm_2t, hgb i hi]
    constructor
    · rintro ((q | ⟨q, r⟩) | rfl)
      · exact Or.inl q
      · exact Or.inr ⟨by omega, r⟩
      · exact Or.inr ⟨by omega, (bm_rp_t hj).mpr ⟨z, p⟩⟩
    · rintro (q | ⟨q, r⟩)
      · exact Or.inl (Or.inl q)
      · by_cases z : i = j
        · exact Or.inr z
        · exact Or.inl (Or.inr ⟨by omega, r⟩)
  refine ⟨4, step 3 0 f (by omega) hf (fun i hi => ⟨fun q => Or.inl q, fun q => ?_⟩) (fun g1 a1 b1 => step 2 1 g1 (by omega) a1 b1 (fun g2 a2 b2 => step 1 2 g2 (by omega) a2 b2 (fun g3 a3 b3 => br_t (by decide) ?_)))⟩
  · rcases q with q | ⟨q, -⟩
    · exact q
    · omega
  · intro y ey
    rw [nI_1] at ey
    subst ey
    have e : g3 = f ||| bm_rp A O v := by
      apply bm_8e a3 (bx_orl hf (bm_rp8 _ _ _))
      intro i hi
      rw [Bool.eq_iff_iff, b3 i hi, Nat.testBit_or, Bool.or_eq_true]
      constructor
      · rintro (q | ⟨-, q⟩)
        · exact Or.inl q
        · exact Or.inr q
      · rintro (q | q)
        · exact Or.inl q
        · exact Or.inr ⟨by omega, q⟩
    rw [e]
    exact h
theorem by_ro {post : Int32 → SY → Prop} {s M O : Nat} (hs : s < 2) (hM : M < 8) (hO : O < 8) (hp : bm_p9 yp)
    (h : ∀ f yn' yq' yw' ym' yg', bm_RY (bm_A yp s (1 - s)) M O f → post (nI f) (yr, yc, yp, ys, yn', yq', yw', ym', yg')) : wpY_repliesOf post (yr, yc, yp, ys, yn, yq, yw, ym, yg) (nI s) (nI O) (nI M) := by
  unfold wpY_repliesOf
  dsimp only
  rw [bx_1s hs]
  refine by_fc (s := 1 - s) (own := false) hM hO (by omega) hp (fun yn1 yq1 yw1 ym1 yg1 L hI hX hc _ _ => ?_)
  dsimp only
  rw [bm_B_f, show 1 - (1 - s) = s by omega] at hI
  have hA := bm_A9p hp s (1 - s)
  have kb := bm_IsL_b hA hI
  have loop : ∀ (m k q f : Nat) (ym' yg' : Nat → Int32), k + m = L.length → m < q → f < 8 → (∀ j, j < 3 → (f.testBit j = true ↔ ∃ i v, i < k ∧ L[i]? = some v ∧ (bm_rp (bm_A yp s (1 - s)) O v).testBit j = true)) → wY_repliesOf_16 post (nI s) (nI O) q (nI f) (nI k) yr yc yp ys yn1 yq1 yw1 ym' yg' := by
    intro m
    induction m with
    | zero =>
      intro k q f ym' yg' hk hq hf8 hf
      obtain ⟨q, rfl⟩ : ∃ q', q = q' + 1 := ⟨q - 1, by omega⟩
      have : k = L.length := by omega
      subst this
      unfold wY_repliesOf_16
      rw [bx_1s hs]
      refine ⟨vp_in_nI (by omega) (by decide), ?_⟩
      rw [nI_clamp (by omega), hc]
      refine br_t (nI_le (by omega) (by omega)) (h f _ _ _ _ _ ⟨hf8, fun j hj => ?_⟩)
      rw [hf j hj]
      constructor
      · rintro ⟨i, v, hi, hv, hr⟩
        obtain ⟨S, T, hS, hT, hK, rfl⟩ := (hI.2 v).mp (List.mem_of_getElem? hv)
        exact ⟨S, T, hS, hT, hK, hr⟩
      · rintro ⟨S, T, hS, hT, hK, hr⟩
        obtain ⟨i, hi⟩ := List.mem_iff_getElem?.mp ((hI.2 _).mpr ⟨S, T, hS, hT, hK, rfl⟩)
        exact ⟨i, _, (List.getElem?_eq_some_iff.mp hi).1, hi, hr⟩
    | succ m ih =>
      intro k q f ym' yg' hk hq hf8 hf
      obtain ⟨q, rfl⟩ : ∃ q', q = q' + 1 := ⟨q - 1, by omega⟩
      obtain ⟨v, hv⟩ : ∃ v, L[k]? = some v := ⟨_, List.getElem?_eq_getElem (by omega)⟩
      have hvb := kb.2.1 v (List.mem_of_getElem? hv)
      unfold wY_repliesOf_16
      rw [bx_1s hs]
      refine ⟨vp_in_nI (by omega) (by decide), ?_⟩
      rw [nI_clamp (by omega), hc]
      refine br_f (nI_ge (by omega) (by omega)) ?_
      refine by_look (by omega) (by omega) (hX k v hv) (fun ym2 yg2 hm2 hg2 => ?_)
      dsimp only
      rw [show 1 - (1 - s) = s by omega] at hg2
      refine by_greatest hO hA hvb hg2 ?_
      refine by_48r hO hf8 hA hvb hg2 ?_
      refine ih (k + 1) q _ _ _ (by omega) (by omega) (bx_orl hf8 (bm_rp8 _ _ _)) (fun j hj => ?_)
      rw [Nat.testBit_or, Bool.or_eq_true, hf j hj]
      constructor
      · rintro (⟨i, w, hi, hw, hr⟩ | hr)
        · exact ⟨i, w, by omega, hw, hr⟩
        · exact ⟨k, v, by omega, hv, hr⟩
      · rintro ⟨i, w, hi, hw, hr⟩
        by_cases z : i = k
        · subst z
          rw [hv] at hw
          cases hw
          exact Or.inr hr
        · exact Or.inl ⟨i, w, by omega, hw, hr⟩
  exact ⟨L.length + 1, loop L.length 0 (L.length + 1) 0 _ _ (by omega) (by omega) (by omega) (fun j hj => ⟨fun q => by simp at q, fun ⟨i, v, hi, _⟩ => absurd hi (by omega)⟩)⟩
theorem by_sure {post : Int32 → SY → Prop} {R C s : Nat} {asked : Bool} (hRC : bm_RC R C) (hs : s < 2) (hp : bm_p9 yp)
    (h : ∀ t b L yn' yq' yw' ym' yg', bm_IsL (bm_B yp s true) (2 ^ bm_n R C s - 1) (2 ^ bm_n R C (1 - s) - 1) L → bm_SY (bm_B yp s true) (2 ^ bm_n R C (1 - s) - 1) L L.length t b → 0 < b ∧ post (bm_i ((if asked = true then -t else b).tdiv (bm_q (-t) b))) (nI R, nI C, yp, ys, yn', yq', yw', ym', yg')) : wpY_sure post (nI R, nI C, yp, ys, yn, yq, yw, ym, yg) (nI s) (bm_ow asked) := by
  have M8 := bm_all8 (bm_n13 (s := s) hRC).2
  have O8 := bm_all8 (bm_n13 (s := 1 - s) hRC).2
  unfold wpY_sure
  dsimp only
  have hside : ∀ P : Int32 → Prop, P 1 → wpY_isSide P (nI R, nI C, yp, ys, yn, yq, yw, ym, yg) (nI s) := by
    intro P hP
    have h2 : s = 0 ∨ s = 1 := by omega
    rcases h2 with rfl | rfl
    · exact br_t rfl hP
    · exact br_f (by decide) (br_t rfl hP)
  refine hside _ (br_f (by decide) ?_)
  refine by_allOf hRC hs ?_
  rw [bx_1s hs]
  refine by_allOf hRC (by omega) ?_
  refine by_fc (own := true) M8 O8 hs hp (fun yn1 yq1 yw1 ym1 yg1 L hI hX hc _ _ => ?_)
  dsimp only
  have hB := bm_B9 hp s true
  have kb := bm_IsL_b hB hI
  have loop : ∀ (m k q : Nat) (t b : Int) (ym' yg' : Nat → Int32), k + m = L.length → m < q → -17496 ≤ t → t ≤ 17496 → b ≤ 1944 → 0 ≤ b → bm_SY (bm_B yp s true) (2 ^ bm_n R C (1 - s) - 1) L k t b → wY_sure_44 post (nI s) (bm_ow asked) (nI (2 ^ bm_n R C (1 - s) - 1)) q (bm_i t) (bm_i b) (nI k) (nI R) (nI C) yp ys yn1 yq1 yw1 ym' yg' := by
    intro m
    induction m with
    | zero =>
      intro k q t b ym' yg' hk hq t1 t2 b1 b0 hI'
      obtain ⟨q, rfl⟩ : ∃ q', q = q' + 1 := ⟨q - 1, by omega⟩
      have : k = L.length := by omega
      subst this
      refine ⟨vp_in_nI hs (by decide), ?_⟩
      rw [nI_clamp (by omega), hc]
      refine br_t (nI_le (by omega) (by omega)) ?_
      rw [bm_neg]
      obtain ⟨bp, hpost⟩ := h t b L yn1 yq1 yw1 ym' yg' hI hI'
      exact by_lowest (by omega) bp (by omega) hpost
    | succ m ih =>
      intro k q t b ym' yg' hk hq t1 t2 b1 b0 hI'
      obtain ⟨q, rfl⟩ : ∃ q', q = q' + 1 := ⟨q - 1, by omega⟩
      obtain ⟨v, hv⟩ : ∃ v, L[k]? = some v := ⟨_, List.getElem?_eq_getElem (by omega)⟩
      have hvm := List.mem_of_getElem? hv
      have hvb := kb.2.1 v hvm
      have hvP := kb.2.2 v hvm
      have hh := hX k v hv
      refine ⟨vp_in_nI hs (by decide), ?_⟩
      rw [nI_clamp (by omega), hc]
      refine br_f (nI_ge (by omega) (by omega)) ?_
      have step : ∀ (n i : Nat) (a : Nat → Int32), i < 3 → wY_sure_58 post (wY_sure_44 post (nI s) (bm_ow asked) (nI (2 ^ bm_n R C (1 - s) - 1)) q) (nI s) (bm_ow asked) (nI (2 ^ bm_n R C (1 - s) - 1)) (bm_i t) (bm_i b) (nI k) (nI R) (nI C) n (nI (i + 1)) yp ys yn1 yq1 yw1 (upd a i (bm_i (bm_at v i))) yg' → wY_sure_58 post (wY_sure_44 post (nI s) (bm_ow asked) (nI (2 ^ bm_n R C (1 - s) - 1)) q) (nI s) (bm_ow asked) (nI (2 ^ bm_n R C (1 - s) - 1)) (bm_i t) (bm_i b) (nI k) (nI R) (nI C) (n + 1) (nI i) yp ys yn1 yq1 yw1 a yg' := by
        intro n i a hi hk'
        refine br_f (nI_ge (b := 3) hi (by decide)) ⟨pk_in (3 * (16 * s + k) + i) 96 (by omega) (by_48 s k i), vp_in_nI hi (by decide), ?_⟩
        intro y ey l el
        rw [by_48, nI_clamp (by omega), nI_clamp (by omega), hh.1 i hi] at ey
        rw [nI_1] at el
        subst ey el
        exact hk'
      refine ⟨4, step 3 0 _ (by omega) (step 2 1 _ (by omega) (step 1 2 _ (by omega) (br_t (by decide) ?_)))⟩
      refine by_against (own := true) (v := v) hs ⟨rfl, rfl, rfl⟩ (fun yg2 hg2 => ?_)
      dsimp only
      refine by_greatest O8 hB hvb hg2 ?_
      refine ⟨pk_in (16 * s + k) 32 (by omega) (by_16 s k), ?_⟩
      intro w ew
      rw [by_16, nI_clamp (by omega), hh.2] at ew
      subst ew
      have mb := bm_mx_b (O := 2 ^ bm_n R C (1 - s) - 1) hB hvb
      have mb2 : -17496 ≤ bm_mx (bm_B yp s true) (2 ^ bm_n R C (1 - s) - 1) v := by
        obtain ⟨j, hj, -, e⟩ := (bm_mx_M (O := 2 ^ bm_n R C (1 - s) - 1) (bm_gn_lo hB hvb) ⟨0, by omega, (bm_allT ⟨bm_n R C (1 - s), by have := bm_n13 (s := 1 - s) hRC; omega⟩ ⟨0, by omega⟩).mpr (by have := bm_n13 (s := 1 - s) hRC; dsimp only; omega)⟩).2
        have := bm_gn_b hB hvb hj
        omega
      have sb := bm_sg_b hvb
      have sp := hvP.2.2.2.1
      have k1 := bm_p18 (a := t) (b := bm_sg v) (s := 17496) (t := 1944) (by omega) (by omega) (by omega) (by omega)
      have k2 := bm_p18 (a := bm_mx (bm_B yp s true) (2 ^ bm_n R C (1 - s) - 1) v) (b := b) (s := 17496) (t := 1944) (by omega) (by omega) (by omega) (by omega)
      have new : (b = 0 ∨ bm_mx (bm_B yp s true) (2 ^ bm_n R C (1 - s) - 1) v * b < t * bm_sg v) → ∀ y, y = nI k + 1 → wY_sure_44 post (nI s) (bm_ow asked) (nI (2 ^ bm_n R C (1 - s) - 1)) q (bm_i (bm_mx (bm_B yp s true) (2 ^ bm_n R C (1 - s) - 1) v)) (bm_i (bm_sg v)) y (nI R) (nI C) yp ys yn1 yq1 yw1 (upd (upd (upd ym' 0 (bm_i (bm_at v 0))) 1 (bm_i (bm_at v 1))) 2 (bm_i (bm_at v 2))) yg2 := by
        intro hnew y ey
        rw [nI_1] at ey
        subst ey
        refine ih (k + 1) q _ _ _ _ (by omega) (by omega) mb2 mb.2 sb.2 (by omega) ⟨Or.inr ⟨sp, k, v, by omega, hv, rfl, rfl⟩, fun j w hj hw => ?_⟩
        by_cases z : j = k
        · subst z
          rw [hv] at hw
          cases hw
          exact Int.le_refl _
        · have old := hI'.2 j w (by omega) hw
          rcases hI'.1 with ⟨z0, -, -⟩ | ⟨bp, -⟩
          · omega
          · have hlt : bm_mx (bm_B yp s true) (2 ^ bm_n R C (1 - s) - 1) v * b < t * bm_sg v := by
              rcases hnew with z | z
              · omega
              · exact z
            have wp := (kb.2.2 w (List.mem_of_getElem? hw)).2.2.2.1
            generalize bm_mx (bm_B yp s true) (2 ^ bm_n R C (1 - s) - 1) v = l at *
            generalize bm_mx (bm_B yp s true) (2 ^ bm_n R C (1 - s) - 1) w = l' at *
            have j1 : (t * bm_sg w) * bm_sg v ≤ (l' * b) * bm_sg v := Int.mul_le_mul_of_nonneg_right old (by omega)
            have j2 : (l * b) * bm_sg w ≤ (t * bm_sg v) * bm_sg w := Int.mul_le_mul_of_nonneg_right (by omega) (by omega)
            have j3 : (t * bm_sg w) * bm_sg v = (t * bm_sg v) * bm_sg w := by grind
            have j4 : (l * b) * bm_sg w = (l * bm_sg w) * b := by grind
            have j5 : (l' * b) * bm_sg v = (l' * bm_sg v) * b := by grind
            exact Int.le_of_mul_le_mul_right (show (l * bm_sg w) * b ≤ (l' * bm_sg v) * b by omega) bp
      rw [← bm_0, bm_eq (by omega) (by omega) (by omega) (by omega), bm_mul, bm_mul, bm_le (by omega) (by omega) (by omega) (by omega)]
      refine br_c (fun z => new (Or.inl z)) (fun z => br_c (fun z2 => ?_) (fun z2 => new (Or.inr (by omega))))
      intro y ey
      rw [nI_1] at ey
      subst ey
      refine ih (k + 1) q t b _ _ (by omega) (by omega) t1 t2 b1 b0 ⟨?_, fun j w hj hw => ?_⟩
      · rcases hI'.1 with ⟨-, -, z0⟩ | ⟨bp, j, w, hj, hw⟩
        · exact absurd z0 z
        · exact Or.inr ⟨bp, j, w, by omega, hw⟩
      · by_cases z : j = k
        · subst z
          rw [hv] at hw
          cases hw
          exact z2
        · exact hI'.2 j w (by omega) hw
  exact ⟨L.length + 1, loop L.length 0 (L.length + 1) 0 0 _ _ (by omega) (by omega) (by omega) (by omega) (by omega) (by omega) ⟨Or.inl ⟨rfl, rfl, rfl⟩, fun j v hj => absurd hj (by omega)⟩⟩
end
end
section
/-! places, pure, exchange, left -/
def bm_pl (R C : Nat) (x : Int32) : Prop := ∃ n, n < 9 ∧ x = nI n ∧ n / 3 < R ∧ n % 3 < C
section
variable {fr fc fm ft fb : Int32} {ap ae am ac aq aw ar ah : Nat → Int32}
theorem bx_cell {post : Int32 → Prop} {R C : Nat} {x : Int32} (hRC : bm_RC R C) (h1 : bm_pl R C x → post 1) (h0 : ¬ bm_pl R C x → post 0) : wpX_isCell post (nI R, nI C, fm, ft, fb, ap, ae, am, ac, aq, aw, ar, ah) x := by
  unfold bm_RC at hRC
  unfold wpX_isCell
  dsimp only
  have nu : ∀ n, n < 2 ^ 31 → x = nI n → bm_pl R C x → n < 9 ∧ n / 3 < R ∧ n % 3 < C := by
    rintro n hn hx ⟨m, hm, hxm, a, b⟩
    have : n = m := (nI_eq hn (by omega)).mp (hx.symm.trans hxm)
    subst this
    exact ⟨hm, a, b⟩
  refine br_c (fun z => h0 ?_) (fun z => ?_)
  · rintro ⟨n, hn, rfl, -, -⟩
    exact nI_pos (by omega) z
  · obtain ⟨n, hn, rfl⟩ := nI_of z
    refine pk_le 9 n (fun y => h0 (fun q => ?_)) (fun y => ⟨by decide, ?_⟩) rfl rfl (by omega) hn
    · have := nu n hn rfl q
      omega
    · rw [show nI n / 3 = nI (n / 3) from pk_div (d := 3) hn (by omega) (by omega)]
      refine pk_le R (n / 3) (fun y2 => h0 (fun q => ?_)) (fun y2 => ⟨by decide, ?_⟩) rfl rfl (by omega) (by omega)
      · have := nu n hn rfl q
        omega
      · rw [show nI (n / 3) = nI n / 3 from (pk_div (d := 3) hn (by omega) (by omega)).symm, show nI n - nI n / 3 * 3 = nI (n % 3) from pk_rem (d := 3) hn (by omega) (by omega)]
        refine pk_le C (n % 3) (fun y3 => h0 (fun q => ?_)) (fun y3 => h1 ⟨n, by omega, rfl, by omega, by omega⟩) rfl rfl (by omega) (by omega)
        have := nu n hn rfl q
        omega
end
section
variable {yr yc : Int32} {yp ys yn yq yw ym yg : Nat → Int32}
theorem by_side {post : Int32 → Prop} {x : Int32} (h1 : (x = 0 ∨ x = 1) → post 1) (h0 : ¬ (x = 0 ∨ x = 1) → post 0) : wpY_isSide post (yr, yc, yp, ys, yn, yq, yw, ym, yg) x := by
  unfold wpY_isSide
  dsimp only
  exact br_c (fun z => h1 (Or.inl z)) (fun z => br_c (fun y => h1 (Or.inr y)) (fun y => h0 (fun q => q.elim z y)))
theorem by_place {post : Int32 → Prop} {R C : Nat} {s x : Int32} (hRC : bm_RC R C) (h1 : (s = 0 ∨ s = 1) → bm_pl R C x → post 1) (h0 : ¬ ((s = 0 ∨ s = 1) ∧ bm_pl R C x) → post 0) : wpY_isPlace post (nI R, nI C, yp, ys, yn, yq, yw, ym, yg) s x := by
  unfold bm_RC at hRC
  unfold wpY_isPlace
  dsimp only
  have nu : ∀ n, n < 2 ^ 31 → x = nI n → bm_pl R C x → n < 9 ∧ n / 3 < R ∧ n % 3 < C := by
    rintro n hn hx ⟨m, hm, hxm, a, b⟩
    have : n = m := (nI_eq hn (by omega)).mp (hx.symm.trans hxm)
    subst this
    exact ⟨hm, a, b⟩
  refine by_side (fun hs => br_f (by decide) ?_) (fun hs => br_t rfl (h0 (fun q => hs q.1)))
  refine br_c (fun z => h0 ?_) (fun z => ⟨by decide, ?_⟩)
  · rintro ⟨-, n, hn, rfl, -, -⟩
    exact nI_pos (by omega) z
  · obtain ⟨n, hn, rfl⟩ := nI_of z
    rw [show nI n / 3 = nI (n / 3) from pk_div (d := 3) hn (by omega) (by omega)]
    refine pk_le R (n / 3) (fun y2 => h0 (fun q => ?_)) (fun y2 => ⟨by decide, ?_⟩) rfl rfl (by omega) (by omega)
    · have := nu n hn rfl q.2
      omega
    · rw [show nI (n / 3) = nI n / 3 from (pk_div (d := 3) hn (by omega) (by omega)).symm, show nI n - nI n / 3 * 3 = nI (n % 3) from pk_rem (d := 3) hn (by omega) (by omega)]
      refine pk_le C (n % 3) (fun y3 => h0 (fun q => ?_)) (fun y3 => h1 hs ⟨n, by omega, rfl, by omega, by omega⟩) rfl rfl (by omega) (by omega)
      have := nu n hn rfl q.2
      omega
end
def bm_pc (p : Nat → Int32) (R C i j : Nat) : Prop := (∀ a, a < R → p (3 * a + j) ≤ p (3 * i + j)) ∧ ∀ b, b < C → p (9 + 3 * i + b) ≤ p (9 + 3 * i + j)
noncomputable def bm_pm (p : Nat → Int32) (R C : Nat) : Nat → Int32
  | 0 => 0
  | n + 1 => @ite Int32 (n / 3 < R ∧ n % 3 < C ∧ bm_pc p R C (n / 3) (n % 3)) (Classical.propDecidable _) (bm_pm p R C n ||| ((1 : Int32) <<< (nI n &&& 31))) (bm_pm p R C n)
theorem bm_pm_t {p : Nat → Int32} {R C n : Nat} (h : n / 3 < R ∧ n % 3 < C ∧ bm_pc p R C (n / 3) (n % 3)) : bm_pm p R C (n + 1) = bm_pm p R C n ||| ((1 : Int32) <<< (nI n &&& 31)) := if_pos h
theorem bm_pm_f {p : Nat → Int32} {R C n : Nat} (h : ¬ (n / 3 < R ∧ n % 3 < C ∧ bm_pc p R C (n / 3) (n % 3))) : bm_pm p R C (n + 1) = bm_pm p R C n := if_neg h
theorem bx_93 (i j : Nat) : 9 + 3 * nI i + nI j = nI (9 + 3 * i + j) := by
  show nI 9 + nI 3 * nI i + nI j = _
  rw [pk_mul, nI_add, nI_add]
section
variable {fr fc fm ft fb : Int32} {ap ae am ac aq aw ar ah : Nat → Int32}
theorem bx_ipe {post : Int32 → Prop} {R C i j : Nat} (hRC : bm_RC R C) (hi : i < R) (hj : j < C) (h1 : bm_pc ap R C i j → post 1) (h0 : ¬ bm_pc ap R C i j → post 0) : wpX_isPureEquilibrium post (nI R, nI C, fm, ft, fb, ap, ae, am, ac, aq, aw, ar, ah) (nI i) (nI j) := by
  unfold bm_RC at hRC
  have in2 : (∀ a, a < R → ap (3 * a + j) ≤ ap (3 * i + j)) → ∀ (m b q : Nat), b + m = C → m < q → (∀ c, c < b → ap (9 + 3 * i + c) ≤ ap (9 + 3 * i + j)) → wX_isPureEquilibrium_43 post (nI i) (nI j) (nI R) (nI C) fm ft fb ap ae am ac aq aw ar ah q (nI b) := by
    intro hr m
    induction m with
    | zero =>
      intro b q hb hq hc
      obtain ⟨q, rfl⟩ : ∃ q', q = q' + 1 := ⟨q - 1, by omega⟩
      have : b = C := by omega
      subst this
      exact br_t (nI_le (by omega) (by omega)) (h1 ⟨hr, hc⟩)
    | succ m ih =>
      intro b q hb hq hc
      obtain ⟨q, rfl⟩ : ∃ q', q = q' + 1 := ⟨q - 1, by omega⟩
      refine br_f (nI_ge (by omega) (by omega)) ⟨pk_in (9 + 3 * i + b) 18 (by omega) (bx_93 i b), pk_in (9 + 3 * i + j) 18 (by omega) (bx_93 i j), ?_⟩
      rw [bx_93, bx_93, nI_clamp (by omega), nI_clamp (by omega)]
      refine br_c (fun z => ?_) (fun z => h0 (fun q => z (q.2 b (by omega))))
      intro y ey
      rw [nI_1] at ey
      subst ey
      refine ih (b + 1) q (by omega) (by omega) (fun c hc' => ?_)
      by_cases y : c = b
      · rw [y]; exact z
      · exact hc c (by omega)
  have in1 : ∀ (m a q : Nat), a + m = R → m < q → (∀ c, c < a → ap (3 * c + j) ≤ ap (3 * i + j)) → wX_isPureEquilibrium_2 post (nI i) (nI j) (nI R) (nI C) fm ft fb ap ae am ac aq aw ar ah q (nI a) := by
    intro m
    induction m with
    | zero =>
      intro a q ha hq hc
      obtain ⟨q, rfl⟩ : ∃ q', q = q' + 1 := ⟨q - 1, by omega⟩
      have : a = R := by omega
      subst this
      exact br_t (nI_le (by omega) (by omega)) ⟨C + 1, in2 hc C 0 (C + 1) (by omega) (by omega) (fun c hc' => absurd hc' (by omega))⟩
    | succ m ih =>
      intro a q ha hq hc
      obtain ⟨q, rfl⟩ : ∃ q', q = q' + 1 := ⟨q - 1, by omega⟩
      refine br_f (nI_ge (by omega) (by omega)) ⟨pk_in (3 * a + j) 18 (by omega) (bx_3 a j), pk_in (3 * i + j) 18 (by omega) (bx_3 i j), ?_⟩
      rw [bx_3, bx_3, nI_clamp (by omega), nI_clamp (by omega)]
      refine br_c (fun z => ?_) (fun z => h0 (fun q => z (q.1 a (by omega))))
      intro y ey
      rw [nI_1] at ey
      subst ey
      refine ih (a + 1) q (by omega) (by omega) (fun c hc' => ?_)
      by_cases y : c = a
      · rw [y]; exact z
      · exact hc c (by omega)
  exact ⟨R + 1, in1 R 0 (R + 1) (by omega) (by omega) (fun c hc => absurd hc (by omega))⟩
theorem bx_pure {post : Int32 → Prop} {R C : Nat} (hRC : bm_RC R C) (h : post (bm_pm ap R C 9)) : wpX_pure post (nI R, nI C, fm, ft, fb, ap, ae, am, ac, aq, aw, ar, ah) := by
  have hRC' := hRC
  unfold bm_RC at hRC'
  have pad : ∀ (i m j : Nat), j + m = 3 → C ≤ j → bm_pm ap R C (3 * i + j) = bm_pm ap R C (3 * (i + 1)) := by
    intro i m
    induction m with
    | zero =>
      intro j hj _
      rw [show 3 * i + j = 3 * (i + 1) by omega]
    | succ m ih =>
      intro j hj hC
      rw [← ih (j + 1) (by omega) (by omega), show 3 * i + (j + 1) = 3 * i + j + 1 by omega, bm_pm_f (by omega)]
  have pad2 : ∀ m n, n + m = 9 → 3 * R ≤ n → bm_pm ap R C n = bm_pm ap R C 9 := by
    intro m
    induction m with
    | zero =>
      intro n hn _
      rw [show n = 9 by omega]
    | succ m ih =>
      intro n hn hR
      rw [← ih (n + 1) (by omega) (by omega), bm_pm_f (by omega)]
  have inner : ∀ (J : Int32 → Int32 → Prop) (i : Nat), i < R → J (bm_pm ap R C (3 * i + C)) (nI (i + 1)) → ∀ (m j q : Nat), j + m = C → m < q → wX_pure_14 post J (nI i) (nI R) (nI C) fm ft fb ap ae am ac aq aw ar ah q (bm_pm ap R C (3 * i + j)) (nI j) := by
    intro J i hi hJ m
    induction m with
    | zero =>
      intro j q hj hq
      obtain ⟨q, rfl⟩ : ∃ q', q = q' + 1 := ⟨q - 1, by omega⟩
      have : j = C := by omega
      subst this
      refine br_t (nI_le (by omega) (by omega)) ?_
      intro y ey
      rw [nI_1] at ey
      subst ey
      exact hJ
    | succ m ih =>
      intro j q hj hq
      obtain ⟨q, rfl⟩ : ∃ q', q = q' + 1 := ⟨q - 1, by omega⟩
      have d1 : (3 * i + j) / 3 = i := by omega
      have d2 : (3 * i + j) % 3 = j := by omega
      refine br_f (nI_ge (by omega) (by omega)) ?_
      refine bx_ipe hRC hi (by omega) (fun z => br_f (by decide) ?_) (fun z => br_t rfl ?_)
      · intro x ex y ey
        rw [bx_3, ← bm_pm_t (by rw [d1, d2]; exact ⟨hi, by omega, z⟩)] at ex
        rw [nI_1] at ey
        subst ex ey
        exact ih (j + 1) q (by omega) (by omega)
      · intro y ey
        rw [nI_1] at ey
        subst ey
        have := ih (j + 1) q (by omega) (by omega)
        rw [show 3 * i + (j + 1) = 3 * i + j + 1 by omega, bm_pm_f (by rw [d1, d2]; exact fun q => z q.2.2)] at this
        exact this
  have outer : ∀ (m i q : Nat), i + m = R → m < q → wX_pure_4 post (nI R) (nI C) fm ft fb ap ae am ac aq aw ar ah q (bm_pm ap R C (3 * i)) (nI i) := by
    intro m
    induction m with
    | zero =>
      intro i q hi hq
      obtain ⟨q, rfl⟩ : ∃ q', q = q' + 1 := ⟨q - 1, by omega⟩
      have : i = R := by omega
      subst this
      refine br_t (nI_le (by omega) (by omega)) ?_
      rw [pad2 (9 - 3 * i) (3 * i) (by omega) (by omega)]
      exact h
    | succ m ih =>
      intro i q hi hq
      obtain ⟨q, rfl⟩ : ∃ q', q = q' + 1 := ⟨q - 1, by omega⟩
      refine br_f (nI_ge (by omega) (by omega)) ⟨C + 1, ?_⟩
      refine inner _ i (by omega) ?_ C 0 (C + 1) (by omega) (by omega)
      rw [pad i (3 - C) C (by omega) (by omega)]
      exact ih (i + 1) q (by omega) (by omega)
  exact ⟨R + 1, outer R 0 (R + 1) (by omega) (by omega)⟩
end
section
variable {yr yc : Int32} {yp ys yn yq yw ym yg : Nat → Int32}
theorem by_p20 {post : Int32 → Prop} {J : Int32 → Int32 → Prop} {R C n : Nat} {x1 : Int32} {is : Bool} (hRC : bm_RC R C) (hn : n < 9) (his : is = true → n / 3 < R ∧ n % 3 < C)
    (h1 : is = true → bm_pc yp R C (n / 3) (n % 3) → J (x1 ||| ((1 : Int32) <<< (nI n &&& 31))) (nI (n + 1))) (h0 : (is = false ∨ ¬ bm_pc yp R C (n / 3) (n % 3)) → J x1 (nI (n + 1))) : ∃ q, wY_pure_20 post J x1 (nI n) (nI R) (nI C) yp ys yn yq yw ym yg q (bm_ow is) 0 := by
  unfold bm_RC at hRC
  have en : n = 3 * (n / 3) + n % 3 := by omega
  have d1 : nI n / 3 = nI (n / 3) := pk_div (d := 3) (by omega) (by omega) (by omega)
  have d2 : nI n - nI n / 3 * 3 = nI (n % 3) := pk_rem (d := 3) (by omega) (by omega) (by omega)
  have d3 : ∀ i, 9 + nI (n / 3) * 3 + nI i = nI (9 + 3 * (n / 3) + i) := by
    intro i
    show nI 9 + nI (n / 3) * nI 3 + nI i = _
    rw [pk_mul, nI_add, nI_add, Nat.mul_comm]
  have d4 : (9 : Int32) + nI n = nI (9 + 3 * (n / 3) + n % 3) := by
    rw [show (9 : Int32) + nI n = nI (9 + n) from nI_add 9 n]
    congr 1
    omega
  -- what is known after i steps
  have step : ∀ (q i : Nat) (b : Bool), i < 3 →
      (b = true → is = true ∧ (∀ a, a < i → a < R → yp (3 * a + n % 3) ≤ yp n) ∧ ∀ a, a < i → a < C → yp (9 + 3 * (n / 3) + a) ≤ yp (9 + 3 * (n / 3) + n % 3)) → (b = false → is = false ∨ ¬ bm_pc yp R C (n / 3) (n % 3)) →
      (∀ b', (b' = true → is = true ∧ (∀ a, a < i + 1 → a < R → yp (3 * a + n % 3) ≤ yp n) ∧ ∀ a, a < i + 1 → a < C → yp (9 + 3 * (n / 3) + a) ≤ yp (9 + 3 * (n / 3) + n % 3)) → (b' = false → is = false ∨ ¬ bm_pc yp R C (n / 3) (n % 3)) → wY_pure_20 post J x1 (nI n) (nI R) (nI C) yp ys yn yq yw ym yg q (bm_ow b') (nI (i + 1))) → wY_pure_20 post J x1 (nI n) (nI R) (nI C) yp ys yn yq yw ym yg (q + 1) (bm_ow b) (nI i) := by
    intro q i b hi ht hf hk
    have nx : ∀ b' : Bool, (b' = true → is = true ∧ (∀ a, a < i + 1 → a < R → yp (3 * a + n % 3) ≤ yp n) ∧ ∀ a, a < i + 1 → a < C → yp (9 + 3 * (n / 3) + a) ≤ yp (9 + 3 * (n / 3) + n % 3)) → (b' = false → is = false ∨ ¬ bm_pc yp R C (n / 3) (n % 3)) → ∀ y, y = nI i + 1 → wY_pure_20 post J x1 (nI n) (nI R) (nI C) yp ys yn yq yw ym yg q (bm_ow b') y := by
      intro b' h1 h2 y ey
      rw [nI_1] at ey
      subst ey
      exact hk b' h1 h2
    have no63 : (is = false ∨ ¬ bm_pc yp R C (n / 3) (n % 3)) → wY_pure_63 post J (wY_pure_20 post J x1 (nI n) (nI R) (nI C) yp ys yn yq yw ym yg q) x1 (nI n) 0 (nI i) (nI R) (nI C) yp ys yn yq yw ym yg := by
      intro hh
      exact br_t rfl (nx false (fun q => by cases q) (fun _ => hh))
    refine br_f (nI_ge (b := 3) hi (by decide)) ?_
    cases b with
    | false => exact br_t rfl (no63 (hf rfl))
    | true =>
      obtain ⟨t1, t2, t3⟩ := ht rfl
      obtain ⟨p1, p2⟩ := his t1
      have s63 : (∀ a, a < i + 1 → a < R → yp (3 * a + n % 3) ≤ yp n) → wY_pure_63 post J (wY_pure_20 post J x1 (nI n) (nI R) (nI C) yp ys yn yq yw ym yg q) x1 (nI n) 1 (nI i) (nI R) (nI C) yp ys yn yq yw ym yg := by
        intro hr
        refine br_f (by decide) (pk_le C i (fun z => nx true (fun _ => ⟨t1, hr, fun a ha hC => t3 a (by omega) hC⟩) (fun q => by cases q)) (fun z => ⟨by decide, ?_⟩) rfl rfl (by omega) (by omega))
        rw [d1]
        refine ⟨pk_in (9 + 3 * (n / 3) + i) 18 (by omega) (d3 i), pk_in (9 + 3 * (n / 3) + n % 3) 18 (by omega) d4, ?_⟩
        rw [d3, d4, nI_clamp (by omega), nI_clamp (by omega)]
        refine br_c (fun y => nx true (fun _ => ⟨t1, hr, fun a ha hC => ?_⟩) (fun q => by cases q)) (fun y => nx false (fun q => by cases q) (fun _ => Or.inr (fun q => y (q.2 i z))))
        by_cases e : a = i
        · rw [e]; exact y
        · exact t3 a (by omega) hC
      refine br_f (by decide) (pk_le R i (fun z => s63 (fun a ha hR => t2 a (by omega) hR)) (fun z => ⟨by decide, ?_⟩) rfl rfl (by omega) (by omega))
      rw [d2]
      refine ⟨pk_in (3 * i + n % 3) 18 (by omega) (bx_3 i (n % 3)), vp_in_nI (by omega) (by decide), ?_⟩
      rw [bx_3, nI_clamp (by omega), nI_clamp (by omega)]
      refine br_c (fun y => s63 (fun a ha hR => ?_)) (fun y => no63 (Or.inr (fun q => y ?_)))
      · by_cases e : a = i
        · rw [e]; exact y
        · exact t2 a (by omega) hR
      · have := q.1 i z
        rw [← en] at this
        exact this
  have fin : ∀ b : Bool, (b = true → is = true ∧ (∀ a, a < 3 → a < R → yp (3 * a + n % 3) ≤ yp n) ∧ ∀ a, a < 3 → a < C → yp (9 + 3 * (n / 3) + a) ≤ yp (9 + 3 * (n / 3) + n % 3)) → (b = false → is = false ∨ ¬ bm_pc yp R C (n / 3) (n % 3)) → wY_pure_20 post J x1 (nI n) (nI R) (nI C) yp ys yn yq yw ym yg 1 (bm_ow b) (nI 3) := by
    intro b ht hf
    refine br_t (by decide) ?_
    cases b with
    | false =>
      refine br_t rfl ?_
      intro y ey
      rw [nI_1] at ey
      subst ey
      exact h0 (hf rfl)
    | true =>
      obtain ⟨t1, t2, t3⟩ := ht rfl
      refine br_f (by decide) ?_
      intro x ex y ey
      rw [nI_1] at ey
      subst ex ey
      refine h1 t1 ⟨fun a ha => ?_, fun b hb => t3 b (by omega) hb⟩
      rw [← en]
      exact t2 a (by omega) ha
  exact ⟨4, step 3 0 is (by omega) (fun q => ⟨q, fun a ha => absurd ha (by omega), fun a ha => absurd ha (by omega)⟩) (fun q => Or.inl q) (fun b1 a1 c1 => step 2 1 b1 (by omega) a1 c1 (fun b2 a2 c2 => step 1 2 b2 (by omega) a2 c2 (fun b3 a3 c3 => fin b3 a3 c3)))⟩
theorem by_pure {post : Int32 → Prop} {R C : Nat} (hRC : bm_RC R C) (h : post (bm_pm yp R C 9)) : wpY_pure post (nI R, nI C, yp, ys, yn, yq, yw, ym, yg) := by
  have loop : ∀ (m n q : Nat), n + m = 9 → m < q → wY_pure_4 post (nI R) (nI C) yp ys yn yq yw ym yg q (bm_pm yp R C n) (nI n) := by
    intro m
    induction m with
    | zero =>
      intro n q hn hq
      obtain ⟨q, rfl⟩ : ∃ q', q = q' + 1 := ⟨q - 1, by omega⟩
      have : n = 9 := by omega
      subst this
      exact br_t (by decide) h
    | succ m ih =>
      intro n q hn hq
      obtain ⟨q, rfl⟩ : ∃ q', q = q' + 1 := ⟨q - 1, by omega⟩
      have nx := ih (n + 1) q (by omega) (by omega)
      have nu : bm_pl R C (nI n) → n / 3 < R ∧ n % 3 < C := by
        rintro ⟨k, hk, hx, a, b⟩
        have : n = k := (nI_eq (by omega) (by omega)).mp hx
        subst this
        exact ⟨a, b⟩
      refine br_f (nI_ge (b := 9) (by omega) (by decide)) ?_
      refine by_place hRC (fun _ hpl => ?_) (fun hpl => ?_)
      · have hp2 := nu hpl
        refine by_p20 (is := true) hRC (by omega) (fun _ => hp2) (fun _ hpc => ?_) (fun hpc => ?_)
        · rw [bm_pm_t ⟨hp2.1, hp2.2, hpc⟩] at nx
          exact nx
        · rw [bm_pm_f (fun q => by rcases hpc with z | z; exact absurd z (by decide); exact z q.2.2)] at nx
          exact nx
      · refine by_p20 (is := false) hRC (by omega) (fun q => by cases q) (fun q => by cases q) (fun _ => ?_)
        rw [bm_pm_f (fun q => hpl ⟨Or.inl rfl, n, by omega, rfl, q.1, q.2.1⟩)] at nx
        exact nx
  exact ⟨10, loop 9 0 10 (by omega) (by omega)⟩
end
end
section
def bm_ex (p : Nat → Int32) (k : Nat) : Int32 := if k < 9 then p (9 + k % 3 * 3 + k / 3) else if k < 18 then p ((k - 9) % 3 * 3 + (k - 9) / 3) else p k
def bm_sw (p : Nat → Int32) (a b : Nat) : Nat → Int32 := upd (upd p a (p b)) b (p a)
theorem bm_sw_n {p : Nat → Int32} {a b k : Nat} (h1 : k ≠ a) (h2 : k ≠ b) : bm_sw p a b k = p k := by
  unfold bm_sw
  rw [pk_un h2, pk_un h1]
theorem bm_ex9 {p : Nat → Int32} (h : bm_p9 p) : bm_p9 (bm_ex p) := by
  intro k
  unfold bm_ex
  repeat' split
  all_goals exact h _
theorem bm_sw9 (p : Nat → Int32) : (bm_sw (bm_sw (bm_sw (bm_sw (bm_sw (bm_sw (bm_sw (bm_sw (bm_sw p 0 9) 1 12) 2 15) 3 10) 4 13) 5 16) 6 11) 7 14) 8 17) = bm_ex p := by
  funext k
  rcases Nat.lt_or_ge k 18 with h | h
  · have hk : k = 0 ∨ k = 1 ∨ k = 2 ∨ k = 3 ∨ k = 4 ∨ k = 5 ∨ k = 6 ∨ k = 7 ∨ k = 8 ∨ k = 9 ∨ k = 10 ∨ k = 11 ∨ k = 12 ∨ k = 13 ∨ k = 14 ∨ k = 15 ∨ k = 16 ∨ k = 17 := by omega
    rcases hk with rfl | rfl | rfl | rfl | rfl | rfl | rfl | rfl | rfl | rfl | rfl | rfl | rfl | rfl | rfl | rfl | rfl | rfl <;> rfl
  · have e : bm_ex p k = p k := by
      unfold bm_ex
      rw [if_neg (by omega), if_neg (by omega)]
    rw [e, bm_sw_n (by omega) (by omega), bm_sw_n (by omega) (by omega), bm_sw_n (by omega) (by omega), bm_sw_n (by omega) (by omega), bm_sw_n (by omega) (by omega), bm_sw_n (by omega) (by omega), bm_sw_n (by omega) (by omega), bm_sw_n (by omega) (by omega), bm_sw_n (by omega) (by omega)]
section
variable {fr fc fm ft fb : Int32} {ap ae am ac aq aw ar ah : Nat → Int32}
theorem bx_exchange {post : SX → Prop} (h : post (fc, fr, fm, ft, fb, bm_ex ap, ae, am, ac, aq, aw, ar, ah)) : wpX_exchange post (fr, fc, fm, ft, fb, ap, ae, am, ac, aq, aw, ar, ah) := by
  have inner : ∀ (J : Int32 → (Nat → Int32) → (Nat → Int32) → (Nat → Int32) → (Nat → Int32) → (Nat → Int32) → (Nat → Int32) → (Nat → Int32) → (Nat → Int32) → Prop) (i : Nat) (p : Nat → Int32), i < 3 → J (nI (i + 1)) (bm_sw (bm_sw (bm_sw p (3 * i + 0) (9 + 3 * 0 + i)) (3 * i + 1) (9 + 3 * 1 + i)) (3 * i + 2) (9 + 3 * 2 + i)) ae am ac aq aw ar ah → ∃ n, wX_exchange_9 post J (nI i) fr fc fm ft fb n 0 p ae am ac aq aw ar ah := by
    intro J i p hi hJ
    have step : ∀ (n j : Nat) (p : Nat → Int32), j < 3 → wX_exchange_9 post J (nI i) fr fc fm ft fb n (nI (j + 1)) (bm_sw p (3 * i + j) (9 + 3 * j + i)) ae am ac aq aw ar ah → wX_exchange_9 post J (nI i) fr fc fm ft fb (n + 1) (nI j) p ae am ac aq aw ar ah := by
      intro n j p hj hk
      refine br_f (nI_ge (b := 3) hj (by decide)) ?_
      intro a ea b eb
      rw [bx_3] at ea
      rw [bx_93] at eb
      subst ea eb
      refine ⟨vp_in_nI (by omega) (by decide), ?_⟩
      intro k ek
      refine ⟨vp_in_nI (by omega) (by decide), vp_in_nI (by omega) (by decide), ?_⟩
      intro p1 e1
      refine ⟨vp_in_nI (by omega) (by decide), ?_⟩
      intro p2 e2 y ey
      rw [nI_clamp (by omega)] at ek
      rw [nI_clamp (by omega), nI_clamp (by omega)] at e1
      rw [nI_clamp (by omega)] at e2
      rw [nI_1] at ey
      subst e1 ek e2 ey
      exact hk
    refine ⟨4, step 3 0 _ (by omega) (step 2 1 _ (by omega) (step 1 2 _ (by omega) (br_t (by decide) ?_)))⟩
    intro y ey
    rw [nI_1] at ey
    subst ey
    exact hJ
  rw [← bm_sw9] at h
  have o3 : ∀ n p, post (fc, fr, fm, ft, fb, p, ae, am, ac, aq, aw, ar, ah) → wX_exchange_2 post fr fc fm ft fb (n + 1) (nI 3) p ae am ac aq aw ar ah := fun n p hp => br_t (by decide) hp
  have os : ∀ (n i : Nat) (p : Nat → Int32), i < 3 → wX_exchange_2 post fr fc fm ft fb n (nI (i + 1)) (bm_sw (bm_sw (bm_sw p (3 * i + 0) (9 + 3 * 0 + i)) (3 * i + 1) (9 + 3 * 1 + i)) (3 * i + 2) (9 + 3 * 2 + i)) ae am ac aq aw ar ah → wX_exchange_2 post fr fc fm ft fb (n + 1) (nI i) p ae am ac aq aw ar ah := fun n i p hi hk => br_f (nI_ge (b := 3) hi (by decide)) (inner _ i p hi hk)
  exact ⟨4, os 3 0 _ (by omega) (os 2 1 _ (by omega) (os 1 2 _ (by omega) (o3 0 _ h)))⟩
end
section
variable {yr yc : Int32} {yp ys yn yq yw ym yg : Nat → Int32}
theorem by_exchange {post : SY → Prop} (h : ∀ ys', post (yc, yr, bm_ex yp, ys', yn, yq, yw, ym, yg)) : wpY_exchange post (yr, yc, yp, ys, yn, yq, yw, ym, yg) := by
  have l2 : ∀ ys', (∀ k, k < 18 → ys' k = bm_ex yp k) → ∀ (m n q : Nat) (p : Nat → Int32), n + m = 18 → m < q → (∀ k, k < n → p k = bm_ex yp k) → (∀ k, n ≤ k → p k = yp k) → wY_exchange_62 post yr yc q (nI n) p ys' yn yq yw ym yg := by
    intro ys' hs m
    induction m with
    | zero =>
      intro n q p hn hq h1 h2
      obtain ⟨q, rfl⟩ : ∃ q', q = q' + 1 := ⟨q - 1, by omega⟩
      have : n = 18 := by omega
      subst this
      refine br_t (by decide) ?_
      have e : p = bm_ex yp := by
        funext k
        rcases Nat.lt_or_ge k 18 with z | z
        · exact h1 k z
        · rw [h2 k z]
          unfold bm_ex
          rw [if_neg (by omega), if_neg (by omega)]
      rw [e]
      exact h ys'
    | succ m ih =>
      intro n q p hn hq h1 h2
      obtain ⟨q, rfl⟩ : ∃ q', q = q' + 1 := ⟨q - 1, by omega⟩
      refine br_f (nI_ge (b := 18) (by omega) (by decide)) ⟨vp_in_nI (by omega) (by decide), vp_in_nI (by omega) (by decide), ?_⟩
      intro p' ep y ey
      rw [nI_clamp (by omega), hs n (by omega)] at ep
      rw [nI_1] at ey
      subst ep ey
      refine ih (n + 1) q _ (by omega) (by omega) (fun k hk => ?_) (fun k hk => ?_)
      · by_cases z : k = n
        · subst z
          exact pk_us
        · rw [pk_un z]
          exact h1 k (by omega)
      · rw [pk_un (by omega)]
        exact h2 k (by omega)
  have l1 : ∀ (m n q : Nat) (s : Nat → Int32), n + m = 9 → m < q → (∀ k, k < n → s k = bm_ex yp k ∧ s (9 + k) = bm_ex yp (9 + k)) → wY_exchange_2 post yr yc q (nI n) yp s yn yq yw ym yg := by
    intro m
    induction m with
    | zero =>
      intro n q s hn hq h1
      obtain ⟨q, rfl⟩ : ∃ q', q = q' + 1 := ⟨q - 1, by omega⟩
      have : n = 9 := by omega
      subst this
      refine br_t (by decide) ⟨19, l2 s (fun k hk => ?_) 18 0 19 _ (by omega) (by omega) (fun k hk => absurd hk (by omega)) (fun k _ => rfl)⟩
      rcases Nat.lt_or_ge k 9 with z | z
      · exact (h1 k z).1
      · have := (h1 (k - 9) (by omega)).2
        rw [show 9 + (k - 9) = k by omega] at this
        exact this
    | succ m ih =>
      intro n q s hn hq h1
      obtain ⟨q, rfl⟩ : ∃ q', q = q' + 1 := ⟨q - 1, by omega⟩
      have d1 : nI n / 3 = nI (n / 3) := pk_div (d := 3) (by omega) (by omega) (by omega)
      have d2 : nI n - nI n / 3 * 3 = nI (n % 3) := pk_rem (d := 3) (by omega) (by omega) (by omega)
      have i1 : 9 + (nI n - nI n / 3 * 3) * 3 + nI n / 3 = nI (9 + n % 3 * 3 + n / 3) := by
        rw [d2, d1]
        show nI 9 + nI (n % 3) * nI 3 + nI (n / 3) = _
        rw [pk_mul, nI_add, nI_add]
      have i2 : (nI n - nI n / 3 * 3) * 3 + nI n / 3 = nI (n % 3 * 3 + n / 3) := by
        rw [d2, d1]
        show nI (n % 3) * nI 3 + nI (n / 3) = _
        rw [pk_mul, nI_add]
      have i3 : (9 : Int32) + nI n = nI (9 + n) := nI_add 9 n
      refine br_f (nI_ge (b := 9) (by omega) (by decide)) ⟨by decide, by decide, pk_in (9 + n % 3 * 3 + n / 3) 18 (by omega) i1, vp_in_nI (by omega) (by decide), ?_⟩
      intro s1 e1
      refine ⟨by decide, by decide, pk_in (n % 3 * 3 + n / 3) 18 (by omega) i2, pk_in (9 + n) 18 (by omega) i3, ?_⟩
      intro s2 e2 y ey
      rw [i1, nI_clamp (by omega), nI_clamp (by omega)] at e1
      rw [i2, i3, nI_clamp (by omega), nI_clamp (by omega)] at e2
      rw [nI_1] at ey
      subst e1 e2 ey
      refine ih (n + 1) q _ (by omega) (by omega) (fun k hk => ?_)
      by_cases z : k = n
      · subst z
        refine ⟨?_, ?_⟩
        · rw [pk_un (by omega), pk_us]
          unfold bm_ex
          rw [if_pos (by omega)]
        · rw [pk_us]
          unfold bm_ex
          rw [if_neg (by omega), if_pos (by omega), show 9 + k - 9 = k by omega]
      · rw [pk_un (by omega), pk_un (by omega), pk_un (by omega), pk_un (by omega)]
        exact h1 k (by omega)
  exact ⟨10, l1 9 0 10 _ (by omega) (by omega) (fun k hk => absurd hk (by omega))⟩
end
/-! what is left -/
noncomputable def bm_rB (A : Nat → Nat → Int) (M O j : Nat) : Bool := @decide (∃ S T, S < 8 ∧ T < 8 ∧ bm_sol A M O S T ∧ (bm_rp A O (bm_nv (bm_raw A S T))).testBit j = true) (Classical.propDecidable _)
noncomputable def bm_rX (A : Nat → Nat → Int) (M O : Nat) : Nat := (bm_rB A M O 0).toNat + 2 * (bm_rB A M O 1).toNat + 4 * (bm_rB A M O 2).toNat
theorem bm_rX8 (A : Nat → Nat → Int) (M O : Nat) : bm_rX A M O < 8 := (bm_3b _ _ _).2.2.2
theorem bm_rX_RX (A : Nat → Nat → Int) (M O : Nat) : bm_RX A M O (bm_rX A M O) := by
  refine ⟨bm_rX8 _ _ _, fun j hj => ?_⟩
  have h := bm_3b (bm_rB A M O 0) (bm_rB A M O 1) (bm_rB A M O 2)
  have e : (bm_rX A M O).testBit j = bm_rB A M O j := by
    have hj3 : j = 0 ∨ j = 1 ∨ j = 2 := by omega
    rcases hj3 with rfl | rfl | rfl
    · exact h.1
    · exact h.2.1
    · exact h.2.2.1
  rw [e]
  unfold bm_rB
  exact @decide_eq_true_iff _ (Classical.propDecidable _)
theorem bm_RX_e {A : Nat → Nat → Int} {M O f : Nat} (h : bm_RX A M O f) : f = bm_rX A M O := by
  have k := bm_rX_RX A M O
  apply bm_8e h.1 k.1
  intro j hj
  rw [Bool.eq_iff_iff, h.2 j hj, k.2 j hj]
theorem bm_RY_e {A : Nat → Nat → Int} {M O f : Nat} (hA : bm_A9 A) (hM : M < 8) (hO : O < 8) (h : bm_RY A M O f) : f = bm_rX A M O := (bm_RXY hA hM hO (bm_rX_RX A M O) h).symm
noncomputable def bm_it (p : Nat → Int32) : Nat → Nat × Nat → Nat × Nat
  | 0, q => q
  | n + 1, q => bm_it p n (bm_rX (bm_A p 0 1) q.2 q.1, bm_rX (bm_A p 1 0) q.1 q.2)
section
variable {fr fc fm ft fb : Int32} {ap ae am ac aq aw ar ah : Nat → Int32}
theorem bx_left {post : Int32 → SX → Prop} {R C : Nat} (hRC : bm_RC R C) (hp : bm_p9 ap) (h : ∀ fm' ae' am', post (nI (bm_it ap 6 (2 ^ R - 1, 2 ^ C - 1)).1 ||| (nI (bm_it ap 6 (2 ^ R - 1, 2 ^ C - 1)).2 <<< ((3 : Int32) &&& 31))) (nI R, nI C, fm', ft, fb, ap, ae', am', ac, aq, aw, ar, ah)) : wpX_left post (nI R, nI C, fm, ft, fb, ap, ae, am, ac, aq, aw, ar, ah) := by
  have loop : ∀ (m r q f g : Nat) (fm' : Int32) (ae' am' : Nat → Int32), r + m = 6 → m < q → f < 8 → g < 8 → bm_it ap m (f, g) = bm_it ap 6 (2 ^ R - 1, 2 ^ C - 1) → wX_left_14 post q (nI f) (nI g) (nI r) (nI R) (nI C) fm' ft fb ap ae' am' ac aq aw ar ah := by
    intro m
    induction m with
    | zero =>
      intro r q f g fm' ae' am' hr hq hf hg e
      obtain ⟨q, rfl⟩ : ∃ q', q = q' + 1 := ⟨q - 1, by omega⟩
      have : r = 6 := by omega
      subst this
      refine br_t (by decide) ?_
      have := h fm' ae' am'
      rw [← e] at this
      exact this
    | succ m ih =>
      intro r q f g fm' ae' am' hr hq hf hg e
      obtain ⟨q, rfl⟩ : ∃ q', q = q' + 1 := ⟨q - 1, by omega⟩
      refine br_f (nI_ge (b := 6) (by omega) (by decide)) ?_
      refine bx_ra (s := 0) (by omega) hg hf hp (fun f1 fm1 ae1 am1 h1 => ?_)
      dsimp only
      refine bx_ra (s := 1) (by omega) hf hg hp (fun g1 fm2 ae2 am2 h2 => ?_)
      dsimp only
      intro y ey
      rw [nI_1] at ey
      subst ey
      refine ih (r + 1) q f1 g1 _ _ _ (by omega) (by omega) h1.1 h2.1 ?_
      rw [← e]
      show _ = bm_it ap m (bm_rX (bm_A ap 0 1) g f, bm_rX (bm_A ap 1 0) f g)
      rw [bm_RX_e h1, bm_RX_e h2]
  unfold wpX_left
  dsimp only
  refine bx_every (s := 0) hRC (by omega) ?_
  refine bx_every (s := 1) hRC (by omega) ?_
  exact ⟨7, loop 6 0 7 _ _ _ _ _ (by omega) (by omega) (bm_all8 (bm_n13 (s := 0) hRC).2) (bm_all8 (bm_n13 (s := 1) hRC).2) rfl⟩
end
section
variable {yr yc : Int32} {yp ys yn yq yw ym yg : Nat → Int32}
theorem by_left {post : Int32 → SY → Prop} {R C : Nat} (hRC : bm_RC R C) (hp : bm_p9 yp) (h : ∀ yn' yq' yw' ym' yg', post (nI (bm_it yp 6 (2 ^ R - 1, 2 ^ C - 1)).1 ||| (nI (bm_it yp 6 (2 ^ R - 1, 2 ^ C - 1)).2 <<< ((3 : Int32) &&& 31))) (nI R, nI C, yp, ys, yn', yq', yw', ym', yg')) : wpY_left post (nI R, nI C, yp, ys, yn, yq, yw, ym, yg) := by
  have loop : ∀ (m r q f g : Nat) (yn' yq' yw' ym' yg' : Nat → Int32), r + m = 6 → m < q → f < 8 → g < 8 → bm_it yp m (f, g) = bm_it yp 6 (2 ^ R - 1, 2 ^ C - 1) → wY_left_14 post q (nI f) (nI g) (nI r) (nI R) (nI C) yp ys yn' yq' yw' ym' yg' := by
    intro m
    induction m with
    | zero =>
      intro r q f g yn' yq' yw' ym' yg' hr hq hf hg e
      obtain ⟨q, rfl⟩ : ∃ q', q = q' + 1 := ⟨q - 1, by omega⟩
      have : r = 6 := by omega
      subst this
      refine br_t (by decide) ?_
      have := h yn' yq' yw' ym' yg'
      rw [← e] at this
      exact this
    | succ m ih =>
      intro r q f g yn' yq' yw' ym' yg' hr hq hf hg e
      obtain ⟨q, rfl⟩ : ∃ q', q = q' + 1 := ⟨q - 1, by omega⟩
      refine br_f (nI_ge (b := 6) (by omega) (by decide)) ?_
      refine by_ro (s := 0) (by omega) hg hf hp (fun f1 yn1 yq1 yw1 ym1 yg1 h1 => ?_)
      dsimp only
      refine by_ro (s := 1) (by omega) hf hg hp (fun g1 yn2 yq2 yw2 ym2 yg2 h2 => ?_)
      dsimp only
      intro y ey
      rw [nI_1] at ey
      subst ey
      refine ih (r + 1) q f1 g1 _ _ _ _ _ (by omega) (by omega) h1.1 h2.1 ?_
      rw [← e]
      show _ = bm_it yp m (bm_rX (bm_A yp 0 1) g f, bm_rX (bm_A yp 1 0) f g)
      rw [bm_RY_e (bm_A9p hp 0 (1 - 0)) hg hf h1, bm_RY_e (bm_A9p hp 1 (1 - 1)) hf hg h2]
  unfold wpY_left
  dsimp only
  refine by_allOf (s := 0) hRC (by omega) ?_
  refine by_allOf (s := 1) hRC (by omega) ?_
  exact ⟨7, loop 6 0 7 _ _ _ _ _ _ _ (by omega) (by omega) (bm_all8 (bm_n13 (s := 0) hRC).2) (bm_all8 (bm_n13 (s := 1) hRC).2) rfl⟩
end
end
section
/-! before the owed statements -/
theorem bx_side {post : Int32 → Prop} {x : Int32} (h1 : (x = 0 ∨ x = 1) → post 1) (h0 : ¬ (x = 0 ∨ x = 1) → post 0) : wpX_isSide post x := br_c (fun z => h1 (Or.inl z)) (fun z => br_c (fun y => h1 (Or.inr y)) (fun y => h0 (fun q => q.elim z y)))
theorem bm_sd {x : Int32} (h : x = 0 ∨ x = 1) : ∃ s, s < 2 ∧ x = nI s := by
  rcases h with rfl | rfl
  · exact ⟨0, by omega, rfl⟩
  · exact ⟨1, by omega, rfl⟩
theorem bm_sd' {s : Nat} (hs : s < 2) : nI s = 0 ∨ nI s = 1 := by
  have h2 : s = 0 ∨ s = 1 := by omega
  rcases h2 with rfl | rfl
  · exact Or.inl rfl
  · exact Or.inr rfl
def bm_nn (p : Nat → Int32) (R C : Nat) (kk : Int32) : Prop := kk < 0 ∨ ∃ n, n < 2 ^ 31 ∧ kk = nI n ∧ ∃ L0 L1, bm_IsL (bm_A p 1 0) (2 ^ R - 1) (2 ^ C - 1) L0 ∧ bm_IsL (bm_A p 0 1) (2 ^ C - 1) (2 ^ R - 1) L1 ∧ (bm_eO (bm_E p R C L0 L1) L1.length L0.length)[n]? = none
section
variable {yr yc : Int32} {yp ys yn yq yw ym yg : Nat → Int32}
theorem by_none {post : Int32 → SY → Prop} {kk : Int32} {R C : Nat} (hRC : bm_RC R C) (hp : bm_p9 yp) (hn : bm_nn yp R C kk) (h : ∀ yn' yq' yw' ym' yg', post (-1) (nI R, nI C, yp, ys, yn', yq', yw', ym', yg')) : wpY_list post (nI R, nI C, yp, ys, yn, yq, yw, ym, yg) kk 0 := by
  refine by_list (all := false) hRC hp (fun L0 L1 yn' yq' yw' ym' yg' hS => ⟨fun _ n a b hn2 hkn hs => ?_, fun _ _ => h _ _ _ _ _, fun q => by cases q⟩)
  exfalso
  rcases hn with z | ⟨m, hm, hkm, M0, M1, i0, i1, e⟩
  · rw [hkn] at z
    exact nI_pos hn2 z
  · have : n = m := (nI_eq hn2 hm).mp (hkn.symm.trans hkm)
    subst this
    rw [bm_IsL_u hS.1 i0, bm_IsL_u hS.2.1 i1, e] at hs
    cases hs
theorem by_some {post : Int32 → SY → Prop} {kk : Int32} {R C n a b : Nat} {L0 L1 : List bm_V} (hRC : bm_RC R C) (hp : bm_p9 yp) (hn : n < 2 ^ 31) (hk : kk = nI n) (i0 : bm_IsL (bm_A yp 1 0) (2 ^ R - 1) (2 ^ C - 1) L0) (i1 : bm_IsL (bm_A yp 0 1) (2 ^ C - 1) (2 ^ R - 1) L1) (e : (bm_eO (bm_E yp R C L0 L1) L1.length L0.length)[n]? = some (a, b)) (h : ∀ yn' yq' yw' ym' yg', bm_YS yp R C L0 L1 yn' yq' yw' → post (nI (16 * a + b)) (nI R, nI C, yp, ys, yn', yq', yw', ym', yg')) : wpY_list post (nI R, nI C, yp, ys, yn, yq, yw, ym, yg) kk 0 := by
  refine by_list (all := false) hRC hp (fun M0 M1 yn' yq' yw' ym' yg' hS => ⟨fun _ m c d hm hkm hs => ?_, fun _ hno => ?_, fun q => by cases q⟩)
  · have : m = n := (nI_eq hm hn).mp (hkm.symm.trans hk)
    subst this
    have e0 := bm_IsL_u hS.1 i0
    have e1 := bm_IsL_u hS.2.1 i1
    subst e0 e1
    rw [e] at hs
    cases hs
    exact h _ _ _ _ _ hS
  · exfalso
    have := hno n hn hk
    rw [bm_IsL_u hS.1 i0, bm_IsL_u hS.2.1 i1, e] at this
    cases this
end
/-- what is got from a pair of the list -/
theorem bm_pair {p : Nat → Int32} {R C n a b : Nat} {L0 L1 : List bm_V} (e : (bm_eO (bm_E p R C L0 L1) L1.length L0.length)[n]? = some (a, b)) : a < L0.length ∧ b < L1.length := by
  have := bm_eO_mem _ _ _ _ (List.mem_of_getElem? e)
  exact ⟨this.1, this.2.1⟩
end
section
/-- the same sizes, the same payments; all else is scratch -/
def i_Rel (k : Nat) (u : SX) (v : SY) : Prop := ∃ (R C : Nat) (p : Nat → Int32), bm_RC R C ∧ bm_p9 p ∧ (∃ (fm ft fb : Int32) (ae am ac aq aw ar ah : Nat → Int32), u = (nI R, nI C, fm, ft, fb, p, ae, am, ac, aq, aw, ar, ah)) ∧ ∃ (ys yn yq yw ym yg : Nat → Int32), v = (nI R, nI C, p, ys, yn, yq, yw, ym, yg)
theorem bm_mk {k R C : Nat} {p : Nat → Int32} {fm ft fb : Int32} {ae am ac aq aw ar ah ys yn yq yw ym yg : Nat → Int32} (hRC : bm_RC R C) (hp : bm_p9 p) : i_Rel k (nI R, nI C, fm, ft, fb, p, ae, am, ac, aq, aw, ar, ah) (nI R, nI C, p, ys, yn, yq, yw, ym, yg) := ⟨R, C, p, hRC, hp, ⟨_, _, _, _, _, _, _, _, _, _, rfl⟩, ⟨_, _, _, _, _, _, rfl⟩⟩
theorem i_up {k : Nat} {u : SX} {v : SY} (h : i_Rel k u v) : i_Rel (k + 4) u v := by
  exact h
theorem i_vc0 (k0 : Int32) (k1 : Int32) : wpX_init (fun u => wpY_init (fun v => i_Rel 2 u v) k0 k1) k0 k1 := by
  have p0 : bm_p9 (fun _ => 0) := fun _ => by
    show -9 ≤ (0 : Int32).toInt ∧ (0 : Int32).toInt ≤ 9
    decide
  have cl : ∀ x : Int32, (∃ R, 1 ≤ R ∧ R ≤ 3 ∧ x = nI R ∧ 1 ≤ x ∧ x ≤ 3) ∨ (1 ≤ x ∧ ¬ x ≤ 3) ∨ ¬ 1 ≤ x := by
    intro x
    by_cases h1 : (1 : Int32) ≤ x
    · by_cases h3 : x ≤ 3
      · have hx : ¬ x < 0 := by
          intro q
          rw [Int32.lt_iff_toInt_lt] at q
          rw [Int32.le_iff_toInt_le] at h1
          have e1 : (1 : Int32).toInt = 1 := by decide
          have e0 : (0 : Int32).toInt = 0 := by decide
          omega
        obtain ⟨n, hn, rfl⟩ := nI_of hx
        have a : 1 ≤ n := (nI_leI (a := 1) (by omega) hn).mp h1
        have b : n ≤ 3 := (nI_leI (b := 3) hn (by omega)).mp h3
        exact Or.inl ⟨n, a, b, rfl, h1, h3⟩
      · exact Or.inr (Or.inl ⟨h1, h3⟩)
    · exact Or.inr (Or.inr h1)
  have fin : ∀ R C, bm_RC R C → i_Rel 2 (nI R, nI C, 0, 0, 0, (fun _ => 0), (fun _ => 0), (fun _ => 0), (fun _ => 0), (fun _ => 0), (fun _ => 0), (fun _ => 0), (fun _ => 0)) (nI R, nI C, (fun _ => 0), (fun _ => 0), (fun _ => 0), (fun _ => 0), (fun _ => 0), (fun _ => 0), (fun _ => 0)) := fun R C h => bm_mk h p0
  unfold wpX_init
  rcases cl k0 with ⟨R, a, b, rfl, l0, h0⟩ | ⟨l0, h0⟩ | l0 <;> rcases cl k1 with ⟨C, c, d, rfl, l1, h1⟩ | ⟨l1, h1⟩ | l1
  · exact br_t l0 (br_t h0 (br_t l1 (br_t h1 (br_t l0 (br_t h0 (br_t l1 (br_t h1 (fin R C ⟨a, b, c, d⟩))))))))
  · exact br_t l0 (br_t h0 (br_t l1 (br_f h1 (br_t l0 (br_t h0 (br_t l1 (br_f h1 (fin R 3 ⟨a, b, by omega, by omega⟩))))))))
  · exact br_t l0 (br_t h0 (br_f l1 (br_t l0 (br_t h0 (br_f l1 (fin R 1 ⟨a, b, by omega, by omega⟩))))))
  · exact br_t l0 (br_f h0 (br_t l1 (br_t h1 (br_t l0 (br_f h0 (br_t l1 (br_t h1 (fin 3 C ⟨by omega, by omega, c, d⟩))))))))
  · exact br_t l0 (br_f h0 (br_t l1 (br_f h1 (br_t l0 (br_f h0 (br_t l1 (br_f h1 (fin 3 3 ⟨by omega, by omega, by omega, by omega⟩))))))))
  · exact br_t l0 (br_f h0 (br_f l1 (br_t l0 (br_f h0 (br_f l1 (fin 3 1 ⟨by omega, by omega, by omega, by omega⟩))))))
  · exact br_f l0 (br_t l1 (br_t h1 (br_f l0 (br_t l1 (br_t h1 (fin 1 C ⟨by omega, by omega, c, d⟩))))))
  · exact br_f l0 (br_t l1 (br_f h1 (br_f l0 (br_t l1 (br_f h1 (fin 1 3 ⟨by omega, by omega, by omega, by omega⟩))))))
  · exact br_f l0 (br_f l1 (br_f l0 (br_f l1 (fin 1 1 ⟨by omega, by omega, by omega, by omega⟩))))
theorem i_vc_pay {k : Nat} {u : SX} {v : SY} (I : i_Rel k u v) (hk : k + 4 ≤ 2050) (v1 : Int32) (v2 : Int32) (v3 : Int32) : wpX_pay (fun r u' => wpY_pay (fun r' v' => r' = r ∧ i_Rel (k + 4) u' v') v v1 v2 v3) u v1 v2 v3 := by
  obtain ⟨R, C, p, hRC, hp, ⟨fm, ft, fb, ae, am, ac, aq, aw, ar, ah, rfl⟩, ⟨ys, yn, yq, yw, ym, yg, rfl⟩⟩ := I
  unfold wpX_pay wpY_pay
  dsimp only
  refine bx_side (fun hs => br_f (by decide) ?_) (fun hs => br_t rfl ?_)
  · refine bx_cell hRC (fun hpl => br_f (by decide) ?_) (fun hpl => br_t rfl ?_)
    · refine br_c (fun z1 => ?_) (fun z1 => br_c (fun z2 => ?_) (fun z2 => ?_))
      · exact by_place hRC (fun _ _ => br_f (by decide) (br_t z1 ⟨rfl, bm_mk hRC hp⟩)) (fun q => absurd ⟨hs, hpl⟩ q)
      · obtain ⟨s, hs2, rfl⟩ := bm_sd hs
        have hpl' := hpl
        obtain ⟨n, hn, rfl, -, -⟩ := hpl
        refine ⟨pk_in (9 * s + n) 18 (by omega) (bx_i s n), ?_⟩
        intro p1 e1
        rw [bx_i, nI_clamp (by omega)] at e1
        subst e1
        refine by_place hRC (fun _ _ => br_f (by decide) (br_f z1 (br_t z2 ⟨pk_in (9 * s + n) 18 (by omega) (by_9 s n), ?_⟩))) (fun q => absurd ⟨hs, hpl'⟩ q)
        intro p2 e2
        rw [by_9, nI_clamp (by omega)] at e2
        subst e2
        refine ⟨rfl, bm_mk hRC (fun j => ?_)⟩
        by_cases y : j = 9 * s + n
        · rw [y, pk_us]
          rw [Int32.lt_iff_toInt_lt] at z1
          rw [Int32.le_iff_toInt_le] at z2
          have a1 : (-9 : Int32).toInt = -9 := by decide
          have a2 : (9 : Int32).toInt = 9 := by decide
          omega
        · rw [pk_un y]
          exact hp j
      · exact by_place hRC (fun _ _ => br_f (by decide) (br_f z1 (br_f z2 ⟨rfl, bm_mk hRC hp⟩))) (fun q => absurd ⟨hs, hpl⟩ q)
    · exact by_place hRC (fun _ q => absurd q hpl) (fun _ => br_t rfl ⟨rfl, bm_mk hRC hp⟩)
  · exact by_place hRC (fun q _ => absurd q hs) (fun _ => br_t rfl ⟨rfl, bm_mk hRC hp⟩)
theorem i_vc_paid {k : Nat} {u : SX} {v : SY} (I : i_Rel k u v) (hk : k + 4 ≤ 2050) (v1 : Int32) (v2 : Int32) : wpX_paid (fun r => wpY_paid (fun r' => r' = r ∧ i_Rel (k + 4) u v) v v1 v2) u v1 v2 := by
  obtain ⟨R, C, p, hRC, hp, ⟨fm, ft, fb, ae, am, ac, aq, aw, ar, ah, rfl⟩, ⟨ys, yn, yq, yw, ym, yg, rfl⟩⟩ := I
  unfold wpX_paid wpY_paid
  dsimp only
  refine bx_side (fun hs => br_f (by decide) ?_) (fun hs => br_t rfl ?_)
  · refine bx_cell hRC (fun hpl => br_f (by decide) ?_) (fun hpl => br_t rfl ?_)
    · obtain ⟨s, hs2, rfl⟩ := bm_sd hs
      have hpl' := hpl
      obtain ⟨n, hn, rfl, -, -⟩ := hpl
      refine ⟨pk_in (9 * s + n) 18 (by omega) (bx_i s n), ?_⟩
      refine by_place hRC (fun _ _ => br_f (by decide) ⟨pk_in (9 * s + n) 18 (by omega) (by_9 s n), ?_, bm_mk hRC hp⟩) (fun q => absurd ⟨hs, hpl'⟩ q)
      rw [bx_i, by_9]
    · exact by_place hRC (fun _ q => absurd q hpl) (fun _ => br_t rfl ⟨rfl, bm_mk hRC hp⟩)
  · exact by_place hRC (fun q _ => absurd q hs) (fun _ => br_t rfl ⟨rfl, bm_mk hRC hp⟩)
theorem i_vc_pure {k : Nat} {u : SX} {v : SY} (I : i_Rel k u v) (hk : k + 4 ≤ 2050) : wpX_pure (fun r => wpY_pure (fun r' => r' = r ∧ i_Rel (k + 4) u v) v) u := by
  obtain ⟨R, C, p, hRC, hp, ⟨fm, ft, fb, ae, am, ac, aq, aw, ar, ah, rfl⟩, ⟨ys, yn, yq, yw, ym, yg, rfl⟩⟩ := I
  exact bx_pure hRC (by_pure hRC ⟨rfl, bm_mk hRC hp⟩)
theorem i_vc_equilibria {k : Nat} {u : SX} {v : SY} (I : i_Rel k u v) (hk : k + 4 ≤ 2050) : wpX_equilibria (fun r u' => wpY_equilibria (fun r' v' => r' = r ∧ i_Rel (k + 4) u' v') v) u := by
  obtain ⟨R, C, p, hRC, hp, ⟨fm, ft, fb, ae, am, ac, aq, aw, ar, ah, rfl⟩, ⟨ys, yn, yq, yw, ym, yg, rfl⟩⟩ := I
  unfold wpX_equilibria
  dsimp only
  refine bx_seek hRC hp (fun L0 L1 fm' ae' am' ac' aq' aw' ar' ah' hS hC => ?_)
  dsimp only
  unfold wpY_equilibria
  dsimp only
  refine by_list (all := true) hRC hp (fun M0 M1 yn' yq' yw' ym' yg' hS' => ⟨fun q => (by cases q), fun q => (by cases q), fun _ => ?_⟩)
  refine ⟨?_, bm_mk hRC hp⟩
  rw [bm_IsL_u hS'.1 hS.1, bm_IsL_u hS'.2.1 hS.2.1]
theorem i_vc_part {k : Nat} {u : SX} {v : SY} (I : i_Rel k u v) (hk : k + 4 ≤ 2050) (v1 : Int32) (v2 : Int32) (v3 : Int32) : wpX_part (fun r u' => wpY_part (fun r' v' => r' = r ∧ i_Rel (k + 4) u' v') v v1 v2 v3) u v1 v2 v3 := by
  obtain ⟨R, C, p, hRC, hp, ⟨fm, ft, fb, ae, am, ac, aq, aw, ar, ah, rfl⟩, ⟨ys, yn, yq, yw, ym, yg, rfl⟩⟩ := I
  unfold wpX_part
  dsimp only
  refine bx_side (fun hs => br_f (by decide) ?_) (fun hs => br_t rfl ?_)
  · refine bx_choose hRC hp (fun hn fm' ae' am' ac' aq' aw' ar' ah' => br_t rfl ?_) (fun n a b L0 L1 fm' ae' am' ac' aq' aw' ar' ah' hn hkn hS hab h0 h1 => br_f (by decide) ?_)
    · unfold wpY_part
      dsimp only
      exact by_side (fun _ => br_f (by decide) (by_none hRC hp hn (fun yn' yq' yw' ym' yg' => br_f (by decide) ⟨rfl, bm_mk hRC hp⟩))) (fun q => absurd hs q)
    · obtain ⟨al, bl⟩ := bm_pair hab
      have k0 := bm_IsL_b (bm_A9p hp 1 0) hS.1
      have k1 := bm_IsL_b (bm_A9p hp 0 1) hS.2.1
      obtain ⟨v, hv⟩ : ∃ v, L0[a]? = some v := ⟨_, List.getElem?_eq_getElem al⟩
      obtain ⟨w, hw⟩ : ∃ w, L1[b]? = some w := ⟨_, List.getElem?_eq_getElem bl⟩
      obtain ⟨s, hs2, rfl⟩ := bm_sd hs
      have d1 : nI (16 * a + b) / 16 = nI a := by
        rw [show nI (16 * a + b) / 16 = nI ((16 * a + b) / 16) from pk_div (d := 16) (by omega) (by omega) (by omega)]
        congr 1
        omega
      have d2 : nI (16 * a + b) - nI (16 * a + b) / 16 * 16 = nI b := by
        rw [show nI (16 * a + b) - nI (16 * a + b) / 16 * 16 = nI ((16 * a + b) % 16) from pk_rem (d := 16) (by omega) (by omega) (by omega)]
        congr 1
        omega
      -- the reference, once what it asks at its end is known
      have toY : ∀ (r : Int32) (u' : SX), (∀ yn' yq' yw' ym' yg', bm_YS p R C L0 L1 yn' yq' yw' → wY_part_44 (fun r' v' => r' = r ∧ i_Rel (k + 4) u' v') (nI s) v3 (nI (if s = 0 then a else b)) (nI R) (nI C) p ys yn' yq' yw' ym' yg') → wpY_part (fun r' v' => r' = r ∧ i_Rel (k + 4) u' v') (nI R, nI C, p, ys, yn, yq, yw, ym, yg) v1 (nI s) v3 := by
        intro r u' hh
        unfold wpY_part
        dsimp only
        refine by_side (fun _ => br_f (by decide) (by_some hRC hp hn hkn hS.1 hS.2.1 hab (fun yn' yq' yw' ym' yg' hS' => br_t (nI_pos' (by omega)) ?_))) (fun q => absurd hs q)
        have := hh yn' yq' yw' ym' yg' hS'
        have h2 : s = 0 ∨ s = 1 := by omega
        rcases h2 with rfl | rfl
        · refine br_t rfl ⟨by decide, ?_⟩
          rw [d1]
          exact this
        · refine br_f (by decide) ⟨by decide, ?_⟩
          rw [d2]
          exact this
      refine br_c (fun z => toY _ _ (fun yn' yq' yw' ym' yg' hS' => br_t z ⟨rfl, bm_mk hRC hp⟩)) (fun z => ?_)
      obtain ⟨i, hi, rfl⟩ := nI_of z
      have nn := bm_n13 (s := s) hRC
      have ch : ∀ P : Int32 → Prop, P (nI (bm_n R C s)) → wpX_choices P (nI R, nI C, fm', ft, fb, p, ae', am', ac', aq', aw', ar', ah') (nI s) := by
        intro P hP
        have h2 : s = 0 ∨ s = 1 := by omega
        rcases h2 with rfl | rfl
        · exact br_t rfl hP
        · exact br_f (by decide) hP
      have chY : ∀ (P : Int32 → Prop) (yn' yq' yw' ym' yg' : Nat → Int32), P (nI (bm_n R C s)) → wpY_choices P (nI R, nI C, p, ys, yn', yq', yw', ym', yg') (nI s) := by
        intro P yn' yq' yw' ym' yg' hP
        have h2 : s = 0 ∨ s = 1 := by omega
        rcases h2 with rfl | rfl
        · exact br_t rfl hP
        · exact br_f (by decide) hP
      refine ch _ (pk_lt i (bm_n R C s) (fun zi => ?_) (fun zi => toY _ _ (fun yn' yq' yw' ym' yg' hS' => br_f z (chY _ _ _ _ _ _ (br_t (nI_le zi hi) ⟨rfl, bm_mk hRC hp⟩)))) rfl rfl hi (by omega))
      have i3 : i < 3 := by omega
      refine ⟨vp_in_nI hs2 (by decide), ?_⟩
      have h2 : s = 0 ∨ s = 1 := by omega
      rcases h2 with rfl | rfl
      · have sv := hS.2.2.1 a v hv
        rw [Nat.zero_add] at sv
        have ei : 3 * ah' (nI 0).toNatClampNeg + nI i = nI (3 * a + i) := by
          rw [nI_clamp (by omega), h0, bx_3]
        refine ⟨pk_in (3 * a + i) 384 (by omega) ei, ?_⟩
        dsimp only
        rw [ei, nI_clamp (by omega), sv.1 i i3]
        refine toY _ _ (fun yn' yq' yw' ym' yg' hS' => br_f z (chY _ _ _ _ _ _ (br_f (nI_ge zi (by omega)) ⟨pk_in (3 * (16 * 0 + a) + i) 96 (by omega) (by_48 0 a i), ?_, bm_mk hRC hp⟩)))
        rw [if_pos rfl, by_48, nI_clamp (by omega)]
        have sy := hS'.2.2.1 a v hv
        exact sy.1 i i3
      · have sw := hS.2.2.2.1 b w hw
        have ei : 3 * ah' (nI 1).toNatClampNeg + nI i = nI (3 * (64 + b) + i) := by
          rw [nI_clamp (by omega), h1, bx_3]
        refine ⟨pk_in (3 * (64 + b) + i) 384 (by omega) ei, ?_⟩
        dsimp only
        rw [ei, nI_clamp (by omega), sw.1 i i3]
        refine toY _ _ (fun yn' yq' yw' ym' yg' hS' => br_f z (chY _ _ _ _ _ _ (br_f (nI_ge zi (by omega)) ⟨pk_in (3 * (16 * 1 + b) + i) 96 (by omega) (by_48 1 b i), ?_, bm_mk hRC hp⟩)))
        rw [if_neg (by decide), by_48, nI_clamp (by omega)]
        have sy := hS'.2.2.2.1 b w hw
        exact sy.1 i i3
  · unfold wpY_part
    dsimp only
    exact by_side (fun q => absurd q hs) (fun _ => br_t rfl ⟨rfl, bm_mk hRC hp⟩)
theorem i_vc_whole {k : Nat} {u : SX} {v : SY} (I : i_Rel k u v) (hk : k + 4 ≤ 2050) (v1 : Int32) (v2 : Int32) : wpX_whole (fun r u' => wpY_whole (fun r' v' => r' = r ∧ i_Rel (k + 4) u' v') v v1 v2) u v1 v2 := by
  obtain ⟨R, C, p, hRC, hp, ⟨fm, ft, fb, ae, am, ac, aq, aw, ar, ah, rfl⟩, ⟨ys, yn, yq, yw, ym, yg, rfl⟩⟩ := I
  unfold wpX_whole
  dsimp only
  refine bx_side (fun hs => br_f (by decide) ?_) (fun hs => br_t rfl ?_)
  · refine bx_choose hRC hp (fun hn fm' ae' am' ac' aq' aw' ar' ah' => br_t rfl ?_) (fun n a b L0 L1 fm' ae' am' ac' aq' aw' ar' ah' hn hkn hS hab h0 h1 => br_f (by decide) ?_)
    · unfold wpY_whole
      dsimp only
      exact by_side (fun _ => br_f (by decide) (by_none hRC hp hn (fun yn' yq' yw' ym' yg' => br_f (by decide) ⟨rfl, bm_mk hRC hp⟩))) (fun q => absurd hs q)
    · obtain ⟨al, bl⟩ := bm_pair hab
      have k0 := bm_IsL_b (bm_A9p hp 1 0) hS.1
      have k1 := bm_IsL_b (bm_A9p hp 0 1) hS.2.1
      obtain ⟨v, hv⟩ : ∃ v, L0[a]? = some v := ⟨_, List.getElem?_eq_getElem al⟩
      obtain ⟨w, hw⟩ : ∃ w, L1[b]? = some w := ⟨_, List.getElem?_eq_getElem bl⟩
      obtain ⟨s, hs2, rfl⟩ := bm_sd hs
      have d1 : nI (16 * a + b) / 16 = nI a := by
        rw [show nI (16 * a + b) / 16 = nI ((16 * a + b) / 16) from pk_div (d := 16) (by omega) (by omega) (by omega)]
        congr 1
        omega
      have d2 : nI (16 * a + b) - nI (16 * a + b) / 16 * 16 = nI b := by
        rw [show nI (16 * a + b) - nI (16 * a + b) / 16 * 16 = nI ((16 * a + b) % 16) from pk_rem (d := 16) (by omega) (by omega) (by omega)]
        congr 1
        omega
      have h2 : s = 0 ∨ s = 1 := by omega
      unfold wpY_whole
      dsimp only
      refine ⟨vp_in_nI hs2 (by decide), ?_⟩
      rcases h2 with rfl | rfl
      · have sv := hS.2.2.1 a v hv
        rw [Nat.zero_add] at sv
        rw [nI_clamp (by omega), h0]
        refine ⟨vp_in_nI (by omega) (by decide), ?_⟩
        rw [nI_clamp (by omega), sv.2.1]
        refine by_side (fun _ => br_f (by decide) (by_some hRC hp hn hkn hS.1 hS.2.1 hab (fun yn' yq' yw' ym' yg' hS' => br_t (nI_pos' (by omega)) (br_t rfl ⟨by decide, ?_⟩)))) (fun q => absurd hs q)
        rw [d1]
        refine ⟨pk_in (16 * 0 + a) 32 (by omega) (by_16 0 a), ?_, bm_mk hRC hp⟩
        rw [by_16, nI_clamp (by omega)]
        exact (hS'.2.2.1 a v hv).2
      · have sw := hS.2.2.2.1 b w hw
        rw [nI_clamp (by omega), h1]
        refine ⟨vp_in_nI (by omega) (by decide), ?_⟩
        rw [nI_clamp (by omega), sw.2.1]
        refine by_side (fun _ => br_f (by decide) (by_some hRC hp hn hkn hS.1 hS.2.1 hab (fun yn' yq' yw' ym' yg' hS' => br_t (nI_pos' (by omega)) (br_f (by decide) ⟨by decide, ?_⟩)))) (fun q => absurd hs q)
        rw [d2]
        refine ⟨pk_in (16 * 1 + b) 32 (by omega) (by_16 1 b), ?_, bm_mk hRC hp⟩
        rw [by_16, nI_clamp (by omega)]
        exact (hS'.2.2.2.1 b w hw).2
  · unfold wpY_whole
    dsimp only
    exact by_side (fun q => absurd q hs) (fun _ => br_t rfl ⟨rfl, bm_mk hRC hp⟩)
theorem i_vc_getsTop {k : Nat} {u : SX} {v : SY} (I : i_Rel k u v) (hk : k + 4 ≤ 2050) (v1 : Int32) (v2 : Int32) : wpX_getsTop (fun r u' => wpY_getsTop (fun r' v' => r' = r ∧ i_Rel (k + 4) u' v') v v1 v2) u v1 v2 := by
  obtain ⟨R, C, p, hRC, hp, ⟨fm, ft, fb, ae, am, ac, aq, aw, ar, ah, rfl⟩, ⟨ys, yn, yq, yw, ym, yg, rfl⟩⟩ := I
  unfold wpX_getsTop
  dsimp only
  refine bx_side (fun hs => br_f (by decide) ?_) (fun hs => br_t rfl ?_)
  · refine bx_choose hRC hp (fun hn fm' ae' am' ac' aq' aw' ar' ah' => br_t rfl ?_) (fun n a b L0 L1 fm' ae' am' ac' aq' aw' ar' ah' hn hkn hS hab h0 h1 => br_f (by decide) ?_)
    · unfold wpY_getsTop wpY_getsOf
      dsimp only
      exact by_side (fun _ => br_f (by decide) (by_none hRC hp hn (fun yn' yq' yw' ym' yg' => br_f (by decide) ⟨rfl, bm_mk hRC hp⟩))) (fun q => absurd hs q)
    · obtain ⟨al, bl⟩ := bm_pair hab
      have k0 := bm_IsL_b (bm_A9p hp 1 0) hS.1
      have k1 := bm_IsL_b (bm_A9p hp 0 1) hS.2.1
      obtain ⟨v, hv⟩ : ∃ v, L0[a]? = some v := ⟨_, List.getElem?_eq_getElem al⟩
      obtain ⟨w, hw⟩ : ∃ w, L1[b]? = some w := ⟨_, List.getElem?_eq_getElem bl⟩
      obtain ⟨s, hs2, rfl⟩ := bm_sd hs
      refine bx_weigh hRC hp hs2 hS h0 h1 hv hw ?_
      dsimp only
      unfold wpY_getsTop wpY_getsOf
      dsimp only
      refine by_side (fun _ => br_f (by decide) (by_some hRC hp hn hkn hS.1 hS.2.1 hab (fun yn' yq' yw' ym' yg' hS' => br_t (nI_pos' (by omega)) ?_))) (fun q => absurd hs q)
      exact by_ge33 (asked := true) hp hs2 hS' hv hw ⟨rfl, bm_mk hRC hp⟩
  · unfold wpY_getsTop wpY_getsOf
    dsimp only
    exact by_side (fun q => absurd q hs) (fun _ => br_t rfl ⟨rfl, bm_mk hRC hp⟩)
theorem i_vc_getsBottom {k : Nat} {u : SX} {v : SY} (I : i_Rel k u v) (hk : k + 4 ≤ 2050) (v1 : Int32) (v2 : Int32) : wpX_getsBottom (fun r u' => wpY_getsBottom (fun r' v' => r' = r ∧ i_Rel (k + 4) u' v') v v1 v2) u v1 v2 := by
  obtain ⟨R, C, p, hRC, hp, ⟨fm, ft, fb, ae, am, ac, aq, aw, ar, ah, rfl⟩, ⟨ys, yn, yq, yw, ym, yg, rfl⟩⟩ := I
  unfold wpX_getsBottom
  dsimp only
  refine bx_side (fun hs => br_f (by decide) ?_) (fun hs => br_t rfl ?_)
  · refine bx_choose hRC hp (fun hn fm' ae' am' ac' aq' aw' ar' ah' => br_t rfl ?_) (fun n a b L0 L1 fm' ae' am' ac' aq' aw' ar' ah' hn hkn hS hab h0 h1 => br_f (by decide) ?_)
    · unfold wpY_getsBottom wpY_getsOf
      dsimp only
      exact by_side (fun _ => br_f (by decide) (by_none hRC hp hn (fun yn' yq' yw' ym' yg' => br_f (by decide) ⟨rfl, bm_mk hRC hp⟩))) (fun q => absurd hs q)
    · obtain ⟨al, bl⟩ := bm_pair hab
      have k0 := bm_IsL_b (bm_A9p hp 1 0) hS.1
      have k1 := bm_IsL_b (bm_A9p hp 0 1) hS.2.1
      obtain ⟨v, hv⟩ : ∃ v, L0[a]? = some v := ⟨_, List.getElem?_eq_getElem al⟩
      obtain ⟨w, hw⟩ : ∃ w, L1[b]? = some w := ⟨_, List.getElem?_eq_getElem bl⟩
      obtain ⟨s, hs2, rfl⟩ := bm_sd hs
      refine bx_weigh hRC hp hs2 hS h0 h1 hv hw ?_
      dsimp only
      unfold wpY_getsBottom wpY_getsOf
      dsimp only
      refine by_side (fun _ => br_f (by decide) (by_some hRC hp hn hkn hS.1 hS.2.1 hab (fun yn' yq' yw' ym' yg' hS' => br_t (nI_pos' (by omega)) ?_))) (fun q => absurd hs q)
      exact by_ge33 (asked := false) hp hs2 hS' hv hw ⟨rfl, bm_mk hRC hp⟩
  · unfold wpY_getsBottom wpY_getsOf
    dsimp only
    exact by_side (fun q => absurd q hs) (fun _ => br_t rfl ⟨rfl, bm_mk hRC hp⟩)
theorem i_vc_sureTop {k : Nat} {u : SX} {v : SY} (I : i_Rel k u v) (hk : k + 4 ≤ 2050) (v1 : Int32) : wpX_sureTop (fun r u' => wpY_sureTop (fun r' v' => r' = r ∧ i_Rel (k + 4) u' v') v v1) u v1 := by
  obtain ⟨R, C, p, hRC, hp, ⟨fm, ft, fb, ae, am, ac, aq, aw, ar, ah, rfl⟩, ⟨ys, yn, yq, yw, ym, yg, rfl⟩⟩ := I
  unfold wpX_sureTop
  dsimp only
  refine bx_side (fun hs => br_f (by decide) ?_) (fun hs => br_t rfl ?_)
  · obtain ⟨s, hs2, rfl⟩ := bm_sd hs
    refine bx_ws hRC hs2 hp (fun t b fm' ae' am' hX => ?_)
    dsimp only
    unfold wpY_sureTop
    dsimp only
    refine by_sure (asked := true) hRC hs2 hp (fun t' b' L yn' yq' yw' ym' yg' hI hY => ?_)
    have n1 := bm_n13 (s := s) hRC
    have n2 := bm_n13 (s := 1 - s) hRC
    obtain ⟨b0, e⟩ := bm_SXY (bm_B9 hp s true) (bm_all8 n1.2) (bm_all8 n2.2) ((bm_allT ⟨bm_n R C (1 - s), by omega⟩ ⟨0, by omega⟩).mpr (by dsimp only; omega)) ((bm_allT ⟨bm_n R C s, by omega⟩ ⟨0, by omega⟩).mpr (by dsimp only; omega)) hI hX hY
    have r := bm_red_u hX.1.1 b0 e
    refine ⟨b0, ?_, bm_mk hRC hp⟩
    rw [if_pos rfl, r.1]
  · unfold wpY_sureTop wpY_sure
    dsimp only
    exact by_side (fun q => absurd q hs) (fun _ => br_t rfl ⟨rfl, bm_mk hRC hp⟩)
theorem i_vc_sureBottom {k : Nat} {u : SX} {v : SY} (I : i_Rel k u v) (hk : k + 4 ≤ 2050) (v1 : Int32) : wpX_sureBottom (fun r u' => wpY_sureBottom (fun r' v' => r' = r ∧ i_Rel (k + 4) u' v') v v1) u v1 := by
  obtain ⟨R, C, p, hRC, hp, ⟨fm, ft, fb, ae, am, ac, aq, aw, ar, ah, rfl⟩, ⟨ys, yn, yq, yw, ym, yg, rfl⟩⟩ := I
  unfold wpX_sureBottom
  dsimp only
  refine bx_side (fun hs => br_f (by decide) ?_) (fun hs => br_t rfl ?_)
  · obtain ⟨s, hs2, rfl⟩ := bm_sd hs
    refine bx_ws hRC hs2 hp (fun t b fm' ae' am' hX => ?_)
    dsimp only
    unfold wpY_sureBottom
    dsimp only
    refine by_sure (asked := false) hRC hs2 hp (fun t' b' L yn' yq' yw' ym' yg' hI hY => ?_)
    have n1 := bm_n13 (s := s) hRC
    have n2 := bm_n13 (s := 1 - s) hRC
    obtain ⟨b0, e⟩ := bm_SXY (bm_B9 hp s true) (bm_all8 n1.2) (bm_all8 n2.2) ((bm_allT ⟨bm_n R C (1 - s), by omega⟩ ⟨0, by omega⟩).mpr (by dsimp only; omega)) ((bm_allT ⟨bm_n R C s, by omega⟩ ⟨0, by omega⟩).mpr (by dsimp only; omega)) hI hX hY
    have r := bm_red_u hX.1.1 b0 e
    refine ⟨b0, ?_, bm_mk hRC hp⟩
    rw [if_neg (by decide), r.2]
  · unfold wpY_sureBottom wpY_sure
    dsimp only
    exact by_side (fun q => absurd q hs) (fun _ => br_t rfl ⟨rfl, bm_mk hRC hp⟩)
theorem i_vc_replies {k : Nat} {u : SX} {v : SY} (I : i_Rel k u v) (hk : k + 4 ≤ 2050) (v1 : Int32) : wpX_replies (fun r u' => wpY_replies (fun r' v' => r' = r ∧ i_Rel (k + 4) u' v') v v1) u v1 := by
  obtain ⟨R, C, p, hRC, hp, ⟨fm, ft, fb, ae, am, ac, aq, aw, ar, ah, rfl⟩, ⟨ys, yn, yq, yw, ym, yg, rfl⟩⟩ := I
  unfold wpX_replies
  dsimp only
  refine bx_side (fun hs => br_f (by decide) ?_) (fun hs => br_t rfl ?_)
  · obtain ⟨s, hs2, rfl⟩ := bm_sd hs
    have O8 := bm_all8 (bm_n13 (s := s) hRC).2
    have M8 := bm_all8 (bm_n13 (s := 1 - s) hRC).2
    refine bx_every hRC hs2 ?_
    rw [bx_1s hs2]
    refine bx_every hRC (by omega) ?_
    refine bx_ra hs2 M8 O8 hp (fun f fm' ae' am' hf => ?_)
    dsimp only
    unfold wpY_replies
    dsimp only
    refine by_side (fun _ => br_f (by decide) ?_) (fun q => absurd hs q)
    refine by_allOf hRC hs2 ?_
    rw [bx_1s hs2]
    refine by_allOf hRC (by omega) ?_
    refine by_ro hs2 M8 O8 hp (fun g yn' yq' yw' ym' yg' hg => ?_)
    refine ⟨?_, bm_mk hRC hp⟩
    rw [bm_RX_e hf, bm_RY_e (bm_A9p hp s (1 - s)) M8 O8 hg]
  · unfold wpY_replies
    dsimp only
    exact by_side (fun q => absurd q hs) (fun _ => br_t rfl ⟨rfl, bm_mk hRC hp⟩)
theorem i_vc_left {k : Nat} {u : SX} {v : SY} (I : i_Rel k u v) (hk : k + 4 ≤ 2050) : wpX_left (fun r u' => wpY_left (fun r' v' => r' = r ∧ i_Rel (k + 4) u' v') v) u := by
  obtain ⟨R, C, p, hRC, hp, ⟨fm, ft, fb, ae, am, ac, aq, aw, ar, ah, rfl⟩, ⟨ys, yn, yq, yw, ym, yg, rfl⟩⟩ := I
  exact bx_left hRC hp (fun fm' ae' am' => by_left hRC hp (fun yn' yq' yw' ym' yg' => ⟨rfl, bm_mk hRC hp⟩))
theorem i_vc_exchange {k : Nat} {u : SX} {v : SY} (I : i_Rel k u v) (hk : k + 4 ≤ 2050) : wpX_exchange (fun u' => wpY_exchange (fun v' => i_Rel (k + 4) u' v') v) u := by
  obtain ⟨R, C, p, hRC, hp, ⟨fm, ft, fb, ae, am, ac, aq, aw, ar, ah, rfl⟩, ⟨ys, yn, yq, yw, ym, yg, rfl⟩⟩ := I
  exact bx_exchange (by_exchange (fun ys' => bm_mk (by unfold bm_RC at *; omega) (bm_ex9 hp)))
end
