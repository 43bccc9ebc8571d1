theorem pk_us {f : Nat → Int32} {k : Nat} {x : Int32} : upd f k x k = x := if_pos rfl
theorem pk_un {f : Nat → Int32} {k j : Nat} {x : Int32} (h : j ≠ k) : upd f k x j = f j := if_neg h
theorem pk_sub {a b : Nat} (h : b ≤ a) : nI a - nI b = nI (a - b) := by
  obtain ⟨c, rfl⟩ : ∃ c, a = c + b := ⟨a - b, by omega⟩
  rw [← nI_add, Int32.add_sub_cancel, Nat.add_sub_cancel]
theorem pk_m1 (n : Nat) : nI (n + 1) + (-1) = nI n := by
  rw [← nI_1, Int32.add_assoc, show (1 : Int32) + (-1) = 0 from rfl, Int32.add_zero]
theorem pk_mul (a b : Nat) : nI a * nI b = nI (a * b) := (Int32.ofNat_mul a b).symm
theorem pk_div {a d : Nat} (ha : a < 2 ^ 31) (h0 : 0 < d) (hd : d < 2 ^ 31) : nI a / nI d = nI (a / d) := by
  apply Int32.toInt_inj.mp
  rw [lg_idiv_nonneg (by rw [nI_toInt ha]; omega) (by rw [nI_toInt hd]; omega), nI_toInt ha, nI_toInt hd, nI_toInt (Nat.lt_of_le_of_lt (Nat.div_le_self a d) ha)]
  first | rfl | exact (Int.natCast_ediv _ _).symm
theorem pk_rem {a d : Nat} (ha : a < 2 ^ 31) (h0 : 0 < d) (hd : d < 2 ^ 31) : nI a - nI a / nI d * nI d = nI (a % d) := by
  rw [pk_div ha h0 hd, pk_mul, pk_sub (Nat.div_mul_le_self a d)]
  exact congrArg nI (by have := Nat.div_add_mod' a d; omega)
theorem pk_sub_toInt {a b : Nat} (ha : a < 2 ^ 30) (hb : b < 2 ^ 30) : (nI a - nI b).toInt = (a : Int) - b := by
  rw [Int32.toInt_sub, nI_toInt (by omega), nI_toInt (by omega)]
  exact Int.bmod_eq_of_le (by omega) (by omega)
theorem pk_sneg {a b : Nat} (hb : b < 2 ^ 30) (h : a < b) : nI a - nI b < 0 := by
  rw [Int32.lt_iff_toInt_lt, pk_sub_toInt (by omega) hb, show (0 : Int32).toInt = 0 from by decide]
  omega
theorem pk_ix (x : Int32) {n : Nat} (hn : n < 2 ^ 31) : x < 0 ∨ nI n ≤ x ∨ ∃ j : Nat, j < n ∧ x = nI j := by
  by_cases h : x < 0
  · exact Or.inl h
  · obtain ⟨j, hj, rfl⟩ := nI_of h
    by_cases h2 : j < n
    · exact Or.inr (Or.inr ⟨j, h2, rfl⟩)
    · exact Or.inr (Or.inl (nI_le (by omega) hj))
theorem pk_le {x y : Int32} {A B : Prop} (a b : Nat) (f : a ≤ b → A) (g : b < a → B) (hx : x = nI a := by rfl) (hy : y = nI b := by rfl) (ha : a < 2 ^ 31 := by omega) (hb : b < 2 ^ 31 := by omega) : (x ≤ y → A) ∧ (¬ x ≤ y → B) := by
  subst hx hy
  rw [nI_leI ha hb]
  exact ⟨f, fun z => g (by omega)⟩
theorem pk_lt {x y : Int32} {A B : Prop} (a b : Nat) (f : a < b → A) (g : b ≤ a → B) (hx : x = nI a := by rfl) (hy : y = nI b := by rfl) (ha : a < 2 ^ 31 := by omega) (hb : b < 2 ^ 31 := by omega) : (x < y → A) ∧ (¬ x < y → B) := by
  subst hx hy
  rw [nI_ltI ha hb]
  exact ⟨f, fun z => g (by omega)⟩
theorem pk_eq {x y : Int32} {A B : Prop} (a b : Nat) (f : a = b → A) (g : a ≠ b → B) (hx : x = nI a := by rfl) (hy : y = nI b := by rfl) (ha : a < 2 ^ 31 := by omega) (hb : b < 2 ^ 31 := by omega) : (x = y → A) ∧ (¬ x = y → B) := by
  subst hx hy
  rw [nI_eq ha hb]
  exact ⟨f, g⟩
theorem pk_in {x : Int32} (n N : Nat) (h : n < N) (hx : x = nI n := by rfl) (hN : N < 2 ^ 31 := by omega) : vp_in x N := by
  subst hx
  exact vp_in_nI h hN
theorem pk_cl {x : Int32} (n : Nat) (hx : x = nI n := by rfl) (h : n < 2 ^ 31 := by omega) : x.toNatClampNeg = n := by
  subst hx
  exact nI_clamp h
theorem pk_tn {n : Nat} (h : n < 2 ^ 32) : (nI n).toBitVec.toNat = n := Nat.mod_eq_of_lt h
theorem pk_and (x : Int32) {m : Int32} (k : Nat) (hm : m.toBitVec.toNat = 2 ^ k - 1) : x &&& m = nI (x.toBitVec.toNat % 2 ^ k) := by
  apply Int32.toBitVec_inj.mp
  apply BitVec.eq_of_toNat_eq
  rw [Int32.toBitVec_and, BitVec.toNat_and, hm, Nat.and_two_pow_sub_one_eq_mod]
  show _ = (BitVec.ofNat 32 _).toNat
  rw [BitVec.toNat_ofNat]
  exact (Nat.mod_eq_of_lt (Nat.lt_of_le_of_lt (Nat.mod_le _ _) x.toBitVec.isLt)).symm
theorem pk_andN {n : Nat} (h : n < 2 ^ 32) {m : Int32} (k : Nat) (hm : m.toBitVec.toNat = 2 ^ k - 1) : nI n &&& m = nI (n % 2 ^ k) := by
  rw [pk_and _ k hm, pk_tn h]
theorem pk_andE (x : Int32) {m : Int32} (k : Nat) (hm : m.toBitVec.toNat = 2 ^ k - 1) : ∃ j : Nat, j < 2 ^ k ∧ x &&& m = nI j := ⟨_, Nat.mod_lt _ (Nat.two_pow_pos k), pk_and x k hm⟩
theorem pk_andIn (x : Int32) {m : Int32} (k : Nat) (hm : m.toBitVec.toNat = 2 ^ k - 1) (hk : k ≤ 30) : vp_in (x &&& m) (2 ^ k) := by
  obtain ⟨j, hj, e⟩ := pk_andE x k hm
  rw [e]
  exact vp_in_nI hj (Nat.lt_of_le_of_lt (Nat.pow_le_pow_right (by decide) hk) (by decide))
theorem pk_shl (a s : Int32) (k : Nat) (hs : (s.toBitVec.smod 32).toNat = k) : (a <<< s).toBitVec.toNat = a.toBitVec.toNat * 2 ^ k % 2 ^ 32 := by
  show (a.toBitVec <<< (s.toBitVec.smod 32).toNat).toNat = _
  rw [hs, BitVec.toNat_shiftLeft, Nat.shiftLeft_eq]
theorem pk_shlN {n : Nat} (s : Int32) (k : Nat) (hs : (s.toBitVec.smod 32).toNat = k) (h : n * 2 ^ k < 2 ^ 32) : nI n <<< s = nI (n * 2 ^ k) := by
  apply Int32.toBitVec_inj.mp
  apply BitVec.eq_of_toNat_eq
  have hn : n < 2 ^ 32 := Nat.lt_of_le_of_lt (Nat.le_mul_of_pos_right n (Nat.two_pow_pos k)) h
  rw [pk_shl _ _ k hs, pk_tn hn, pk_tn h, Nat.mod_eq_of_lt h]
theorem pk_shr (a s : Int32) (k : Nat) (hs : (s.toBitVec.smod 32).toNat = k) : (a >>> s).toInt = a.toInt >>> k := by
  show (a.toBitVec.sshiftRight (s.toBitVec.smod 32).toNat).toInt = _
  rw [hs, BitVec.toInt_sshiftRight]
  rfl
theorem pk_shrN {n : Nat} (h : n < 2 ^ 31) (s : Int32) (k : Nat) (hs : (s.toBitVec.smod 32).toNat = k) : nI n >>> s = nI (n / 2 ^ k) := by
  apply Int32.toInt_inj.mp
  have h2 : n / 2 ^ k ≤ n := Nat.div_le_self _ _
  rw [pk_shr _ _ k hs, nI_toInt h, nI_toInt (by omega), Int.shiftRight_eq_div_pow]
  rfl
/-- an Int as an Int32 -/
def bm_i (a : Int) : Int32 := Int32.ofInt a
theorem bm_iT {a : Int} (h1 : -2147483648 ≤ a) (h2 : a < 2147483648) : (bm_i a).toInt = a := Int32.toInt_ofInt_of_le (by omega) (by omega)
theorem bm_nI (n : Nat) : nI n = bm_i n := Int32.ofInt_eq_ofNat.symm
theorem bm_o (x : Int32) : x = bm_i x.toInt := (Int32.ofInt_toInt x).symm
theorem bm_add (a b : Int) : bm_i a + bm_i b = bm_i (a + b) := (Int32.ofInt_add a b).symm
theorem bm_sub (a b : Int) : bm_i a - bm_i b = bm_i (a - b) := (Int32.ofInt_sub a b).symm
theorem bm_mul (a b : Int) : bm_i a * bm_i b = bm_i (a * b) := (Int32.ofInt_mul a b).symm
theorem bm_neg (a : Int) : -bm_i a = bm_i (-a) := (Int32.ofInt_neg a).symm
theorem bm_0 : bm_i 0 = 0 := rfl
theorem bm_1 : bm_i 1 = 1 := rfl
theorem bm_le {a b : Int} (h1 : -2147483648 ≤ a) (h2 : a < 2147483648) (h3 : -2147483648 ≤ b) (h4 : b < 2147483648) : bm_i a ≤ bm_i b ↔ a ≤ b := by
  rw [Int32.le_iff_toInt_le, bm_iT h1 h2, bm_iT h3 h4]
theorem bm_lt {a b : Int} (h1 : -2147483648 ≤ a) (h2 : a < 2147483648) (h3 : -2147483648 ≤ b) (h4 : b < 2147483648) : bm_i a < bm_i b ↔ a < b := by
  rw [Int32.lt_iff_toInt_lt, bm_iT h1 h2, bm_iT h3 h4]
theorem bm_eq {a b : Int} (h1 : -2147483648 ≤ a) (h2 : a < 2147483648) (h3 : -2147483648 ≤ b) (h4 : b < 2147483648) : bm_i a = bm_i b ↔ a = b := by
  rw [← Int32.toInt_inj, bm_iT h1 h2, bm_iT h3 h4]
theorem bm_div {a b : Int} (h1 : -2147483648 ≤ a) (h2 : a < 2147483648) (h3 : 0 < b) (h4 : b < 2147483648) : bm_i a / bm_i b = bm_i (a.tdiv b) := by
  have hb : bm_i b ≠ -1 := by
    intro h
    have e : (bm_i b).toInt = b := bm_iT (by omega) h4
    rw [h] at e
    have : ((-1 : Int32)).toInt = -1 := by decide
    omega
  have e := Int32.toInt_div_of_ne_right (bm_i a) (bm_i b) hb
  rw [bm_iT h1 h2, bm_iT (by omega) h4] at e
  rw [← e]
  exact bm_o _
theorem bm_cl {a : Int} (h1 : 0 ≤ a) (h2 : a < 2147483648) : (bm_i a).toNatClampNeg = a.toNat := by
  obtain ⟨n, rfl⟩ := Int.eq_ofNat_of_zero_le h1
  rw [← bm_nI]
  exact nI_clamp (by omega)
/-! Euclid -/
def bm_fib : Nat → Nat
  | 0 => 0
  | 1 => 1
  | n + 2 => bm_fib (n + 1) + bm_fib n
theorem bm_fib_pos : ∀ n, 0 < bm_fib (n + 1)
  | 0 => by decide
  | n + 1 => by
    show 0 < bm_fib (n + 1) + bm_fib n
    have := bm_fib_pos n
    omega
theorem bm_fib41 : bm_fib 41 = 165580141 := by simp [bm_fib]
/-- n steps are enough -/
def bm_En (n g h : Nat) : Prop := h < bm_fib (n + 1) ∨ (g < bm_fib (n + 2) ∧ h < g)
theorem bm_En0 {g h : Nat} (e : bm_En 0 g h) : h = 0 := by
  rcases e with e | ⟨e, f⟩
  · have : bm_fib (0 + 1) = 1 := rfl
    omega
  · have : bm_fib (0 + 2) = 1 := rfl
    omega
theorem bm_EnS {n g h : Nat} (e : bm_En (n + 1) g h) (h0 : 0 < h) : bm_En n h (g % h) := by
  have hr : g % h < h := Nat.mod_lt _ h0
  rcases e with e | ⟨e, f⟩
  · exact Or.inr ⟨e, hr⟩
  · by_cases z : h < bm_fib (n + 2)
    · exact Or.inr ⟨z, hr⟩
    · refine Or.inl ?_
      have e1 : bm_fib (n + 1 + 2) = bm_fib (n + 2) + bm_fib (n + 1) := rfl
      have : g % h ≤ g - h := by
        rw [Nat.mod_eq_sub_mod (Nat.le_of_lt f)]
        exact Nat.mod_le _ _
      omega
theorem bm_En_0 {n g : Nat} : bm_En n g 0 := Or.inl (bm_fib_pos n)
theorem bm_En40 {g h : Nat} (e : h < 165580141) : bm_En 40 g h := Or.inl (by rw [bm_fib41]; exact e)
