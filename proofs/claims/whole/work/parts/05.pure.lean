/-! the most, the replies -/
def bm_mf (A : Nat → Nat → Int) (O : Nat) (v : bm_V) (m : Int) (j : Nat) : Int := if O.testBit j = true ∧ m < bm_gn A v j then bm_gn A v j else m
def bm_mx (A : Nat → Nat → Int) (O : Nat) (v : bm_V) : Int := bm_mf A O v (bm_mf A O v (bm_mf A O v (-1000000) 0) 1) 2
def bm_rb (A : Nat → Nat → Int) (O : Nat) (v : bm_V) (m : Int) (j : Nat) : Bool := O.testBit j && decide (bm_gn A v j = m)
def bm_rp (A : Nat → Nat → Int) (O : Nat) (v : bm_V) : Nat := (bm_rb A O v (bm_mx A O v) 0).toNat + 2 * (bm_rb A O v (bm_mx A O v) 1).toNat + 4 * (bm_rb A O v (bm_mx A O v) 2).toNat
theorem bm_3b (a b c : Bool) : (a.toNat + 2 * b.toNat + 4 * c.toNat).testBit 0 = a ∧ (a.toNat + 2 * b.toNat + 4 * c.toNat).testBit 1 = b ∧ (a.toNat + 2 * b.toNat + 4 * c.toNat).testBit 2 = c ∧ a.toNat + 2 * b.toNat + 4 * c.toNat < 8 := by
  revert a b c
  decide
theorem bm_rp8 (A : Nat → Nat → Int) (O : Nat) (v : bm_V) : bm_rp A O v < 8 := (bm_3b _ _ _).2.2.2
theorem bm_rp_b (A : Nat → Nat → Int) (O : Nat) (v : bm_V) {j : Nat} (hj : j < 3) : (bm_rp A O v).testBit j = bm_rb A O v (bm_mx A O v) j := by
  have h := bm_3b (bm_rb A O v (bm_mx A O v) 0) (bm_rb A O v (bm_mx A O v) 1) (bm_rb A O v (bm_mx A O v) 2)
  have hj3 : j = 0 ∨ j = 1 ∨ j = 2 := by omega
  rcases hj3 with rfl | rfl | rfl
  · exact h.1
  · exact h.2.1
  · exact h.2.2.1
theorem bm_rp_t {A : Nat → Nat → Int} {O : Nat} {v : bm_V} {j : Nat} (hj : j < 3) : (bm_rp A O v).testBit j = true ↔ O.testBit j = true ∧ bm_gn A v j = bm_mx A O v := by
  rw [bm_rp_b A O v hj]
  unfold bm_rb
  simp
theorem bm_M_u {A : Nat → Nat → Int} {O : Nat} {v : bm_V} {m m' : Int} (h : bm_M A O v m) (h' : bm_M A O v m') : m = m' := by
  obtain ⟨a, j, hj, hO, e⟩ := h
  obtain ⟨a', j', hj', hO', e'⟩ := h'
  have := a j' hj' hO'
  have := a' j hj hO
  omega
theorem bm_mx_M {A : Nat → Nat → Int} {O : Nat} {v : bm_V} (hb : ∀ j, j < 3 → -1000000 < bm_gn A v j) (hO : ∃ j, j < 3 ∧ O.testBit j = true) : bm_M A O v (bm_mx A O v) := by
  have b0 := hb 0 (by omega)
  have b1 := hb 1 (by omega)
  have b2 := hb 2 (by omega)
  have all : ∀ j, j < 3 → O.testBit j = true → bm_gn A v j ≤ bm_mx A O v := by
    intro j hj
    have hj3 : j = 0 ∨ j = 1 ∨ j = 2 := by omega
    unfold bm_mx bm_mf
    rcases hj3 with rfl | rfl | rfl <;> intro h <;> simp only [h, true_and] <;> (repeat' split) <;> omega
  refine ⟨all, ?_⟩
  have : bm_mx A O v = -1000000 ∨ ∃ j, j < 3 ∧ O.testBit j = true ∧ bm_gn A v j = bm_mx A O v := by
    have st : ∀ m j, j < 3 → (m = -1000000 ∨ ∃ j, j < 3 ∧ O.testBit j = true ∧ bm_gn A v j = m) → (bm_mf A O v m j = -1000000 ∨ ∃ i, i < 3 ∧ O.testBit i = true ∧ bm_gn A v i = bm_mf A O v m j) := by
      intro m j hj h
      unfold bm_mf
      split
      · rename_i hh
        exact Or.inr ⟨j, hj, hh.1, rfl⟩
      · exact h
    exact st _ 2 (by omega) (st _ 1 (by omega) (st _ 0 (by omega) (Or.inl rfl)))
  rcases this with h | h
  · obtain ⟨j, hj, hOj⟩ := hO
    have := all j hj hOj
    have := hb j hj
    omega
  · exact h
/-! bounds -/
def bm_A9 (A : Nat → Nat → Int) : Prop := ∀ i j, i < 3 → j < 3 → -9 ≤ A i j ∧ A i j ≤ 9
theorem bm_p18 {a b : Int} {s t : Int} (ha : -s ≤ a) (ha' : a ≤ s) (hb : -t ≤ b) (hb' : b ≤ t) : -(s * t) ≤ a * b ∧ a * b ≤ s * t := by
  have hs : 0 ≤ s := by omega
  have ht : 0 ≤ t := by omega
  have h1 : (a * b).natAbs = a.natAbs * b.natAbs := Int.natAbs_mul a b
  have h2 : a.natAbs * b.natAbs ≤ s.toNat * t.toNat := Nat.mul_le_mul (by omega) (by omega)
  have h3 : ((s.toNat * t.toNat : Nat) : Int) = s * t := by
    rw [Int.natCast_mul, Int.toNat_of_nonneg hs, Int.toNat_of_nonneg ht]
  omega
theorem bm_fs3 (T : Nat) : bm_fs T < 3 := by unfold bm_fs; repeat' split
                                             all_goals omega
theorem bm_ls3 (T : Nat) : bm_ls T < 3 := by unfold bm_ls; repeat' split
                                             all_goals omega
def bm_b3 (v : bm_V) : Prop := (-648 ≤ v.1 ∧ v.1 ≤ 648) ∧ (-648 ≤ v.2.1 ∧ v.2.1 ≤ 648) ∧ (-648 ≤ v.2.2 ∧ v.2.2 ≤ 648)
theorem bm_cr_b {A : Nat → Nat → Int} (hA : bm_A9 A) {b c : Nat} (hb : b < 3) (hc : c < 3) : -648 ≤ bm_cr A b c ∧ bm_cr A b c ≤ 648 := by
  unfold bm_cr
  have h1 := hA b 0 hb (by omega)
  have h2 := hA b 1 hb (by omega)
  have h3 := hA b 2 hb (by omega)
  have h4 := hA c 0 hc (by omega)
  have h5 := hA c 1 hc (by omega)
  have h6 := hA c 2 hc (by omega)
  have k1 := bm_p18 (a := A b 0 - A b 1) (b := A c 1 - A c 2) (s := 18) (t := 18) (by omega) (by omega) (by omega) (by omega)
  have k2 := bm_p18 (a := A c 0 - A c 1) (b := A b 1 - A b 2) (s := 18) (t := 18) (by omega) (by omega) (by omega) (by omega)
  omega
theorem bm_raw_b {A : Nat → Nat → Int} (hA : bm_A9 A) (S T : Nat) : bm_b3 (bm_raw A S T) := by
  have f := bm_fs3 T
  have l := bm_ls3 T
  have a1 := hA 0 _ (by omega) f
  have a2 := hA 1 _ (by omega) f
  have a3 := hA 2 _ (by omega) f
  have a4 := hA 0 _ (by omega) l
  have a5 := hA 1 _ (by omega) l
  have a6 := hA 2 _ (by omega) l
  have c1 := bm_cr_b hA (b := 1) (c := 2) (by omega) (by omega)
  have c2 := bm_cr_b hA (b := 2) (c := 0) (by omega) (by omega)
  have c3 := bm_cr_b hA (b := 0) (c := 1) (by omega) (by omega)
  unfold bm_raw bm_b3
  repeat' split
  all_goals dsimp only
  all_goals omega
theorem bm_nv_b {m : bm_V} (hb : bm_b3 m) (h : bm_ok m) : bm_b3 (bm_nv m) := by
  have hP := bm_nv_P h
  obtain ⟨h0, h1, h2, h3⟩ := h
  have hg : (0 : Int) < bm_g3 m := by have := bm_g3_pos h0; omega
  obtain ⟨⟨a1, a2⟩, ⟨b1, b2⟩, c1, c2⟩ := hb
  have key : ∀ a : Int, -648 ≤ a → a ≤ 648 → 0 ≤ bm_e m * a → (bm_e m * a) / (bm_g3 m : Int) ≤ 648 := by
    intro a x y z
    have h1 : (bm_e m * a) / (bm_g3 m : Int) ≤ bm_e m * a := Int.ediv_le_self _ z
    have h2 : bm_e m * a ≤ 648 := by
      unfold bm_e
      split <;> omega
    omega
  have k1 := key _ a1 a2 h1
  have k2 := key _ b1 b2 h2
  have k3 := key _ c1 c2 h3
  have p1 := hP.1
  have p2 := hP.2.1
  have p3 := hP.2.2.1
  unfold bm_b3
  unfold bm_nv at *
  dsimp only at *
  omega
theorem bm_gn_b {A : Nat → Nat → Int} (hA : bm_A9 A) {v : bm_V} (hv : bm_b3 v) {j : Nat} (hj : j < 3) : -17496 ≤ bm_gn A v j ∧ bm_gn A v j ≤ 17496 := by
  obtain ⟨⟨a1, a2⟩, ⟨b1, b2⟩, c1, c2⟩ := hv
  unfold bm_gn
  have h1 := hA 0 j (by omega) hj
  have h2 := hA 1 j (by omega) hj
  have h3 := hA 2 j (by omega) hj
  have k1 := bm_p18 (a := v.1) (b := A 0 j) (s := 648) (t := 9) (by omega) (by omega) (by omega) (by omega)
  have k2 := bm_p18 (a := v.2.1) (b := A 1 j) (s := 648) (t := 9) (by omega) (by omega) (by omega) (by omega)
  have k3 := bm_p18 (a := v.2.2) (b := A 2 j) (s := 648) (t := 9) (by omega) (by omega) (by omega) (by omega)
  omega
/-! sorted lists -/
def bm_S (L : List bm_V) : Prop := List.Pairwise (fun a b => bm_cm a b < 0) L ∧ ∀ v, v ∈ L → bm_P v
theorem bm_S_nil : bm_S [] := ⟨List.Pairwise.nil, fun _ h => by cases h⟩
theorem bm_S_uniq : ∀ {L1 L2 : List bm_V}, bm_S L1 → bm_S L2 → (∀ x, x ∈ L1 ↔ x ∈ L2) → L1 = L2
  | [], [], _, _, _ => rfl
  | [], b :: L2, _, _, h => by
    have := (h b).mpr (List.mem_cons_self ..)
    cases this
  | a :: L1, [], _, _, h => by
    have := (h a).mp (List.mem_cons_self ..)
    cases this
  | a :: L1, b :: L2, h1, h2, h => by
    obtain ⟨s1, p1⟩ := h1
    obtain ⟨s2, p2⟩ := h2
    have r1 : ∀ x, x ∈ L1 → bm_cm a x < 0 := fun x hx => List.rel_of_pairwise_cons s1 hx
    have r2 : ∀ x, x ∈ L2 → bm_cm b x < 0 := fun x hx => List.rel_of_pairwise_cons s2 hx
    have e : a = b := by
      rcases List.mem_cons.mp ((h a).mp (List.mem_cons_self ..)) with z | z
      · exact z
      · rcases List.mem_cons.mp ((h b).mpr (List.mem_cons_self ..)) with y | y
        · exact y.symm
        · have c1 := r2 _ z
          have c2 := r1 _ y
          have := bm_cm_anti a b
          omega
    subst e
    have ir : ∀ L : List bm_V, (∀ x, x ∈ L → bm_cm a x < 0) → ¬ a ∈ L := by
      intro L hL ha
      have := hL a ha
      rw [bm_cm_self] at this
      omega
    have n1 := ir L1 r1
    have n2 := ir L2 r2
    have : L1 = L2 := by
      apply bm_S_uniq ⟨List.Pairwise.of_cons s1, fun v hv => p1 v (List.mem_cons_of_mem _ hv)⟩ ⟨List.Pairwise.of_cons s2, fun v hv => p2 v (List.mem_cons_of_mem _ hv)⟩
      intro x
      constructor
      · intro hx
        rcases List.mem_cons.mp ((h x).mp (List.mem_cons_of_mem _ hx)) with z | z
        · rw [z] at hx
          exact absurd hx n1
        · exact z
      · intro hx
        rcases List.mem_cons.mp ((h x).mpr (List.mem_cons_of_mem _ hx)) with z | z
        · rw [z] at hx
          exact absurd hx n2
        · exact z
    rw [this]
def bm_ins (L : List bm_V) (p : Nat) (v : bm_V) : List bm_V := L.take p ++ v :: L.drop p
theorem bm_ins_mem {L : List bm_V} {p : Nat} {v x : bm_V} : x ∈ bm_ins L p v ↔ x = v ∨ x ∈ L := by
  unfold bm_ins
  rw [List.mem_append, List.mem_cons]
  have : x ∈ L ↔ x ∈ L.take p ∨ x ∈ L.drop p := by
    rw [← List.mem_append, List.take_append_drop]
  rw [this]
  constructor
  · rintro (h | h | h)
    · exact Or.inr (Or.inl h)
    · exact Or.inl h
    · exact Or.inr (Or.inr h)
  · rintro (h | h | h)
    · exact Or.inr (Or.inl h)
    · exact Or.inl h
    · exact Or.inr (Or.inr h)
theorem bm_ins_len {L : List bm_V} {p : Nat} {v : bm_V} (hp : p ≤ L.length) : (bm_ins L p v).length = L.length + 1 := by
  unfold bm_ins
  rw [List.length_append, List.length_cons, List.length_take, List.length_drop]
  omega
theorem bm_ins_lt {L : List bm_V} {p : Nat} {v : bm_V} (hp : p ≤ L.length) {k : Nat} (hk : k < p) : (bm_ins L p v)[k]? = L[k]? := by
  unfold bm_ins
  rw [List.getElem?_append_left (by rw [List.length_take]; omega), List.getElem?_take_of_lt hk]
theorem bm_ins_eq {L : List bm_V} {p : Nat} {v : bm_V} (hp : p ≤ L.length) : (bm_ins L p v)[p]? = some v := by
  unfold bm_ins
  rw [List.getElem?_append_right (by rw [List.length_take]; omega), List.length_take, Nat.min_eq_left hp, Nat.sub_self]
  rfl
theorem bm_ins_gt {L : List bm_V} {p : Nat} {v : bm_V} (hp : p ≤ L.length) {k : Nat} (hk : p ≤ k) : (bm_ins L p v)[k + 1]? = L[k]? := by
  unfold bm_ins
  rw [List.getElem?_append_right (by rw [List.length_take]; omega), List.length_take, Nat.min_eq_left hp, show k + 1 - p = (k - p) + 1 by omega, List.getElem?_cons_succ, List.getElem?_drop, show p + (k - p) = k by omega]
theorem bm_S_ins {L : List bm_V} {p : Nat} {v : bm_V} (hS : bm_S L) (hv : bm_P v) (lo : ∀ k w, k < p → L[k]? = some w → bm_cm w v < 0) (hi : ∀ k w, p ≤ k → L[k]? = some w → bm_cm v w < 0) : bm_S (bm_ins L p v) := by
  obtain ⟨s, pr⟩ := hS
  have lo' : ∀ w, w ∈ L.take p → bm_cm w v < 0 := by
    intro w hw
    obtain ⟨k, hk⟩ := List.mem_iff_getElem?.mp hw
    by_cases z : k < p
    · rw [List.getElem?_take_of_lt z] at hk
      exact lo k w z hk
    · rw [List.getElem?_take_eq_none (by omega)] at hk
      cases hk
  have hi' : ∀ w, w ∈ L.drop p → bm_cm v w < 0 := by
    intro w hw
    obtain ⟨k, hk⟩ := List.mem_iff_getElem?.mp hw
    rw [List.getElem?_drop] at hk
    exact hi (p + k) w (by omega) hk
  constructor
  · unfold bm_ins
    rw [List.pairwise_append]
    refine ⟨List.Pairwise.sublist (List.take_sublist _ _) s, ?_, ?_⟩
    · rw [List.pairwise_cons]
      exact ⟨fun w hw => hi' w hw, List.Pairwise.sublist (List.drop_sublist _ _) s⟩
    · intro a ha b hb
      rcases List.mem_cons.mp hb with rfl | hb
      · exact lo' a ha
      · exact bm_cm_tr (pr a (List.mem_of_mem_take ha)) hv (pr b (List.mem_of_mem_drop hb)) (lo' a ha) (hi' b hb)
  · intro w hw
    rcases bm_ins_mem.mp hw with rfl | hw
    · exact hv
    · exact pr w hw
theorem bm_S_rel {L : List bm_V} (hS : bm_S L) {i j : Nat} {a b : bm_V} (ha : L[i]? = some a) (hb : L[j]? = some b) (hij : i < j) : bm_cm a b < 0 := by
  obtain ⟨hi, rfl⟩ := List.getElem?_eq_some_iff.mp ha
  obtain ⟨hj, rfl⟩ := List.getElem?_eq_some_iff.mp hb
  exact List.pairwise_iff_getElem.mp hS.1 i j hi hj hij
theorem bm_pig : ∀ (L C : List bm_V), L.Nodup → (∀ x, x ∈ L → x ∈ C) → L.length ≤ C.length
  | [], _, _, _ => Nat.zero_le _
  | a :: L, C, hn, h => by
    obtain ⟨h1, h2⟩ := List.nodup_cons.mp hn
    have ha := h a (List.mem_cons_self ..)
    have := bm_pig L (C.erase a) h2 (by
      intro x hx
      have : x ≠ a := by
        rintro rfl
        exact h1 hx
      exact (List.mem_erase_of_ne this).mpr (h x (List.mem_cons_of_mem _ hx)))
    rw [List.length_erase_of_mem ha] at this
    have : 0 < C.length := List.length_pos_of_mem ha
    rw [List.length_cons]
    omega
theorem bm_S_nodup {L : List bm_V} (h : bm_S L) : L.Nodup := by
  refine List.Pairwise.imp ?_ h.1
  intro a b hab e
  rw [e, bm_cm_self] at hab
  omega
def bm_C (A : Nat → Nat → Int) : List bm_V := [(1, 1), (2, 1), (4, 1), (3, 3), (3, 5), (3, 6), (5, 3), (5, 5), (5, 6), (6, 3), (6, 5), (6, 6), (7, 7)].map (fun q : Nat × Nat => bm_nv (bm_raw A q.1 q.2))
theorem bm_fit_C {A : Nat → Nat → Int} {M O S T : Nat} (hS : S < 8) (hT : T < 8) (h : bm_fit M O S T) : bm_nv (bm_raw A S T) ∈ bm_C A := by
  obtain ⟨h0, -, -, hz⟩ := h
  have k : ∀ S T : Fin 8, S.val ≠ 0 → bm_sz S.val = bm_sz T.val → (S.val, T.val) ∈ [(1, 1), (2, 1), (4, 1), (3, 3), (3, 5), (3, 6), (5, 3), (5, 5), (5, 6), (6, 3), (6, 5), (6, 6), (7, 7)] ∨ S.val = 1 ∨ S.val = 2 ∨ S.val = 4 := by decide +kernel
  rcases k ⟨S, hS⟩ ⟨T, hT⟩ h0 hz with h | h | h | h
  · exact List.mem_map.mpr ⟨(S, T), h, rfl⟩
  · dsimp only at h
    subst h
    exact List.mem_map.mpr ⟨(1, 1), by decide, rfl⟩
  · dsimp only at h
    subst h
    exact List.mem_map.mpr ⟨(2, 1), by decide, rfl⟩
  · dsimp only at h
    subst h
    exact List.mem_map.mpr ⟨(4, 1), by decide, rfl⟩
theorem bm_len13 {A : Nat → Nat → Int} {L : List bm_V} (hS : bm_S L) (h : ∀ x, x ∈ L → x ∈ bm_C A) : L.length ≤ 13 := bm_pig L (bm_C A) (bm_S_nodup hS) h
