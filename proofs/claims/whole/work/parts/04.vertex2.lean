theorem bm_sub8 (M : Nat) (_hM : M < 8) (S : Nat) (hS : S < 8) (h0 : S.testBit 0 = true → M.testBit 0 = true) (h1 : S.testBit 1 = true → M.testBit 1 = true) (h2 : S.testBit 2 = true → M.testBit 2 = true) : S &&& M = S := by
  apply Nat.eq_of_testBit_eq
  intro i
  rw [Nat.testBit_and]
  cases e : S.testBit i
  · rfl
  · have hi : i < 3 := by
      rcases Nat.lt_or_ge i 3 with h | h
      · exact h
      · have : S.testBit i = false := Nat.testBit_lt_two_pow (Nat.lt_of_lt_of_le hS (Nat.pow_le_pow_right (n := 2) (by decide) h))
        rw [this] at e
        cases e
    have hi3 : i = 0 ∨ i = 1 ∨ i = 2 := by omega
    rcases hi3 with rfl | rfl | rfl
    · rw [h0 e]; rfl
    · rw [h1 e]; rfl
    · rw [h2 e]; rfl
theorem bm_is7 (O : Nat) (hO : O < 8) (h0 : O.testBit 0 = true) (h1 : O.testBit 1 = true) (h2 : O.testBit 2 = true) : O = 7 := by
  have h : O = 0 ∨ O = 1 ∨ O = 2 ∨ O = 3 ∨ O = 4 ∨ O = 5 ∨ O = 6 ∨ O = 7 := by omega
  rcases h with rfl | rfl | rfl | rfl | rfl | rfl | rfl | rfl <;> first | rfl | (exact absurd h0 (by decide)) | (exact absurd h1 (by decide)) | (exact absurd h2 (by decide))
theorem bm_dir (u z : bm_V) (h : (u.2.1 * z.2.2 - u.2.2 * z.2.1) + (u.2.2 * z.1 - u.1 * z.2.2) + (u.1 * z.2.1 - u.2.1 * z.1) = 0) :
    ∃ d : bm_V, bm_sg d = 0 ∧ d ≠ (0, 0, 0) ∧ d.1 * u.1 + d.2.1 * u.2.1 + d.2.2 * u.2.2 = 0 ∧ d.1 * z.1 + d.2.1 * z.2.1 + d.2.2 * z.2.2 = 0 := by
  obtain ⟨u1, u2, u3⟩ := u
  obtain ⟨z1, z2, z3⟩ := z
  dsimp only at h ⊢
  by_cases hu : u1 = u2 ∧ u2 = u3
  · obtain ⟨rfl, rfl⟩ := hu
    by_cases hz : z1 = z2 ∧ z2 = z3
    · obtain ⟨rfl, rfl⟩ := hz
      refine ⟨(1, -1, 0), by decide, by decide, ?_, ?_⟩ <;> dsimp only <;> omega
    · refine ⟨(z3 - z2, z1 - z3, z2 - z1), ?_, ?_, ?_, ?_⟩
      · unfold bm_sg; dsimp only; omega
      · intro e
        have e1 := congrArg Prod.fst e
        have e2 := congrArg (fun v : bm_V => v.2.1) e
        dsimp only at e1 e2
        omega
      · dsimp only; grind
      · dsimp only; grind
  · refine ⟨(u3 - u2, u1 - u3, u2 - u1), ?_, ?_, ?_, ?_⟩
    · unfold bm_sg; dsimp only; omega
    · intro e
      have e1 := congrArg Prod.fst e
      have e2 := congrArg (fun v : bm_V => v.2.1) e
      dsimp only at e1 e2
      omega
    · dsimp only; grind
    · dsimp only; grind
/-- x is the solution of a demand whose ties are tight at x -/
def bm_CA (A : Nat → Nat → Int) (M O : Nat) (x : bm_V) (m : Int) : Prop := ∃ S T, S < 8 ∧ T < 8 ∧ bm_fit M O S T ∧ bm_sg (bm_raw A S T) ≠ 0 ∧ x.1 * bm_sg (bm_raw A S T) = (bm_raw A S T).1 * bm_sg x ∧ x.2.1 * bm_sg (bm_raw A S T) = (bm_raw A S T).2.1 * bm_sg x ∧ x.2.2 * bm_sg (bm_raw A S T) = (bm_raw A S T).2.2 * bm_sg x ∧ ∀ j, j < 3 → T.testBit j = true → bm_gn A x j = m
/-- there is a direction that keeps all that is tight -/
def bm_CB (A : Nat → Nat → Int) (O : Nat) (x : bm_V) (m : Int) : Prop := ∃ d : bm_V, bm_sg d = 0 ∧ d ≠ (0, 0, 0) ∧ (x.1 = 0 → d.1 = 0) ∧ (x.2.1 = 0 → d.2.1 = 0) ∧ (x.2.2 = 0 → d.2.2 = 0) ∧ ∀ j k, j < 3 → k < 3 → O.testBit j = true → bm_gn A x j = m → O.testBit k = true → bm_gn A x k = m → bm_gn A d j = bm_gn A d k

theorem bm_v1_0 {A : Nat → Nat → Int} {M O : Nat} {x : bm_V} {m : Int} (hO : O < 8) (hM8 : M < 8) (hm : bm_M A O x m) (hM : M.testBit 0 = true) (h1 : x.2.1 = 0) (h2 : x.2.2 = 0) : bm_CA A M O x m := by
  obtain ⟨j, hj, hOj, e⟩ := hm.2
  have hj3 : j = 0 ∨ j = 1 ∨ j = 2 := by omega
  rcases hj3 with rfl | rfl | rfl
  · refine ⟨1, 1, by omega, by omega, ⟨by decide, bm_sub8 M hM8 1 (by omega) (fun _ => hM) (fun h => absurd h (by decide)) (fun h => absurd h (by decide)), bm_sub8 O hO 1 (by omega) (fun _ => hOj) (fun h => absurd h (by decide)) (fun h => absurd h (by decide)), by decide⟩, by show (1 : Int) + 0 + 0 ≠ 0; decide, ?_, ?_, ?_, ?_⟩
    · show x.1 * 1 = 1 * (x.1 + x.2.1 + x.2.2)
      omega
    · show x.2.1 * 1 = 0 * (x.1 + x.2.1 + x.2.2)
      omega
    · show x.2.2 * 1 = 0 * (x.1 + x.2.1 + x.2.2)
      omega
    · intro k hk hkt
      have : k = 0 := by
        have hk3 : k = 0 ∨ k = 1 ∨ k = 2 := by omega
        rcases hk3 with rfl | rfl | rfl <;> revert hkt <;> decide
      rw [this, e]
  · refine ⟨1, 2, by omega, by omega, ⟨by decide, bm_sub8 M hM8 1 (by omega) (fun _ => hM) (fun h => absurd h (by decide)) (fun h => absurd h (by decide)), bm_sub8 O hO 2 (by omega) (fun h => absurd h (by decide)) (fun _ => hOj) (fun h => absurd h (by decide)), by decide⟩, by show (1 : Int) + 0 + 0 ≠ 0; decide, ?_, ?_, ?_, ?_⟩
    · show x.1 * 1 = 1 * (x.1 + x.2.1 + x.2.2)
      omega
    · show x.2.1 * 1 = 0 * (x.1 + x.2.1 + x.2.2)
      omega
    · show x.2.2 * 1 = 0 * (x.1 + x.2.1 + x.2.2)
      omega
    · intro k hk hkt
      have : k = 1 := by
        have hk3 : k = 0 ∨ k = 1 ∨ k = 2 := by omega
        rcases hk3 with rfl | rfl | rfl <;> revert hkt <;> decide
      rw [this, e]
  · refine ⟨1, 4, by omega, by omega, ⟨by decide, bm_sub8 M hM8 1 (by omega) (fun _ => hM) (fun h => absurd h (by decide)) (fun h => absurd h (by decide)), bm_sub8 O hO 4 (by omega) (fun h => absurd h (by decide)) (fun h => absurd h (by decide)) (fun _ => hOj), by decide⟩, by show (1 : Int) + 0 + 0 ≠ 0; decide, ?_, ?_, ?_, ?_⟩
    · show x.1 * 1 = 1 * (x.1 + x.2.1 + x.2.2)
      omega
    · show x.2.1 * 1 = 0 * (x.1 + x.2.1 + x.2.2)
      omega
    · show x.2.2 * 1 = 0 * (x.1 + x.2.1 + x.2.2)
      omega
    · intro k hk hkt
      have : k = 2 := by
        have hk3 : k = 0 ∨ k = 1 ∨ k = 2 := by omega
        rcases hk3 with rfl | rfl | rfl <;> revert hkt <;> decide
      rw [this, e]
theorem bm_v1_1 {A : Nat → Nat → Int} {M O : Nat} {x : bm_V} {m : Int} (hO : O < 8) (hM8 : M < 8) (hm : bm_M A O x m) (hM : M.testBit 1 = true) (h1 : x.1 = 0) (h2 : x.2.2 = 0) : bm_CA A M O x m := by
  obtain ⟨j, hj, hOj, e⟩ := hm.2
  have hj3 : j = 0 ∨ j = 1 ∨ j = 2 := by omega
  rcases hj3 with rfl | rfl | rfl
  · refine ⟨2, 1, by omega, by omega, ⟨by decide, bm_sub8 M hM8 2 (by omega) (fun h => absurd h (by decide)) (fun _ => hM) (fun h => absurd h (by decide)), bm_sub8 O hO 1 (by omega) (fun _ => hOj) (fun h => absurd h (by decide)) (fun h => absurd h (by decide)), by decide⟩, by show (0 : Int) + 1 + 0 ≠ 0; decide, ?_, ?_, ?_, ?_⟩
    · show x.1 * 1 = 0 * (x.1 + x.2.1 + x.2.2)
      omega
    · show x.2.1 * 1 = 1 * (x.1 + x.2.1 + x.2.2)
      omega
    · show x.2.2 * 1 = 0 * (x.1 + x.2.1 + x.2.2)
      omega
    · intro k hk hkt
      have : k = 0 := by
        have hk3 : k = 0 ∨ k = 1 ∨ k = 2 := by omega
        rcases hk3 with rfl | rfl | rfl <;> revert hkt <;> decide
      rw [this, e]
  · refine ⟨2, 2, by omega, by omega, ⟨by decide, bm_sub8 M hM8 2 (by omega) (fun h => absurd h (by decide)) (fun _ => hM) (fun h => absurd h (by decide)), bm_sub8 O hO 2 (by omega) (fun h => absurd h (by decide)) (fun _ => hOj) (fun h => absurd h (by decide)), by decide⟩, by show (0 : Int) + 1 + 0 ≠ 0; decide, ?_, ?_, ?_, ?_⟩
    · show x.1 * 1 = 0 * (x.1 + x.2.1 + x.2.2)
      omega
    · show x.2.1 * 1 = 1 * (x.1 + x.2.1 + x.2.2)
      omega
    · show x.2.2 * 1 = 0 * (x.1 + x.2.1 + x.2.2)
      omega
    · intro k hk hkt
      have : k = 1 := by
        have hk3 : k = 0 ∨ k = 1 ∨ k = 2 := by omega
        rcases hk3 with rfl | rfl | rfl <;> revert hkt <;> decide
      rw [this, e]
  · refine ⟨2, 4, by omega, by omega, ⟨by decide, bm_sub8 M hM8 2 (by omega) (fun h => absurd h (by decide)) (fun _ => hM) (fun h => absurd h (by decide)), bm_sub8 O hO 4 (by omega) (fun h => absurd h (by decide)) (fun h => absurd h (by decide)) (fun _ => hOj), by decide⟩, by show (0 : Int) + 1 + 0 ≠ 0; decide, ?_, ?_, ?_, ?_⟩
    · show x.1 * 1 = 0 * (x.1 + x.2.1 + x.2.2)
      omega
    · show x.2.1 * 1 = 1 * (x.1 + x.2.1 + x.2.2)
      omega
    · show x.2.2 * 1 = 0 * (x.1 + x.2.1 + x.2.2)
      omega
    · intro k hk hkt
      have : k = 2 := by
        have hk3 : k = 0 ∨ k = 1 ∨ k = 2 := by omega
        rcases hk3 with rfl | rfl | rfl <;> revert hkt <;> decide
      rw [this, e]
theorem bm_v1_2 {A : Nat → Nat → Int} {M O : Nat} {x : bm_V} {m : Int} (hO : O < 8) (hM8 : M < 8) (hm : bm_M A O x m) (hM : M.testBit 2 = true) (h1 : x.1 = 0) (h2 : x.2.1 = 0) : bm_CA A M O x m := by
  obtain ⟨j, hj, hOj, e⟩ := hm.2
  have hj3 : j = 0 ∨ j = 1 ∨ j = 2 := by omega
  rcases hj3 with rfl | rfl | rfl
  · refine ⟨4, 1, by omega, by omega, ⟨by decide, bm_sub8 M hM8 4 (by omega) (fun h => absurd h (by decide)) (fun h => absurd h (by decide)) (fun _ => hM), bm_sub8 O hO 1 (by omega) (fun _ => hOj) (fun h => absurd h (by decide)) (fun h => absurd h (by decide)), by decide⟩, by show (0 : Int) + 0 + 1 ≠ 0; decide, ?_, ?_, ?_, ?_⟩
    · show x.1 * 1 = 0 * (x.1 + x.2.1 + x.2.2)
      omega
    · show x.2.1 * 1 = 0 * (x.1 + x.2.1 + x.2.2)
      omega
    · show x.2.2 * 1 = 1 * (x.1 + x.2.1 + x.2.2)
      omega
    · intro k hk hkt
      have : k = 0 := by
        have hk3 : k = 0 ∨ k = 1 ∨ k = 2 := by omega
        rcases hk3 with rfl | rfl | rfl <;> revert hkt <;> decide
      rw [this, e]
  · refine ⟨4, 2, by omega, by omega, ⟨by decide, bm_sub8 M hM8 4 (by omega) (fun h => absurd h (by decide)) (fun h => absurd h (by decide)) (fun _ => hM), bm_sub8 O hO 2 (by omega) (fun h => absurd h (by decide)) (fun _ => hOj) (fun h => absurd h (by decide)), by decide⟩, by show (0 : Int) + 0 + 1 ≠ 0; decide, ?_, ?_, ?_, ?_⟩
    · show x.1 * 1 = 0 * (x.1 + x.2.1 + x.2.2)
      omega
    · show x.2.1 * 1 = 0 * (x.1 + x.2.1 + x.2.2)
      omega
    · show x.2.2 * 1 = 1 * (x.1 + x.2.1 + x.2.2)
      omega
    · intro k hk hkt
      have : k = 1 := by
        have hk3 : k = 0 ∨ k = 1 ∨ k = 2 := by omega
        rcases hk3 with rfl | rfl | rfl <;> revert hkt <;> decide
      rw [this, e]
  · refine ⟨4, 4, by omega, by omega, ⟨by decide, bm_sub8 M hM8 4 (by omega) (fun h => absurd h (by decide)) (fun h => absurd h (by decide)) (fun _ => hM), bm_sub8 O hO 4 (by omega) (fun h => absurd h (by decide)) (fun h => absurd h (by decide)) (fun _ => hOj), by decide⟩, by show (0 : Int) + 0 + 1 ≠ 0; decide, ?_, ?_, ?_, ?_⟩
    · show x.1 * 1 = 0 * (x.1 + x.2.1 + x.2.2)
      omega
    · show x.2.1 * 1 = 0 * (x.1 + x.2.1 + x.2.2)
      omega
    · show x.2.2 * 1 = 1 * (x.1 + x.2.1 + x.2.2)
      omega
    · intro k hk hkt
      have : k = 2 := by
        have hk3 : k = 0 ∨ k = 1 ∨ k = 2 := by omega
        rcases hk3 with rfl | rfl | rfl <;> revert hkt <;> decide
      rw [this, e]
theorem bm_v2_01_01 {A : Nat → Nat → Int} {M O : Nat} {x : bm_V} {m : Int} (hO : O < 8) (hM8 : M < 8) (hMa : M.testBit 0 = true) (hMb : M.testBit 1 = true) (h0 : x.2.2 = 0) (oj : O.testBit 0 = true) (ok : O.testBit 1 = true) (ej : bm_gn A x 0 = m) (ek : bm_gn A x 1 = m) (hd : A 0 0 - A 1 0 ≠ A 0 1 - A 1 1) : bm_CA A M O x m := by
  have e : bm_gn A x 0 = bm_gn A x 1 := ej.trans ek.symm
  unfold bm_gn at e
  refine ⟨3, 3, by omega, by omega, ⟨by decide, bm_sub8 M hM8 3 (by omega) (fun _ => hMa) (fun _ => hMb) (fun h => absurd h (by decide)), bm_sub8 O hO 3 (by omega) (fun _ => oj) (fun _ => ok) (fun h => absurd h (by decide)), by decide⟩, ?_, ?_, ?_, ?_, ?_⟩
  · show -(A 1 0 - A 1 1) + (A 0 0 - A 0 1) + 0 ≠ 0
    omega
  · show x.1 * (-(A 1 0 - A 1 1) + (A 0 0 - A 0 1) + 0) = -(A 1 0 - A 1 1) * (x.1 + x.2.1 + x.2.2)
    rw [h0] at e ⊢
    grind
  · show x.2.1 * (-(A 1 0 - A 1 1) + (A 0 0 - A 0 1) + 0) = (A 0 0 - A 0 1) * (x.1 + x.2.1 + x.2.2)
    rw [h0] at e ⊢
    grind
  · show x.2.2 * (-(A 1 0 - A 1 1) + (A 0 0 - A 0 1) + 0) = 0 * (x.1 + x.2.1 + x.2.2)
    rw [h0] at e ⊢
    grind
  · intro i hi hit
    have : i = 0 ∨ i = 1 := by
      have hk3 : i = 0 ∨ i = 1 ∨ i = 2 := by omega
      rcases hk3 with rfl | rfl | rfl <;> revert hit <;> decide
    rcases this with rfl | rfl
    · exact ej
    · exact ek
theorem bm_v2_01_02 {A : Nat → Nat → Int} {M O : Nat} {x : bm_V} {m : Int} (hO : O < 8) (hM8 : M < 8) (hMa : M.testBit 0 = true) (hMb : M.testBit 1 = true) (h0 : x.2.2 = 0) (oj : O.testBit 0 = true) (ok : O.testBit 2 = true) (ej : bm_gn A x 0 = m) (ek : bm_gn A x 2 = m) (hd : A 0 0 - A 1 0 ≠ A 0 2 - A 1 2) : bm_CA A M O x m := by
  have e : bm_gn A x 0 = bm_gn A x 2 := ej.trans ek.symm
  unfold bm_gn at e
  refine ⟨3, 5, by omega, by omega, ⟨by decide, bm_sub8 M hM8 3 (by omega) (fun _ => hMa) (fun _ => hMb) (fun h => absurd h (by decide)), bm_sub8 O hO 5 (by omega) (fun _ => oj) (fun h => absurd h (by decide)) (fun _ => ok), by decide⟩, ?_, ?_, ?_, ?_, ?_⟩
  · show -(A 1 0 - A 1 2) + (A 0 0 - A 0 2) + 0 ≠ 0
    omega
  · show x.1 * (-(A 1 0 - A 1 2) + (A 0 0 - A 0 2) + 0) = -(A 1 0 - A 1 2) * (x.1 + x.2.1 + x.2.2)
    rw [h0] at e ⊢
    grind
  · show x.2.1 * (-(A 1 0 - A 1 2) + (A 0 0 - A 0 2) + 0) = (A 0 0 - A 0 2) * (x.1 + x.2.1 + x.2.2)
    rw [h0] at e ⊢
    grind
  · show x.2.2 * (-(A 1 0 - A 1 2) + (A 0 0 - A 0 2) + 0) = 0 * (x.1 + x.2.1 + x.2.2)
    rw [h0] at e ⊢
    grind
  · intro i hi hit
    have : i = 0 ∨ i = 2 := by
      have hk3 : i = 0 ∨ i = 1 ∨ i = 2 := by omega
      rcases hk3 with rfl | rfl | rfl <;> revert hit <;> decide
    rcases this with rfl | rfl
    · exact ej
    · exact ek
theorem bm_v2_01_12 {A : Nat → Nat → Int} {M O : Nat} {x : bm_V} {m : Int} (hO : O < 8) (hM8 : M < 8) (hMa : M.testBit 0 = true) (hMb : M.testBit 1 = true) (h0 : x.2.2 = 0) (oj : O.testBit 1 = true) (ok : O.testBit 2 = true) (ej : bm_gn A x 1 = m) (ek : bm_gn A x 2 = m) (hd : A 0 1 - A 1 1 ≠ A 0 2 - A 1 2) : bm_CA A M O x m := by
  have e : bm_gn A x 1 = bm_gn A x 2 := ej.trans ek.symm
  unfold bm_gn at e
  refine ⟨3, 6, by omega, by omega, ⟨by decide, bm_sub8 M hM8 3 (by omega) (fun _ => hMa) (fun _ => hMb) (fun h => absurd h (by decide)), bm_sub8 O hO 6 (by omega) (fun h => absurd h (by decide)) (fun _ => oj) (fun _ => ok), by decide⟩, ?_, ?_, ?_, ?_, ?_⟩
  · show -(A 1 1 - A 1 2) + (A 0 1 - A 0 2) + 0 ≠ 0
    omega
  · show x.1 * (-(A 1 1 - A 1 2) + (A 0 1 - A 0 2) + 0) = -(A 1 1 - A 1 2) * (x.1 + x.2.1 + x.2.2)
    rw [h0] at e ⊢
    grind
  · show x.2.1 * (-(A 1 1 - A 1 2) + (A 0 1 - A 0 2) + 0) = (A 0 1 - A 0 2) * (x.1 + x.2.1 + x.2.2)
    rw [h0] at e ⊢
    grind
  · show x.2.2 * (-(A 1 1 - A 1 2) + (A 0 1 - A 0 2) + 0) = 0 * (x.1 + x.2.1 + x.2.2)
    rw [h0] at e ⊢
    grind
  · intro i hi hit
    have : i = 1 ∨ i = 2 := by
      have hk3 : i = 0 ∨ i = 1 ∨ i = 2 := by omega
      rcases hk3 with rfl | rfl | rfl <;> revert hit <;> decide
    rcases this with rfl | rfl
    · exact ej
    · exact ek
theorem bm_v2_01 {A : Nat → Nat → Int} {M O : Nat} {x : bm_V} {m : Int} (hO : O < 8) (hM8 : M < 8) (hMa : M.testBit 0 = true) (hMb : M.testBit 1 = true) (ha : x.1 ≠ 0) (hb : x.2.1 ≠ 0) (h0 : x.2.2 = 0) : bm_CA A M O x m ∨ bm_CB A O x m := by
  by_cases c : bm_CA A M O x m
  · exact Or.inl c
  · right
    have key : ∀ j k, j < 3 → k < 3 → O.testBit j = true → bm_gn A x j = m → O.testBit k = true → bm_gn A x k = m → j < k → A 0 j - A 1 j = A 0 k - A 1 k := by
      intro j k hj hk oj ej ok ek hjk
      rcases Decidable.em (A 0 j - A 1 j = A 0 k - A 1 k) with y | y
      · exact y
      · exfalso
        apply c
        have hh : (j = 0 ∧ k = 1) ∨ (j = 0 ∧ k = 2) ∨ (j = 1 ∧ k = 2) := by omega
        rcases hh with ⟨rfl, rfl⟩ | ⟨rfl, rfl⟩ | ⟨rfl, rfl⟩
        · exact bm_v2_01_01 hO hM8 hMa hMb h0 oj ok ej ek y
        · exact bm_v2_01_02 hO hM8 hMa hMb h0 oj ok ej ek y
        · exact bm_v2_01_12 hO hM8 hMa hMb h0 oj ok ej ek y
    refine ⟨(1, -1, 0), by decide, by decide, by dsimp only; omega, by dsimp only; omega, by dsimp only; omega, ?_⟩
    intro j k hj hk oj ej ok ek
    unfold bm_gn
    dsimp only
    rcases Nat.lt_trichotomy j k with h | h | h
    · have := key j k hj hk oj ej ok ek h
      omega
    · rw [h]
    · have := key k j hk hj ok ek oj ej h
      omega
theorem bm_v2_02_01 {A : Nat → Nat → Int} {M O : Nat} {x : bm_V} {m : Int} (hO : O < 8) (hM8 : M < 8) (hMa : M.testBit 0 = true) (hMb : M.testBit 2 = true) (h0 : x.2.1 = 0) (oj : O.testBit 0 = true) (ok : O.testBit 1 = true) (ej : bm_gn A x 0 = m) (ek : bm_gn A x 1 = m) (hd : A 0 0 - A 2 0 ≠ A 0 1 - A 2 1) : bm_CA A M O x m := by
  have e : bm_gn A x 0 = bm_gn A x 1 := ej.trans ek.symm
  unfold bm_gn at e
  refine ⟨5, 3, by omega, by omega, ⟨by decide, bm_sub8 M hM8 5 (by omega) (fun _ => hMa) (fun h => absurd h (by decide)) (fun _ => hMb), bm_sub8 O hO 3 (by omega) (fun _ => oj) (fun _ => ok) (fun h => absurd h (by decide)), by decide⟩, ?_, ?_, ?_, ?_, ?_⟩
  · show -(A 2 0 - A 2 1) + 0 + (A 0 0 - A 0 1) ≠ 0
    omega
  · show x.1 * (-(A 2 0 - A 2 1) + 0 + (A 0 0 - A 0 1)) = -(A 2 0 - A 2 1) * (x.1 + x.2.1 + x.2.2)
    rw [h0] at e ⊢
    grind
  · show x.2.1 * (-(A 2 0 - A 2 1) + 0 + (A 0 0 - A 0 1)) = 0 * (x.1 + x.2.1 + x.2.2)
    rw [h0] at e ⊢
    grind
  · show x.2.2 * (-(A 2 0 - A 2 1) + 0 + (A 0 0 - A 0 1)) = (A 0 0 - A 0 1) * (x.1 + x.2.1 + x.2.2)
    rw [h0] at e ⊢
    grind
  · intro i hi hit
    have : i = 0 ∨ i = 1 := by
      have hk3 : i = 0 ∨ i = 1 ∨ i = 2 := by omega
      rcases hk3 with rfl | rfl | rfl <;> revert hit <;> decide
    rcases this with rfl | rfl
    · exact ej
    · exact ek
theorem bm_v2_02_02 {A : Nat → Nat → Int} {M O : Nat} {x : bm_V} {m : Int} (hO : O < 8) (hM8 : M < 8) (hMa : M.testBit 0 = true) (hMb : M.testBit 2 = true) (h0 : x.2.1 = 0) (oj : O.testBit 0 = true) (ok : O.testBit 2 = true) (ej : bm_gn A x 0 = m) (ek : bm_gn A x 2 = m) (hd : A 0 0 - A 2 0 ≠ A 0 2 - A 2 2) : bm_CA A M O x m := by
  have e : bm_gn A x 0 = bm_gn A x 2 := ej.trans ek.symm
  unfold bm_gn at e
  refine ⟨5, 5, by omega, by omega, ⟨by decide, bm_sub8 M hM8 5 (by omega) (fun _ => hMa) (fun h => absurd h (by decide)) (fun _ => hMb), bm_sub8 O hO 5 (by omega) (fun _ => oj) (fun h => absurd h (by decide)) (fun _ => ok), by decide⟩, ?_, ?_, ?_, ?_, ?_⟩
  · show -(A 2 0 - A 2 2) + 0 + (A 0 0 - A 0 2) ≠ 0
    omega
  · show x.1 * (-(A 2 0 - A 2 2) + 0 + (A 0 0 - A 0 2)) = -(A 2 0 - A 2 2) * (x.1 + x.2.1 + x.2.2)
    rw [h0] at e ⊢
    grind
  · show x.2.1 * (-(A 2 0 - A 2 2) + 0 + (A 0 0 - A 0 2)) = 0 * (x.1 + x.2.1 + x.2.2)
    rw [h0] at e ⊢
    grind
  · show x.2.2 * (-(A 2 0 - A 2 2) + 0 + (A 0 0 - A 0 2)) = (A 0 0 - A 0 2) * (x.1 + x.2.1 + x.2.2)
    rw [h0] at e ⊢
    grind
  · intro i hi hit
    have : i = 0 ∨ i = 2 := by
      have hk3 : i = 0 ∨ i = 1 ∨ i = 2 := by omega
      rcases hk3 with rfl | rfl | rfl <;> revert hit <;> decide
    rcases this with rfl | rfl
    · exact ej
    · exact ek
theorem bm_v2_02_12 {A : Nat → Nat → Int} {M O : Nat} {x : bm_V} {m : Int} (hO : O < 8) (hM8 : M < 8) (hMa : M.testBit 0 = true) (hMb : M.testBit 2 = true) (h0 : x.2.1 = 0) (oj : O.testBit 1 = true) (ok : O.testBit 2 = true) (ej : bm_gn A x 1 = m) (ek : bm_gn A x 2 = m) (hd : A 0 1 - A 2 1 ≠ A 0 2 - A 2 2) : bm_CA A M O x m := by
  have e : bm_gn A x 1 = bm_gn A x 2 := ej.trans ek.symm
  unfold bm_gn at e
  refine ⟨5, 6, by omega, by omega, ⟨by decide, bm_sub8 M hM8 5 (by omega) (fun _ => hMa) (fun h => absurd h (by decide)) (fun _ => hMb), bm_sub8 O hO 6 (by omega) (fun h => absurd h (by decide)) (fun _ => oj) (fun _ => ok), by decide⟩, ?_, ?_, ?_, ?_, ?_⟩
  · show -(A 2 1 - A 2 2) + 0 + (A 0 1 - A 0 2) ≠ 0
    omega
  · show x.1 * (-(A 2 1 - A 2 2) + 0 + (A 0 1 - A 0 2)) = -(A 2 1 - A 2 2) * (x.1 + x.2.1 + x.2.2)
    rw [h0] at e ⊢
    grind
  · show x.2.1 * (-(A 2 1 - A 2 2) + 0 + (A 0 1 - A 0 2)) = 0 * (x.1 + x.2.1 + x.2.2)
    rw [h0] at e ⊢
    grind
  · show x.2.2 * (-(A 2 1 - A 2 2) + 0 + (A 0 1 - A 0 2)) = (A 0 1 - A 0 2) * (x.1 + x.2.1 + x.2.2)
    rw [h0] at e ⊢
    grind
  · intro i hi hit
    have : i = 1 ∨ i = 2 := by
      have hk3 : i = 0 ∨ i = 1 ∨ i = 2 := by omega
      rcases hk3 with rfl | rfl | rfl <;> revert hit <;> decide
    rcases this with rfl | rfl
    · exact ej
    · exact ek
theorem bm_v2_02 {A : Nat → Nat → Int} {M O : Nat} {x : bm_V} {m : Int} (hO : O < 8) (hM8 : M < 8) (hMa : M.testBit 0 = true) (hMb : M.testBit 2 = true) (ha : x.1 ≠ 0) (hb : x.2.2 ≠ 0) (h0 : x.2.1 = 0) : bm_CA A M O x m ∨ bm_CB A O x m := by
  by_cases c : bm_CA A M O x m
  · exact Or.inl c
  · right
    have key : ∀ j k, j < 3 → k < 3 → O.testBit j = true → bm_gn A x j = m → O.testBit k = true → bm_gn A x k = m → j < k → A 0 j - A 2 j = A 0 k - A 2 k := by
      intro j k hj hk oj ej ok ek hjk
      rcases Decidable.em (A 0 j - A 2 j = A 0 k - A 2 k) with y | y
      · exact y
      · exfalso
        apply c
        have hh : (j = 0 ∧ k = 1) ∨ (j = 0 ∧ k = 2) ∨ (j = 1 ∧ k = 2) := by omega
        rcases hh with ⟨rfl, rfl⟩ | ⟨rfl, rfl⟩ | ⟨rfl, rfl⟩
        · exact bm_v2_02_01 hO hM8 hMa hMb h0 oj ok ej ek y
        · exact bm_v2_02_02 hO hM8 hMa hMb h0 oj ok ej ek y
        · exact bm_v2_02_12 hO hM8 hMa hMb h0 oj ok ej ek y
    refine ⟨(1, 0, -1), by decide, by decide, by dsimp only; omega, by dsimp only; omega, by dsimp only; omega, ?_⟩
    intro j k hj hk oj ej ok ek
    unfold bm_gn
    dsimp only
    rcases Nat.lt_trichotomy j k with h | h | h
    · have := key j k hj hk oj ej ok ek h
      omega
    · rw [h]
    · have := key k j hk hj ok ek oj ej h
      omega
theorem bm_v2_12_01 {A : Nat → Nat → Int} {M O : Nat} {x : bm_V} {m : Int} (hO : O < 8) (hM8 : M < 8) (hMa : M.testBit 1 = true) (hMb : M.testBit 2 = true) (h0 : x.1 = 0) (oj : O.testBit 0 = true) (ok : O.testBit 1 = true) (ej : bm_gn A x 0 = m) (ek : bm_gn A x 1 = m) (hd : A 1 0 - A 2 0 ≠ A 1 1 - A 2 1) : bm_CA A M O x m := by
  have e : bm_gn A x 0 = bm_gn A x 1 := ej.trans ek.symm
  unfold bm_gn at e
  refine ⟨6, 3, by omega, by omega, ⟨by decide, bm_sub8 M hM8 6 (by omega) (fun h => absurd h (by decide)) (fun _ => hMa) (fun _ => hMb), bm_sub8 O hO 3 (by omega) (fun _ => oj) (fun _ => ok) (fun h => absurd h (by decide)), by decide⟩, ?_, ?_, ?_, ?_, ?_⟩
  · show 0 + -(A 2 0 - A 2 1) + (A 1 0 - A 1 1) ≠ 0
    omega
  · show x.1 * (0 + -(A 2 0 - A 2 1) + (A 1 0 - A 1 1)) = 0 * (x.1 + x.2.1 + x.2.2)
    rw [h0] at e ⊢
    grind
  · show x.2.1 * (0 + -(A 2 0 - A 2 1) + (A 1 0 - A 1 1)) = -(A 2 0 - A 2 1) * (x.1 + x.2.1 + x.2.2)
    rw [h0] at e ⊢
    grind
  · show x.2.2 * (0 + -(A 2 0 - A 2 1) + (A 1 0 - A 1 1)) = (A 1 0 - A 1 1) * (x.1 + x.2.1 + x.2.2)
    rw [h0] at e ⊢
    grind
  · intro i hi hit
    have : i = 0 ∨ i = 1 := by
      have hk3 : i = 0 ∨ i = 1 ∨ i = 2 := by omega
      rcases hk3 with rfl | rfl | rfl <;> revert hit <;> decide
    rcases this with rfl | rfl
    · exact ej
    · exact ek
theorem bm_v2_12_02 {A : Nat → Nat → Int} {M O : Nat} {x : bm_V} {m : Int} (hO : O < 8) (hM8 : M < 8) (hMa : M.testBit 1 = true) (hMb : M.testBit 2 = true) (h0 : x.1 = 0) (oj : O.testBit 0 = true) (ok : O.testBit 2 = true) (ej : bm_gn A x 0 = m) (ek : bm_gn A x 2 = m) (hd : A 1 0 - A 2 0 ≠ A 1 2 - A 2 2) : bm_CA A M O x m := by
  have e : bm_gn A x 0 = bm_gn A x 2 := ej.trans ek.symm
  unfold bm_gn at e
  refine ⟨6, 5, by omega, by omega, ⟨by decide, bm_sub8 M hM8 6 (by omega) (fun h => absurd h (by decide)) (fun _ => hMa) (fun _ => hMb), bm_sub8 O hO 5 (by omega) (fun _ => oj) (fun h => absurd h (by decide)) (fun _ => ok), by decide⟩, ?_, ?_, ?_, ?_, ?_⟩
  · show 0 + -(A 2 0 - A 2 2) + (A 1 0 - A 1 2) ≠ 0
    omega
  · show x.1 * (0 + -(A 2 0 - A 2 2) + (A 1 0 - A 1 2)) = 0 * (x.1 + x.2.1 + x.2.2)
    rw [h0] at e ⊢
    grind
  · show x.2.1 * (0 + -(A 2 0 - A 2 2) + (A 1 0 - A 1 2)) = -(A 2 0 - A 2 2) * (x.1 + x.2.1 + x.2.2)
    rw [h0] at e ⊢
    grind
  · show x.2.2 * (0 + -(A 2 0 - A 2 2) + (A 1 0 - A 1 2)) = (A 1 0 - A 1 2) * (x.1 + x.2.1 + x.2.2)
    rw [h0] at e ⊢
    grind
  · intro i hi hit
    have : i = 0 ∨ i = 2 := by
      have hk3 : i = 0 ∨ i = 1 ∨ i = 2 := by omega
      rcases hk3 with rfl | rfl | rfl <;> revert hit <;> decide
    rcases this with rfl | rfl
    · exact ej
    · exact ek
theorem bm_v2_12_12 {A : Nat → Nat → Int} {M O : Nat} {x : bm_V} {m : Int} (hO : O < 8) (hM8 : M < 8) (hMa : M.testBit 1 = true) (hMb : M.testBit 2 = true) (h0 : x.1 = 0) (oj : O.testBit 1 = true) (ok : O.testBit 2 = true) (ej : bm_gn A x 1 = m) (ek : bm_gn A x 2 = m) (hd : A 1 1 - A 2 1 ≠ A 1 2 - A 2 2) : bm_CA A M O x m := by
  have e : bm_gn A x 1 = bm_gn A x 2 := ej.trans ek.symm
  unfold bm_gn at e
  refine ⟨6, 6, by omega, by omega, ⟨by decide, bm_sub8 M hM8 6 (by omega) (fun h => absurd h (by decide)) (fun _ => hMa) (fun _ => hMb), bm_sub8 O hO 6 (by omega) (fun h => absurd h (by decide)) (fun _ => oj) (fun _ => ok), by decide⟩, ?_, ?_, ?_, ?_, ?_⟩
  · show 0 + -(A 2 1 - A 2 2) + (A 1 1 - A 1 2) ≠ 0
    omega
  · show x.1 * (0 + -(A 2 1 - A 2 2) + (A 1 1 - A 1 2)) = 0 * (x.1 + x.2.1 + x.2.2)
    rw [h0] at e ⊢
    grind
  · show x.2.1 * (0 + -(A 2 1 - A 2 2) + (A 1 1 - A 1 2)) = -(A 2 1 - A 2 2) * (x.1 + x.2.1 + x.2.2)
    rw [h0] at e ⊢
    grind
  · show x.2.2 * (0 + -(A 2 1 - A 2 2) + (A 1 1 - A 1 2)) = (A 1 1 - A 1 2) * (x.1 + x.2.1 + x.2.2)
    rw [h0] at e ⊢
    grind
  · intro i hi hit
    have : i = 1 ∨ i = 2 := by
      have hk3 : i = 0 ∨ i = 1 ∨ i = 2 := by omega
      rcases hk3 with rfl | rfl | rfl <;> revert hit <;> decide
    rcases this with rfl | rfl
    · exact ej
    · exact ek
theorem bm_v2_12 {A : Nat → Nat → Int} {M O : Nat} {x : bm_V} {m : Int} (hO : O < 8) (hM8 : M < 8) (hMa : M.testBit 1 = true) (hMb : M.testBit 2 = true) (ha : x.2.1 ≠ 0) (hb : x.2.2 ≠ 0) (h0 : x.1 = 0) : bm_CA A M O x m ∨ bm_CB A O x m := by
  by_cases c : bm_CA A M O x m
  · exact Or.inl c
  · right
    have key : ∀ j k, j < 3 → k < 3 → O.testBit j = true → bm_gn A x j = m → O.testBit k = true → bm_gn A x k = m → j < k → A 1 j - A 2 j = A 1 k - A 2 k := by
      intro j k hj hk oj ej ok ek hjk
      rcases Decidable.em (A 1 j - A 2 j = A 1 k - A 2 k) with y | y
      · exact y
      · exfalso
        apply c
        have hh : (j = 0 ∧ k = 1) ∨ (j = 0 ∧ k = 2) ∨ (j = 1 ∧ k = 2) := by omega
        rcases hh with ⟨rfl, rfl⟩ | ⟨rfl, rfl⟩ | ⟨rfl, rfl⟩
        · exact bm_v2_12_01 hO hM8 hMa hMb h0 oj ok ej ek y
        · exact bm_v2_12_02 hO hM8 hMa hMb h0 oj ok ej ek y
        · exact bm_v2_12_12 hO hM8 hMa hMb h0 oj ok ej ek y
    refine ⟨(0, 1, -1), by decide, by decide, by dsimp only; omega, by dsimp only; omega, by dsimp only; omega, ?_⟩
    intro j k hj hk oj ej ok ek
    unfold bm_gn
    dsimp only
    rcases Nat.lt_trichotomy j k with h | h | h
    · have := key j k hj hk oj ej ok ek h
      omega
    · rw [h]
    · have := key k j hk hj ok ek oj ej h
      omega
theorem bm_v3a {A : Nat → Nat → Int} {M O : Nat} {x : bm_V} {m : Int} (hM : M = 7) (hO : O = 7) (e0 : bm_gn A x 0 = m) (e1 : bm_gn A x 1 = m) (e2 : bm_gn A x 2 = m) (hd : bm_cr A 1 2 + bm_cr A 2 0 + bm_cr A 0 1 ≠ 0) : bm_CA A M O x m := by
  subst hM hO
  have f1 : bm_gn A x 0 = bm_gn A x 1 := e0.trans e1.symm
  have f2 : bm_gn A x 1 = bm_gn A x 2 := e1.trans e2.symm
  unfold bm_gn at f1 f2
  refine ⟨7, 7, by omega, by omega, ⟨by decide, by decide, by decide, by decide⟩, hd, ?_, ?_, ?_, ?_⟩
  · show x.1 * (bm_cr A 1 2 + bm_cr A 2 0 + bm_cr A 0 1) = bm_cr A 1 2 * (x.1 + x.2.1 + x.2.2)
    unfold bm_cr
    grind
  · show x.2.1 * (bm_cr A 1 2 + bm_cr A 2 0 + bm_cr A 0 1) = bm_cr A 2 0 * (x.1 + x.2.1 + x.2.2)
    unfold bm_cr
    grind
  · show x.2.2 * (bm_cr A 1 2 + bm_cr A 2 0 + bm_cr A 0 1) = bm_cr A 0 1 * (x.1 + x.2.1 + x.2.2)
    unfold bm_cr
    grind
  · intro j hj _
    have hj3 : j = 0 ∨ j = 1 ∨ j = 2 := by omega
    rcases hj3 with rfl | rfl | rfl
    · exact e0
    · exact e1
    · exact e2
theorem bm_v3b {A : Nat → Nat → Int} {O : Nat} {x : bm_V} {m : Int} (u z : bm_V) (h1 : x.1 ≠ 0) (h2 : x.2.1 ≠ 0) (h3 : x.2.2 ≠ 0) (h : (u.2.1 * z.2.2 - u.2.2 * z.2.1) + (u.2.2 * z.1 - u.1 * z.2.2) + (u.1 * z.2.1 - u.2.1 * z.1) = 0)
    (k : ∀ d : bm_V, d.1 * u.1 + d.2.1 * u.2.1 + d.2.2 * u.2.2 = 0 → d.1 * z.1 + d.2.1 * z.2.1 + d.2.2 * z.2.2 = 0 → ∀ j k, j < k → k < 3 → O.testBit j = true → bm_gn A x j = m → O.testBit k = true → bm_gn A x k = m → bm_gn A d j = bm_gn A d k) : bm_CB A O x m := by
  obtain ⟨d, d0, dn, du, dz⟩ := bm_dir u z h
  refine ⟨d, d0, dn, fun e => absurd e h1, fun e => absurd e h2, fun e => absurd e h3, ?_⟩
  intro j k' hj hk oj ej ok ek
  rcases Nat.lt_trichotomy j k' with y | y | y
  · exact k d du dz j k' y hk oj ej ok ek
  · rw [y]
  · exact (k d du dz k' j y hj ok ek oj ej).symm
theorem bm_v3 {A : Nat → Nat → Int} {M O : Nat} {x : bm_V} {m : Int} (hO : O < 8) (hM : M = 7) (h1 : x.1 ≠ 0) (h2 : x.2.1 ≠ 0) (h3 : x.2.2 ≠ 0) : bm_CA A M O x m ∨ bm_CB A O x m := by
  by_cases t0 : O.testBit 0 = true ∧ bm_gn A x 0 = m
  · by_cases t1 : O.testBit 1 = true ∧ bm_gn A x 1 = m
    · by_cases t2 : O.testBit 2 = true ∧ bm_gn A x 2 = m
      · have hO7 : O = 7 := bm_is7 O hO t0.1 t1.1 t2.1
        by_cases hd : bm_cr A 1 2 + bm_cr A 2 0 + bm_cr A 0 1 = 0
        · right
          refine bm_v3b (A 0 0 - A 0 1, A 1 0 - A 1 1, A 2 0 - A 2 1) (A 0 1 - A 0 2, A 1 1 - A 1 2, A 2 1 - A 2 2) h1 h2 h3 ?_ ?_
          · dsimp only
            unfold bm_cr at hd
            grind
          · intro d du dz j k hjk hk _ _ _ _
            dsimp only at du dz
            unfold bm_gn
            have hh : (j = 0 ∧ k = 1) ∨ (j = 0 ∧ k = 2) ∨ (j = 1 ∧ k = 2) := by omega
            rcases hh with ⟨rfl, rfl⟩ | ⟨rfl, rfl⟩ | ⟨rfl, rfl⟩ <;> grind
        · exact Or.inl (bm_v3a hM hO7 t0.2 t1.2 t2.2 hd)
      · right
        refine bm_v3b (A 0 0 - A 0 1, A 1 0 - A 1 1, A 2 0 - A 2 1) (0, 0, 0) h1 h2 h3 (by dsimp only; omega) ?_
        intro d du _ j k hjk hk oj ej ok ek
        have : ¬ k = 2 := by
          rintro rfl
          exact t2 ⟨ok, ek⟩
        obtain ⟨rfl, rfl⟩ : j = 0 ∧ k = 1 := by omega
        dsimp only at du
        unfold bm_gn
        grind
    · right
      refine bm_v3b (A 0 0 - A 0 2, A 1 0 - A 1 2, A 2 0 - A 2 2) (0, 0, 0) h1 h2 h3 (by dsimp only; omega) ?_
      intro d du _ j k hjk hk oj ej ok ek
      have n1 : ¬ k = 1 := by
        rintro rfl
        exact t1 ⟨ok, ek⟩
      have n2 : ¬ j = 1 := by
        rintro rfl
        exact t1 ⟨oj, ej⟩
      obtain ⟨rfl, rfl⟩ : j = 0 ∧ k = 2 := by omega
      dsimp only at du
      unfold bm_gn
      grind
  · right
    refine bm_v3b (A 0 1 - A 0 2, A 1 1 - A 1 2, A 2 1 - A 2 2) (0, 0, 0) h1 h2 h3 (by dsimp only; omega) ?_
    intro d du _ j k hjk hk oj ej ok ek
    have n2 : ¬ j = 0 := by
      rintro rfl
      exact t0 ⟨oj, ej⟩
    obtain ⟨rfl, rfl⟩ : j = 1 ∧ k = 2 := by omega
    dsimp only at du
    unfold bm_gn
    grind
theorem bm_alt {A : Nat → Nat → Int} {M O : Nat} {x : bm_V} {m : Int} (hO : O < 8) (hM8 : M < 8) (hx : bm_X M x) (hm : bm_M A O x m) : bm_CA A M O x m ∨ bm_CB A O x m := by
  obtain ⟨x1, x2, x3, xs, s1, s2, s3⟩ := hx
  have b0 : x.1 ≠ 0 → M.testBit 0 = true := fun h => by
    cases e : M.testBit 0
    · exact absurd (s1 e) h
    · rfl
  have b1 : x.2.1 ≠ 0 → M.testBit 1 = true := fun h => by
    cases e : M.testBit 1
    · exact absurd (s2 e) h
    · rfl
  have b2 : x.2.2 ≠ 0 → M.testBit 2 = true := fun h => by
    cases e : M.testBit 2
    · exact absurd (s3 e) h
    · rfl
  by_cases h1 : x.1 = 0 <;> by_cases h2 : x.2.1 = 0 <;> by_cases h3 : x.2.2 = 0
  · unfold bm_sg at xs
    omega
  · exact Or.inl (bm_v1_2 hO hM8 hm (b2 h3) h1 h2)
  · exact Or.inl (bm_v1_1 hO hM8 hm (b1 h2) h1 h3)
  · exact bm_v2_12 hO hM8 (b1 h2) (b2 h3) h2 h3 h1
  · exact Or.inl (bm_v1_0 hO hM8 hm (b0 h1) h2 h3)
  · exact bm_v2_02 hO hM8 (b0 h1) (b2 h3) h1 h3 h2
  · exact bm_v2_01 hO hM8 (b0 h1) (b1 h2) h1 h2 h3
  · exact bm_v3 hO (bm_is7 M hM8 (b0 h1) (b1 h2) (b2 h3)) h1 h2 h3
/-- a corner: a demand whose solution has its ties among the most -/
def bm_cor (A : Nat → Nat → Int) (M O S T : Nat) (v : bm_V) : Prop := bm_fit M O S T ∧ bm_ok (bm_raw A S T) ∧ v = bm_nv (bm_raw A S T) ∧ ∃ m, bm_M A O v m ∧ ∀ j, j < 3 → T.testBit j = true → bm_gn A v j = m
/-- from every mix a corner is reached: nothing tight is lost, the most does not grow -/
theorem bm_vertex {A : Nat → Nat → Int} {M O : Nat} (hO : O < 8) (hM8 : M < 8) : ∀ (n : Nat) (x : bm_V) (m : Int), bm_mu A O x m < n → bm_X M x → bm_M A O x m →
    ∃ S T v mv, S < 8 ∧ T < 8 ∧ bm_cor A M O S T v ∧ bm_M A O v mv ∧ (∀ j, j < 3 → O.testBit j = true → bm_gn A x j = m → bm_gn A v j = mv) ∧ mv * bm_sg x ≤ m * bm_sg v := by
  intro n
  induction n with
  | zero =>
    intro x m hn
    omega
  | succ n ih =>
    intro x m hn hx hm
    rcases bm_alt hO hM8 hx hm with ⟨S, T, hS, hT, hf, h0, e1, e2, e3, ht⟩ | ⟨d, d0, dn, z1, z2, z3, hd⟩
    · have hok : bm_ok (bm_raw A S T) := bm_ok_of h0 hx.1 hx.2.1 hx.2.2.1 hx.2.2.2.1 e1 e2 e3
      have hP := bm_nv_P hok
      have hmul := bm_nv_mul h0
      have hc : bm_e (bm_raw A S T) * (bm_g3 (bm_raw A S T) : Int) ≠ 0 := by
        intro z
        rw [z] at hmul
        simp only [Int.zero_mul] at hmul
        apply h0
        rw [hmul]
        rfl
      generalize hcc : bm_e (bm_raw A S T) * (bm_g3 (bm_raw A S T) : Int) = c at hmul hc
      generalize hv : bm_nv (bm_raw A S T) = v at hmul hP
      generalize hr : bm_raw A S T = r at *
      have m1 : r.1 = c * v.1 := congrArg Prod.fst hmul
      have m2 : r.2.1 = c * v.2.1 := congrArg (fun v : bm_V => v.2.1) hmul
      have m3 : r.2.2 = c * v.2.2 := congrArg (fun v : bm_V => v.2.2) hmul
      have ms : bm_sg r = c * bm_sg v := by
        unfold bm_sg
        rw [m1, m2, m3, Int.mul_add, Int.mul_add]
      have f1 := bm_pr_of (x := x) h0 c hc (bm_sg v) m1 ms e1
      have f2 := bm_pr_of (x := x) h0 c hc (bm_sg v) m2 ms e2
      have f3 := bm_pr_of (x := x) h0 c hc (bm_sg v) m3 ms e3
      have hg := bm_sg_gn (A := A) f1 f2 f3
      have hsx := hx.2.2.2.1
      have hsv := hP.2.2.2.1
      obtain ⟨j0, hj0, hO0, t0⟩ := hm.2
      have tight : ∀ j, j < 3 → bm_gn A x j = m → bm_gn A v j = bm_gn A v j0 := by
        intro j hj e
        have a := hg j
        have b := hg j0
        rw [e] at a
        rw [t0] at b
        exact Int.eq_of_mul_eq_mul_right (by omega) (a.symm.trans b)
      have hM : bm_M A O v (bm_gn A v j0) := by
        refine ⟨?_, j0, hj0, hO0, rfl⟩
        intro j hj hOj
        have a := hg j
        have b := hg j0
        rw [t0] at b
        have := hm.1 j hj hOj
        have : bm_gn A x j * bm_sg v ≤ m * bm_sg v := Int.mul_le_mul_of_nonneg_right this (by omega)
        rw [a, b] at this
        exact Int.le_of_mul_le_mul_right this hsx
      refine ⟨S, T, v, bm_gn A v j0, hS, hT, ⟨hf, by rw [hr]; exact hok, by rw [hr, hv], bm_gn A v j0, hM, ?_⟩, hM, ?_, ?_⟩
      · intro j hj hTj
        exact tight j hj (ht j hj hTj)
      · intro j hj _ e
        exact tight j hj e
      · have b := hg j0
        rw [t0] at b
        omega
    · obtain ⟨j0, hj0, hO0, t0⟩ := hm.2
      have go : ∀ (d : bm_V) (l : Int), bm_sg d = 0 → d ≠ (0, 0, 0) → (x.1 = 0 → d.1 = 0) → (x.2.1 = 0 → d.2.1 = 0) → (x.2.2 = 0 → d.2.2 = 0) → (∀ j, j < 3 → O.testBit j = true → bm_gn A x j = m → bm_gn A d j = l) → l ≤ 0 → ∃ S T v mv, S < 8 ∧ T < 8 ∧ bm_cor A M O S T v ∧ bm_M A O v mv ∧ (∀ j, j < 3 → O.testBit j = true → bm_gn A x j = m → bm_gn A v j = mv) ∧ mv * bm_sg x ≤ m * bm_sg v := by
        intro d l d0 dn z1 z2 z3 ht hl
        obtain ⟨x', m', hx', hm', hk, hle, hmu⟩ := bm_step hx hm d0 dn z1 z2 z3 ht hl
        obtain ⟨S, T, v, mv, hS, hT, hcor, hMv, hkeep, hle2⟩ := ih x' m' (by omega) hx' hm'
        refine ⟨S, T, v, mv, hS, hT, hcor, hMv, fun j hj hOj e => hkeep j hj hOj (hk j hj hOj e), ?_⟩
        have hsx := hx.2.2.2.1
        have hsx' := hx'.2.2.2.1
        have hsv : 0 < bm_sg v := by
          obtain ⟨hf, hok, hv, -⟩ := hcor
          rw [hv]
          exact (bm_nv_P hok).2.2.2.1
        have a : (mv * bm_sg x') * bm_sg x ≤ (m' * bm_sg v) * bm_sg x := Int.mul_le_mul_of_nonneg_right hle2 (by omega)
        have b : (m' * bm_sg x) * bm_sg v ≤ (m * bm_sg x') * bm_sg v := Int.mul_le_mul_of_nonneg_right hle (by omega)
        have c1 : (mv * bm_sg x') * bm_sg x = (mv * bm_sg x) * bm_sg x' := by grind
        have c2 : (m' * bm_sg v) * bm_sg x = (m' * bm_sg x) * bm_sg v := by grind
        have c3 : (m * bm_sg x') * bm_sg v = (m * bm_sg v) * bm_sg x' := by grind
        have : (mv * bm_sg x) * bm_sg x' ≤ (m * bm_sg v) * bm_sg x' := by omega
        exact Int.le_of_mul_le_mul_right this hsx'
      rcases Int.lt_or_le 0 (bm_gn A d j0) with y | y
      · have hneg : ∀ j, bm_gn A (-d.1, -d.2.1, -d.2.2) j = - bm_gn A d j := by
          intro j
          unfold bm_gn
          dsimp only
          grind
        refine go (-d.1, -d.2.1, -d.2.2) (- bm_gn A d j0) ?_ ?_ ?_ ?_ ?_ ?_ (by omega)
        · unfold bm_sg at d0 ⊢
          dsimp only
          omega
        · intro e
          apply dn
          have e1 : -d.1 = 0 := congrArg Prod.fst e
          have e2 : -d.2.1 = 0 := congrArg (fun v : bm_V => v.2.1) e
          have e3 : -d.2.2 = 0 := congrArg (fun v : bm_V => v.2.2) e
          obtain ⟨a, b, c⟩ := d
          dsimp only at e1 e2 e3
          rw [show a = 0 by omega, show b = 0 by omega, show c = 0 by omega]
        · intro h; have := z1 h; dsimp only; omega
        · intro h; have := z2 h; dsimp only; omega
        · intro h; have := z3 h; dsimp only; omega
        · intro j hj hOj e
          rw [hneg, hd j j0 hj hj0 hOj e hO0 t0]
      · exact go d (bm_gn A d j0) d0 dn z1 z2 z3 (fun j hj hOj e => hd j j0 hj hj0 hOj e hO0 t0) y
