/-! the mathematics of replies and of what is sure -/
def bm_sol (A : Nat → Nat → Int) (M O S T : Nat) : Prop := bm_fit M O S T ∧ bm_ok (bm_raw A S T)
theorem bm_fit_O {M O S T : Nat} (hS : S < 8) (hT : T < 8) (h : bm_fit M O S T) : ∃ j, j < 3 ∧ T.testBit j = true ∧ O.testBit j = true := by
  obtain ⟨h0, -, hO, hz⟩ := h
  have hT0 : T ≠ 0 := by
    intro z
    subst z
    exact h0 (bx_t5 ⟨S, hS⟩ hz)
  rcases Classical.em (∃ j, j < 3 ∧ T.testBit j = true) with ⟨j, hj, hb⟩ | hne
  · refine ⟨j, hj, hb, ?_⟩
    rw [← hO, Nat.testBit_and, Bool.and_eq_true] at hb
    exact hb.2
  · exfalso
    apply hT0
    apply bm_8e hT (by omega)
    intro j hj
    rw [Nat.zero_testBit]
    cases e : T.testBit j
    · rfl
    · exact absurd ⟨j, hj, e⟩ hne
theorem bm_sol_X {A : Nat → Nat → Int} {M O S T : Nat} (hS : S < 8) (h : bm_sol A M O S T) : bm_X M (bm_nv (bm_raw A S T)) := by
  have hP := bm_nv_P h.2
  exact ⟨hP.1, hP.2.1, hP.2.2.1, hP.2.2.2.1, fun e => bm_fit_s (i := 0) hS h.1 (by omega) e, fun e => bm_fit_s (i := 1) hS h.1 (by omega) e, fun e => bm_fit_s (i := 2) hS h.1 (by omega) e⟩
theorem bm_gn_lo {A : Nat → Nat → Int} (hA : bm_A9 A) {v : bm_V} (hv : bm_b3 v) : ∀ j, j < 3 → -1000000 < bm_gn A v j := fun j hj => by
  have := bm_gn_b hA hv hj
  omega
theorem bm_cor_K {A : Nat → Nat → Int} {M O S T : Nat} {v : bm_V} (hA : bm_A9 A) (hS : S < 8) (hT : T < 8) (h : bm_cor A M O S T v) : bm_K A M O S T ∧ v = bm_nv (bm_raw A S T) := by
  obtain ⟨hf, hok, rfl, m, hM, ht⟩ := h
  refine ⟨⟨hf, hok, ?_⟩, rfl⟩
  obtain ⟨j0, hj0, hT0, hO0⟩ := bm_fit_O hS hT hf
  have hb := bm_nv_b (bm_raw_b hA S T) hok
  have e := bm_M_u hM (bm_mx_M (bm_gn_lo hA hb) ⟨j0, hj0, hO0⟩)
  have key : ∀ j, j < 3 → T.testBit j = true → (bm_rp A O (bm_nv (bm_raw A S T))).testBit j = true := by
    intro j hj htj
    rw [bm_rp_t hj]
    refine ⟨?_, by rw [ht j hj htj, e]⟩
    have := hf.2.2.1
    rw [← this, Nat.testBit_and, Bool.and_eq_true] at htj
    exact htj.2
  exact bm_sub8 _ (bm_rp8 _ _ _) T hT (key 0 (by omega)) (key 1 (by omega)) (key 2 (by omega))
/-- to every mix a corner that loses nothing -/
theorem bm_toK {A : Nat → Nat → Int} {M O : Nat} (hA : bm_A9 A) (hM : M < 8) (hO : O < 8) {x : bm_V} {m : Int} (hx : bm_X M x) (hm : bm_M A O x m) : ∃ S T, S < 8 ∧ T < 8 ∧ bm_K A M O S T ∧ (∀ j, j < 3 → O.testBit j = true → bm_gn A x j = m → (bm_rp A O (bm_nv (bm_raw A S T))).testBit j = true) ∧ bm_mx A O (bm_nv (bm_raw A S T)) * bm_sg x ≤ m * bm_sg (bm_nv (bm_raw A S T)) := by
  obtain ⟨S, T, v, mv, hS, hT, hc, hMv, hk, hle⟩ := bm_vertex hO hM (bm_mu A O x m + 1) x m (by omega) hx hm
  obtain ⟨hK, rfl⟩ := bm_cor_K hA hS hT hc
  have hb := bm_nv_b (bm_raw_b hA S T) hK.2.1
  obtain ⟨j0, hj0, -, hO0⟩ := bm_fit_O hS hT hK.1
  have e := bm_M_u hMv (bm_mx_M (bm_gn_lo hA hb) ⟨j0, hj0, hO0⟩)
  refine ⟨S, T, hS, hT, hK, fun j hj hOj hg => ?_, by rw [← e]; exact hle⟩
  rw [bm_rp_t hj]
  exact ⟨hOj, by rw [hk j hj hOj hg, e]⟩
def bm_RX (A : Nat → Nat → Int) (M O f : Nat) : Prop := f < 8 ∧ ∀ j, j < 3 → (f.testBit j = true ↔ ∃ S T, S < 8 ∧ T < 8 ∧ bm_sol A M O S T ∧ (bm_rp A O (bm_nv (bm_raw A S T))).testBit j = true)
def bm_RY (A : Nat → Nat → Int) (M O f : Nat) : Prop := f < 8 ∧ ∀ j, j < 3 → (f.testBit j = true ↔ ∃ S T, S < 8 ∧ T < 8 ∧ bm_K A M O S T ∧ (bm_rp A O (bm_nv (bm_raw A S T))).testBit j = true)
theorem bm_RXY {A : Nat → Nat → Int} {M O f g : Nat} (hA : bm_A9 A) (hM : M < 8) (hO : O < 8) (hf : bm_RX A M O f) (hg : bm_RY A M O g) : f = g := by
  apply bm_8e hf.1 hg.1
  intro j hj
  rw [Bool.eq_iff_iff, hf.2 j hj, hg.2 j hj]
  constructor
  · rintro ⟨S, T, hS, hT, hs, hr⟩
    have hb := bm_nv_b (bm_raw_b hA S T) hs.2
    have hr' := (bm_rp_t hj).mp hr
    have hM' := bm_mx_M (bm_gn_lo hA hb) ⟨j, hj, hr'.1⟩
    obtain ⟨S', T', hS', hT', hK, hk, -⟩ := bm_toK hA hM hO (bm_sol_X hS hs) hM'
    exact ⟨S', T', hS', hT', hK, hk j hj hr'.1 hr'.2⟩
  · rintro ⟨S, T, hS, hT, hK, hr⟩
    exact ⟨S, T, hS, hT, ⟨hK.1, hK.2.1⟩, hr⟩
/-- the fraction in lowest terms is one -/
theorem bm_red_u {t b t' b' : Int} (hb : 0 < b) (hb' : 0 < b') (h : t * b' = t' * b) : t.tdiv (bm_q t b) = t'.tdiv (bm_q t' b') ∧ b.tdiv (bm_q t b) = b'.tdiv (bm_q t' b') := by
  have g0 := bm_q_pos (t := t) hb
  have g0' := bm_q_pos (t := t') hb'
  have e1 : Nat.gcd (t * b').natAbs (b * b').natAbs = bm_q t b * b'.natAbs := by
    rw [Int.natAbs_mul, Int.natAbs_mul, Nat.gcd_mul_right]
    rfl
  have e2 : Nat.gcd (t' * b).natAbs (b * b').natAbs = bm_q t' b' * b.natAbs := by
    rw [Int.mul_comm b b', Int.natAbs_mul, Int.natAbs_mul, Nat.gcd_mul_right]
    rfl
  rw [h, e2] at e1
  have d1 : (bm_q t b : Int) ∣ t := Int.ofNat_dvd_left.mpr (Nat.gcd_dvd_left _ _)
  have d2 : (bm_q t b : Int) ∣ b := Int.ofNat_dvd_left.mpr (Nat.gcd_dvd_right _ _)
  have d3 : (bm_q t' b' : Int) ∣ t' := Int.ofNat_dvd_left.mpr (Nat.gcd_dvd_left _ _)
  have d4 : (bm_q t' b' : Int) ∣ b' := Int.ofNat_dvd_left.mpr (Nat.gcd_dvd_right _ _)
  have e3 : (bm_q t' b' : Int) * b = bm_q t b * b' := by
    have := congrArg (fun n : Nat => (n : Int)) e1
    simp only [Int.natCast_mul] at this
    rw [show ((b.natAbs : Nat) : Int) = b by omega, show ((b'.natAbs : Nat) : Int) = b' by omega] at this
    exact this
  rw [Int.tdiv_eq_ediv_of_dvd d1, Int.tdiv_eq_ediv_of_dvd d2, Int.tdiv_eq_ediv_of_dvd d3, Int.tdiv_eq_ediv_of_dvd d4]
  generalize hg : (bm_q t b : Int) = g at *
  generalize hg' : (bm_q t' b' : Int) = g' at *
  have gp : 0 < g := by omega
  have gp' : 0 < g' := by omega
  obtain ⟨u, hu⟩ := d1
  obtain ⟨c, hc⟩ := d2
  obtain ⟨u', hu'⟩ := d3
  obtain ⟨c', hc'⟩ := d4
  rw [hu, hc, hu', hc', Int.mul_ediv_cancel_left _ (by omega), Int.mul_ediv_cancel_left _ (by omega), Int.mul_ediv_cancel_left _ (by omega), Int.mul_ediv_cancel_left _ (by omega)]
  have gg : g * g' ≠ 0 := by
    have := Int.mul_pos gp gp'
    omega
  have k1 : c = c' := by
    rw [hc, hc'] at e3
    apply Int.eq_of_mul_eq_mul_left gg
    grind
  have cp : c ≠ 0 := by
    intro z
    rw [z, Int.mul_zero] at hc
    omega
  refine ⟨?_, k1⟩
  rw [hu, hc, hu', hc', ← k1] at h
  have k2 : g * g' * c ≠ 0 := by
    intro z
    rcases Int.mul_eq_zero.mp z with z | z
    · exact gg z
    · exact cp z
  apply Int.eq_of_mul_eq_mul_left k2
  grind
/-- the component's most sure fraction over the demands below d -/
def bm_SX (B : Nat → Nat → Int) (M O d : Nat) (t b : Int) : Prop := (0 < b ∧ b ≤ 1944 ∧ -17496 ≤ t ∧ t ≤ 17496) ∧ (∀ e, e < d → bm_sol B M O (7 - e / 8) (e % 8) → -(bm_mx B O (bm_nv (bm_raw B (7 - e / 8) (e % 8)))) * b ≤ t * bm_sg (bm_nv (bm_raw B (7 - e / 8) (e % 8)))) ∧ ((t = -9 ∧ b = 1) ∨ ∃ e, e < d ∧ bm_sol B M O (7 - e / 8) (e % 8) ∧ b = bm_sg (bm_nv (bm_raw B (7 - e / 8) (e % 8))) ∧ t = -(bm_mx B O (bm_nv (bm_raw B (7 - e / 8) (e % 8)))))
/-- the reference's, over the first k corners -/
def bm_SY (B : Nat → Nat → Int) (O : Nat) (L : List bm_V) (k : Nat) (t b : Int) : Prop := ((k = 0 ∧ t = 0 ∧ b = 0) ∨ (0 < b ∧ ∃ j v, j < k ∧ L[j]? = some v ∧ t = bm_mx B O v ∧ b = bm_sg v)) ∧ ∀ j v, j < k → L[j]? = some v → t * bm_sg v ≤ bm_mx B O v * b
theorem bm_mx9 {B : Nat → Nat → Int} (hB : bm_A9 B) {O : Nat} {v : bm_V} (hv : bm_P v) (hM : bm_M B O v (bm_mx B O v)) : bm_mx B O v ≤ 9 * bm_sg v := by
  obtain ⟨j, hj, -, e⟩ := hM.2
  rw [← e]
  unfold bm_gn bm_sg
  have h0 := hB 0 j (by omega) hj
  have h1 := hB 1 j (by omega) hj
  have h2 := hB 2 j (by omega) hj
  have k0 : v.1 * B 0 j ≤ v.1 * 9 := Int.mul_le_mul_of_nonneg_left h0.2 hv.1
  have k1 : v.2.1 * B 1 j ≤ v.2.1 * 9 := Int.mul_le_mul_of_nonneg_left h1.2 hv.2.1
  have k2 : v.2.2 * B 2 j ≤ v.2.2 * 9 := Int.mul_le_mul_of_nonneg_left h2.2 hv.2.2.1
  omega
theorem bm_SXY {B : Nat → Nat → Int} {M O : Nat} {L : List bm_V} {t b t' b' : Int} (hB : bm_A9 B) (hM : M < 8) (hO : O < 8) (hO0 : O.testBit 0 = true) (hM0 : M.testBit 0 = true) (hL : bm_IsL B M O L) (hx : bm_SX B M O 64 t b) (hy : bm_SY B O L L.length t' b') : 0 < b' ∧ t * b' = (-t') * b := by
  obtain ⟨⟨b0, -, -, -⟩, xall, xc⟩ := hx
  obtain ⟨yc, yall⟩ := hy
  have hne : ∃ v, v ∈ L := by
    have hX : bm_X M (1, 0, 0) := ⟨by decide, by decide, by decide, by decide, fun e => (by rw [hM0] at e; cases e), fun _ => rfl, fun _ => rfl⟩
    have hb3 : bm_b3 (1, 0, 0) := by unfold bm_b3; decide
    obtain ⟨S, T, hS, hT, hK, -, -⟩ := bm_toK hB hM hO hX (bm_mx_M (bm_gn_lo hB hb3) ⟨0, by omega, hO0⟩)
    exact ⟨_, (hL.2 _).mpr ⟨S, T, hS, hT, hK, rfl⟩⟩
  have hb' : 0 < b' ∧ ∃ v, v ∈ L ∧ t' = bm_mx B O v ∧ b' = bm_sg v := by
    rcases yc with ⟨z, -, -⟩ | ⟨p, j, v, hj, hv, e1, e2⟩
    · obtain ⟨v, hv⟩ := hne
      rw [List.eq_nil_of_length_eq_zero z] at hv
      cases hv
    · exact ⟨p, v, List.mem_of_getElem? hv, e1, e2⟩
  obtain ⟨p, v, hv, e1, e2⟩ := hb'
  refine ⟨p, ?_⟩
  obtain ⟨S, T, hS, hT, hK, hvv⟩ := (hL.2 v).mp hv
  have ge : -t' * b ≤ t * b' := by
    have := xall (8 * (7 - S) + T) (by omega)
    rw [show 7 - (8 * (7 - S) + T) / 8 = S by omega, show (8 * (7 - S) + T) % 8 = T by omega] at this
    have := this ⟨hK.1, hK.2.1⟩
    rw [← hvv, ← e1, ← e2] at this
    exact this
  have le : t * b' ≤ -t' * b := by
    rcases xc with ⟨rfl, rfl⟩ | ⟨e, he, hs, f1, f2⟩
    · have hb := bm_nv_b (bm_raw_b hB S T) hK.2.1
      have := bm_mx9 hB (v := v) (O := O) (hL.1.2 v hv) (by rw [hvv]; exact bm_mx_M (bm_gn_lo hB hb) ⟨0, by omega, hO0⟩)
      rw [← e1, ← e2] at this
      omega
    · have hb := bm_nv_b (bm_raw_b hB (7 - e / 8) (e % 8)) hs.2
      have hP := bm_nv_P hs.2
      obtain ⟨S', T', hS', hT', hK', -, hle⟩ := bm_toK hB hM hO (bm_sol_X (by omega) hs) (bm_mx_M (bm_gn_lo hB hb) ⟨0, by omega, hO0⟩)
      generalize bm_nv (bm_raw B (7 - e / 8) (e % 8)) = x at *
      have hv' : bm_nv (bm_raw B S' T') ∈ L := (hL.2 _).mpr ⟨S', T', hS', hT', hK', rfl⟩
      obtain ⟨j, hj⟩ := List.mem_iff_getElem?.mp hv'
      have hjl := (List.getElem?_eq_some_iff.mp hj).1
      have ya := yall j _ hjl hj
      have hP' := bm_nv_P hK'.2.1
      generalize bm_nv (bm_raw B S' T') = y at *
      have sx := hP.2.2.2.1
      have sy := hP'.2.2.2.1
      -- t' * sy ≤ m(y) * b',  m(y) * sx ≤ m(x) * sy,  t = -m(x), b = sx
      have k1 : (t' * bm_sg y) * bm_sg x ≤ (bm_mx B O y * b') * bm_sg x := Int.mul_le_mul_of_nonneg_right ya (by omega)
      have k2 : (bm_mx B O y * bm_sg x) * b' ≤ (bm_mx B O x * bm_sg y) * b' := Int.mul_le_mul_of_nonneg_right hle (by omega)
      have k3 : (bm_mx B O y * b') * bm_sg x = (bm_mx B O y * bm_sg x) * b' := by grind
      have k4 : (t' * bm_sg y) * bm_sg x = (t' * bm_sg x) * bm_sg y := by grind
      have k5 : (bm_mx B O x * bm_sg y) * b' = (bm_mx B O x * b') * bm_sg y := by grind
      have k6 : (t' * bm_sg x) * bm_sg y ≤ (bm_mx B O x * b') * bm_sg y := by omega
      have k7 : t' * bm_sg x ≤ bm_mx B O x * b' := Int.le_of_mul_le_mul_right k6 sy
      rw [f1, f2, Int.neg_mul, Int.neg_mul]
      omega
  omega
