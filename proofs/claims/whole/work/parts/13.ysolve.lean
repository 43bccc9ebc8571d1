theorem bm_nv_at {m : bm_V} (h : bm_sg m ≠ 0) (i : Nat) : (bm_e m * bm_at m i).tdiv (bm_g3 m : Int) = bm_at (bm_nv m) i ∧ (0 ≤ bm_at (bm_nv m) i ↔ 0 ≤ bm_e m * bm_at m i) := by
  obtain ⟨d1, d2, d3⟩ := bm_g3_d (m := m)
  have hg : (0 : Int) < bm_g3 m := by have := bm_g3_pos h; omega
  have key : ∀ a : Int, (bm_g3 m : Int) ∣ a → (bm_e m * a).tdiv (bm_g3 m : Int) = (bm_e m * a) / (bm_g3 m : Int) ∧ (0 ≤ (bm_e m * a) / (bm_g3 m : Int) ↔ 0 ≤ bm_e m * a) := by
    intro a ha
    have hd : (bm_g3 m : Int) ∣ bm_e m * a := Int.dvd_mul_of_dvd_right ha
    refine ⟨Int.tdiv_eq_ediv_of_dvd hd, ⟨fun q => ?_, fun q => Int.ediv_nonneg q (by omega)⟩⟩
    have := Int.mul_ediv_cancel' hd
    have := Int.mul_nonneg (Int.le_of_lt hg) q
    omega
  unfold bm_nv bm_at
  dsimp only
  split
  · exact key _ d1
  · split
    · exact key _ d2
    · exact key _ d3
section
variable {yr yc : Int32} {yp ys yn yq yw ym yg : Nat → Int32}
theorem by_342 {post : Int32 → SY → Prop} {m : bm_V} (hb : bm_b3 m) (h0 : bm_sg m ≠ 0) (hm : bm_H ym m) (h1 : bm_ok m → ∀ ym', bm_H ym' (bm_nv m) → post 1 (yr, yc, yp, ys, yn, yq, yw, ym', yg)) (h2 : ¬ bm_ok m → ∀ ym', post 0 (yr, yc, yp, ys, yn, yq, yw, ym', yg)) : ∃ n, wY_solve_342 post (bm_i (bm_e m)) (nI (bm_g3 m)) yr yc n 0 yp ys yn yq yw ym yg := by
  have hg0 := bm_g3_pos h0
  have hs := bm_sg_b hb
  have hg1 : bm_g3 m ≤ 1944 := by
    have e := bm_sg_nv h0
    rcases Decidable.em (bm_sg (bm_nv m) = 0) with z | z
    · exfalso
      rw [z, Int.mul_zero, bm_em_sg] at e
      unfold bm_e at e
      split at e <;> omega
    · have q := bm_sg_b (bm_em_b hb)
      have n1 : (bm_sg (bm_em m)).natAbs = bm_g3 m * (bm_sg (bm_nv m)).natAbs := by rw [e, Int.natAbs_mul, Int.natAbs_natCast]
      have n2 : bm_g3 m * 1 ≤ bm_g3 m * (bm_sg (bm_nv m)).natAbs := Nat.mul_le_mul_left _ (by omega)
      omega
  have hne : ¬ nI (bm_g3 m) = 0 := nI_ne0 hg0 (by omega)
  have step : ∀ (n i : Nat) (a : Nat → Int32), i < 3 → a i = bm_i (bm_at m i) → (0 ≤ bm_e m * bm_at m i → wY_solve_342 post (bm_i (bm_e m)) (nI (bm_g3 m)) yr yc n (nI (i + 1)) yp ys yn yq yw (upd a i (bm_i (bm_at (bm_nv m) i))) yg) → (¬ 0 ≤ bm_e m * bm_at m i → ∀ ym', post 0 (yr, yc, yp, ys, yn, yq, yw, ym', yg)) → wY_solve_342 post (bm_i (bm_e m)) (nI (bm_g3 m)) yr yc (n + 1) (nI i) yp ys yn yq yw a yg := by
    intro n i a hi ha hk hn
    refine br_f (nI_ge (b := 3) hi (by decide)) ⟨vp_in_nI hi (by decide), br_t (nI_le (a := 1) (by omega) (by omega)) ⟨hne, vp_in_nI hi (by decide), ?_⟩⟩
    intro y ey
    have ab := bm_at_b hb i
    have eb : -648 ≤ bm_e m * bm_at m i ∧ bm_e m * bm_at m i ≤ 648 := by
      unfold bm_e
      split <;> omega
    obtain ⟨n1, n2⟩ := bm_nv_at h0 i
    rw [nI_clamp (by omega), ha, bm_mul, bm_nI, bm_div (by omega) (by omega) (by omega) (by omega), n1] at ey
    subst ey
    refine ⟨vp_in_nI hi (by decide), ?_⟩
    rw [nI_clamp (by omega), pk_us, ← bm_0]
    have nb : -648 ≤ bm_at (bm_nv m) i ∧ bm_at (bm_nv m) i ≤ 648 := by
      rw [← n1]
      have q : ((bm_e m * bm_at m i).tdiv (bm_g3 m : Int)).natAbs = (bm_e m * bm_at m i).natAbs / bm_g3 m := by
        rw [Int.natAbs_tdiv, Int.natAbs_natCast]
        rfl
      have := Nat.div_le_self (bm_e m * bm_at m i).natAbs (bm_g3 m)
      omega
    rw [bm_le (by omega) (by omega) (by omega) (by omega), n2]
    refine br_c (fun z => ?_) (fun z => hn z _)
    intro k ek
    rw [nI_1] at ek
    subst ek
    exact hk z
  refine ⟨4, step 3 0 _ (by omega) hm.1 (fun z0 => step 2 1 _ (by omega) (by rw [pk_un (by omega)]; exact hm.2.1) (fun z1 => step 1 2 _ (by omega) (by rw [pk_un (by omega), pk_un (by omega)]; exact hm.2.2) (fun z2 => br_t (by decide) (h1 ⟨h0, z0, z1, z2⟩ _ ⟨rfl, rfl, rfl⟩)) (fun z2 => h2 (fun q => z2 q.2.2.2))) (fun z1 => h2 (fun q => z1 q.2.2.1))) (fun z0 => h2 (fun q => z0 q.2.1))⟩
theorem by_248 {post : Int32 → SY → Prop} {m : bm_V} (hb : bm_b3 m) (h0 : bm_sg m ≠ 0) (hm : bm_H ym m) (h1 : bm_ok m → ∀ ym', bm_H ym' (bm_nv m) → post 1 (yr, yc, yp, ys, yn, yq, yw, ym', yg)) (h2 : ¬ bm_ok m → ∀ ym', post 0 (yr, yc, yp, ys, yn, yq, yw, ym', yg)) : wY_solve_248 post (bm_i (bm_e m)) yr yc yp ys yn yq yw ym yg := by
  have tail := by_342 (yr := yr) (yc := yc) (yp := yp) (ys := ys) (yn := yn) (yq := yq) (yw := yw) (yg := yg) hb h0 hm h1 h2
  have hb' := hb
  unfold bm_b3 at hb'
  unfold wY_solve_248
  have l1 : Nat.gcd m.1.natAbs m.2.1.natAbs ≤ 648 := by
    rcases Nat.eq_zero_or_pos m.1.natAbs with zz | zz
    · rw [zz, Nat.gcd_zero_left]
      omega
    · have := Nat.le_of_dvd zz (Nat.gcd_dvd_left m.1.natAbs m.2.1.natAbs)
      omega
  have go : 0 < Nat.gcd m.1.natAbs m.2.1.natAbs → wY_solve_316 post (bm_i (bm_e m)) (nI (max 1 (Nat.gcd m.1.natAbs m.2.1.natAbs))) yr yc yp ys yn yq yw ym yg := by
    intro hpos
    rw [Nat.max_eq_right hpos]
    unfold wY_solve_316
    rw [hm.2.2, ← bm_0, bm_eq (by omega) (by omega) (by omega) (by omega)]
    refine br_c (fun z => ?_) (fun z => ?_)
    · have : bm_g3 m = Nat.gcd m.1.natAbs m.2.1.natAbs := by
        unfold bm_g3
        rw [z]
        exact Nat.gcd_zero_right _
      rw [← this]
      exact tail
    · rw [bm_nI]
      refine by_common (by omega) (by omega) ?_
      have : max 1 (Nat.gcd ((Nat.gcd m.1.natAbs m.2.1.natAbs : Nat) : Int).natAbs m.2.2.natAbs) = bm_g3 m := by
        rw [Int.natAbs_natCast]
        exact Nat.max_eq_right (bm_g3_pos h0)
      rw [this]
      exact tail
  have pos : (m.1 ≠ 0 ∨ m.2.1 ≠ 0) → 0 < Nat.gcd m.1.natAbs m.2.1.natAbs := by
    intro q
    rcases Nat.eq_zero_or_pos (Nat.gcd m.1.natAbs m.2.1.natAbs) with z | z
    · have z2 := Nat.eq_zero_of_gcd_eq_zero_right z
      have z1 := Nat.eq_zero_of_gcd_eq_zero_left z
      omega
    · exact z
  rw [hm.1, hm.2.1]
  refine by_common (by omega) (by omega) ?_
  rw [← bm_0, bm_eq (by omega) (by omega) (by omega) (by omega), bm_eq (by omega) (by omega) (by omega) (by omega)]
  refine br_c (fun z1 => br_c (fun z2 => ?_) (fun z2 => go (pos (Or.inr z2)))) (fun z1 => go (pos (Or.inl z1)))
  have g : bm_g3 m = m.2.2.natAbs := by
    unfold bm_g3
    rw [z1, z2]
    exact Nat.gcd_zero_left _
  rw [hm.2.2, bm_le (by omega) (by omega) (by omega) (by omega)]
  refine br_c (fun z3 => ?_) (fun z3 => ?_)
  · intro y ey
    rw [bm_abs z3, ← g] at ey
    subst ey
    exact tail
  · intro y ey
    rw [bm_absn (by omega), ← g] at ey
    subst ey
    exact tail
theorem by_209 {post : Int32 → SY → Prop} {m : bm_V} (hb : bm_b3 m) (hm : bm_H ym m) (h1 : bm_ok m → ∀ ym', bm_H ym' (bm_nv m) → post 1 (yr, yc, yp, ys, yn, yq, yw, ym', yg)) (h2 : ¬ bm_ok m → ∀ ym', post 0 (yr, yc, yp, ys, yn, yq, yw, ym', yg)) : wY_solve_209 post yr yc yp ys yn yq yw ym yg := by
  intro y ey
  rw [hm.1, hm.2.1, hm.2.2, bm_add, bm_add] at ey
  have ey' : y = bm_i (bm_sg m) := ey
  clear ey
  subst ey'
  have hs := bm_sg_b hb
  rw [← bm_0, bm_eq (by omega) (by omega) (by omega) (by omega), bm_le (by omega) (by omega) (by omega) (by omega)]
  refine br_c (fun z => h2 (fun q => q.1 z) _) (fun z => br_c (fun p => ?_) (fun p => ?_))
  · have : bm_e m = 1 := by unfold bm_e; rw [if_neg (by omega)]
    have k := by_248 (yr := yr) (yc := yc) (yp := yp) (ys := ys) (yn := yn) (yq := yq) (yw := yw) (yg := yg) hb z hm h1 h2
    rw [this] at k
    exact k
  · have : bm_e m = -1 := by unfold bm_e; rw [if_pos (by omega)]
    have k := by_248 (yr := yr) (yc := yc) (yp := yp) (ys := ys) (yn := yn) (yq := yq) (yw := yw) (yg := yg) hb z hm h1 h2
    rw [this] at k
    exact k

theorem by_s1 {post : Int32 → SY → Prop} {w s T : Nat} (hw : w < 2) (hs : s < 2) (hT : T < 8) (hp : bm_p9 yp) (z0 : ym 0 = 0) (z1 : ym 1 = 0) (z2 : ym 2 = 0) (h1 : bm_ok (bm_raw (bm_A yp w s) 1 T) → ∀ ym', bm_H ym' (bm_nv (bm_raw (bm_A yp w s) 1 T)) → post 1 (yr, yc, yp, ys, yn, yq, yw, ym', yg)) (h2 : ¬ bm_ok (bm_raw (bm_A yp w s) 1 T) → ∀ ym', post 0 (yr, yc, yp, ys, yn, yq, yw, ym', yg)) : wY_solve_47 post (nI w) (nI s) (nI 1) (nI T) (nI 1) yr yc yp ys yn yq yw (upd ym 0 1) yg := by
  refine br_f (by decide) (br_f (by decide) ?_)
  refine by_209 (bm_raw_b (bm_A9p hp w s) 1 T) ⟨?_, ?_, ?_⟩ h1 h2
  · show 1 = _
    rfl
  · show ym 1 = _
    rw [z1]; rfl
  · show ym 2 = _
    rw [z2]; rfl
theorem by_s2 {post : Int32 → SY → Prop} {w s T : Nat} (hw : w < 2) (hs : s < 2) (hT : T < 8) (hp : bm_p9 yp) (z0 : ym 0 = 0) (z1 : ym 1 = 0) (z2 : ym 2 = 0) (h1 : bm_ok (bm_raw (bm_A yp w s) 2 T) → ∀ ym', bm_H ym' (bm_nv (bm_raw (bm_A yp w s) 2 T)) → post 1 (yr, yc, yp, ys, yn, yq, yw, ym', yg)) (h2 : ¬ bm_ok (bm_raw (bm_A yp w s) 2 T) → ∀ ym', post 0 (yr, yc, yp, ys, yn, yq, yw, ym', yg)) : wY_solve_47 post (nI w) (nI s) (nI 2) (nI T) (nI 1) yr yc yp ys yn yq yw (upd ym 1 1) yg := by
  refine br_f (by decide) (br_f (by decide) ?_)
  refine by_209 (bm_raw_b (bm_A9p hp w s) 2 T) ⟨?_, ?_, ?_⟩ h1 h2
  · show ym 0 = _
    rw [z0]; rfl
  · show 1 = _
    rfl
  · show ym 2 = _
    rw [z2]; rfl
theorem by_s4 {post : Int32 → SY → Prop} {w s T : Nat} (hw : w < 2) (hs : s < 2) (hT : T < 8) (hp : bm_p9 yp) (z0 : ym 0 = 0) (z1 : ym 1 = 0) (z2 : ym 2 = 0) (h1 : bm_ok (bm_raw (bm_A yp w s) 4 T) → ∀ ym', bm_H ym' (bm_nv (bm_raw (bm_A yp w s) 4 T)) → post 1 (yr, yc, yp, ys, yn, yq, yw, ym', yg)) (h2 : ¬ bm_ok (bm_raw (bm_A yp w s) 4 T) → ∀ ym', post 0 (yr, yc, yp, ys, yn, yq, yw, ym', yg)) : wY_solve_47 post (nI w) (nI s) (nI 4) (nI T) (nI 1) yr yc yp ys yn yq yw (upd ym 2 1) yg := by
  refine br_f (by decide) (br_f (by decide) ?_)
  refine by_209 (bm_raw_b (bm_A9p hp w s) 4 T) ⟨?_, ?_, ?_⟩ h1 h2
  · show ym 0 = _
    rw [z0]; rfl
  · show ym 1 = _
    rw [z1]; rfl
  · show 1 = _
    rfl
theorem by_s3 {post : Int32 → SY → Prop} {w s T : Nat} (hw : w < 2) (hs : s < 2) (hT : T < 8) (hp : bm_p9 yp) (z0 : ym 0 = 0) (z1 : ym 1 = 0) (z2 : ym 2 = 0) (h1 : bm_ok (bm_raw (bm_A yp w s) 3 T) → ∀ ym', bm_H ym' (bm_nv (bm_raw (bm_A yp w s) 3 T)) → post 1 (yr, yc, yp, ys, yn, yq, yw, ym', yg)) (h2 : ¬ bm_ok (bm_raw (bm_A yp w s) 3 T) → ∀ ym', post 0 (yr, yc, yp, ys, yn, yq, yw, ym', yg)) : wY_solve_47 post (nI w) (nI s) (nI 3) (nI T) (nI 2) yr yc yp ys yn yq yw ym yg := by
  have f3 := bm_fs3 T
  have l3 := bm_ls3 T
  refine br_t rfl ?_
  refine by_first (by omega) ?_
  refine by_last (by omega) ?_
  refine by_first hT ?_
  refine by_last hT ?_
  refine by_atom (i := 1) hw hs (by omega) f3 l3 ⟨vp_in_nI (n := 0) (by omega) (by omega), ?_⟩
  intro m1 e1
  refine by_atom (i := 0) hw hs (by omega) f3 l3 ⟨vp_in_nI (n := 1) (by omega) (by omega), ?_⟩
  intro m2 e2
  rw [show (nI (bm_fs 3)).toNatClampNeg = 0 by decide, bm_neg] at e1
  rw [show (nI (bm_ls 3)).toNatClampNeg = 1 by decide] at e2
  subst e1 e2
  refine br_f (by decide) ?_
  refine by_209 (bm_raw_b (bm_A9p hp w s) 3 T) ⟨?_, ?_, ?_⟩ h1 h2
  · rfl
  · rfl
  · show ym 2 = _
    rw [z2]; rfl
theorem by_s5 {post : Int32 → SY → Prop} {w s T : Nat} (hw : w < 2) (hs : s < 2) (hT : T < 8) (hp : bm_p9 yp) (z0 : ym 0 = 0) (z1 : ym 1 = 0) (z2 : ym 2 = 0) (h1 : bm_ok (bm_raw (bm_A yp w s) 5 T) → ∀ ym', bm_H ym' (bm_nv (bm_raw (bm_A yp w s) 5 T)) → post 1 (yr, yc, yp, ys, yn, yq, yw, ym', yg)) (h2 : ¬ bm_ok (bm_raw (bm_A yp w s) 5 T) → ∀ ym', post 0 (yr, yc, yp, ys, yn, yq, yw, ym', yg)) : wY_solve_47 post (nI w) (nI s) (nI 5) (nI T) (nI 2) yr yc yp ys yn yq yw ym yg := by
  have f3 := bm_fs3 T
  have l3 := bm_ls3 T
  refine br_t rfl ?_
  refine by_first (by omega) ?_
  refine by_last (by omega) ?_
  refine by_first hT ?_
  refine by_last hT ?_
  refine by_atom (i := 2) hw hs (by omega) f3 l3 ⟨vp_in_nI (n := 0) (by omega) (by omega), ?_⟩
  intro m1 e1
  refine by_atom (i := 0) hw hs (by omega) f3 l3 ⟨vp_in_nI (n := 2) (by omega) (by omega), ?_⟩
  intro m2 e2
  rw [show (nI (bm_fs 5)).toNatClampNeg = 0 by decide, bm_neg] at e1
  rw [show (nI (bm_ls 5)).toNatClampNeg = 2 by decide] at e2
  subst e1 e2
  refine br_f (by decide) ?_
  refine by_209 (bm_raw_b (bm_A9p hp w s) 5 T) ⟨?_, ?_, ?_⟩ h1 h2
  · rfl
  · show ym 1 = _
    rw [z1]; rfl
  · rfl
theorem by_s6 {post : Int32 → SY → Prop} {w s T : Nat} (hw : w < 2) (hs : s < 2) (hT : T < 8) (hp : bm_p9 yp) (z0 : ym 0 = 0) (z1 : ym 1 = 0) (z2 : ym 2 = 0) (h1 : bm_ok (bm_raw (bm_A yp w s) 6 T) → ∀ ym', bm_H ym' (bm_nv (bm_raw (bm_A yp w s) 6 T)) → post 1 (yr, yc, yp, ys, yn, yq, yw, ym', yg)) (h2 : ¬ bm_ok (bm_raw (bm_A yp w s) 6 T) → ∀ ym', post 0 (yr, yc, yp, ys, yn, yq, yw, ym', yg)) : wY_solve_47 post (nI w) (nI s) (nI 6) (nI T) (nI 2) yr yc yp ys yn yq yw ym yg := by
  have f3 := bm_fs3 T
  have l3 := bm_ls3 T
  refine br_t rfl ?_
  refine by_first (by omega) ?_
  refine by_last (by omega) ?_
  refine by_first hT ?_
  refine by_last hT ?_
  refine by_atom (i := 2) hw hs (by omega) f3 l3 ⟨vp_in_nI (n := 1) (by omega) (by omega), ?_⟩
  intro m1 e1
  refine by_atom (i := 1) hw hs (by omega) f3 l3 ⟨vp_in_nI (n := 2) (by omega) (by omega), ?_⟩
  intro m2 e2
  rw [show (nI (bm_fs 6)).toNatClampNeg = 1 by decide, bm_neg] at e1
  rw [show (nI (bm_ls 6)).toNatClampNeg = 2 by decide] at e2
  subst e1 e2
  refine br_f (by decide) ?_
  refine by_209 (bm_raw_b (bm_A9p hp w s) 6 T) ⟨?_, ?_, ?_⟩ h1 h2
  · show ym 0 = _
    rw [z0]; rfl
  · rfl
  · rfl
theorem by_s7 {post : Int32 → SY → Prop} {w s T : Nat} (hw : w < 2) (hs : s < 2) (hT : T < 8) (hp : bm_p9 yp) (h1 : bm_ok (bm_raw (bm_A yp w s) 7 T) → ∀ ym', bm_H ym' (bm_nv (bm_raw (bm_A yp w s) 7 T)) → post 1 (yr, yc, yp, ys, yn, yq, yw, ym', yg)) (h2 : ¬ bm_ok (bm_raw (bm_A yp w s) 7 T) → ∀ ym', post 0 (yr, yc, yp, ys, yn, yq, yw, ym', yg)) : wY_solve_47 post (nI w) (nI s) (nI 7) (nI T) (nI 3) yr yc yp ys yn yq yw ym yg := by
  refine br_f (by decide) (br_t rfl ?_)
  have step : ∀ (n i b c : Nat) (a : Nat → Int32), i < 3 → b < 3 → c < 3 → (nI i + 1) - (nI i + 1) / 3 * 3 = nI b → (nI i + 2) - (nI i + 2) / 3 * 3 = nI c → wY_solve_131 post (nI w) (nI s) yr yc n (nI (i + 1)) yp ys yn yq yw (upd a i (bm_i (bm_cr (bm_A yp w s) b c))) yg → wY_solve_131 post (nI w) (nI s) yr yc (n + 1) (nI i) yp ys yn yq yw a yg := by
    intro n i b c a hi hb hc eb ec hk
    refine br_f (nI_ge (b := 3) hi (by decide)) ⟨by decide, ?_⟩
    intro y1 e1
    refine ⟨by decide, ?_⟩
    intro y2 e2
    rw [eb] at e1
    rw [ec] at e2
    subst e1 e2
    refine by_atom (j := 0) (k := 1) hw hs hb (by omega) (by omega) ?_
    refine by_atom (j := 1) (k := 2) hw hs hc (by omega) (by omega) ?_
    refine by_atom (j := 0) (k := 1) hw hs hc (by omega) (by omega) ?_
    refine by_atom (j := 1) (k := 2) hw hs hb (by omega) (by omega) ?_
    refine ⟨vp_in_nI hi (by decide), ?_⟩
    intro m em k ek
    rw [nI_clamp (by omega), bm_mul, bm_mul, bm_sub] at em
    rw [nI_1] at ek
    subst em ek
    exact hk
  refine ⟨4, step 3 0 1 2 _ (by omega) (by omega) (by omega) (by decide) (by decide) (step 2 1 2 0 _ (by omega) (by omega) (by omega) (by decide) (by decide) (step 1 2 0 1 _ (by omega) (by omega) (by omega) (by decide) (by decide) (br_t (by decide) ?_)))⟩
  exact by_209 (bm_raw_b (bm_A9p hp w s) 7 T) ⟨rfl, rfl, rfl⟩ h1 h2
theorem by_solve {post : Int32 → SY → Prop} {w s S T : Nat} (hS : S < 8) (hS0 : S ≠ 0) (hw : w < 2) (hs : s < 2) (hT : T < 8) (hp : bm_p9 yp) (h1 : bm_ok (bm_raw (bm_A yp w s) S T) → ∀ ym', bm_H ym' (bm_nv (bm_raw (bm_A yp w s) S T)) → post 1 (yr, yc, yp, ys, yn, yq, yw, ym', yg)) (h2 : ¬ bm_ok (bm_raw (bm_A yp w s) S T) → ∀ ym', post 0 (yr, yc, yp, ys, yn, yq, yw, ym', yg)) : wpY_solve post (yr, yc, yp, ys, yn, yq, yw, ym, yg) (nI w) (nI s) (nI S) (nI T) := by
  have step : ∀ (n i : Nat) (a : Nat → Int32), i < 3 → wY_solve_3 post (nI w) (nI s) (nI S) (nI T) yr yc n (nI (i + 1)) yp ys yn yq yw (upd a i 0) yg → wY_solve_3 post (nI w) (nI s) (nI S) (nI T) yr yc (n + 1) (nI i) yp ys yn yq yw a yg := by
    intro n i a hi hk
    refine br_f (nI_ge (b := 3) hi (by decide)) ⟨vp_in_nI hi (by decide), ?_⟩
    intro m em k ek
    rw [nI_clamp (by omega)] at em
    rw [nI_1] at ek
    subst em ek
    exact hk
  refine ⟨4, step 3 0 _ (by omega) (step 2 1 _ (by omega) (step 1 2 _ (by omega) (br_t (by decide) ?_)))⟩
  refine by_size hS ?_
  have hh : S = 1 ∨ S = 2 ∨ S = 3 ∨ S = 4 ∨ S = 5 ∨ S = 6 ∨ S = 7 := by omega
  rcases hh with rfl | rfl | rfl | rfl | rfl | rfl | rfl
  · refine br_t (by decide) (by_first (by omega) ⟨vp_in_nI (n := 0) (by omega) (by omega), ?_⟩)
    intro m em
    rw [show (nI (bm_fs 1)).toNatClampNeg = 0 by decide] at em
    subst em
    exact by_s1 hw hs hT hp rfl rfl rfl h1 h2
  · refine br_t (by decide) (by_first (by omega) ⟨vp_in_nI (n := 1) (by omega) (by omega), ?_⟩)
    intro m em
    rw [show (nI (bm_fs 2)).toNatClampNeg = 1 by decide] at em
    subst em
    exact by_s2 hw hs hT hp rfl rfl rfl h1 h2
  · refine br_f (by decide) ?_
    exact by_s3 hw hs hT hp rfl rfl rfl h1 h2
  · refine br_t (by decide) (by_first (by omega) ⟨vp_in_nI (n := 2) (by omega) (by omega), ?_⟩)
    intro m em
    rw [show (nI (bm_fs 4)).toNatClampNeg = 2 by decide] at em
    subst em
    exact by_s4 hw hs hT hp rfl rfl rfl h1 h2
  · refine br_f (by decide) ?_
    exact by_s5 hw hs hT hp rfl rfl rfl h1 h2
  · refine br_f (by decide) ?_
    exact by_s6 hw hs hT hp rfl rfl rfl h1 h2
  · refine br_f (by decide) ?_
    exact by_s7 hw hs hT hp h1 h2
end
