theorem bm_b3_ng {m : bm_V} (h : bm_b3 m) : bm_b3 (bm_ng m) := by
  unfold bm_b3 bm_ng at *
  dsimp only
  omega
theorem bm_sg_ng (m : bm_V) : bm_sg (bm_ng m) = - bm_sg m := by
  unfold bm_sg bm_ng
  dsimp only
  omega
theorem bm_e_ng {m : bm_V} (h : bm_sg m ≠ 0) : bm_e (bm_ng m) = - bm_e m := by
  unfold bm_e
  rw [bm_sg_ng]
  split <;> split <;> omega
theorem bm_g3_ng (m : bm_V) : bm_g3 (bm_ng m) = bm_g3 m := by
  unfold bm_g3 bm_ng
  dsimp only
  rw [Int.natAbs_neg, Int.natAbs_neg, Int.natAbs_neg]
theorem bm_ok_ng {m : bm_V} : bm_ok (bm_ng m) ↔ bm_ok m := by
  unfold bm_ok
  by_cases h : bm_sg m = 0
  · rw [bm_sg_ng, h]
    simp
  · rw [bm_e_ng h, bm_sg_ng]
    unfold bm_ng
    dsimp only
    rw [Int.neg_mul_neg, Int.neg_mul_neg, Int.neg_mul_neg]
    omega
theorem bm_nv_ng {m : bm_V} (h : bm_sg m ≠ 0) : bm_nv (bm_ng m) = bm_nv m := by
  unfold bm_nv
  rw [bm_e_ng h, bm_g3_ng]
  unfold bm_ng
  dsimp only
  rw [Int.neg_mul_neg, Int.neg_mul_neg, Int.neg_mul_neg]
/-- with the sign of its sum -/
def bm_em (m : bm_V) : bm_V := (bm_e m * m.1, bm_e m * m.2.1, bm_e m * m.2.2)
theorem bm_em_sg {m : bm_V} : bm_sg (bm_em m) = bm_e m * bm_sg m := by
  unfold bm_em bm_sg
  dsimp only
  rw [Int.mul_add, Int.mul_add]
theorem bm_em_b {m : bm_V} (h : bm_b3 m) : bm_b3 (bm_em m) := by
  unfold bm_b3 bm_em bm_e at *
  dsimp only
  split <;> omega
theorem bm_ok_em {m : bm_V} : bm_ok m ↔ 0 < bm_sg (bm_em m) ∧ 0 ≤ (bm_em m).1 ∧ 0 ≤ (bm_em m).2.1 ∧ 0 ≤ (bm_em m).2.2 := by
  rw [bm_em_sg]
  unfold bm_ok
  have : bm_sg m ≠ 0 ↔ 0 < bm_e m * bm_sg m := by
    unfold bm_e
    split <;> omega
  rw [this]
  rfl
theorem bm_em_g3 (m : bm_V) : bm_g3 (bm_em m) = bm_g3 m := by
  unfold bm_g3 bm_em bm_e
  dsimp only
  split
  · simp [Int.natAbs_neg]
  · simp
theorem bm_sg_b {m : bm_V} (h : bm_b3 m) : -1944 ≤ bm_sg m ∧ bm_sg m ≤ 1944 := by
  unfold bm_b3 at h
  unfold bm_sg
  omega
theorem bm_sg_nv {m : bm_V} (h : bm_sg m ≠ 0) : bm_sg (bm_em m) = bm_g3 m * bm_sg (bm_nv m) := by
  obtain ⟨d1, d2, d3⟩ := bm_g3_d (m := m)
  have key : ∀ a : Int, (bm_g3 m : Int) ∣ a → (bm_g3 m : Int) * ((bm_e m * a) / (bm_g3 m : Int)) = bm_e m * a := fun a ha => Int.mul_ediv_cancel' (Int.dvd_mul_of_dvd_right ha)
  unfold bm_sg bm_em bm_nv
  dsimp only
  rw [Int.mul_add, Int.mul_add, key _ d1, key _ d2, key _ d3]
section
variable {fr fc fm ft fb : Int32} {ap ae am ac aq aw ar ah : Nat → Int32}
theorem bx_165 {post : Int32 → SX → Prop} {m : bm_V} (hb : bm_b3 m) (hm : bm_H am m) (hw : fm = bm_i (bm_sg m)) (h1 : (0 < bm_sg m ∧ 0 ≤ m.1 ∧ 0 ≤ m.2.1 ∧ 0 ≤ m.2.2) → post 1 (fr, fc, fm, ft, fb, ap, ae, am, ac, aq, aw, ar, ah)) (h0 : ¬ (0 < bm_sg m ∧ 0 ≤ m.1 ∧ 0 ≤ m.2.1 ∧ 0 ≤ m.2.2) → post 0 (fr, fc, fm, ft, fb, ap, ae, am, ac, aq, aw, ar, ah)) : wX_crossEquations_165 post fr fc fm ft fb ap ae am ac aq aw ar ah := by
  have hs := bm_sg_b hb
  unfold bm_b3 at hb
  unfold wX_crossEquations_165
  rw [hm.1, hm.2.1, hm.2.2, ← bm_0]
  have e : fm ≤ bm_i 0 ↔ bm_sg m ≤ 0 := by rw [hw, bm_le (by omega) (by omega) (by omega) (by omega)]
  rw [e, bm_lt (by omega) (by omega) (by omega) (by omega), bm_lt (by omega) (by omega) (by omega) (by omega), bm_lt (by omega) (by omega) (by omega) (by omega)]
  exact br_c (fun z => h0 (by omega)) (fun z => br_c (fun z => h0 (by omega)) (fun z => br_c (fun z => h0 (by omega)) (fun z => br_c (fun z => h0 (by omega)) (fun z => h1 (by omega)))))
theorem bx_cross {post : Int32 → SX → Prop} {r t : bm_V} (hb : bm_b3 (bm_x r t)) (he : bm_H6 ae r t)
    (h1 : bm_ok (bm_x r t) → ∀ am', bm_H am' (bm_em (bm_x r t)) → post 1 (fr, fc, bm_i (bm_sg (bm_em (bm_x r t))), ft, fb, ap, ae, am', ac, aq, aw, ar, ah))
    (h0 : ¬ bm_ok (bm_x r t) → ∀ fm' am', post 0 (fr, fc, fm', ft, fb, ap, ae, am', ac, aq, aw, ar, ah)) : wpX_crossEquations post (fr, fc, fm, ft, fb, ap, ae, am, ac, aq, aw, ar, ah) := by
  obtain ⟨⟨e0, e1, e2⟩, e3, e4, e5⟩ := he
  intro m2 k2 m4 k4 m6 k6 w ew
  have hH : bm_H m6 (bm_x r t) := by
    rw [k6, k4, k2, e0, e1, e2, e3, e4, e5]
    refine ⟨?_, ?_, ?_⟩
    · show bm_i r.2.1 * bm_i t.2.2 - bm_i r.2.2 * bm_i t.2.1 = _
      rw [bm_mul, bm_mul, bm_sub]
      rfl
    · show bm_i r.2.2 * bm_i t.1 - bm_i r.1 * bm_i t.2.2 = _
      rw [bm_mul, bm_mul, bm_sub]
      rfl
    · show bm_i r.1 * bm_i t.2.1 - bm_i r.2.1 * bm_i t.1 = _
      rw [bm_mul, bm_mul, bm_sub]
      rfl
  clear k6 k4 k2
  rw [hH.1, hH.2.1, hH.2.2, bm_add, bm_add] at ew
  generalize hmm : bm_x r t = m at *
  have hs := bm_sg_b hb
  have ew' : w = bm_i (bm_sg m) := ew
  clear ew
  subst ew'
  have hle : (0 : Int32) ≤ bm_i (bm_sg m) ↔ 0 ≤ bm_sg m := by rw [← bm_0, bm_le (by omega) (by omega) (by omega) (by omega)]
  rw [hle]
  refine br_c (fun z => ?_) (fun z => ?_)
  · have ee : bm_em m = m := by
      unfold bm_em bm_e
      rw [if_neg (by omega), Int.one_mul, Int.one_mul, Int.one_mul]
    have ho := bm_ok_em (m := m)
    rw [ee] at h1 ho
    exact bx_165 hb hH rfl (fun q => h1 (ho.mpr q) _ hH) (fun q => h0 (fun q' => q (ho.mp q')) _ _)
  · have ee : bm_em m = bm_ng m := by
      unfold bm_em bm_e bm_ng
      rw [if_pos (by omega), Int.neg_one_mul, Int.neg_one_mul, Int.neg_one_mul]
    have ho := bm_ok_em (m := m)
    rw [ee] at h1 ho
    intro f ef
    rw [bm_neg, ← bm_sg_ng] at ef
    have step : ∀ (n i : Nat) (a : Nat → Int32), i < 3 → wX_crossEquations_141 post fr fc f ft fb n (nI (i + 1)) ap ae (upd a i (-(a i))) ac aq aw ar ah → wX_crossEquations_141 post fr fc f ft fb (n + 1) (nI i) ap ae a ac aq aw ar ah := by
      intro n i a hi hk
      refine br_f (nI_ge (b := 3) hi (by decide)) ⟨vp_in_nI hi (by decide), vp_in_nI hi (by decide), ?_⟩
      intro y ey k ek
      rw [nI_clamp (by omega)] at ey
      rw [nI_1] at ek
      subst ey ek
      exact hk
    refine ⟨4, step 3 0 _ (by omega) (step 2 1 _ (by omega) (step 1 2 _ (by omega) (br_t (by decide) ?_)))⟩
    have hH' : bm_H (upd (upd (upd m6 0 (-(m6 0))) 1 (-(upd m6 0 (-(m6 0)) 1))) 2 (-(upd (upd m6 0 (-(m6 0))) 1 (-(upd m6 0 (-(m6 0)) 1)) 2))) (bm_ng m) := by
      refine ⟨?_, ?_, ?_⟩
      · show -(m6 0) = _
        rw [hH.1, bm_neg]
        rfl
      · show -(m6 1) = _
        rw [hH.2.1, bm_neg]
        rfl
      · show -(m6 2) = _
        rw [hH.2.2, bm_neg]
        rfl
    subst ef
    exact bx_165 (bm_b3_ng hb) hH' rfl (fun q => h1 (ho.mpr q) _ hH') (fun q => h0 (fun q' => q (ho.mp q')) _ _)
theorem bx_118 {post : Int32 → SX → Prop} {m : bm_V} (hb : bm_b3 m) (hok : bm_ok m) (hm : bm_H am (bm_em m)) (hw : fm = bm_i (bm_sg (bm_em m)))
    (h1 : ∀ am', bm_H am' (bm_nv m) → post 1 (fr, fc, bm_i (bm_sg (bm_nv m)), ft, fb, ap, ae, am', ac, aq, aw, ar, ah)) : ∃ n, wX_solve_118 post (nI (bm_g3 m)) fr fc fm ft fb n 0 ap ae am ac aq aw ar ah := by
  have hg0 := bm_g3_pos hok.1
  have hs := bm_sg_b (bm_em_b hb)
  have hg1 : bm_g3 m ≤ 1944 := by
    have := bm_sg_nv hok.1
    have hp := (bm_nv_P hok).2.2.2.1
    have q : (bm_g3 m : Int) * 1 ≤ bm_g3 m * bm_sg (bm_nv m) := Int.mul_le_mul_of_nonneg_left (by omega) (by omega)
    omega
  have hne : ¬ nI (bm_g3 m) = 0 := nI_ne0 hg0 (by omega)
  have step : ∀ (n i : Nat) (a : Nat → Int32), i < 3 → wX_solve_118 post (nI (bm_g3 m)) fr fc fm ft fb n (nI (i + 1)) ap ae (upd a i (a i / nI (bm_g3 m))) ac aq aw ar ah → wX_solve_118 post (nI (bm_g3 m)) fr fc fm ft fb (n + 1) (nI i) ap ae a ac aq aw ar ah := by
    intro n i a hi hk
    refine br_f (nI_ge (b := 3) hi (by decide)) ⟨vp_in_nI hi (by decide), hne, vp_in_nI hi (by decide), ?_⟩
    intro y ey k ek
    rw [nI_clamp (by omega)] at ey
    rw [nI_1] at ek
    subst ey ek
    exact hk
  refine ⟨4, step 3 0 _ (by omega) (step 2 1 _ (by omega) (step 1 2 _ (by omega) (br_t (by decide) ⟨hne, ?_⟩)))⟩
  intro f ef
  have hbe := bm_em_b hb
  unfold bm_b3 at hbe
  have ho := bm_ok_em.mp hok
  have dv : ∀ a : Int, 0 ≤ a → a ≤ 648 → bm_i a / nI (bm_g3 m) = bm_i (a / (bm_g3 m : Int)) := by
    intro a a0 a1
    rw [bm_nI, bm_div (by omega) (by omega) (by omega) (by omega), Int.tdiv_eq_ediv_of_nonneg a0]
  rw [hw, bm_nI, bm_div (by omega) (by omega) (by omega) (by omega), Int.tdiv_eq_ediv_of_nonneg (by omega), bm_sg_nv hok.1, Int.mul_ediv_cancel_left _ (by omega)] at ef
  subst ef
  refine h1 _ ⟨?_, ?_, ?_⟩
  · show am 0 / _ = _
    rw [hm.1, dv _ (by omega) (by omega)]
    rfl
  · show am 1 / _ = _
    rw [hm.2.1, dv _ (by omega) (by omega)]
    rfl
  · show am 2 / _ = _
    rw [hm.2.2, dv _ (by omega) (by omega)]
    rfl
end
theorem bx_t1 : ∀ z m : Fin 8, (nI z.val ||| nI m.val = 7 ↔ (7 - z.val) &&& m.val = 7 - z.val) := by decide +kernel
theorem bx_t2 : ∀ a o : Fin 8, (nI a.val ||| nI o.val = nI o.val ↔ a.val &&& o.val = a.val) := by decide +kernel
theorem bx_t4 : ∀ z : Fin 8, bm_sz (7 - z.val) + bm_sz z.val = 3 := by decide +kernel
theorem bx_t5 : ∀ z : Fin 8, bm_sz z.val = 0 → z.val = 0 := by decide +kernel
theorem bx_t6 : ∀ z : Fin 8, bm_sz z.val ≤ 3 := by decide +kernel
theorem bx_t7 : ∀ d : Fin 64, nI d.val >>> ((3 : Int32) &&& 31) = nI (d.val / 8) ∧ nI d.val &&& 7 = nI (d.val % 8) := by decide +kernel
section
variable {fr fc fm ft fb : Int32} {ap ae am ac aq aw ar ah : Nat → Int32}
theorem bx_solve {post : Int32 → SX → Prop} {s w M O d : Nat} (hs : s < 2) (hw : w < 2) (hM : M < 8) (hO : O < 8) (hd : d < 64) (hp : bm_p9 ap)
    (h1 : bm_fit M O (7 - d / 8) (d % 8) → bm_ok (bm_raw (bm_A ap w s) (7 - d / 8) (d % 8)) → ∀ ae' am', bm_H am' (bm_nv (bm_raw (bm_A ap w s) (7 - d / 8) (d % 8))) → post 1 (fr, fc, bm_i (bm_sg (bm_nv (bm_raw (bm_A ap w s) (7 - d / 8) (d % 8)))), ft, fb, ap, ae', am', ac, aq, aw, ar, ah))
    (h0 : ¬ (bm_fit M O (7 - d / 8) (d % 8) ∧ bm_ok (bm_raw (bm_A ap w s) (7 - d / 8) (d % 8))) → ∀ fm' ae' am', post 0 (fr, fc, fm', ft, fb, ap, ae', am', ac, aq, aw, ar, ah)) : wpX_solve post (fr, fc, fm, ft, fb, ap, ae, am, ac, aq, aw, ar, ah) (nI s) (nI w) (nI M) (nI O) (nI d) := by
  have hz : d / 8 < 8 := by omega
  have ha : d % 8 < 8 := by omega
  intro z ez a ea
  rw [(bx_t7 ⟨d, hd⟩).1] at ez
  rw [(bx_t7 ⟨d, hd⟩).2] at ea
  dsimp only at ez ea
  generalize d / 8 = Z at *
  generalize d % 8 = T at *
  subst ez ea
  have e1 := bx_t1 ⟨Z, hz⟩ ⟨M, hM⟩
  have e2 := bx_t2 ⟨T, ha⟩ ⟨O, hO⟩
  have e4 := bx_t4 ⟨Z, hz⟩
  have e5 := bx_t5 ⟨T, ha⟩
  have e6 := bx_t5 ⟨7 - Z, by omega⟩
  dsimp only at e1 e2 e4 e5 e6
  rw [e1, e2]
  refine br_c (fun c1 => br_c (fun c2 => ?_) (fun c2 => h0 (fun q => c2 q.1.2.2.1) _ _ _)) (fun c1 => h0 (fun q => c1 q.1.2.1) _ _ _)
  refine pk_eq T 0 (fun c3 => h0 (fun q => ?_) _ _ _) (fun c3 => ?_) rfl rfl (by omega) (by omega)
  · have := q.1.2.2.2
    have q0 := q.1.1
    subst c3
    exact q0 (e6 this)
  · show wpX_bits _ _
    unfold wpX_bits
    rw [bx_bits ⟨Z, hz⟩, bx_bits ⟨T, ha⟩]
    intro y ey
    rw [nI_add] at ey
    subst ey
    dsimp only
    have z3 := bx_t6 ⟨Z, hz⟩
    have t3 := bx_t6 ⟨T, ha⟩
    dsimp only at z3 t3
    refine pk_eq (bm_sz Z + bm_sz T) 3 (fun c4 => ?_) (fun c4 => h0 (fun q => ?_) _ _ _) rfl rfl (by omega) (by omega)
    · have hfit : bm_fit M O (7 - Z) T := by
        refine ⟨fun q => ?_, c1, c2, by omega⟩
        rw [q] at e4
        have : bm_sz 0 = 0 := by decide
        exact c3 (e5 (by omega))
      refine bx_we hs hw ha hz ?_
      obtain ⟨r, t, hH, hx⟩ := bm_eqs (A := bm_A ap w s) (e := ae) hz ha c3 c4
      have hrb := bm_raw_b (bm_A9p hp w s) (7 - Z) T
      have hxb : bm_b3 (bm_x r t) := by
        rcases hx with hx | hx
        · rw [hx]; exact hrb
        · rw [hx]; exact bm_b3_ng hrb
      have hxo : bm_ok (bm_x r t) ↔ bm_ok (bm_raw (bm_A ap w s) (7 - Z) T) := by
        rcases hx with hx | hx
        · rw [hx]
        · rw [hx]; exact bm_ok_ng
      refine bx_cross hxb hH (fun hok am' hm' => ?_) (fun hok fm' am' => ?_)
      · have hok' := hxo.mp hok
        have hxn : bm_nv (bm_x r t) = bm_nv (bm_raw (bm_A ap w s) (7 - Z) T) := by
          rcases hx with hx | hx
          · rw [hx]
          · rw [hx]; exact bm_nv_ng hok'.1
        dsimp only
        refine br_f (by decide) ?_
        have hbe := bm_em_b hxb
        unfold bm_b3 at hbe
        rw [hm'.1, hm'.2.1, hm'.2.2]
        refine bx_cd (by omega) (by omega) ?_
        rw [bm_nI]
        have gl : Nat.gcd (bm_em (bm_x r t)).1.natAbs (bm_em (bm_x r t)).2.1.natAbs ≤ 648 := by
          rcases Nat.eq_zero_or_pos (bm_em (bm_x r t)).1.natAbs with zz | zz
          · rw [zz, Nat.gcd_zero_left]
            omega
          · have := Nat.le_of_dvd zz (Nat.gcd_dvd_left (bm_em (bm_x r t)).1.natAbs (bm_em (bm_x r t)).2.1.natAbs)
            omega
        refine bx_cd (by omega) (by omega) ?_
        have eg : Nat.gcd ((Nat.gcd (bm_em (bm_x r t)).1.natAbs (bm_em (bm_x r t)).2.1.natAbs : Nat) : Int).natAbs (bm_em (bm_x r t)).2.2.natAbs = bm_g3 (bm_x r t) := by
          rw [Int.natAbs_natCast, ← bm_em_g3]
          rfl
        rw [eg]
        have hg0 := bm_g3_pos hok.1
        have hgb : bm_g3 (bm_x r t) < 2 ^ 31 := by
          have := bm_sg_nv hok.1
          have hp := (bm_nv_P hok).2.2.2.1
          have q : (bm_g3 (bm_x r t) : Int) * 1 ≤ bm_g3 (bm_x r t) * bm_sg (bm_nv (bm_x r t)) := Int.mul_le_mul_of_nonneg_left (by omega) (by omega)
          have := bm_sg_b (bm_em_b hxb)
          omega
        refine pk_le (bm_g3 (bm_x r t)) 1 (fun c5 => ?_) (fun c5 => ?_) rfl rfl hgb (by omega)
        · have g1 : bm_g3 (bm_x r t) = 1 := by omega
          have en : bm_em (bm_x r t) = bm_nv (bm_x r t) := by
            unfold bm_em bm_nv
            rw [g1]
            simp
          rw [en, hxn] at hm' ⊢
          exact h1 hfit hok' _ _ hm'
        · refine bx_118 hxb hok hm' rfl (fun am'' hm'' => ?_)
          rw [hxn] at hm'' ⊢
          exact h1 hfit hok' _ _ hm''
      · refine br_t rfl ?_
        exact h0 (fun q => hok (hxo.mpr q.2)) _ _ _
    · have := q.1.2.2.2
      omega
end
