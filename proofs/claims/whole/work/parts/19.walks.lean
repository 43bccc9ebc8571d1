theorem bm_gn_neg (p : Nat → Int32) (s : Nat) (v : bm_V) (j : Nat) : bm_gn (bm_B p s true) v j = - bm_gn (bm_A p s s) v j := by
  have e : ∀ i, bm_B p s true i j = -(bm_A p s s i j) := fun i => rfl
  unfold bm_gn
  rw [e, e, e]
  grind
theorem bm_Bs (p : Nat → Int32) (s S T : Nat) : (bm_ok (bm_raw (bm_B p s true) S T) ↔ bm_ok (bm_raw (bm_A p s s) S T)) ∧ (bm_ok (bm_raw (bm_A p s s) S T) → bm_nv (bm_raw (bm_B p s true) S T) = bm_nv (bm_raw (bm_A p s s) S T)) := by
  have h : bm_raw (bm_B p s true) S T = bm_raw (bm_A p s s) S T ∨ bm_raw (bm_B p s true) S T = bm_ng (bm_raw (bm_A p s s) S T) := bm_B_raw p s true S T
  rcases h with e | e
  · rw [e]
    exact ⟨Iff.rfl, fun _ => rfl⟩
  · rw [e]
    exact ⟨bm_ok_ng, fun q => bm_nv_ng q.1⟩
section
variable {fr fc fm ft fb : Int32} {ap ae am ac aq aw ar ah : Nat → Int32}
theorem bx_ra6 {post : Int32 → SX → Prop} {s M O : Nat} (hs : s < 2) (hM : M < 8) (hO : O < 8) (hp : bm_p9 ap)
    (h : ∀ f fm' ae' am', bm_RX (bm_A ap s (1 - s)) M O f → post (nI f) (fr, fc, fm', ft, fb, ap, ae', am', ac, aq, aw, ar, ah)) :
    ∀ (m d q f : Nat) (fm' : Int32) (ae' am' : Nat → Int32), d + m = 64 → m < q → f < 8 → (∀ j, j < 3 → (f.testBit j = true ↔ ∃ e, e < d ∧ bm_sol (bm_A ap s (1 - s)) M O (7 - e / 8) (e % 8) ∧ (bm_rp (bm_A ap s (1 - s)) O (bm_nv (bm_raw (bm_A ap s (1 - s)) (7 - e / 8) (e % 8)))).testBit j = true)) → wX_repliesAmong_6 post (nI s) (nI O) (nI M) q (nI f) (nI d) fr fc fm' ft fb ap ae' am' ac aq aw ar ah := by
  intro m
  induction m with
  | zero =>
    intro d q f fm' ae' am' hd hq hf8 hf
    obtain ⟨q, rfl⟩ : ∃ q', q = q' + 1 := ⟨q - 1, by omega⟩
    have : d = 64 := by omega
    subst this
    refine br_t (by decide) (h f _ _ _ ⟨hf8, fun j hj => ?_⟩)
    rw [hf j hj]
    constructor
    · rintro ⟨e, he, hK, hx⟩
      exact ⟨_, _, by omega, by omega, hK, hx⟩
    · rintro ⟨S, T, hS, hT, hK, hx⟩
      refine ⟨8 * (7 - S) + T, by omega, ?_⟩
      rw [show 7 - (8 * (7 - S) + T) / 8 = S by omega, show (8 * (7 - S) + T) % 8 = T by omega]
      exact ⟨hK, hx⟩
  | succ m ih =>
    intro d q f fm' ae' am' hd hq hf8 hf
    obtain ⟨q, rfl⟩ : ∃ q', q = q' + 1 := ⟨q - 1, by omega⟩
    have hA := bm_A9p hp s (1 - s)
    refine br_f (nI_ge (b := 64) (by omega) (by decide)) ?_
    rw [bx_1s hs]
    refine bx_solve (by omega) hs hM hO (by omega) hp (fun hfit hok ae2 am2 hm2 => ?_) (fun hno fm2 ae2 am2 => ?_)
    · dsimp only
      refine br_f (by decide) ?_
      have hb := bm_nv_b (bm_raw_b hA _ _) hok
      refine bx_rtm (by omega) hO hp hb hm2 ?_
      rw [show 1 - (1 - s) = s by omega]
      have r8 := bm_rp8 (bm_A ap s (1 - s)) O (bm_nv (bm_raw (bm_A ap s (1 - s)) (7 - d / 8) (d % 8)))
      intro x ex y ey
      rw [bx_or hf8 r8] at ex
      rw [nI_1] at ey
      subst ex ey
      refine ih (d + 1) q _ _ _ _ (by omega) (by omega) (bx_orl hf8 r8) (fun j hj => ?_)
      rw [Nat.testBit_or, Bool.or_eq_true, hf j hj]
      constructor
      · rintro (⟨e, he, hx⟩ | hx)
        · exact ⟨e, by omega, hx⟩
        · exact ⟨d, by omega, ⟨hfit, hok⟩, hx⟩
      · rintro ⟨e, he, hs', hx⟩
        rcases Nat.lt_or_ge e d with y | y
        · exact Or.inl ⟨e, y, hs', hx⟩
        · have : e = d := by omega
          subst this
          exact Or.inr hx
    · dsimp only
      refine br_t rfl ?_
      intro y ey
      rw [nI_1] at ey
      subst ey
      refine ih (d + 1) q _ _ _ _ (by omega) (by omega) hf8 (fun j hj => ?_)
      rw [hf j hj]
      constructor
      · rintro ⟨e, he, hx⟩
        exact ⟨e, by omega, hx⟩
      · rintro ⟨e, he, hs', hx⟩
        rcases Nat.lt_or_ge e d with y | y
        · exact ⟨e, y, hs', hx⟩
        · have : e = d := by omega
          subst this
          exact absurd hs' hno
theorem bx_ra {post : Int32 → SX → Prop} {s M O : Nat} (hs : s < 2) (hM : M < 8) (hO : O < 8) (hp : bm_p9 ap)
    (h : ∀ f fm' ae' am', bm_RX (bm_A ap s (1 - s)) M O f → post (nI f) (fr, fc, fm', ft, fb, ap, ae', am', ac, aq, aw, ar, ah)) : wpX_repliesAmong post (fr, fc, fm, ft, fb, ap, ae, am, ac, aq, aw, ar, ah) (nI s) (nI O) (nI M) :=
  ⟨65, bx_ra6 hs hM hO hp h 64 0 65 0 _ _ _ (by omega) (by omega) (by omega) (fun j hj => ⟨fun q => by simp at q, fun ⟨e, he, _⟩ => absurd he (by omega)⟩)⟩
theorem bx_least {post : Int32 → Prop} {R C s : Nat} {v : bm_V} (hRC : bm_RC R C) (hs : s < 2) (hp : bm_p9 ap) (hv : bm_b3 v) (hm : bm_H am v) (h : post (bm_i (-(bm_mx (bm_B ap s true) (2 ^ bm_n R C (1 - s) - 1) v)))) : wpX_leastGain post (nI R, nI C, fm, ft, fb, ap, ae, am, ac, aq, aw, ar, ah) (nI s) := by
  have hA := bm_A9p hp s s
  have hn := bm_n13 (s := 1 - s) hRC
  unfold wpX_leastGain
  dsimp only
  rw [bx_1s hs]
  have go : wpX_gain (fun r_15 => ∃ n19, wX_leastGain_19 post (nI s) (nI (bm_n R C (1 - s))) (nI R) (nI C) fm ft fb ap ae am ac aq aw ar ah n19 r_15 1) (nI R, nI C, fm, ft, fb, ap, ae, am, ac, aq, aw, ar, ah) (nI s) (nI s) (nI 0) := by
    refine bx_gain hs (by omega) hs hm ?_
    have loop : ∀ (m c q : Nat) (l : Int), c + m = bm_n R C (1 - s) → m < q → (∀ j, j < c → l ≤ bm_gn (bm_A ap s s) v j) → (∃ j, j < c ∧ bm_gn (bm_A ap s s) v j = l) → wX_leastGain_19 post (nI s) (nI (bm_n R C (1 - s))) (nI R) (nI C) fm ft fb ap ae am ac aq aw ar ah q (bm_i l) (nI c) := by
      intro m
      induction m with
      | zero =>
        intro c q l hc hq h1 h2
        obtain ⟨q, rfl⟩ : ∃ q', q = q' + 1 := ⟨q - 1, by omega⟩
        have : c = bm_n R C (1 - s) := by omega
        subst this
        refine br_t (nI_le (by omega) (by omega)) ?_
        have hM : bm_M (bm_B ap s true) (2 ^ bm_n R C (1 - s) - 1) v (-l) := by
          refine ⟨fun j hj hOj => ?_, ?_⟩
          · have := h1 j ((bm_allT ⟨bm_n R C (1 - s), by omega⟩ ⟨j, hj⟩).mp hOj)
            rw [bm_gn_neg]
            omega
          · obtain ⟨j, hj, e⟩ := h2
            exact ⟨j, by omega, (bm_allT ⟨bm_n R C (1 - s), by omega⟩ ⟨j, by omega⟩).mpr hj, by rw [bm_gn_neg, e]⟩
        have e := bm_M_u hM (bm_mx_M (bm_gn_lo (bm_B9 hp s true) hv) (by obtain ⟨j, hj, hOj, -⟩ := hM.2; exact ⟨j, hj, hOj⟩))
        rw [← e, Int.neg_neg] at h
        exact h
      | succ m ih =>
        intro c q l hc hq h1 h2
        obtain ⟨q, rfl⟩ : ∃ q', q = q' + 1 := ⟨q - 1, by omega⟩
        have hc3 : c < 3 := by omega
        refine br_f (nI_ge (by omega) (by omega)) ?_
        refine bx_gain hs hc3 hs hm ?_
        have gb := bm_gn_b hA hv hc3
        have lb : -17496 ≤ l ∧ l ≤ 17496 := by
          obtain ⟨j, hj, e⟩ := h2
          have := bm_gn_b hA hv (j := j) (by omega)
          omega
        rw [bm_le (by omega) (by omega) (by omega) (by omega)]
        refine br_c (fun z => ?_) (fun z => ?_)
        · intro y ey
          rw [nI_1] at ey
          subst ey
          refine ih (c + 1) q l (by omega) (by omega) (fun j hj => ?_) ?_
          · by_cases y : j = c
            · rw [y]; exact z
            · exact h1 j (by omega)
          · obtain ⟨j, hj, e⟩ := h2
            exact ⟨j, by omega, e⟩
        · intro y ey
          rw [nI_1] at ey
          subst ey
          refine ih (c + 1) q _ (by omega) (by omega) (fun j hj => ?_) ⟨c, by omega, rfl⟩
          by_cases y : j = c
          · rw [y]; exact Int.le_refl _
          · have := h1 j (by omega)
            omega
    refine ⟨bm_n R C (1 - s) + 1, loop (bm_n R C (1 - s) - 1) 1 _ _ (by omega) (by omega) (fun j hj => ?_) ⟨0, by omega, rfl⟩⟩
    rw [show j = 0 by omega]
    exact Int.le_refl _
  have h2 : s = 0 ∨ s = 1 := by omega
  rcases h2 with rfl | rfl
  · exact br_f (by decide) go
  · exact br_t rfl go
theorem bx_ws28 {post : SX → Prop} {R C s : Nat} (hRC : bm_RC R C) (hs : s < 2) (hp : bm_p9 ap)
    (h : ∀ t b fm' ae' am', bm_SX (bm_B ap s true) (2 ^ bm_n R C s - 1) (2 ^ bm_n R C (1 - s) - 1) 64 t b → post (nI R, nI C, fm', bm_i (t.tdiv (bm_q t b)), bm_i (b.tdiv (bm_q t b)), ap, ae', am', ac, aq, aw, ar, ah)) :
    ∀ (m d q : Nat) (t b : Int) (fm' : Int32) (ae' am' : Nat → Int32), d + m = 64 → m < q → bm_SX (bm_B ap s true) (2 ^ bm_n R C s - 1) (2 ^ bm_n R C (1 - s) - 1) d t b → wX_weighSure_28 post (nI s) (nI (2 ^ bm_n R C s - 1)) (nI (2 ^ bm_n R C (1 - s) - 1)) q (nI d) (nI R) (nI C) fm' (bm_i t) (bm_i b) ap ae' am' ac aq aw ar ah := by
  have M8 := bm_all8 (bm_n13 (s := s) hRC).2
  have O8 := bm_all8 (bm_n13 (s := 1 - s) hRC).2
  have hA := bm_A9p hp s s
  have hB := bm_B9 hp s true
  intro m
  induction m with
  | zero =>
    intro d q t b fm' ae' am' hd hq hI
    obtain ⟨q, rfl⟩ : ∃ q', q = q' + 1 := ⟨q - 1, by omega⟩
    have : d = 64 := by omega
    subst this
    have hb := hI.1
    refine br_t (by decide) ?_
    exact bx_red (by omega) hb.1 (by omega) (h t b _ _ _ hI)
  | succ m ih =>
    intro d q t b fm' ae' am' hd hq hI
    obtain ⟨q, rfl⟩ : ∃ q', q = q' + 1 := ⟨q - 1, by omega⟩
    obtain ⟨hb, hall, hex⟩ := hI
    have hex' : ((t = -9 ∧ b = 1) ∨ ∃ e, e < d + 1 ∧ bm_sol (bm_B ap s true) (2 ^ bm_n R C s - 1) (2 ^ bm_n R C (1 - s) - 1) (7 - e / 8) (e % 8) ∧ b = bm_sg (bm_nv (bm_raw (bm_B ap s true) (7 - e / 8) (e % 8))) ∧ t = -(bm_mx (bm_B ap s true) (2 ^ bm_n R C (1 - s) - 1) (bm_nv (bm_raw (bm_B ap s true) (7 - e / 8) (e % 8))))) := by
      rcases hex with z | ⟨e, he, hh⟩
      · exact Or.inl z
      · exact Or.inr ⟨e, by omega, hh⟩
    refine br_f (nI_ge (b := 64) (by omega) (by decide)) ?_
    refine bx_solve hs hs M8 O8 (by omega) hp (fun hfit hok ae2 am2 hm2 => ?_) (fun hno fm2 ae2 am2 => ?_)
    · dsimp only
      refine br_f (by decide) ?_
      obtain ⟨bo, bn⟩ := bm_Bs ap s (7 - d / 8) (d % 8)
      have bn' := bn hok
      have okB := bo.mpr hok
      have hvb := bm_nv_b (bm_raw_b hA (7 - d / 8) (d % 8)) hok
      have hP := bm_nv_P hok
      rw [← bn'] at hm2 hvb hP ⊢
      have mb := bm_mx_b (O := 2 ^ bm_n R C (1 - s) - 1) hB hvb
      have hM : bm_M (bm_B ap s true) (2 ^ bm_n R C (1 - s) - 1) (bm_nv (bm_raw (bm_B ap s true) (7 - d / 8) (d % 8))) (bm_mx (bm_B ap s true) (2 ^ bm_n R C (1 - s) - 1) (bm_nv (bm_raw (bm_B ap s true) (7 - d / 8) (d % 8)))) := by
        obtain ⟨j, hj, -, hO⟩ := bm_fit_O (by omega) (by omega) hfit
        exact bm_mx_M (bm_gn_lo hB hvb) ⟨j, hj, hO⟩
      have mb2 : -17496 ≤ bm_mx (bm_B ap s true) (2 ^ bm_n R C (1 - s) - 1) (bm_nv (bm_raw (bm_B ap s true) (7 - d / 8) (d % 8))) := by
        obtain ⟨j, hj, -, e⟩ := hM.2
        have := bm_gn_b hB hvb hj
        omega
      refine bx_least hRC hs hp hvb hm2 ?_
      have sb := bm_sg_b hvb
      have sp := hP.2.2.2.1
      have k1 := bm_p18 (a := -(bm_mx (bm_B ap s true) (2 ^ bm_n R C (1 - s) - 1) (bm_nv (bm_raw (bm_B ap s true) (7 - d / 8) (d % 8))))) (b := b) (s := 17496) (t := 1944) (by omega) (by omega) (by omega) (by omega)
      have k2 := bm_p18 (a := t) (b := bm_sg (bm_nv (bm_raw (bm_B ap s true) (7 - d / 8) (d % 8)))) (s := 17496) (t := 1944) (by omega) (by omega) (by omega) (by omega)
      rw [bm_mul, bm_mul, bm_le (by omega) (by omega) (by omega) (by omega)]
      refine br_c (fun z => ?_) (fun z => ?_)
      · intro y ey
        rw [nI_1] at ey
        subst ey
        refine ih (d + 1) q t b _ _ _ (by omega) (by omega) ⟨hb, fun e he hse => ?_, hex'⟩
        rcases Nat.lt_or_ge e d with y | y
        · exact hall e y hse
        · have : e = d := by omega
          subst this
          exact z
      · intro y ey
        rw [nI_1] at ey
        subst ey
        refine ih (d + 1) q _ _ _ _ _ (by omega) (by omega) ⟨⟨sp, sb.2, by omega, by omega⟩, fun e he hse => ?_, Or.inr ⟨d, by omega, ⟨hfit, okB⟩, rfl, rfl⟩⟩
        rcases Nat.lt_or_ge e d with y | y
        · have hold := hall e y hse
          have hPe := bm_nv_P hse.2
          generalize bm_nv (bm_raw (bm_B ap s true) (7 - e / 8) (e % 8)) = x at *
          generalize bm_nv (bm_raw (bm_B ap s true) (7 - d / 8) (d % 8)) = w at *
          generalize hl : -(bm_mx (bm_B ap s true) (2 ^ bm_n R C (1 - s) - 1) w) = l at *
          generalize hl' : -(bm_mx (bm_B ap s true) (2 ^ bm_n R C (1 - s) - 1) x) = l' at *
          have sx := hPe.2.2.2.1
          have j1 : (l' * b) * bm_sg w ≤ (t * bm_sg x) * bm_sg w := Int.mul_le_mul_of_nonneg_right hold (by omega)
          have j2 : (t * bm_sg w) * bm_sg x ≤ (l * b) * bm_sg x := Int.mul_le_mul_of_nonneg_right (by omega) (by omega)
          have j3 : (l' * b) * bm_sg w = (l' * bm_sg w) * b := by grind
          have j4 : (t * bm_sg x) * bm_sg w = (t * bm_sg w) * bm_sg x := by grind
          have j5 : (l * b) * bm_sg x = (l * bm_sg x) * b := by grind
          exact Int.le_of_mul_le_mul_right (show (l' * bm_sg w) * b ≤ (l * bm_sg x) * b by omega) hb.1
        · have : e = d := by omega
          subst this
          exact Int.le_refl _
    · dsimp only
      refine br_t rfl ?_
      intro y ey
      rw [nI_1] at ey
      subst ey
      refine ih (d + 1) q t b _ _ _ (by omega) (by omega) ⟨hb, fun e he hse => ?_, hex'⟩
      rcases Nat.lt_or_ge e d with y | y
      · exact hall e y hse
      · have : e = d := by omega
        subst this
        exact absurd ⟨hse.1, (bm_Bs ap s _ _).1.mp hse.2⟩ hno
theorem bx_ws {post : SX → Prop} {R C s : Nat} (hRC : bm_RC R C) (hs : s < 2) (hp : bm_p9 ap)
    (h : ∀ t b fm' ae' am', bm_SX (bm_B ap s true) (2 ^ bm_n R C s - 1) (2 ^ bm_n R C (1 - s) - 1) 64 t b → post (nI R, nI C, fm', bm_i (t.tdiv (bm_q t b)), bm_i (b.tdiv (bm_q t b)), ap, ae', am', ac, aq, aw, ar, ah)) : wpX_weighSure post (nI R, nI C, fm, ft, fb, ap, ae, am, ac, aq, aw, ar, ah) (nI s) := by
  unfold wpX_weighSure
  dsimp only
  refine bx_every hRC hs ?_
  rw [bx_1s hs]
  refine bx_every hRC (by omega) ?_
  refine ⟨65, ?_⟩
  exact bx_ws28 hRC hs hp h 64 0 65 (-9) 1 _ _ _ (by omega) (by omega) ⟨by omega, fun e he => absurd he (by omega), Or.inl ⟨rfl, rfl⟩⟩
end
section
variable {yr yc : Int32} {yp ys yn yq yw ym yg : Nat → Int32}
theorem by_48r {post : Int32 → SY → Prop} {J : Int32 → Int32 → Int32 → Int32 → (Nat → Int32) → (Nat → Int32) → (Nat → Int32) → (Nat → Int32) → (Nat → Int32) → (Nat → Int32) → (Nat → Int32) → Prop} {x1 : Int32} {O k f : Nat} {A : Nat → Nat → Int} {v : bm_V} (hO : O < 8) (hf : f < 8) (hA : bm_A9 A) (hv : bm_b3 v) (hg : ∀ j, j < 3 → yg j = bm_i (bm_gn A v j)) (h : J (nI (f ||| bm_rp A O v)) (nI (k + 1)) yr yc yp ys yn yq yw ym yg) : ∃ n, wY_repliesOf_48 post J x1 (nI O) (nI k) (bm_i (bm_mx A O v)) yr yc yp ys yn yq yw ym yg n (nI f) 0 := by
  have mb := bm_mx_b (O := O) hA hv
  have step : ∀ (n j g : Nat), j < 3 → g < 8 → (∀ i, i < 3 → (g.testBit i = true ↔ f.testBit i = true ∨ (i < j ∧ (bm_rp A O v).testBit i = true))) → (∀ g', g' < 8 → (∀ i, i < 3 → (g'.testBit i = true ↔ f.testBit i = true ∨ (i < j + 1 ∧ (bm_rp A O v).testBit i = true))) → wY_repliesOf_48 post J x1 (nI O) (nI k) (bm_i (bm_mx A O v)) yr yc yp ys yn yq yw ym yg n (nI g') (nI (j + 1))) → wY_repliesOf_48 post J x1 (nI O) (nI k) (bm_i (bm_mx A O v)) yr yc yp ys yn yq yw ym yg (n + 1) (nI g) (nI j) := by
    intro n j g hj hg8 hgb hk
    have gb := bm_gn_b hA hv hj
    have no : ¬ (bm_rp A O v).testBit j = true → ∀ y, y = nI j + 1 → wY_repliesOf_48 post J x1 (nI O) (nI k) (bm_i (bm_mx A O v)) yr yc yp ys yn yq yw ym yg n (nI g) y := by
      intro hn y ey
      rw [nI_1] at ey
      subst ey
      refine hk g hg8 (fun i hi => ?_)
      rw [hgb i hi]
      constructor
      · rintro (q | ⟨q, r⟩)
        · exact Or.inl q
        · exact Or.inr ⟨by omega, r⟩
      · rintro (q | ⟨q, r⟩)
        · exact Or.inl q
        · by_cases z : i = j
          · rw [z] at r
            exact absurd r hn
          · exact Or.inr ⟨by omega, r⟩
    refine br_f (nI_ge (b := 3) hj (by decide)) (bx_bit hO hj (fun z => ⟨vp_in_nI hj (by decide), ?_⟩) (fun z => no (fun q => by rw [((bm_rp_t hj).mp q).1] at z; cases z)))
    rw [nI_clamp (by omega), hg j hj, bm_eq (by omega) (by omega) (by omega) (by omega)]
    refine br_c (fun p => ?_) (fun p => no (fun q => p ((bm_rp_t hj).mp q).2))
    intro x ex y ey
    rw [bx_sh ⟨j, hj⟩, bx_or hg8 (bm_28 hj)] at ex
    rw [nI_1] at ey
    subst ex ey
    refine hk _ (bx_orl hg8 (bm_28 hj)) (fun i hi => ?_)
    rw [Nat.testBit_or, Bool.or_eq_true, bm_2t, hgb i hi]
    constructor
    · rintro ((q | ⟨q, r⟩) | rfl)
      · exact Or.inl q
      · exact Or.inr ⟨by omega, r⟩
      · exact Or.inr ⟨by omega, (bm_rp_t hj).mpr ⟨z, p⟩⟩
    · rintro (q | ⟨q, r⟩)
      · exact Or.inl (Or.inl q)
      · by_cases z : i = j
        · exact Or.inr z
        · exact Or.inl (Or.inr ⟨by omega, r⟩)
  refine ⟨4, step 3 0 f (by omega) hf (fun i hi => ⟨fun q => Or.inl q, fun q => ?_⟩) (fun g1 a1 b1 => step 2 1 g1 (by omega) a1 b1 (fun g2 a2 b2 => step 1 2 g2 (by omega) a2 b2 (fun g3 a3 b3 => br_t (by decide) ?_)))⟩
  · rcases q with q | ⟨q, -⟩
    · exact q
    · omega
  · intro y ey
    rw [nI_1] at ey
    subst ey
    have e : g3 = f ||| bm_rp A O v := by
      apply bm_8e a3 (bx_orl hf (bm_rp8 _ _ _))
      intro i hi
      rw [Bool.eq_iff_iff, b3 i hi, Nat.testBit_or, Bool.or_eq_true]
      constructor
      · rintro (q | ⟨-, q⟩)
        · exact Or.inl q
        · exact Or.inr q
      · rintro (q | q)
        · exact Or.inl q
        · exact Or.inr ⟨by omega, q⟩
    rw [e]
    exact h
theorem by_ro {post : Int32 → SY → Prop} {s M O : Nat} (hs : s < 2) (hM : M < 8) (hO : O < 8) (hp : bm_p9 yp)
    (h : ∀ f yn' yq' yw' ym' yg', bm_RY (bm_A yp s (1 - s)) M O f → post (nI f) (yr, yc, yp, ys, yn', yq', yw', ym', yg')) : wpY_repliesOf post (yr, yc, yp, ys, yn, yq, yw, ym, yg) (nI s) (nI O) (nI M) := by
  unfold wpY_repliesOf
  dsimp only
  rw [bx_1s hs]
  refine by_fc (s := 1 - s) (own := false) hM hO (by omega) hp (fun yn1 yq1 yw1 ym1 yg1 L hI hX hc _ _ => ?_)
  dsimp only
  rw [bm_B_f, show 1 - (1 - s) = s by omega] at hI
  have hA := bm_A9p hp s (1 - s)
  have kb := bm_IsL_b hA hI
  have loop : ∀ (m k q f : Nat) (ym' yg' : Nat → Int32), k + m = L.length → m < q → f < 8 → (∀ j, j < 3 → (f.testBit j = true ↔ ∃ i v, i < k ∧ L[i]? = some v ∧ (bm_rp (bm_A yp s (1 - s)) O v).testBit j = true)) → wY_repliesOf_16 post (nI s) (nI O) q (nI f) (nI k) yr yc yp ys yn1 yq1 yw1 ym' yg' := by
    intro m
    induction m with
    | zero =>
      intro k q f ym' yg' hk hq hf8 hf
      obtain ⟨q, rfl⟩ : ∃ q', q = q' + 1 := ⟨q - 1, by omega⟩
      have : k = L.length := by omega
      subst this
      unfold wY_repliesOf_16
      rw [bx_1s hs]
      refine ⟨vp_in_nI (by omega) (by decide), ?_⟩
      rw [nI_clamp (by omega), hc]
      refine br_t (nI_le (by omega) (by omega)) (h f _ _ _ _ _ ⟨hf8, fun j hj => ?_⟩)
      rw [hf j hj]
      constructor
      · rintro ⟨i, v, hi, hv, hr⟩
        obtain ⟨S, T, hS, hT, hK, rfl⟩ := (hI.2 v).mp (List.mem_of_getElem? hv)
        exact ⟨S, T, hS, hT, hK, hr⟩
      · rintro ⟨S, T, hS, hT, hK, hr⟩
        obtain ⟨i, hi⟩ := List.mem_iff_getElem?.mp ((hI.2 _).mpr ⟨S, T, hS, hT, hK, rfl⟩)
        exact ⟨i, _, (List.getElem?_eq_some_iff.mp hi).1, hi, hr⟩
    | succ m ih =>
      intro k q f ym' yg' hk hq hf8 hf
      obtain ⟨q, rfl⟩ : ∃ q', q = q' + 1 := ⟨q - 1, by omega⟩
      obtain ⟨v, hv⟩ : ∃ v, L[k]? = some v := ⟨_, List.getElem?_eq_getElem (by omega)⟩
      have hvb := kb.2.1 v (List.mem_of_getElem? hv)
      unfold wY_repliesOf_16
      rw [bx_1s hs]
      refine ⟨vp_in_nI (by omega) (by decide), ?_⟩
      rw [nI_clamp (by omega), hc]
      refine br_f (nI_ge (by omega) (by omega)) ?_
      refine by_look (by omega) (by omega) (hX k v hv) (fun ym2 yg2 hm2 hg2 => ?_)
      dsimp only
      rw [show 1 - (1 - s) = s by omega] at hg2
      refine by_greatest hO hA hvb hg2 ?_
      refine by_48r hO hf8 hA hvb hg2 ?_
      refine ih (k + 1) q _ _ _ (by omega) (by omega) (bx_orl hf8 (bm_rp8 _ _ _)) (fun j hj => ?_)
      rw [Nat.testBit_or, Bool.or_eq_true, hf j hj]
      constructor
      · rintro (⟨i, w, hi, hw, hr⟩ | hr)
        · exact ⟨i, w, by omega, hw, hr⟩
        · exact ⟨k, v, by omega, hv, hr⟩
      · rintro ⟨i, w, hi, hw, hr⟩
        by_cases z : i = k
        · subst z
          rw [hv] at hw
          cases hw
          exact Or.inr hr
        · exact Or.inl ⟨i, w, by omega, hw, hr⟩
  exact ⟨L.length + 1, loop L.length 0 (L.length + 1) 0 _ _ (by omega) (by omega) (by omega) (fun j hj => ⟨fun q => by simp at q, fun ⟨i, v, hi, _⟩ => absurd hi (by omega)⟩)⟩
theorem by_sure {post : Int32 → SY → Prop} {R C s : Nat} {asked : Bool} (hRC : bm_RC R C) (hs : s < 2) (hp : bm_p9 yp)
    (h : ∀ t b L yn' yq' yw' ym' yg', bm_IsL (bm_B yp s true) (2 ^ bm_n R C s - 1) (2 ^ bm_n R C (1 - s) - 1) L → bm_SY (bm_B yp s true) (2 ^ bm_n R C (1 - s) - 1) L L.length t b → 0 < b ∧ post (bm_i ((if asked = true then -t else b).tdiv (bm_q (-t) b))) (nI R, nI C, yp, ys, yn', yq', yw', ym', yg')) : wpY_sure post (nI R, nI C, yp, ys, yn, yq, yw, ym, yg) (nI s) (bm_ow asked) := by
  have M8 := bm_all8 (bm_n13 (s := s) hRC).2
  have O8 := bm_all8 (bm_n13 (s := 1 - s) hRC).2
  unfold wpY_sure
  dsimp only
  have hside : ∀ P : Int32 → Prop, P 1 → wpY_isSide P (nI R, nI C, yp, ys, yn, yq, yw, ym, yg) (nI s) := by
    intro P hP
    have h2 : s = 0 ∨ s = 1 := by omega
    rcases h2 with rfl | rfl
    · exact br_t rfl hP
    · exact br_f (by decide) (br_t rfl hP)
  refine hside _ (br_f (by decide) ?_)
  refine by_allOf hRC hs ?_
  rw [bx_1s hs]
  refine by_allOf hRC (by omega) ?_
  refine by_fc (own := true) M8 O8 hs hp (fun yn1 yq1 yw1 ym1 yg1 L hI hX hc _ _ => ?_)
  dsimp only
  have hB := bm_B9 hp s true
  have kb := bm_IsL_b hB hI
  have loop : ∀ (m k q : Nat) (t b : Int) (ym' yg' : Nat → Int32), k + m = L.length → m < q → -17496 ≤ t → t ≤ 17496 → b ≤ 1944 → 0 ≤ b → bm_SY (bm_B yp s true) (2 ^ bm_n R C (1 - s) - 1) L k t b → wY_sure_44 post (nI s) (bm_ow asked) (nI (2 ^ bm_n R C (1 - s) - 1)) q (bm_i t) (bm_i b) (nI k) (nI R) (nI C) yp ys yn1 yq1 yw1 ym' yg' := by
    intro m
    induction m with
    | zero =>
      intro k q t b ym' yg' hk hq t1 t2 b1 b0 hI'
      obtain ⟨q, rfl⟩ : ∃ q', q = q' + 1 := ⟨q - 1, by omega⟩
      have : k = L.length := by omega
      subst this
      refine ⟨vp_in_nI hs (by decide), ?_⟩
      rw [nI_clamp (by omega), hc]
      refine br_t (nI_le (by omega) (by omega)) ?_
      rw [bm_neg]
      obtain ⟨bp, hpost⟩ := h t b L yn1 yq1 yw1 ym' yg' hI hI'
      exact by_lowest (by omega) bp (by omega) hpost
    | succ m ih =>
      intro k q t b ym' yg' hk hq t1 t2 b1 b0 hI'
      obtain ⟨q, rfl⟩ : ∃ q', q = q' + 1 := ⟨q - 1, by omega⟩
      obtain ⟨v, hv⟩ : ∃ v, L[k]? = some v := ⟨_, List.getElem?_eq_getElem (by omega)⟩
      have hvm := List.mem_of_getElem? hv
      have hvb := kb.2.1 v hvm
      have hvP := kb.2.2 v hvm
      have hh := hX k v hv
      refine ⟨vp_in_nI hs (by decide), ?_⟩
      rw [nI_clamp (by omega), hc]
      refine br_f (nI_ge (by omega) (by omega)) ?_
      have step : ∀ (n i : Nat) (a : Nat → Int32), i < 3 → wY_sure_58 post (wY_sure_44 post (nI s) (bm_ow asked) (nI (2 ^ bm_n R C (1 - s) - 1)) q) (nI s) (bm_ow asked) (nI (2 ^ bm_n R C (1 - s) - 1)) (bm_i t) (bm_i b) (nI k) (nI R) (nI C) n (nI (i + 1)) yp ys yn1 yq1 yw1 (upd a i (bm_i (bm_at v i))) yg' → wY_sure_58 post (wY_sure_44 post (nI s) (bm_ow asked) (nI (2 ^ bm_n R C (1 - s) - 1)) q) (nI s) (bm_ow asked) (nI (2 ^ bm_n R C (1 - s) - 1)) (bm_i t) (bm_i b) (nI k) (nI R) (nI C) (n + 1) (nI i) yp ys yn1 yq1 yw1 a yg' := by
        intro n i a hi hk'
        refine br_f (nI_ge (b := 3) hi (by decide)) ⟨pk_in (3 * (16 * s + k) + i) 96 (by omega) (by_48 s k i), vp_in_nI hi (by decide), ?_⟩
        intro y ey l el
        rw [by_48, nI_clamp (by omega), nI_clamp (by omega), hh.1 i hi] at ey
        rw [nI_1] at el
        subst ey el
        exact hk'
      refine ⟨4, step 3 0 _ (by omega) (step 2 1 _ (by omega) (step 1 2 _ (by omega) (br_t (by decide) ?_)))⟩
      refine by_against (own := true) (v := v) hs ⟨rfl, rfl, rfl⟩ (fun yg2 hg2 => ?_)
      dsimp only
      refine by_greatest O8 hB hvb hg2 ?_
      refine ⟨pk_in (16 * s + k) 32 (by omega) (by_16 s k), ?_⟩
      intro w ew
      rw [by_16, nI_clamp (by omega), hh.2] at ew
      subst ew
      have mb := bm_mx_b (O := 2 ^ bm_n R C (1 - s) - 1) hB hvb
      have mb2 : -17496 ≤ bm_mx (bm_B yp s true) (2 ^ bm_n R C (1 - s) - 1) v := by
        obtain ⟨j, hj, -, e⟩ := (bm_mx_M (O := 2 ^ bm_n R C (1 - s) - 1) (bm_gn_lo hB hvb) ⟨0, by omega, (bm_allT ⟨bm_n R C (1 - s), by have := bm_n13 (s := 1 - s) hRC; omega⟩ ⟨0, by omega⟩).mpr (by have := bm_n13 (s := 1 - s) hRC; dsimp only; omega)⟩).2
        have := bm_gn_b hB hvb hj
        omega
      have sb := bm_sg_b hvb
      have sp := hvP.2.2.2.1
      have k1 := bm_p18 (a := t) (b := bm_sg v) (s := 17496) (t := 1944) (by omega) (by omega) (by omega) (by omega)
      have k2 := bm_p18 (a := bm_mx (bm_B yp s true) (2 ^ bm_n R C (1 - s) - 1) v) (b := b) (s := 17496) (t := 1944) (by omega) (by omega) (by omega) (by omega)
      have new : (b = 0 ∨ bm_mx (bm_B yp s true) (2 ^ bm_n R C (1 - s) - 1) v * b < t * bm_sg v) → ∀ y, y = nI k + 1 → wY_sure_44 post (nI s) (bm_ow asked) (nI (2 ^ bm_n R C (1 - s) - 1)) q (bm_i (bm_mx (bm_B yp s true) (2 ^ bm_n R C (1 - s) - 1) v)) (bm_i (bm_sg v)) y (nI R) (nI C) yp ys yn1 yq1 yw1 (upd (upd (upd ym' 0 (bm_i (bm_at v 0))) 1 (bm_i (bm_at v 1))) 2 (bm_i (bm_at v 2))) yg2 := by
        intro hnew y ey
        rw [nI_1] at ey
        subst ey
        refine ih (k + 1) q _ _ _ _ (by omega) (by omega) mb2 mb.2 sb.2 (by omega) ⟨Or.inr ⟨sp, k, v, by omega, hv, rfl, rfl⟩, fun j w hj hw => ?_⟩
        by_cases z : j = k
        · subst z
          rw [hv] at hw
          cases hw
          exact Int.le_refl _
        · have old := hI'.2 j w (by omega) hw
          rcases hI'.1 with ⟨z0, -, -⟩ | ⟨bp, -⟩
          · omega
          · have hlt : bm_mx (bm_B yp s true) (2 ^ bm_n R C (1 - s) - 1) v * b < t * bm_sg v := by
              rcases hnew with z | z
              · omega
              · exact z
            have wp := (kb.2.2 w (List.mem_of_getElem? hw)).2.2.2.1
            generalize bm_mx (bm_B yp s true) (2 ^ bm_n R C (1 - s) - 1) v = l at *
            generalize bm_mx (bm_B yp s true) (2 ^ bm_n R C (1 - s) - 1) w = l' at *
            have j1 : (t * bm_sg w) * bm_sg v ≤ (l' * b) * bm_sg v := Int.mul_le_mul_of_nonneg_right old (by omega)
            have j2 : (l * b) * bm_sg w ≤ (t * bm_sg v) * bm_sg w := Int.mul_le_mul_of_nonneg_right (by omega) (by omega)
            have j3 : (t * bm_sg w) * bm_sg v = (t * bm_sg v) * bm_sg w := by grind
            have j4 : (l * b) * bm_sg w = (l * bm_sg w) * b := by grind
            have j5 : (l' * b) * bm_sg v = (l' * bm_sg v) * b := by grind
            exact Int.le_of_mul_le_mul_right (show (l * bm_sg w) * b ≤ (l' * bm_sg v) * b by omega) bp
      rw [← bm_0, bm_eq (by omega) (by omega) (by omega) (by omega), bm_mul, bm_mul, bm_le (by omega) (by omega) (by omega) (by omega)]
      refine br_c (fun z => new (Or.inl z)) (fun z => br_c (fun z2 => ?_) (fun z2 => new (Or.inr (by omega))))
      intro y ey
      rw [nI_1] at ey
      subst ey
      refine ih (k + 1) q t b _ _ (by omega) (by omega) t1 t2 b1 b0 ⟨?_, fun j w hj hw => ?_⟩
      · rcases hI'.1 with ⟨-, -, z0⟩ | ⟨bp, j, w, hj, hw⟩
        · exact absurd z0 z
        · exact Or.inr ⟨bp, j, w, by omega, hw⟩
      · by_cases z : j = k
        · subst z
          rw [hv] at hw
          cases hw
          exact z2
        · exact hI'.2 j w (by omega) hw
  exact ⟨L.length + 1, loop L.length 0 (L.length + 1) 0 0 _ _ (by omega) (by omega) (by omega) (by omega) (by omega) (by omega) ⟨Or.inl ⟨rfl, rfl, rfl⟩, fun j v hj => absurd hj (by omega)⟩⟩
end
