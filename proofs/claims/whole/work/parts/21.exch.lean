def bm_ex (p : Nat → Int32) (k : Nat) : Int32 := if k < 9 then p (9 + k % 3 * 3 + k / 3) else if k < 18 then p ((k - 9) % 3 * 3 + (k - 9) / 3) else p k
def bm_sw (p : Nat → Int32) (a b : Nat) : Nat → Int32 := upd (upd p a (p b)) b (p a)
theorem bm_sw_n {p : Nat → Int32} {a b k : Nat} (h1 : k ≠ a) (h2 : k ≠ b) : bm_sw p a b k = p k := by
  unfold bm_sw
  rw [pk_un h2, pk_un h1]
theorem bm_ex9 {p : Nat → Int32} (h : bm_p9 p) : bm_p9 (bm_ex p) := by
  intro k
  unfold bm_ex
  repeat' split
  all_goals exact h _
theorem bm_sw9 (p : Nat → Int32) : (bm_sw (bm_sw (bm_sw (bm_sw (bm_sw (bm_sw (bm_sw (bm_sw (bm_sw p 0 9) 1 12) 2 15) 3 10) 4 13) 5 16) 6 11) 7 14) 8 17) = bm_ex p := by
  funext k
  rcases Nat.lt_or_ge k 18 with h | h
  · have hk : k = 0 ∨ k = 1 ∨ k = 2 ∨ k = 3 ∨ k = 4 ∨ k = 5 ∨ k = 6 ∨ k = 7 ∨ k = 8 ∨ k = 9 ∨ k = 10 ∨ k = 11 ∨ k = 12 ∨ k = 13 ∨ k = 14 ∨ k = 15 ∨ k = 16 ∨ k = 17 := by omega
    rcases hk with rfl | rfl | rfl | rfl | rfl | rfl | rfl | rfl | rfl | rfl | rfl | rfl | rfl | rfl | rfl | rfl | rfl | rfl <;> rfl
  · have e : bm_ex p k = p k := by
      unfold bm_ex
      rw [if_neg (by omega), if_neg (by omega)]
    rw [e, bm_sw_n (by omega) (by omega), bm_sw_n (by omega) (by omega), bm_sw_n (by omega) (by omega), bm_sw_n (by omega) (by omega), bm_sw_n (by omega) (by omega), bm_sw_n (by omega) (by omega), bm_sw_n (by omega) (by omega), bm_sw_n (by omega) (by omega), bm_sw_n (by omega) (by omega)]
section
variable {fr fc fm ft fb : Int32} {ap ae am ac aq aw ar ah : Nat → Int32}
theorem bx_exchange {post : SX → Prop} (h : post (fc, fr, fm, ft, fb, bm_ex ap, ae, am, ac, aq, aw, ar, ah)) : wpX_exchange post (fr, fc, fm, ft, fb, ap, ae, am, ac, aq, aw, ar, ah) := by
  have inner : ∀ (J : Int32 → (Nat → Int32) → (Nat → Int32) → (Nat → Int32) → (Nat → Int32) → (Nat → Int32) → (Nat → Int32) → (Nat → Int32) → (Nat → Int32) → Prop) (i : Nat) (p : Nat → Int32), i < 3 → J (nI (i + 1)) (bm_sw (bm_sw (bm_sw p (3 * i + 0) (9 + 3 * 0 + i)) (3 * i + 1) (9 + 3 * 1 + i)) (3 * i + 2) (9 + 3 * 2 + i)) ae am ac aq aw ar ah → ∃ n, wX_exchange_9 post J (nI i) fr fc fm ft fb n 0 p ae am ac aq aw ar ah := by
    intro J i p hi hJ
    have step : ∀ (n j : Nat) (p : Nat → Int32), j < 3 → wX_exchange_9 post J (nI i) fr fc fm ft fb n (nI (j + 1)) (bm_sw p (3 * i + j) (9 + 3 * j + i)) ae am ac aq aw ar ah → wX_exchange_9 post J (nI i) fr fc fm ft fb (n + 1) (nI j) p ae am ac aq aw ar ah := by
      intro n j p hj hk
      refine br_f (nI_ge (b := 3) hj (by decide)) ?_
      intro a ea b eb
      rw [bx_3] at ea
      rw [bx_93] at eb
      subst ea eb
      refine ⟨vp_in_nI (by omega) (by decide), ?_⟩
      intro k ek
      refine ⟨vp_in_nI (by omega) (by decide), vp_in_nI (by omega) (by decide), ?_⟩
      intro p1 e1
      refine ⟨vp_in_nI (by omega) (by decide), ?_⟩
      intro p2 e2 y ey
      rw [nI_clamp (by omega)] at ek
      rw [nI_clamp (by omega), nI_clamp (by omega)] at e1
      rw [nI_clamp (by omega)] at e2
      rw [nI_1] at ey
      subst e1 ek e2 ey
      exact hk
    refine ⟨4, step 3 0 _ (by omega) (step 2 1 _ (by omega) (step 1 2 _ (by omega) (br_t (by decide) ?_)))⟩
    intro y ey
    rw [nI_1] at ey
    subst ey
    exact hJ
  rw [← bm_sw9] at h
  have o3 : ∀ n p, post (fc, fr, fm, ft, fb, p, ae, am, ac, aq, aw, ar, ah) → wX_exchange_2 post fr fc fm ft fb (n + 1) (nI 3) p ae am ac aq aw ar ah := fun n p hp => br_t (by decide) hp
  have os : ∀ (n i : Nat) (p : Nat → Int32), i < 3 → wX_exchange_2 post fr fc fm ft fb n (nI (i + 1)) (bm_sw (bm_sw (bm_sw p (3 * i + 0) (9 + 3 * 0 + i)) (3 * i + 1) (9 + 3 * 1 + i)) (3 * i + 2) (9 + 3 * 2 + i)) ae am ac aq aw ar ah → wX_exchange_2 post fr fc fm ft fb (n + 1) (nI i) p ae am ac aq aw ar ah := fun n i p hi hk => br_f (nI_ge (b := 3) hi (by decide)) (inner _ i p hi hk)
  exact ⟨4, os 3 0 _ (by omega) (os 2 1 _ (by omega) (os 1 2 _ (by omega) (o3 0 _ h)))⟩
end
section
variable {yr yc : Int32} {yp ys yn yq yw ym yg : Nat → Int32}
theorem by_exchange {post : SY → Prop} (h : ∀ ys', post (yc, yr, bm_ex yp, ys', yn, yq, yw, ym, yg)) : wpY_exchange post (yr, yc, yp, ys, yn, yq, yw, ym, yg) := by
  have l2 : ∀ ys', (∀ k, k < 18 → ys' k = bm_ex yp k) → ∀ (m n q : Nat) (p : Nat → Int32), n + m = 18 → m < q → (∀ k, k < n → p k = bm_ex yp k) → (∀ k, n ≤ k → p k = yp k) → wY_exchange_62 post yr yc q (nI n) p ys' yn yq yw ym yg := by
    intro ys' hs m
    induction m with
    | zero =>
      intro n q p hn hq h1 h2
      obtain ⟨q, rfl⟩ : ∃ q', q = q' + 1 := ⟨q - 1, by omega⟩
      have : n = 18 := by omega
      subst this
      refine br_t (by decide) ?_
      have e : p = bm_ex yp := by
        funext k
        rcases Nat.lt_or_ge k 18 with z | z
        · exact h1 k z
        · rw [h2 k z]
          unfold bm_ex
          rw [if_neg (by omega), if_neg (by omega)]
      rw [e]
      exact h ys'
    | succ m ih =>
      intro n q p hn hq h1 h2
      obtain ⟨q, rfl⟩ : ∃ q', q = q' + 1 := ⟨q - 1, by omega⟩
      refine br_f (nI_ge (b := 18) (by omega) (by decide)) ⟨vp_in_nI (by omega) (by decide), vp_in_nI (by omega) (by decide), ?_⟩
      intro p' ep y ey
      rw [nI_clamp (by omega), hs n (by omega)] at ep
      rw [nI_1] at ey
      subst ep ey
      refine ih (n + 1) q _ (by omega) (by omega) (fun k hk => ?_) (fun k hk => ?_)
      · by_cases z : k = n
        · subst z
          exact pk_us
        · rw [pk_un z]
          exact h1 k (by omega)
      · rw [pk_un (by omega)]
        exact h2 k (by omega)
  have l1 : ∀ (m n q : Nat) (s : Nat → Int32), n + m = 9 → m < q → (∀ k, k < n → s k = bm_ex yp k ∧ s (9 + k) = bm_ex yp (9 + k)) → wY_exchange_2 post yr yc q (nI n) yp s yn yq yw ym yg := by
    intro m
    induction m with
    | zero =>
      intro n q s hn hq h1
      obtain ⟨q, rfl⟩ : ∃ q', q = q' + 1 := ⟨q - 1, by omega⟩
      have : n = 9 := by omega
      subst this
      refine br_t (by decide) ⟨19, l2 s (fun k hk => ?_) 18 0 19 _ (by omega) (by omega) (fun k hk => absurd hk (by omega)) (fun k _ => rfl)⟩
      rcases Nat.lt_or_ge k 9 with z | z
      · exact (h1 k z).1
      · have := (h1 (k - 9) (by omega)).2
        rw [show 9 + (k - 9) = k by omega] at this
        exact this
    | succ m ih =>
      intro n q s hn hq h1
      obtain ⟨q, rfl⟩ : ∃ q', q = q' + 1 := ⟨q - 1, by omega⟩
      have d1 : nI n / 3 = nI (n / 3) := pk_div (d := 3) (by omega) (by omega) (by omega)
      have d2 : nI n - nI n / 3 * 3 = nI (n % 3) := pk_rem (d := 3) (by omega) (by omega) (by omega)
      have i1 : 9 + (nI n - nI n / 3 * 3) * 3 + nI n / 3 = nI (9 + n % 3 * 3 + n / 3) := by
        rw [d2, d1]
        show nI 9 + nI (n % 3) * nI 3 + nI (n / 3) = _
        rw [pk_mul, nI_add, nI_add]
      have i2 : (nI n - nI n / 3 * 3) * 3 + nI n / 3 = nI (n % 3 * 3 + n / 3) := by
        rw [d2, d1]
        show nI (n % 3) * nI 3 + nI (n / 3) = _
        rw [pk_mul, nI_add]
      have i3 : (9 : Int32) + nI n = nI (9 + n) := nI_add 9 n
      refine br_f (nI_ge (b := 9) (by omega) (by decide)) ⟨by decide, by decide, pk_in (9 + n % 3 * 3 + n / 3) 18 (by omega) i1, vp_in_nI (by omega) (by decide), ?_⟩
      intro s1 e1
      refine ⟨by decide, by decide, pk_in (n % 3 * 3 + n / 3) 18 (by omega) i2, pk_in (9 + n) 18 (by omega) i3, ?_⟩
      intro s2 e2 y ey
      rw [i1, nI_clamp (by omega), nI_clamp (by omega)] at e1
      rw [i2, i3, nI_clamp (by omega), nI_clamp (by omega)] at e2
      rw [nI_1] at ey
      subst e1 e2 ey
      refine ih (n + 1) q _ (by omega) (by omega) (fun k hk => ?_)
      by_cases z : k = n
      · subst z
        refine ⟨?_, ?_⟩
        · rw [pk_un (by omega), pk_us]
          unfold bm_ex
          rw [if_pos (by omega)]
        · rw [pk_us]
          unfold bm_ex
          rw [if_neg (by omega), if_pos (by omega), show 9 + k - 9 = k by omega]
      · rw [pk_un (by omega), pk_un (by omega), pk_un (by omega), pk_un (by omega)]
        exact h1 k (by omega)
  exact ⟨10, l1 9 0 10 _ (by omega) (by omega) (fun k hk => absurd hk (by omega))⟩
end
/-! what is left -/
noncomputable def bm_rB (A : Nat → Nat → Int) (M O j : Nat) : Bool := @decide (∃ S T, S < 8 ∧ T < 8 ∧ bm_sol A M O S T ∧ (bm_rp A O (bm_nv (bm_raw A S T))).testBit j = true) (Classical.propDecidable _)
noncomputable def bm_rX (A : Nat → Nat → Int) (M O : Nat) : Nat := (bm_rB A M O 0).toNat + 2 * (bm_rB A M O 1).toNat + 4 * (bm_rB A M O 2).toNat
theorem bm_rX8 (A : Nat → Nat → Int) (M O : Nat) : bm_rX A M O < 8 := (bm_3b _ _ _).2.2.2
theorem bm_rX_RX (A : Nat → Nat → Int) (M O : Nat) : bm_RX A M O (bm_rX A M O) := by
  refine ⟨bm_rX8 _ _ _, fun j hj => ?_⟩
  have h := bm_3b (bm_rB A M O 0) (bm_rB A M O 1) (bm_rB A M O 2)
  have e : (bm_rX A M O).testBit j = bm_rB A M O j := by
    have hj3 : j = 0 ∨ j = 1 ∨ j = 2 := by omega
    rcases hj3 with rfl | rfl | rfl
    · exact h.1
    · exact h.2.1
    · exact h.2.2.1
  rw [e]
  unfold bm_rB
  exact @decide_eq_true_iff _ (Classical.propDecidable _)
theorem bm_RX_e {A : Nat → Nat → Int} {M O f : Nat} (h : bm_RX A M O f) : f = bm_rX A M O := by
  have k := bm_rX_RX A M O
  apply bm_8e h.1 k.1
  intro j hj
  rw [Bool.eq_iff_iff, h.2 j hj, k.2 j hj]
theorem bm_RY_e {A : Nat → Nat → Int} {M O f : Nat} (hA : bm_A9 A) (hM : M < 8) (hO : O < 8) (h : bm_RY A M O f) : f = bm_rX A M O := (bm_RXY hA hM hO (bm_rX_RX A M O) h).symm
noncomputable def bm_it (p : Nat → Int32) : Nat → Nat × Nat → Nat × Nat
  | 0, q => q
  | n + 1, q => bm_it p n (bm_rX (bm_A p 0 1) q.2 q.1, bm_rX (bm_A p 1 0) q.1 q.2)
section
variable {fr fc fm ft fb : Int32} {ap ae am ac aq aw ar ah : Nat → Int32}
theorem bx_left {post : Int32 → SX → Prop} {R C : Nat} (hRC : bm_RC R C) (hp : bm_p9 ap) (h : ∀ fm' ae' am', post (nI (bm_it ap 6 (2 ^ R - 1, 2 ^ C - 1)).1 ||| (nI (bm_it ap 6 (2 ^ R - 1, 2 ^ C - 1)).2 <<< ((3 : Int32) &&& 31))) (nI R, nI C, fm', ft, fb, ap, ae', am', ac, aq, aw, ar, ah)) : wpX_left post (nI R, nI C, fm, ft, fb, ap, ae, am, ac, aq, aw, ar, ah) := by
  have loop : ∀ (m r q f g : Nat) (fm' : Int32) (ae' am' : Nat → Int32), r + m = 6 → m < q → f < 8 → g < 8 → bm_it ap m (f, g) = bm_it ap 6 (2 ^ R - 1, 2 ^ C - 1) → wX_left_14 post q (nI f) (nI g) (nI r) (nI R) (nI C) fm' ft fb ap ae' am' ac aq aw ar ah := by
    intro m
    induction m with
    | zero =>
      intro r q f g fm' ae' am' hr hq hf hg e
      obtain ⟨q, rfl⟩ : ∃ q', q = q' + 1 := ⟨q - 1, by omega⟩
      have : r = 6 := by omega
      subst this
      refine br_t (by decide) ?_
      have := h fm' ae' am'
      rw [← e] at this
      exact this
    | succ m ih =>
      intro r q f g fm' ae' am' hr hq hf hg e
      obtain ⟨q, rfl⟩ : ∃ q', q = q' + 1 := ⟨q - 1, by omega⟩
      refine br_f (nI_ge (b := 6) (by omega) (by decide)) ?_
      refine bx_ra (s := 0) (by omega) hg hf hp (fun f1 fm1 ae1 am1 h1 => ?_)
      dsimp only
      refine bx_ra (s := 1) (by omega) hf hg hp (fun g1 fm2 ae2 am2 h2 => ?_)
      dsimp only
      intro y ey
      rw [nI_1] at ey
      subst ey
      refine ih (r + 1) q f1 g1 _ _ _ (by omega) (by omega) h1.1 h2.1 ?_
      rw [← e]
      show _ = bm_it ap m (bm_rX (bm_A ap 0 1) g f, bm_rX (bm_A ap 1 0) f g)
      rw [bm_RX_e h1, bm_RX_e h2]
  unfold wpX_left
  dsimp only
  refine bx_every (s := 0) hRC (by omega) ?_
  refine bx_every (s := 1) hRC (by omega) ?_
  exact ⟨7, loop 6 0 7 _ _ _ _ _ (by omega) (by omega) (bm_all8 (bm_n13 (s := 0) hRC).2) (bm_all8 (bm_n13 (s := 1) hRC).2) rfl⟩
end
section
variable {yr yc : Int32} {yp ys yn yq yw ym yg : Nat → Int32}
theorem by_left {post : Int32 → SY → Prop} {R C : Nat} (hRC : bm_RC R C) (hp : bm_p9 yp) (h : ∀ yn' yq' yw' ym' yg', post (nI (bm_it yp 6 (2 ^ R - 1, 2 ^ C - 1)).1 ||| (nI (bm_it yp 6 (2 ^ R - 1, 2 ^ C - 1)).2 <<< ((3 : Int32) &&& 31))) (nI R, nI C, yp, ys, yn', yq', yw', ym', yg')) : wpY_left post (nI R, nI C, yp, ys, yn, yq, yw, ym, yg) := by
  have loop : ∀ (m r q f g : Nat) (yn' yq' yw' ym' yg' : Nat → Int32), r + m = 6 → m < q → f < 8 → g < 8 → bm_it yp m (f, g) = bm_it yp 6 (2 ^ R - 1, 2 ^ C - 1) → wY_left_14 post q (nI f) (nI g) (nI r) (nI R) (nI C) yp ys yn' yq' yw' ym' yg' := by
    intro m
    induction m with
    | zero =>
      intro r q f g yn' yq' yw' ym' yg' hr hq hf hg e
      obtain ⟨q, rfl⟩ : ∃ q', q = q' + 1 := ⟨q - 1, by omega⟩
      have : r = 6 := by omega
      subst this
      refine br_t (by decide) ?_
      have := h yn' yq' yw' ym' yg'
      rw [← e] at this
      exact this
    | succ m ih =>
      intro r q f g yn' yq' yw' ym' yg' hr hq hf hg e
      obtain ⟨q, rfl⟩ : ∃ q', q = q' + 1 := ⟨q - 1, by omega⟩
      refine br_f (nI_ge (b := 6) (by omega) (by decide)) ?_
      refine by_ro (s := 0) (by omega) hg hf hp (fun f1 yn1 yq1 yw1 ym1 yg1 h1 => ?_)
      dsimp only
      refine by_ro (s := 1) (by omega) hf hg hp (fun g1 yn2 yq2 yw2 ym2 yg2 h2 => ?_)
      dsimp only
      intro y ey
      rw [nI_1] at ey
      subst ey
      refine ih (r + 1) q f1 g1 _ _ _ _ _ (by omega) (by omega) h1.1 h2.1 ?_
      rw [← e]
      show _ = bm_it yp m (bm_rX (bm_A yp 0 1) g f, bm_rX (bm_A yp 1 0) f g)
      rw [bm_RY_e (bm_A9p hp 0 (1 - 0)) hg hf h1, bm_RY_e (bm_A9p hp 1 (1 - 1)) hf hg h2]
  unfold wpY_left
  dsimp only
  refine by_allOf (s := 0) hRC (by omega) ?_
  refine by_allOf (s := 1) hRC (by omega) ?_
  exact ⟨7, loop 6 0 7 _ _ _ _ _ _ _ (by omega) (by omega) (bm_all8 (bm_n13 (s := 0) hRC).2) (bm_all8 (bm_n13 (s := 1) hRC).2) rfl⟩
end
