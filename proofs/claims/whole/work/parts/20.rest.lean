/-! places, pure, exchange, left -/
def bm_pl (R C : Nat) (x : Int32) : Prop := ∃ n, n < 9 ∧ x = nI n ∧ n / 3 < R ∧ n % 3 < C
section
variable {fr fc fm ft fb : Int32} {ap ae am ac aq aw ar ah : Nat → Int32}
theorem bx_cell {post : Int32 → Prop} {R C : Nat} {x : Int32} (hRC : bm_RC R C) (h1 : bm_pl R C x → post 1) (h0 : ¬ bm_pl R C x → post 0) : wpX_isCell post (nI R, nI C, fm, ft, fb, ap, ae, am, ac, aq, aw, ar, ah) x := by
  unfold bm_RC at hRC
  unfold wpX_isCell
  dsimp only
  have nu : ∀ n, n < 2 ^ 31 → x = nI n → bm_pl R C x → n < 9 ∧ n / 3 < R ∧ n % 3 < C := by
    rintro n hn hx ⟨m, hm, hxm, a, b⟩
    have : n = m := (nI_eq hn (by omega)).mp (hx.symm.trans hxm)
    subst this
    exact ⟨hm, a, b⟩
  refine br_c (fun z => h0 ?_) (fun z => ?_)
  · rintro ⟨n, hn, rfl, -, -⟩
    exact nI_pos (by omega) z
  · obtain ⟨n, hn, rfl⟩ := nI_of z
    refine pk_le 9 n (fun y => h0 (fun q => ?_)) (fun y => ⟨by decide, ?_⟩) rfl rfl (by omega) hn
    · have := nu n hn rfl q
      omega
    · rw [show nI n / 3 = nI (n / 3) from pk_div (d := 3) hn (by omega) (by omega)]
      refine pk_le R (n / 3) (fun y2 => h0 (fun q => ?_)) (fun y2 => ⟨by decide, ?_⟩) rfl rfl (by omega) (by omega)
      · have := nu n hn rfl q
        omega
      · rw [show nI (n / 3) = nI n / 3 from (pk_div (d := 3) hn (by omega) (by omega)).symm, show nI n - nI n / 3 * 3 = nI (n % 3) from pk_rem (d := 3) hn (by omega) (by omega)]
        refine pk_le C (n % 3) (fun y3 => h0 (fun q => ?_)) (fun y3 => h1 ⟨n, by omega, rfl, by omega, by omega⟩) rfl rfl (by omega) (by omega)
        have := nu n hn rfl q
        omega
end
section
variable {yr yc : Int32} {yp ys yn yq yw ym yg : Nat → Int32}
theorem by_side {post : Int32 → Prop} {x : Int32} (h1 : (x = 0 ∨ x = 1) → post 1) (h0 : ¬ (x = 0 ∨ x = 1) → post 0) : wpY_isSide post (yr, yc, yp, ys, yn, yq, yw, ym, yg) x := by
  unfold wpY_isSide
  dsimp only
  exact br_c (fun z => h1 (Or.inl z)) (fun z => br_c (fun y => h1 (Or.inr y)) (fun y => h0 (fun q => q.elim z y)))
theorem by_place {post : Int32 → Prop} {R C : Nat} {s x : Int32} (hRC : bm_RC R C) (h1 : (s = 0 ∨ s = 1) → bm_pl R C x → post 1) (h0 : ¬ ((s = 0 ∨ s = 1) ∧ bm_pl R C x) → post 0) : wpY_isPlace post (nI R, nI C, yp, ys, yn, yq, yw, ym, yg) s x := by
  unfold bm_RC at hRC
  unfold wpY_isPlace
  dsimp only
  have nu : ∀ n, n < 2 ^ 31 → x = nI n → bm_pl R C x → n < 9 ∧ n / 3 < R ∧ n % 3 < C := by
    rintro n hn hx ⟨m, hm, hxm, a, b⟩
    have : n = m := (nI_eq hn (by omega)).mp (hx.symm.trans hxm)
    subst this
    exact ⟨hm, a, b⟩
  refine by_side (fun hs => br_f (by decide) ?_) (fun hs => br_t rfl (h0 (fun q => hs q.1)))
  refine br_c (fun z => h0 ?_) (fun z => ⟨by decide, ?_⟩)
  · rintro ⟨-, n, hn, rfl, -, -⟩
    exact nI_pos (by omega) z
  · obtain ⟨n, hn, rfl⟩ := nI_of z
    rw [show nI n / 3 = nI (n / 3) from pk_div (d := 3) hn (by omega) (by omega)]
    refine pk_le R (n / 3) (fun y2 => h0 (fun q => ?_)) (fun y2 => ⟨by decide, ?_⟩) rfl rfl (by omega) (by omega)
    · have := nu n hn rfl q.2
      omega
    · rw [show nI (n / 3) = nI n / 3 from (pk_div (d := 3) hn (by omega) (by omega)).symm, show nI n - nI n / 3 * 3 = nI (n % 3) from pk_rem (d := 3) hn (by omega) (by omega)]
      refine pk_le C (n % 3) (fun y3 => h0 (fun q => ?_)) (fun y3 => h1 hs ⟨n, by omega, rfl, by omega, by omega⟩) rfl rfl (by omega) (by omega)
      have := nu n hn rfl q.2
      omega
end
def bm_pc (p : Nat → Int32) (R C i j : Nat) : Prop := (∀ a, a < R → p (3 * a + j) ≤ p (3 * i + j)) ∧ ∀ b, b < C → p (9 + 3 * i + b) ≤ p (9 + 3 * i + j)
noncomputable def bm_pm (p : Nat → Int32) (R C : Nat) : Nat → Int32
  | 0 => 0
  | n + 1 => @ite Int32 (n / 3 < R ∧ n % 3 < C ∧ bm_pc p R C (n / 3) (n % 3)) (Classical.propDecidable _) (bm_pm p R C n ||| ((1 : Int32) <<< (nI n &&& 31))) (bm_pm p R C n)
theorem bm_pm_t {p : Nat → Int32} {R C n : Nat} (h : n / 3 < R ∧ n % 3 < C ∧ bm_pc p R C (n / 3) (n % 3)) : bm_pm p R C (n + 1) = bm_pm p R C n ||| ((1 : Int32) <<< (nI n &&& 31)) := if_pos h
theorem bm_pm_f {p : Nat → Int32} {R C n : Nat} (h : ¬ (n / 3 < R ∧ n % 3 < C ∧ bm_pc p R C (n / 3) (n % 3))) : bm_pm p R C (n + 1) = bm_pm p R C n := if_neg h
theorem bx_93 (i j : Nat) : 9 + 3 * nI i + nI j = nI (9 + 3 * i + j) := by
  show nI 9 + nI 3 * nI i + nI j = _
  rw [pk_mul, nI_add, nI_add]
section
variable {fr fc fm ft fb : Int32} {ap ae am ac aq aw ar ah : Nat → Int32}
theorem bx_ipe {post : Int32 → Prop} {R C i j : Nat} (hRC : bm_RC R C) (hi : i < R) (hj : j < C) (h1 : bm_pc ap R C i j → post 1) (h0 : ¬ bm_pc ap R C i j → post 0) : wpX_isPureEquilibrium post (nI R, nI C, fm, ft, fb, ap, ae, am, ac, aq, aw, ar, ah) (nI i) (nI j) := by
  unfold bm_RC at hRC
  have in2 : (∀ a, a < R → ap (3 * a + j) ≤ ap (3 * i + j)) → ∀ (m b q : Nat), b + m = C → m < q → (∀ c, c < b → ap (9 + 3 * i + c) ≤ ap (9 + 3 * i + j)) → wX_isPureEquilibrium_43 post (nI i) (nI j) (nI R) (nI C) fm ft fb ap ae am ac aq aw ar ah q (nI b) := by
    intro hr m
    induction m with
    | zero =>
      intro b q hb hq hc
      obtain ⟨q, rfl⟩ : ∃ q', q = q' + 1 := ⟨q - 1, by omega⟩
      have : b = C := by omega
      subst this
      exact br_t (nI_le (by omega) (by omega)) (h1 ⟨hr, hc⟩)
    | succ m ih =>
      intro b q hb hq hc
      obtain ⟨q, rfl⟩ : ∃ q', q = q' + 1 := ⟨q - 1, by omega⟩
      refine br_f (nI_ge (by omega) (by omega)) ⟨pk_in (9 + 3 * i + b) 18 (by omega) (bx_93 i b), pk_in (9 + 3 * i + j) 18 (by omega) (bx_93 i j), ?_⟩
      rw [bx_93, bx_93, nI_clamp (by omega), nI_clamp (by omega)]
      refine br_c (fun z => ?_) (fun z => h0 (fun q => z (q.2 b (by omega))))
      intro y ey
      rw [nI_1] at ey
      subst ey
      refine ih (b + 1) q (by omega) (by omega) (fun c hc' => ?_)
      by_cases y : c = b
      · rw [y]; exact z
      · exact hc c (by omega)
  have in1 : ∀ (m a q : Nat), a + m = R → m < q → (∀ c, c < a → ap (3 * c + j) ≤ ap (3 * i + j)) → wX_isPureEquilibrium_2 post (nI i) (nI j) (nI R) (nI C) fm ft fb ap ae am ac aq aw ar ah q (nI a) := by
    intro m
    induction m with
    | zero =>
      intro a q ha hq hc
      obtain ⟨q, rfl⟩ : ∃ q', q = q' + 1 := ⟨q - 1, by omega⟩
      have : a = R := by omega
      subst this
      exact br_t (nI_le (by omega) (by omega)) ⟨C + 1, in2 hc C 0 (C + 1) (by omega) (by omega) (fun c hc' => absurd hc' (by omega))⟩
    | succ m ih =>
      intro a q ha hq hc
      obtain ⟨q, rfl⟩ : ∃ q', q = q' + 1 := ⟨q - 1, by omega⟩
      refine br_f (nI_ge (by omega) (by omega)) ⟨pk_in (3 * a + j) 18 (by omega) (bx_3 a j), pk_in (3 * i + j) 18 (by omega) (bx_3 i j), ?_⟩
      rw [bx_3, bx_3, nI_clamp (by omega), nI_clamp (by omega)]
      refine br_c (fun z => ?_) (fun z => h0 (fun q => z (q.1 a (by omega))))
      intro y ey
      rw [nI_1] at ey
      subst ey
      refine ih (a + 1) q (by omega) (by omega) (fun c hc' => ?_)
      by_cases y : c = a
      · rw [y]; exact z
      · exact hc c (by omega)
  exact ⟨R + 1, in1 R 0 (R + 1) (by omega) (by omega) (fun c hc => absurd hc (by omega))⟩
theorem bx_pure {post : Int32 → Prop} {R C : Nat} (hRC : bm_RC R C) (h : post (bm_pm ap R C 9)) : wpX_pure post (nI R, nI C, fm, ft, fb, ap, ae, am, ac, aq, aw, ar, ah) := by
  have hRC' := hRC
  unfold bm_RC at hRC'
  have pad : ∀ (i m j : Nat), j + m = 3 → C ≤ j → bm_pm ap R C (3 * i + j) = bm_pm ap R C (3 * (i + 1)) := by
    intro i m
    induction m with
    | zero =>
      intro j hj _
      rw [show 3 * i + j = 3 * (i + 1) by omega]
    | succ m ih =>
      intro j hj hC
      rw [← ih (j + 1) (by omega) (by omega), show 3 * i + (j + 1) = 3 * i + j + 1 by omega, bm_pm_f (by omega)]
  have pad2 : ∀ m n, n + m = 9 → 3 * R ≤ n → bm_pm ap R C n = bm_pm ap R C 9 := by
    intro m
    induction m with
    | zero =>
      intro n hn _
      rw [show n = 9 by omega]
    | succ m ih =>
      intro n hn hR
      rw [← ih (n + 1) (by omega) (by omega), bm_pm_f (by omega)]
  have inner : ∀ (J : Int32 → Int32 → Prop) (i : Nat), i < R → J (bm_pm ap R C (3 * i + C)) (nI (i + 1)) → ∀ (m j q : Nat), j + m = C → m < q → wX_pure_14 post J (nI i) (nI R) (nI C) fm ft fb ap ae am ac aq aw ar ah q (bm_pm ap R C (3 * i + j)) (nI j) := by
    intro J i hi hJ m
    induction m with
    | zero =>
      intro j q hj hq
      obtain ⟨q, rfl⟩ : ∃ q', q = q' + 1 := ⟨q - 1, by omega⟩
      have : j = C := by omega
      subst this
      refine br_t (nI_le (by omega) (by omega)) ?_
      intro y ey
      rw [nI_1] at ey
      subst ey
      exact hJ
    | succ m ih =>
      intro j q hj hq
      obtain ⟨q, rfl⟩ : ∃ q', q = q' + 1 := ⟨q - 1, by omega⟩
      have d1 : (3 * i + j) / 3 = i := by omega
      have d2 : (3 * i + j) % 3 = j := by omega
      refine br_f (nI_ge (by omega) (by omega)) ?_
      refine bx_ipe hRC hi (by omega) (fun z => br_f (by decide) ?_) (fun z => br_t rfl ?_)
      · intro x ex y ey
        rw [bx_3, ← bm_pm_t (by rw [d1, d2]; exact ⟨hi, by omega, z⟩)] at ex
        rw [nI_1] at ey
        subst ex ey
        exact ih (j + 1) q (by omega) (by omega)
      · intro y ey
        rw [nI_1] at ey
        subst ey
        have := ih (j + 1) q (by omega) (by omega)
        rw [show 3 * i + (j + 1) = 3 * i + j + 1 by omega, bm_pm_f (by rw [d1, d2]; exact fun q => z q.2.2)] at this
        exact this
  have outer : ∀ (m i q : Nat), i + m = R → m < q → wX_pure_4 post (nI R) (nI C) fm ft fb ap ae am ac aq aw ar ah q (bm_pm ap R C (3 * i)) (nI i) := by
    intro m
    induction m with
    | zero =>
      intro i q hi hq
      obtain ⟨q, rfl⟩ : ∃ q', q = q' + 1 := ⟨q - 1, by omega⟩
      have : i = R := by omega
      subst this
      refine br_t (nI_le (by omega) (by omega)) ?_
      rw [pad2 (9 - 3 * i) (3 * i) (by omega) (by omega)]
      exact h
    | succ m ih =>
      intro i q hi hq
      obtain ⟨q, rfl⟩ : ∃ q', q = q' + 1 := ⟨q - 1, by omega⟩
      refine br_f (nI_ge (by omega) (by omega)) ⟨C + 1, ?_⟩
      refine inner _ i (by omega) ?_ C 0 (C + 1) (by omega) (by omega)
      rw [pad i (3 - C) C (by omega) (by omega)]
      exact ih (i + 1) q (by omega) (by omega)
  exact ⟨R + 1, outer R 0 (R + 1) (by omega) (by omega)⟩
end
section
variable {yr yc : Int32} {yp ys yn yq yw ym yg : Nat → Int32}
theorem by_p20 {post : Int32 → Prop} {J : Int32 → Int32 → Prop} {R C n : Nat} {x1 : Int32} {is : Bool} (hRC : bm_RC R C) (hn : n < 9) (his : is = true → n / 3 < R ∧ n % 3 < C)
    (h1 : is = true → bm_pc yp R C (n / 3) (n % 3) → J (x1 ||| ((1 : Int32) <<< (nI n &&& 31))) (nI (n + 1))) (h0 : (is = false ∨ ¬ bm_pc yp R C (n / 3) (n % 3)) → J x1 (nI (n + 1))) : ∃ q, wY_pure_20 post J x1 (nI n) (nI R) (nI C) yp ys yn yq yw ym yg q (bm_ow is) 0 := by
  unfold bm_RC at hRC
  have en : n = 3 * (n / 3) + n % 3 := by omega
  have d1 : nI n / 3 = nI (n / 3) := pk_div (d := 3) (by omega) (by omega) (by omega)
  have d2 : nI n - nI n / 3 * 3 = nI (n % 3) := pk_rem (d := 3) (by omega) (by omega) (by omega)
  have d3 : ∀ i, 9 + nI (n / 3) * 3 + nI i = nI (9 + 3 * (n / 3) + i) := by
    intro i
    show nI 9 + nI (n / 3) * nI 3 + nI i = _
    rw [pk_mul, nI_add, nI_add, Nat.mul_comm]
  have d4 : (9 : Int32) + nI n = nI (9 + 3 * (n / 3) + n % 3) := by
    rw [show (9 : Int32) + nI n = nI (9 + n) from nI_add 9 n]
    congr 1
    omega
  -- what is known after i steps
  have step : ∀ (q i : Nat) (b : Bool), i < 3 →
      (b = true → is = true ∧ (∀ a, a < i → a < R → yp (3 * a + n % 3) ≤ yp n) ∧ ∀ a, a < i → a < C → yp (9 + 3 * (n / 3) + a) ≤ yp (9 + 3 * (n / 3) + n % 3)) → (b = false → is = false ∨ ¬ bm_pc yp R C (n / 3) (n % 3)) →
      (∀ b', (b' = true → is = true ∧ (∀ a, a < i + 1 → a < R → yp (3 * a + n % 3) ≤ yp n) ∧ ∀ a, a < i + 1 → a < C → yp (9 + 3 * (n / 3) + a) ≤ yp (9 + 3 * (n / 3) + n % 3)) → (b' = false → is = false ∨ ¬ bm_pc yp R C (n / 3) (n % 3)) → wY_pure_20 post J x1 (nI n) (nI R) (nI C) yp ys yn yq yw ym yg q (bm_ow b') (nI (i + 1))) → wY_pure_20 post J x1 (nI n) (nI R) (nI C) yp ys yn yq yw ym yg (q + 1) (bm_ow b) (nI i) := by
    intro q i b hi ht hf hk
    have nx : ∀ b' : Bool, (b' = true → is = true ∧ (∀ a, a < i + 1 → a < R → yp (3 * a + n % 3) ≤ yp n) ∧ ∀ a, a < i + 1 → a < C → yp (9 + 3 * (n / 3) + a) ≤ yp (9 + 3 * (n / 3) + n % 3)) → (b' = false → is = false ∨ ¬ bm_pc yp R C (n / 3) (n % 3)) → ∀ y, y = nI i + 1 → wY_pure_20 post J x1 (nI n) (nI R) (nI C) yp ys yn yq yw ym yg q (bm_ow b') y := by
      intro b' h1 h2 y ey
      rw [nI_1] at ey
      subst ey
      exact hk b' h1 h2
    have no63 : (is = false ∨ ¬ bm_pc yp R C (n / 3) (n % 3)) → wY_pure_63 post J (wY_pure_20 post J x1 (nI n) (nI R) (nI C) yp ys yn yq yw ym yg q) x1 (nI n) 0 (nI i) (nI R) (nI C) yp ys yn yq yw ym yg := by
      intro hh
      exact br_t rfl (nx false (fun q => by cases q) (fun _ => hh))
    refine br_f (nI_ge (b := 3) hi (by decide)) ?_
    cases b with
    | false => exact br_t rfl (no63 (hf rfl))
    | true =>
      obtain ⟨t1, t2, t3⟩ := ht rfl
      obtain ⟨p1, p2⟩ := his t1
      have s63 : (∀ a, a < i + 1 → a < R → yp (3 * a + n % 3) ≤ yp n) → wY_pure_63 post J (wY_pure_20 post J x1 (nI n) (nI R) (nI C) yp ys yn yq yw ym yg q) x1 (nI n) 1 (nI i) (nI R) (nI C) yp ys yn yq yw ym yg := by
        intro hr
        refine br_f (by decide) (pk_le C i (fun z => nx true (fun _ => ⟨t1, hr, fun a ha hC => t3 a (by omega) hC⟩) (fun q => by cases q)) (fun z => ⟨by decide, ?_⟩) rfl rfl (by omega) (by omega))
        rw [d1]
        refine ⟨pk_in (9 + 3 * (n / 3) + i) 18 (by omega) (d3 i), pk_in (9 + 3 * (n / 3) + n % 3) 18 (by omega) d4, ?_⟩
        rw [d3, d4, nI_clamp (by omega), nI_clamp (by omega)]
        refine br_c (fun y => nx true (fun _ => ⟨t1, hr, fun a ha hC => ?_⟩) (fun q => by cases q)) (fun y => nx false (fun q => by cases q) (fun _ => Or.inr (fun q => y (q.2 i z))))
        by_cases e : a = i
        · rw [e]; exact y
        · exact t3 a (by omega) hC
      refine br_f (by decide) (pk_le R i (fun z => s63 (fun a ha hR => t2 a (by omega) hR)) (fun z => ⟨by decide, ?_⟩) rfl rfl (by omega) (by omega))
      rw [d2]
      refine ⟨pk_in (3 * i + n % 3) 18 (by omega) (bx_3 i (n % 3)), vp_in_nI (by omega) (by decide), ?_⟩
      rw [bx_3, nI_clamp (by omega), nI_clamp (by omega)]
      refine br_c (fun y => s63 (fun a ha hR => ?_)) (fun y => no63 (Or.inr (fun q => y ?_)))
      · by_cases e : a = i
        · rw [e]; exact y
        · exact t2 a (by omega) hR
      · have := q.1 i z
        rw [← en] at this
        exact this
  have fin : ∀ b : Bool, (b = true → is = true ∧ (∀ a, a < 3 → a < R → yp (3 * a + n % 3) ≤ yp n) ∧ ∀ a, a < 3 → a < C → yp (9 + 3 * (n / 3) + a) ≤ yp (9 + 3 * (n / 3) + n % 3)) → (b = false → is = false ∨ ¬ bm_pc yp R C (n / 3) (n % 3)) → wY_pure_20 post J x1 (nI n) (nI R) (nI C) yp ys yn yq yw ym yg 1 (bm_ow b) (nI 3) := by
    intro b ht hf
    refine br_t (by decide) ?_
    cases b with
    | false =>
      refine br_t rfl ?_
      intro y ey
      rw [nI_1] at ey
      subst ey
      exact h0 (hf rfl)
    | true =>
      obtain ⟨t1, t2, t3⟩ := ht rfl
      refine br_f (by decide) ?_
      intro x ex y ey
      rw [nI_1] at ey
      subst ex ey
      refine h1 t1 ⟨fun a ha => ?_, fun b hb => t3 b (by omega) hb⟩
      rw [← en]
      exact t2 a (by omega) ha
  exact ⟨4, step 3 0 is (by omega) (fun q => ⟨q, fun a ha => absurd ha (by omega), fun a ha => absurd ha (by omega)⟩) (fun q => Or.inl q) (fun b1 a1 c1 => step 2 1 b1 (by omega) a1 c1 (fun b2 a2 c2 => step 1 2 b2 (by omega) a2 c2 (fun b3 a3 c3 => fin b3 a3 c3)))⟩
theorem by_pure {post : Int32 → Prop} {R C : Nat} (hRC : bm_RC R C) (h : post (bm_pm yp R C 9)) : wpY_pure post (nI R, nI C, yp, ys, yn, yq, yw, ym, yg) := by
  have loop : ∀ (m n q : Nat), n + m = 9 → m < q → wY_pure_4 post (nI R) (nI C) yp ys yn yq yw ym yg q (bm_pm yp R C n) (nI n) := by
    intro m
    induction m with
    | zero =>
      intro n q hn hq
      obtain ⟨q, rfl⟩ : ∃ q', q = q' + 1 := ⟨q - 1, by omega⟩
      have : n = 9 := by omega
      subst this
      exact br_t (by decide) h
    | succ m ih =>
      intro n q hn hq
      obtain ⟨q, rfl⟩ : ∃ q', q = q' + 1 := ⟨q - 1, by omega⟩
      have nx := ih (n + 1) q (by omega) (by omega)
      have nu : bm_pl R C (nI n) → n / 3 < R ∧ n % 3 < C := by
        rintro ⟨k, hk, hx, a, b⟩
        have : n = k := (nI_eq (by omega) (by omega)).mp hx
        subst this
        exact ⟨a, b⟩
      refine br_f (nI_ge (b := 9) (by omega) (by decide)) ?_
      refine by_place hRC (fun _ hpl => ?_) (fun hpl => ?_)
      · have hp2 := nu hpl
        refine by_p20 (is := true) hRC (by omega) (fun _ => hp2) (fun _ hpc => ?_) (fun hpc => ?_)
        · rw [bm_pm_t ⟨hp2.1, hp2.2, hpc⟩] at nx
          exact nx
        · rw [bm_pm_f (fun q => by rcases hpc with z | z; exact absurd z (by decide); exact z q.2.2)] at nx
          exact nx
      · refine by_p20 (is := false) hRC (by omega) (fun q => by cases q) (fun q => by cases q) (fun _ => ?_)
        rw [bm_pm_f (fun q => hpl ⟨Or.inl rfl, n, by omega, rfl, q.1, q.2.1⟩)] at nx
        exact nx
  exact ⟨10, loop 9 0 10 (by omega) (by omega)⟩
end
