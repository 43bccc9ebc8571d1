def bm_E (p : Nat → Int32) (R C : Nat) (L0 L1 : List bm_V) (i j : Nat) : Bool := match L0[i]?, L1[j]? with
  | some v, some w => bm_uo v (bm_rp (bm_A p 0 1) (2 ^ R - 1) w) && bm_uo w (bm_rp (bm_A p 1 0) (2 ^ C - 1) v)
  | _, _ => false
/-- the chosen ones -/
def bm_Ch (kk : Int32) (l : List (Nat × Nat)) (ah : Nat → Int32) : Prop := ∀ n a b, n < 2 ^ 31 → kk = nI n → l[n]? = some (a, b) → ah 0 = nI a ∧ ah 1 = nI (64 + b)
/-- the corners of both sides as they lie in the component -/
def bm_XS (p : Nat → Int32) (R C : Nat) (L0 L1 : List bm_V) (ac aq aw ar : Nat → Int32) : Prop :=
  bm_IsL (bm_A p 1 0) (2 ^ R - 1) (2 ^ C - 1) L0 ∧ bm_IsL (bm_A p 0 1) (2 ^ C - 1) (2 ^ R - 1) L1 ∧ bm_XL (bm_A p 1 0) (2 ^ C - 1) 0 aq aw ar L0 ∧ bm_XL (bm_A p 0 1) (2 ^ R - 1) 64 aq aw ar L1 ∧ ac 0 = nI L0.length ∧ ac 1 = nI L1.length
section
variable {fr fc fm ft fb : Int32} {ap ae am ac aq aw ar ah : Nat → Int32}
theorem bx_28 {post : Int32 → SX → Prop} {J : Int32 → Int32 → (Nat → Int32) → (Nat → Int32) → (Nat → Int32) → (Nat → Int32) → (Nat → Int32) → (Nat → Int32) → (Nat → Int32) → (Nat → Int32) → Prop} {kk : Int32} {R C i : Nat} {L0 L1 : List bm_V} {acc : List (Nat × Nat)} (hp : bm_p9 ap) (hS : bm_XS ap R C L0 L1 ac aq aw ar) (hi : i < L0.length) (hacc : acc.length ≤ 1000)
    (hJ : ∀ ah2, bm_Ch kk (bm_eI (bm_E ap R C L0 L1) i acc L1.length) ah2 → J (nI (bm_eI (bm_E ap R C L0 L1) i acc L1.length).length) (nI (i + 1)) ap ae am ac aq aw ar ah2) :
    ∀ (m j q : Nat) (ah1 : Nat → Int32), j + m = L1.length → m < q → bm_Ch kk (bm_eI (bm_E ap R C L0 L1) i acc j) ah1 → wX_seek_28 post J kk (nI i) fr fc fm ft fb q (nI (bm_eI (bm_E ap R C L0 L1) i acc j).length) (nI (64 + j)) ap ae am ac aq aw ar ah1 := by
  obtain ⟨hI0, hI1, hX0, hX1, hc0, hc1⟩ := hS
  have k0 := bm_IsL_b (bm_A9p hp 1 0) hI0
  have k1 := bm_IsL_b (bm_A9p hp 0 1) hI1
  intro m
  induction m with
  | zero =>
    intro j q ah1 hj hq hC
    obtain ⟨q, rfl⟩ : ∃ q', q = q' + 1 := ⟨q - 1, by omega⟩
    have : j = L1.length := by omega
    subst this
    unfold wX_seek_28
    rw [hc1]
    refine br_t (by rw [show (64 : Int32) + nI L1.length = nI (64 + L1.length) from nI_add 64 _]; exact nI_le (by omega) (by omega)) ?_
    intro y ey
    rw [nI_1] at ey
    subst ey
    exact hJ ah1 hC
  | succ m ih =>
    intro j q ah1 hj hq hC
    obtain ⟨q, rfl⟩ : ∃ q', q = q' + 1 := ⟨q - 1, by omega⟩
    have hj1 : j < L1.length := by omega
    obtain ⟨v, hv⟩ : ∃ v, L0[i]? = some v := ⟨_, List.getElem?_eq_getElem hi⟩
    obtain ⟨w, hw⟩ : ∃ w, L1[j]? = some w := ⟨_, List.getElem?_eq_getElem hj1⟩
    have hvb := k0.2.1 v (List.mem_of_getElem? hv)
    have hwb := k1.2.1 w (List.mem_of_getElem? hw)
    have sv := hX0 i v hv
    have sw := hX1 j w hw
    rw [Nat.zero_add] at sv
    have eE : bm_E ap R C L0 L1 i j = (bm_uo v (bm_rp (bm_A ap 0 1) (2 ^ R - 1) w) && bm_uo w (bm_rp (bm_A ap 1 0) (2 ^ C - 1) v)) := by
      unfold bm_E
      rw [hv, hw]
    have len := bm_eI_len (bm_E ap R C L0 L1) i acc j
    have no : bm_E ap R C L0 L1 i j = false → bm_eI (bm_E ap R C L0 L1) i acc (j + 1) = bm_eI (bm_E ap R C L0 L1) i acc j := by
      intro h
      show (if bm_E ap R C L0 L1 i j = true then _ else _) = _
      rw [h]
      rfl
    have yes : bm_E ap R C L0 L1 i j = true → bm_eI (bm_E ap R C L0 L1) i acc (j + 1) = bm_eI (bm_E ap R C L0 L1) i acc j ++ [(i, j)] := by
      intro h
      show (if bm_E ap R C L0 L1 i j = true then _ else _) = _
      rw [if_pos h]
    have skip : bm_E ap R C L0 L1 i j = false → ∀ y, y = nI (64 + j) + 1 → wX_seek_28 post J kk (nI i) fr fc fm ft fb q (nI (bm_eI (bm_E ap R C L0 L1) i acc j).length) y ap ae am ac aq aw ar ah1 := by
      intro h y ey
      rw [show nI (64 + j) + 1 = nI (64 + (j + 1)) from nI_1 _] at ey
      subst ey
      have := ih (j + 1) q ah1 (by omega) (by omega) (by rw [no h]; exact hC)
      rw [no h] at this
      exact this
    unfold wX_seek_28
    rw [hc1]
    refine br_f (by rw [show (64 : Int32) + nI L1.length = nI (64 + L1.length) from nI_add 64 _]; exact nI_ge (by omega) (by omega)) ?_
    refine bx_uor (v := v) (f := bm_rp (bm_A ap 0 1) (2 ^ R - 1) w) (by omega) (by omega) (bm_rp8 _ _ _) hvb sv.1 sw.2.2 ?_
    cases h1 : bm_uo v (bm_rp (bm_A ap 0 1) (2 ^ R - 1) w)
    · exact br_t rfl (skip (by rw [eE, h1]; rfl))
    · refine br_f (by decide) ?_
      refine bx_uor (v := w) (f := bm_rp (bm_A ap 1 0) (2 ^ C - 1) v) (by omega) (by omega) (bm_rp8 _ _ _) hwb sw.1 sv.2.2 ?_
      cases h2 : bm_uo w (bm_rp (bm_A ap 1 0) (2 ^ C - 1) v)
      · exact br_t rfl (skip (by rw [eE, h2, Bool.and_false]))
      · have hE : bm_E ap R C L0 L1 i j = true := by rw [eE, h1, h2]; rfl
        refine br_f (by decide) (br_c (fun z => ?_) (fun z => ?_))
        · intro a1 e1 a2 e2 x ex y ey
          rw [nI_1] at ex
          rw [show nI (64 + j) + 1 = nI (64 + (j + 1)) from nI_1 _] at ey
          subst e1 e2 ex ey
          have := ih (j + 1) q (upd (upd ah1 0 (nI i)) 1 (nI (64 + j))) (by omega) (by omega) (by
            rw [yes hE]
            intro n a b hn hkn hl
            have hh : (bm_eI (bm_E ap R C L0 L1) i acc j).length = n := (nI_eq (by omega) hn).mp (z.trans hkn)
            rw [← hh, List.getElem?_append_right (Nat.le_refl _), Nat.sub_self] at hl
            cases hl
            exact ⟨rfl, rfl⟩)
          rw [yes hE, List.length_append] at this
          exact this
        · intro x ex y ey
          rw [nI_1] at ex
          rw [show nI (64 + j) + 1 = nI (64 + (j + 1)) from nI_1 _] at ey
          subst ex ey
          have := ih (j + 1) q ah1 (by omega) (by omega) (by
            rw [yes hE]
            intro n a b hn hkn hl
            have hh : ¬ (bm_eI (bm_E ap R C L0 L1) i acc j).length = n := fun q => z (by rw [hkn, q])
            rcases Nat.lt_or_ge n (bm_eI (bm_E ap R C L0 L1) i acc j).length with y | y
            · rw [List.getElem?_append_left y] at hl
              exact hC n a b hn hkn hl
            · rw [List.getElem?_append_right y, List.getElem?_eq_none (by show 1 ≤ _; omega)] at hl
              cases hl)
          rw [yes hE, List.length_append] at this
          exact this
theorem bx_14 {post : Int32 → SX → Prop} {kk : Int32} {R C : Nat} {L0 L1 : List bm_V} (hp : bm_p9 ap) (hS : bm_XS ap R C L0 L1 ac aq aw ar)
    (h : ∀ ah', bm_Ch kk (bm_eO (bm_E ap R C L0 L1) L1.length L0.length) ah' → post (nI (bm_eO (bm_E ap R C L0 L1) L1.length L0.length).length) (fr, fc, fm, ft, fb, ap, ae, am, ac, aq, aw, ar, ah')) :
    ∀ (m i q : Nat) (ah1 : Nat → Int32), i + m = L0.length → m < q → bm_Ch kk (bm_eO (bm_E ap R C L0 L1) L1.length i) ah1 → wX_seek_14 post kk fr fc fm ft fb q (nI (bm_eO (bm_E ap R C L0 L1) L1.length i).length) (nI i) ap ae am ac aq aw ar ah1 := by
  have hc0 := hS.2.2.2.2.1
  have k0 := bm_IsL_b (bm_A9p hp 1 0) hS.1
  have k1 := bm_IsL_b (bm_A9p hp 0 1) hS.2.1
  intro m
  induction m with
  | zero =>
    intro i q ah1 hi hq hC
    obtain ⟨q, rfl⟩ : ∃ q', q = q' + 1 := ⟨q - 1, by omega⟩
    have : i = L0.length := by omega
    subst this
    unfold wX_seek_14
    rw [hc0]
    exact br_t (nI_le (by omega) (by omega)) (h ah1 hC)
  | succ m ih =>
    intro i q ah1 hi hq hC
    obtain ⟨q, rfl⟩ : ∃ q', q = q' + 1 := ⟨q - 1, by omega⟩
    unfold wX_seek_14
    rw [hc0]
    refine br_f (nI_ge (by omega) (by omega)) ⟨L1.length + 1, ?_⟩
    have hl := bm_eO_len (bm_E ap R C L0 L1) L1.length i
    have : i * L1.length ≤ 13 * 13 := Nat.mul_le_mul (by omega) k1.1
    exact bx_28 hp hS (by omega) (by omega) (fun ah2 h2 => ih (i + 1) q ah2 (by omega) (by omega) h2) L1.length 0 (L1.length + 1) ah1 (by omega) (by omega) hC
theorem bx_seek {post : Int32 → SX → Prop} {kk : Int32} {R C : Nat} (hRC : bm_RC R C) (hp : bm_p9 ap)
    (h : ∀ L0 L1 fm' ae' am' ac' aq' aw' ar' ah', bm_XS ap R C L0 L1 ac' aq' aw' ar' → bm_Ch kk (bm_eO (bm_E ap R C L0 L1) L1.length L0.length) ah' → post (nI (bm_eO (bm_E ap R C L0 L1) L1.length L0.length).length) (nI R, nI C, fm', ft, fb, ap, ae', am', ac', aq', aw', ar', ah')) : wpX_seek post (nI R, nI C, fm, ft, fb, ap, ae, am, ac, aq, aw, ar, ah) kk := by
  unfold wpX_seek
  dsimp only
  refine bx_fc (s := 0) hRC (by omega) hp (fun fm1 ae1 am1 ac1 aq1 aw1 ar1 L0 hI0 hX0 hc0 _ _ => ?_)
  dsimp only
  refine bx_fc (s := 1) hRC (by omega) hp (fun fm2 ae2 am2 ac2 aq2 aw2 ar2 L1 hI1 hX1 hc1 hcj hfr => ?_)
  have k0 := bm_IsL_b (bm_A9p hp 1 0) hI0
  have hS : bm_XS ap R C L0 L1 ac2 aq2 aw2 ar2 := by
    refine ⟨hI0, hI1, ?_, hX1, (hcj 0 (by omega)).trans hc0, hc1⟩
    intro k v hv
    have := (List.getElem?_eq_some_iff.mp hv).1
    exact bm_se_H (hfr _ (by omega)) (hX0 k v hv)
  exact ⟨L0.length + 1, bx_14 hp hS (fun ah' hC => h L0 L1 _ _ _ _ _ _ _ ah' hS hC) L0.length 0 (L0.length + 1) _ (by omega) (by omega) (fun n a b _ _ hl => by cases hl)⟩
theorem bx_choose {post : Int32 → SX → Prop} {kk : Int32} {R C : Nat} (hRC : bm_RC R C) (hp : bm_p9 ap)
    (h0 : (kk < 0 ∨ ∃ n, n < 2 ^ 31 ∧ kk = nI n ∧ ∃ L0 L1, bm_IsL (bm_A ap 1 0) (2 ^ R - 1) (2 ^ C - 1) L0 ∧ bm_IsL (bm_A ap 0 1) (2 ^ C - 1) (2 ^ R - 1) L1 ∧ (bm_eO (bm_E ap R C L0 L1) L1.length L0.length)[n]? = none) → ∀ fm' ae' am' ac' aq' aw' ar' ah', post 0 (nI R, nI C, fm', ft, fb, ap, ae', am', ac', aq', aw', ar', ah'))
    (h1 : ∀ n a b L0 L1 fm' ae' am' ac' aq' aw' ar' ah', n < 2 ^ 31 → kk = nI n → bm_XS ap R C L0 L1 ac' aq' aw' ar' → (bm_eO (bm_E ap R C L0 L1) L1.length L0.length)[n]? = some (a, b) → ah' 0 = nI a → ah' 1 = nI (64 + b) → post 1 (nI R, nI C, fm', ft, fb, ap, ae', am', ac', aq', aw', ar', ah')) : wpX_choose post (nI R, nI C, fm, ft, fb, ap, ae, am, ac, aq, aw, ar, ah) kk := by
  refine br_c (fun z => h0 (Or.inl z) _ _ _ _ _ _ _ _) (fun z => ?_)
  obtain ⟨n, hn, hkn⟩ := nI_of z
  refine bx_seek hRC hp (fun L0 L1 fm' ae' am' ac' aq' aw' ar' ah' hS hC => ?_)
  have k0 := bm_IsL_b (bm_A9p hp 1 0) hS.1
  have k1 := bm_IsL_b (bm_A9p hp 0 1) hS.2.1
  have hl := bm_eO_len (bm_E ap R C L0 L1) L1.length L0.length
  have : L0.length * L1.length ≤ 13 * 13 := Nat.mul_le_mul k0.1 k1.1
  dsimp only
  subst hkn
  refine pk_le _ n (fun y => h0 (Or.inr ⟨n, hn, rfl, L0, L1, hS.1, hS.2.1, List.getElem?_eq_none y⟩) _ _ _ _ _ _ _ _) (fun y => ?_) rfl rfl (by omega) hn
  obtain ⟨⟨a, b⟩, hab⟩ : ∃ q, (bm_eO (bm_E ap R C L0 L1) L1.length L0.length)[n]? = some q := ⟨_, List.getElem?_eq_getElem y⟩
  have hc := hC n a b hn rfl hab
  exact h1 n a b L0 L1 _ _ _ _ _ _ _ _ hn rfl hS hab hc.1 hc.2
end
