/-- the same sizes, the same payments; all else is scratch -/
def i_Rel (k : Nat) (u : SX) (v : SY) : Prop := ∃ (R C : Nat) (p : Nat → Int32), bm_RC R C ∧ bm_p9 p ∧ (∃ (fm ft fb : Int32) (ae am ac aq aw ar ah : Nat → Int32), u = (nI R, nI C, fm, ft, fb, p, ae, am, ac, aq, aw, ar, ah)) ∧ ∃ (ys yn yq yw ym yg : Nat → Int32), v = (nI R, nI C, p, ys, yn, yq, yw, ym, yg)
theorem bm_mk {k R C : Nat} {p : Nat → Int32} {fm ft fb : Int32} {ae am ac aq aw ar ah ys yn yq yw ym yg : Nat → Int32} (hRC : bm_RC R C) (hp : bm_p9 p) : i_Rel k (nI R, nI C, fm, ft, fb, p, ae, am, ac, aq, aw, ar, ah) (nI R, nI C, p, ys, yn, yq, yw, ym, yg) := ⟨R, C, p, hRC, hp, ⟨_, _, _, _, _, _, _, _, _, _, rfl⟩, ⟨_, _, _, _, _, _, rfl⟩⟩
theorem i_up {k : Nat} {u : SX} {v : SY} (h : i_Rel k u v) : i_Rel (k + 4) u v := by
  exact h
theorem i_vc0 (k0 : Int32) (k1 : Int32) : wpX_init (fun u => wpY_init (fun v => i_Rel 2 u v) k0 k1) k0 k1 := by
  have p0 : bm_p9 (fun _ => 0) := fun _ => by
    show -9 ≤ (0 : Int32).toInt ∧ (0 : Int32).toInt ≤ 9
    decide
  have cl : ∀ x : Int32, (∃ R, 1 ≤ R ∧ R ≤ 3 ∧ x = nI R ∧ 1 ≤ x ∧ x ≤ 3) ∨ (1 ≤ x ∧ ¬ x ≤ 3) ∨ ¬ 1 ≤ x := by
    intro x
    by_cases h1 : (1 : Int32) ≤ x
    · by_cases h3 : x ≤ 3
      · have hx : ¬ x < 0 := by
          intro q
          rw [Int32.lt_iff_toInt_lt] at q
          rw [Int32.le_iff_toInt_le] at h1
          have e1 : (1 : Int32).toInt = 1 := by decide
          have e0 : (0 : Int32).toInt = 0 := by decide
          omega
        obtain ⟨n, hn, rfl⟩ := nI_of hx
        have a : 1 ≤ n := (nI_leI (a := 1) (by omega) hn).mp h1
        have b : n ≤ 3 := (nI_leI (b := 3) hn (by omega)).mp h3
        exact Or.inl ⟨n, a, b, rfl, h1, h3⟩
      · exact Or.inr (Or.inl ⟨h1, h3⟩)
    · exact Or.inr (Or.inr h1)
  have fin : ∀ R C, bm_RC R C → i_Rel 2 (nI R, nI C, 0, 0, 0, (fun _ => 0), (fun _ => 0), (fun _ => 0), (fun _ => 0), (fun _ => 0), (fun _ => 0), (fun _ => 0), (fun _ => 0)) (nI R, nI C, (fun _ => 0), (fun _ => 0), (fun _ => 0), (fun _ => 0), (fun _ => 0), (fun _ => 0), (fun _ => 0)) := fun R C h => bm_mk h p0
  unfold wpX_init
  rcases cl k0 with ⟨R, a, b, rfl, l0, h0⟩ | ⟨l0, h0⟩ | l0 <;> rcases cl k1 with ⟨C, c, d, rfl, l1, h1⟩ | ⟨l1, h1⟩ | l1
  · exact br_t l0 (br_t h0 (br_t l1 (br_t h1 (br_t l0 (br_t h0 (br_t l1 (br_t h1 (fin R C ⟨a, b, c, d⟩))))))))
  · exact br_t l0 (br_t h0 (br_t l1 (br_f h1 (br_t l0 (br_t h0 (br_t l1 (br_f h1 (fin R 3 ⟨a, b, by omega, by omega⟩))))))))
  · exact br_t l0 (br_t h0 (br_f l1 (br_t l0 (br_t h0 (br_f l1 (fin R 1 ⟨a, b, by omega, by omega⟩))))))
  · exact br_t l0 (br_f h0 (br_t l1 (br_t h1 (br_t l0 (br_f h0 (br_t l1 (br_t h1 (fin 3 C ⟨by omega, by omega, c, d⟩))))))))
  · exact br_t l0 (br_f h0 (br_t l1 (br_f h1 (br_t l0 (br_f h0 (br_t l1 (br_f h1 (fin 3 3 ⟨by omega, by omega, by omega, by omega⟩))))))))
  · exact br_t l0 (br_f h0 (br_f l1 (br_t l0 (br_f h0 (br_f l1 (fin 3 1 ⟨by omega, by omega, by omega, by omega⟩))))))
  · exact br_f l0 (br_t l1 (br_t h1 (br_f l0 (br_t l1 (br_t h1 (fin 1 C ⟨by omega, by omega, c, d⟩))))))
  · exact br_f l0 (br_t l1 (br_f h1 (br_f l0 (br_t l1 (br_f h1 (fin 1 3 ⟨by omega, by omega, by omega, by omega⟩))))))
  · exact br_f l0 (br_f l1 (br_f l0 (br_f l1 (fin 1 1 ⟨by omega, by omega, by omega, by omega⟩))))
theorem i_vc_pay {k : Nat} {u : SX} {v : SY} (I : i_Rel k u v) (hk : k + 4 ≤ 2050) (v1 : Int32) (v2 : Int32) (v3 : Int32) : wpX_pay (fun r u' => wpY_pay (fun r' v' => r' = r ∧ i_Rel (k + 4) u' v') v v1 v2 v3) u v1 v2 v3 := by
  obtain ⟨R, C, p, hRC, hp, ⟨fm, ft, fb, ae, am, ac, aq, aw, ar, ah, rfl⟩, ⟨ys, yn, yq, yw, ym, yg, rfl⟩⟩ := I
  unfold wpX_pay wpY_pay
  dsimp only
  refine bx_side (fun hs => br_f (by decide) ?_) (fun hs => br_t rfl ?_)
  · refine bx_cell hRC (fun hpl => br_f (by decide) ?_) (fun hpl => br_t rfl ?_)
    · refine br_c (fun z1 => ?_) (fun z1 => br_c (fun z2 => ?_) (fun z2 => ?_))
      · exact by_place hRC (fun _ _ => br_f (by decide) (br_t z1 ⟨rfl, bm_mk hRC hp⟩)) (fun q => absurd ⟨hs, hpl⟩ q)
      · obtain ⟨s, hs2, rfl⟩ := bm_sd hs
        have hpl' := hpl
        obtain ⟨n, hn, rfl, -, -⟩ := hpl
        refine ⟨pk_in (9 * s + n) 18 (by omega) (bx_i s n), ?_⟩
        intro p1 e1
        rw [bx_i, nI_clamp (by omega)] at e1
        subst e1
        refine by_place hRC (fun _ _ => br_f (by decide) (br_f z1 (br_t z2 ⟨pk_in (9 * s + n) 18 (by omega) (by_9 s n), ?_⟩))) (fun q => absurd ⟨hs, hpl'⟩ q)
        intro p2 e2
        rw [by_9, nI_clamp (by omega)] at e2
        subst e2
        refine ⟨rfl, bm_mk hRC (fun j => ?_)⟩
        by_cases y : j = 9 * s + n
        · rw [y, pk_us]
          rw [Int32.lt_iff_toInt_lt] at z1
          rw [Int32.le_iff_toInt_le] at z2
          have a1 : (-9 : Int32).toInt = -9 := by decide
          have a2 : (9 : Int32).toInt = 9 := by decide
          omega
        · rw [pk_un y]
          exact hp j
      · exact by_place hRC (fun _ _ => br_f (by decide) (br_f z1 (br_f z2 ⟨rfl, bm_mk hRC hp⟩))) (fun q => absurd ⟨hs, hpl⟩ q)
    · exact by_place hRC (fun _ q => absurd q hpl) (fun _ => br_t rfl ⟨rfl, bm_mk hRC hp⟩)
  · exact by_place hRC (fun q _ => absurd q hs) (fun _ => br_t rfl ⟨rfl, bm_mk hRC hp⟩)
theorem i_vc_paid {k : Nat} {u : SX} {v : SY} (I : i_Rel k u v) (hk : k + 4 ≤ 2050) (v1 : Int32) (v2 : Int32) : wpX_paid (fun r => wpY_paid (fun r' => r' = r ∧ i_Rel (k + 4) u v) v v1 v2) u v1 v2 := by
  obtain ⟨R, C, p, hRC, hp, ⟨fm, ft, fb, ae, am, ac, aq, aw, ar, ah, rfl⟩, ⟨ys, yn, yq, yw, ym, yg, rfl⟩⟩ := I
  unfold wpX_paid wpY_paid
  dsimp only
  refine bx_side (fun hs => br_f (by decide) ?_) (fun hs => br_t rfl ?_)
  · refine bx_cell hRC (fun hpl => br_f (by decide) ?_) (fun hpl => br_t rfl ?_)
    · obtain ⟨s, hs2, rfl⟩ := bm_sd hs
      have hpl' := hpl
      obtain ⟨n, hn, rfl, -, -⟩ := hpl
      refine ⟨pk_in (9 * s + n) 18 (by omega) (bx_i s n), ?_⟩
      refine by_place hRC (fun _ _ => br_f (by decide) ⟨pk_in (9 * s + n) 18 (by omega) (by_9 s n), ?_, bm_mk hRC hp⟩) (fun q => absurd ⟨hs, hpl'⟩ q)
      rw [bx_i, by_9]
    · exact by_place hRC (fun _ q => absurd q hpl) (fun _ => br_t rfl ⟨rfl, bm_mk hRC hp⟩)
  · exact by_place hRC (fun q _ => absurd q hs) (fun _ => br_t rfl ⟨rfl, bm_mk hRC hp⟩)
theorem i_vc_pure {k : Nat} {u : SX} {v : SY} (I : i_Rel k u v) (hk : k + 4 ≤ 2050) : wpX_pure (fun r => wpY_pure (fun r' => r' = r ∧ i_Rel (k + 4) u v) v) u := by
  obtain ⟨R, C, p, hRC, hp, ⟨fm, ft, fb, ae, am, ac, aq, aw, ar, ah, rfl⟩, ⟨ys, yn, yq, yw, ym, yg, rfl⟩⟩ := I
  exact bx_pure hRC (by_pure hRC ⟨rfl, bm_mk hRC hp⟩)
theorem i_vc_equilibria {k : Nat} {u : SX} {v : SY} (I : i_Rel k u v) (hk : k + 4 ≤ 2050) : wpX_equilibria (fun r u' => wpY_equilibria (fun r' v' => r' = r ∧ i_Rel (k + 4) u' v') v) u := by
  obtain ⟨R, C, p, hRC, hp, ⟨fm, ft, fb, ae, am, ac, aq, aw, ar, ah, rfl⟩, ⟨ys, yn, yq, yw, ym, yg, rfl⟩⟩ := I
  unfold wpX_equilibria
  dsimp only
  refine bx_seek hRC hp (fun L0 L1 fm' ae' am' ac' aq' aw' ar' ah' hS hC => ?_)
  dsimp only
  unfold wpY_equilibria
  dsimp only
  refine by_list (all := true) hRC hp (fun M0 M1 yn' yq' yw' ym' yg' hS' => ⟨fun q => (by cases q), fun q => (by cases q), fun _ => ?_⟩)
  refine ⟨?_, bm_mk hRC hp⟩
  rw [bm_IsL_u hS'.1 hS.1, bm_IsL_u hS'.2.1 hS.2.1]
theorem i_vc_part {k : Nat} {u : SX} {v : SY} (I : i_Rel k u v) (hk : k + 4 ≤ 2050) (v1 : Int32) (v2 : Int32) (v3 : Int32) : wpX_part (fun r u' => wpY_part (fun r' v' => r' = r ∧ i_Rel (k + 4) u' v') v v1 v2 v3) u v1 v2 v3 := by
  obtain ⟨R, C, p, hRC, hp, ⟨fm, ft, fb, ae, am, ac, aq, aw, ar, ah, rfl⟩, ⟨ys, yn, yq, yw, ym, yg, rfl⟩⟩ := I
  unfold wpX_part
  dsimp only
  refine bx_side (fun hs => br_f (by decide) ?_) (fun hs => br_t rfl ?_)
  · refine bx_choose hRC hp (fun hn fm' ae' am' ac' aq' aw' ar' ah' => br_t rfl ?_) (fun n a b L0 L1 fm' ae' am' ac' aq' aw' ar' ah' hn hkn hS hab h0 h1 => br_f (by decide) ?_)
    · unfold wpY_part
      dsimp only
      exact by_side (fun _ => br_f (by decide) (by_none hRC hp hn (fun yn' yq' yw' ym' yg' => br_f (by decide) ⟨rfl, bm_mk hRC hp⟩))) (fun q => absurd hs q)
    · obtain ⟨al, bl⟩ := bm_pair hab
      have k0 := bm_IsL_b (bm_A9p hp 1 0) hS.1
      have k1 := bm_IsL_b (bm_A9p hp 0 1) hS.2.1
      obtain ⟨v, hv⟩ : ∃ v, L0[a]? = some v := ⟨_, List.getElem?_eq_getElem al⟩
      obtain ⟨w, hw⟩ : ∃ w, L1[b]? = some w := ⟨_, List.getElem?_eq_getElem bl⟩
      obtain ⟨s, hs2, rfl⟩ := bm_sd hs
      have d1 : nI (16 * a + b) / 16 = nI a := by
        rw [show nI (16 * a + b) / 16 = nI ((16 * a + b) / 16) from pk_div (d := 16) (by omega) (by omega) (by omega)]
        congr 1
        omega
      have d2 : nI (16 * a + b) - nI (16 * a + b) / 16 * 16 = nI b := by
        rw [show nI (16 * a + b) - nI (16 * a + b) / 16 * 16 = nI ((16 * a + b) % 16) from pk_rem (d := 16) (by omega) (by omega) (by omega)]
        congr 1
        omega
      -- the reference, once what it asks at its end is known
      have toY : ∀ (r : Int32) (u' : SX), (∀ yn' yq' yw' ym' yg', bm_YS p R C L0 L1 yn' yq' yw' → wY_part_44 (fun r' v' => r' = r ∧ i_Rel (k + 4) u' v') (nI s) v3 (nI (if s = 0 then a else b)) (nI R) (nI C) p ys yn' yq' yw' ym' yg') → wpY_part (fun r' v' => r' = r ∧ i_Rel (k + 4) u' v') (nI R, nI C, p, ys, yn, yq, yw, ym, yg) v1 (nI s) v3 := by
        intro r u' hh
        unfold wpY_part
        dsimp only
        refine by_side (fun _ => br_f (by decide) (by_some hRC hp hn hkn hS.1 hS.2.1 hab (fun yn' yq' yw' ym' yg' hS' => br_t (nI_pos' (by omega)) ?_))) (fun q => absurd hs q)
        have := hh yn' yq' yw' ym' yg' hS'
        have h2 : s = 0 ∨ s = 1 := by omega
        rcases h2 with rfl | rfl
        · refine br_t rfl ⟨by decide, ?_⟩
          rw [d1]
          exact this
        · refine br_f (by decide) ⟨by decide, ?_⟩
          rw [d2]
          exact this
      refine br_c (fun z => toY _ _ (fun yn' yq' yw' ym' yg' hS' => br_t z ⟨rfl, bm_mk hRC hp⟩)) (fun z => ?_)
      obtain ⟨i, hi, rfl⟩ := nI_of z
      have nn := bm_n13 (s := s) hRC
      have ch : ∀ P : Int32 → Prop, P (nI (bm_n R C s)) → wpX_choices P (nI R, nI C, fm', ft, fb, p, ae', am', ac', aq', aw', ar', ah') (nI s) := by
        intro P hP
        have h2 : s = 0 ∨ s = 1 := by omega
        rcases h2 with rfl | rfl
        · exact br_t rfl hP
        · exact br_f (by decide) hP
      have chY : ∀ (P : Int32 → Prop) (yn' yq' yw' ym' yg' : Nat → Int32), P (nI (bm_n R C s)) → wpY_choices P (nI R, nI C, p, ys, yn', yq', yw', ym', yg') (nI s) := by
        intro P yn' yq' yw' ym' yg' hP
        have h2 : s = 0 ∨ s = 1 := by omega
        rcases h2 with rfl | rfl
        · exact br_t rfl hP
        · exact br_f (by decide) hP
      refine ch _ (pk_lt i (bm_n R C s) (fun zi => ?_) (fun zi => toY _ _ (fun yn' yq' yw' ym' yg' hS' => br_f z (chY _ _ _ _ _ _ (br_t (nI_le zi hi) ⟨rfl, bm_mk hRC hp⟩)))) rfl rfl hi (by omega))
      have i3 : i < 3 := by omega
      refine ⟨vp_in_nI hs2 (by decide), ?_⟩
      have h2 : s = 0 ∨ s = 1 := by omega
      rcases h2 with rfl | rfl
      · have sv := hS.2.2.1 a v hv
        rw [Nat.zero_add] at sv
        have ei : 3 * ah' (nI 0).toNatClampNeg + nI i = nI (3 * a + i) := by
          rw [nI_clamp (by omega), h0, bx_3]
        refine ⟨pk_in (3 * a + i) 384 (by omega) ei, ?_⟩
        dsimp only
        rw [ei, nI_clamp (by omega), sv.1 i i3]
        refine toY _ _ (fun yn' yq' yw' ym' yg' hS' => br_f z (chY _ _ _ _ _ _ (br_f (nI_ge zi (by omega)) ⟨pk_in (3 * (16 * 0 + a) + i) 96 (by omega) (by_48 0 a i), ?_, bm_mk hRC hp⟩)))
        rw [if_pos rfl, by_48, nI_clamp (by omega)]
        have sy := hS'.2.2.1 a v hv
        exact sy.1 i i3
      · have sw := hS.2.2.2.1 b w hw
        have ei : 3 * ah' (nI 1).toNatClampNeg + nI i = nI (3 * (64 + b) + i) := by
          rw [nI_clamp (by omega), h1, bx_3]
        refine ⟨pk_in (3 * (64 + b) + i) 384 (by omega) ei, ?_⟩
        dsimp only
        rw [ei, nI_clamp (by omega), sw.1 i i3]
        refine toY _ _ (fun yn' yq' yw' ym' yg' hS' => br_f z (chY _ _ _ _ _ _ (br_f (nI_ge zi (by omega)) ⟨pk_in (3 * (16 * 1 + b) + i) 96 (by omega) (by_48 1 b i), ?_, bm_mk hRC hp⟩)))
        rw [if_neg (by decide), by_48, nI_clamp (by omega)]
        have sy := hS'.2.2.2.1 b w hw
        exact sy.1 i i3
  · unfold wpY_part
    dsimp only
    exact by_side (fun q => absurd q hs) (fun _ => br_t rfl ⟨rfl, bm_mk hRC hp⟩)
theorem i_vc_whole {k : Nat} {u : SX} {v : SY} (I : i_Rel k u v) (hk : k + 4 ≤ 2050) (v1 : Int32) (v2 : Int32) : wpX_whole (fun r u' => wpY_whole (fun r' v' => r' = r ∧ i_Rel (k + 4) u' v') v v1 v2) u v1 v2 := by
  obtain ⟨R, C, p, hRC, hp, ⟨fm, ft, fb, ae, am, ac, aq, aw, ar, ah, rfl⟩, ⟨ys, yn, yq, yw, ym, yg, rfl⟩⟩ := I
  unfold wpX_whole
  dsimp only
  refine bx_side (fun hs => br_f (by decide) ?_) (fun hs => br_t rfl ?_)
  · refine bx_choose hRC hp (fun hn fm' ae' am' ac' aq' aw' ar' ah' => br_t rfl ?_) (fun n a b L0 L1 fm' ae' am' ac' aq' aw' ar' ah' hn hkn hS hab h0 h1 => br_f (by decide) ?_)
    · unfold wpY_whole
      dsimp only
      exact by_side (fun _ => br_f (by decide) (by_none hRC hp hn (fun yn' yq' yw' ym' yg' => br_f (by decide) ⟨rfl, bm_mk hRC hp⟩))) (fun q => absurd hs q)
    · obtain ⟨al, bl⟩ := bm_pair hab
      have k0 := bm_IsL_b (bm_A9p hp 1 0) hS.1
      have k1 := bm_IsL_b (bm_A9p hp 0 1) hS.2.1
      obtain ⟨v, hv⟩ : ∃ v, L0[a]? = some v := ⟨_, List.getElem?_eq_getElem al⟩
      obtain ⟨w, hw⟩ : ∃ w, L1[b]? = some w := ⟨_, List.getElem?_eq_getElem bl⟩
      obtain ⟨s, hs2, rfl⟩ := bm_sd hs
      have d1 : nI (16 * a + b) / 16 = nI a := by
        rw [show nI (16 * a + b) / 16 = nI ((16 * a + b) / 16) from pk_div (d := 16) (by omega) (by omega) (by omega)]
        congr 1
        omega
      have d2 : nI (16 * a + b) - nI (16 * a + b) / 16 * 16 = nI b := by
        rw [show nI (16 * a + b) - nI (16 * a + b) / 16 * 16 = nI ((16 * a + b) % 16) from pk_rem (d := 16) (by omega) (by omega) (by omega)]
        congr 1
        omega
      have h2 : s = 0 ∨ s = 1 := by omega
      unfold wpY_whole
      dsimp only
      refine ⟨vp_in_nI hs2 (by decide), ?_⟩
      rcases h2 with rfl | rfl
      · have sv := hS.2.2.1 a v hv
        rw [Nat.zero_add] at sv
        rw [nI_clamp (by omega), h0]
        refine ⟨vp_in_nI (by omega) (by decide), ?_⟩
        rw [nI_clamp (by omega), sv.2.1]
        refine by_side (fun _ => br_f (by decide) (by_some hRC hp hn hkn hS.1 hS.2.1 hab (fun yn' yq' yw' ym' yg' hS' => br_t (nI_pos' (by omega)) (br_t rfl ⟨by decide, ?_⟩)))) (fun q => absurd hs q)
        rw [d1]
        refine ⟨pk_in (16 * 0 + a) 32 (by omega) (by_16 0 a), ?_, bm_mk hRC hp⟩
        rw [by_16, nI_clamp (by omega)]
        exact (hS'.2.2.1 a v hv).2
      · have sw := hS.2.2.2.1 b w hw
        rw [nI_clamp (by omega), h1]
        refine ⟨vp_in_nI (by omega) (by decide), ?_⟩
        rw [nI_clamp (by omega), sw.2.1]
        refine by_side (fun _ => br_f (by decide) (by_some hRC hp hn hkn hS.1 hS.2.1 hab (fun yn' yq' yw' ym' yg' hS' => br_t (nI_pos' (by omega)) (br_f (by decide) ⟨by decide, ?_⟩)))) (fun q => absurd hs q)
        rw [d2]
        refine ⟨pk_in (16 * 1 + b) 32 (by omega) (by_16 1 b), ?_, bm_mk hRC hp⟩
        rw [by_16, nI_clamp (by omega)]
        exact (hS'.2.2.2.1 b w hw).2
  · unfold wpY_whole
    dsimp only
    exact by_side (fun q => absurd q hs) (fun _ => br_t rfl ⟨rfl, bm_mk hRC hp⟩)
theorem i_vc_getsTop {k : Nat} {u : SX} {v : SY} (I : i_Rel k u v) (hk : k + 4 ≤ 2050) (v1 : Int32) (v2 : Int32) : wpX_getsTop (fun r u' => wpY_getsTop (fun r' v' => r' = r ∧ i_Rel (k + 4) u' v') v v1 v2) u v1 v2 := by
  obtain ⟨R, C, p, hRC, hp, ⟨fm, ft, fb, ae, am, ac, aq, aw, ar, ah, rfl⟩, ⟨ys, yn, yq, yw, ym, yg, rfl⟩⟩ := I
  unfold wpX_getsTop
  dsimp only
  refine bx_side (fun hs => br_f (by decide) ?_) (fun hs => br_t rfl ?_)
  · refine bx_choose hRC hp (fun hn fm' ae' am' ac' aq' aw' ar' ah' => br_t rfl ?_) (fun n a b L0 L1 fm' ae' am' ac' aq' aw' ar' ah' hn hkn hS hab h0 h1 => br_f (by decide) ?_)
    · unfold wpY_getsTop wpY_getsOf
      dsimp only
      exact by_side (fun _ => br_f (by decide) (by_none hRC hp hn (fun yn' yq' yw' ym' yg' => br_f (by decide) ⟨rfl, bm_mk hRC hp⟩))) (fun q => absurd hs q)
    · obtain ⟨al, bl⟩ := bm_pair hab
      have k0 := bm_IsL_b (bm_A9p hp 1 0) hS.1
      have k1 := bm_IsL_b (bm_A9p hp 0 1) hS.2.1
      obtain ⟨v, hv⟩ : ∃ v, L0[a]? = some v := ⟨_, List.getElem?_eq_getElem al⟩
      obtain ⟨w, hw⟩ : ∃ w, L1[b]? = some w := ⟨_, List.getElem?_eq_getElem bl⟩
      obtain ⟨s, hs2, rfl⟩ := bm_sd hs
      refine bx_weigh hRC hp hs2 hS h0 h1 hv hw ?_
      dsimp only
      unfold wpY_getsTop wpY_getsOf
      dsimp only
      refine by_side (fun _ => br_f (by decide) (by_some hRC hp hn hkn hS.1 hS.2.1 hab (fun yn' yq' yw' ym' yg' hS' => br_t (nI_pos' (by omega)) ?_))) (fun q => absurd hs q)
      exact by_ge33 (asked := true) hp hs2 hS' hv hw ⟨rfl, bm_mk hRC hp⟩
  · unfold wpY_getsTop wpY_getsOf
    dsimp only
    exact by_side (fun q => absurd q hs) (fun _ => br_t rfl ⟨rfl, bm_mk hRC hp⟩)
theorem i_vc_getsBottom {k : Nat} {u : SX} {v : SY} (I : i_Rel k u v) (hk : k + 4 ≤ 2050) (v1 : Int32) (v2 : Int32) : wpX_getsBottom (fun r u' => wpY_getsBottom (fun r' v' => r' = r ∧ i_Rel (k + 4) u' v') v v1 v2) u v1 v2 := by
  obtain ⟨R, C, p, hRC, hp, ⟨fm, ft, fb, ae, am, ac, aq, aw, ar, ah, rfl⟩, ⟨ys, yn, yq, yw, ym, yg, rfl⟩⟩ := I
  unfold wpX_getsBottom
  dsimp only
  refine bx_side (fun hs => br_f (by decide) ?_) (fun hs => br_t rfl ?_)
  · refine bx_choose hRC hp (fun hn fm' ae' am' ac' aq' aw' ar' ah' => br_t rfl ?_) (fun n a b L0 L1 fm' ae' am' ac' aq' aw' ar' ah' hn hkn hS hab h0 h1 => br_f (by decide) ?_)
    · unfold wpY_getsBottom wpY_getsOf
      dsimp only
      exact by_side (fun _ => br_f (by decide) (by_none hRC hp hn (fun yn' yq' yw' ym' yg' => br_f (by decide) ⟨rfl, bm_mk hRC hp⟩))) (fun q => absurd hs q)
    · obtain ⟨al, bl⟩ := bm_pair hab
      have k0 := bm_IsL_b (bm_A9p hp 1 0) hS.1
      have k1 := bm_IsL_b (bm_A9p hp 0 1) hS.2.1
      obtain ⟨v, hv⟩ : ∃ v, L0[a]? = some v := ⟨_, List.getElem?_eq_getElem al⟩
      obtain ⟨w, hw⟩ : ∃ w, L1[b]? = some w := ⟨_, List.getElem?_eq_getElem bl⟩
      obtain ⟨s, hs2, rfl⟩ := bm_sd hs
      refine bx_weigh hRC hp hs2 hS h0 h1 hv hw ?_
      dsimp only
      unfold wpY_getsBottom wpY_getsOf
      dsimp only
      refine by_side (fun _ => br_f (by decide) (by_some hRC hp hn hkn hS.1 hS.2.1 hab (fun yn' yq' yw' ym' yg' hS' => br_t (nI_pos' (by omega)) ?_))) (fun q => absurd hs q)
      exact by_ge33 (asked := false) hp hs2 hS' hv hw ⟨rfl, bm_mk hRC hp⟩
  · unfold wpY_getsBottom wpY_getsOf
    dsimp only
    exact by_side (fun q => absurd q hs) (fun _ => br_t rfl ⟨rfl, bm_mk hRC hp⟩)
theorem i_vc_sureTop {k : Nat} {u : SX} {v : SY} (I : i_Rel k u v) (hk : k + 4 ≤ 2050) (v1 : Int32) : wpX_sureTop (fun r u' => wpY_sureTop (fun r' v' => r' = r ∧ i_Rel (k + 4) u' v') v v1) u v1 := by
  obtain ⟨R, C, p, hRC, hp, ⟨fm, ft, fb, ae, am, ac, aq, aw, ar, ah, rfl⟩, ⟨ys, yn, yq, yw, ym, yg, rfl⟩⟩ := I
  unfold wpX_sureTop
  dsimp only
  refine bx_side (fun hs => br_f (by decide) ?_) (fun hs => br_t rfl ?_)
  · obtain ⟨s, hs2, rfl⟩ := bm_sd hs
    refine bx_ws hRC hs2 hp (fun t b fm' ae' am' hX => ?_)
    dsimp only
    unfold wpY_sureTop
    dsimp only
    refine by_sure (asked := true) hRC hs2 hp (fun t' b' L yn' yq' yw' ym' yg' hI hY => ?_)
    have n1 := bm_n13 (s := s) hRC
    have n2 := bm_n13 (s := 1 - s) hRC
    obtain ⟨b0, e⟩ := bm_SXY (bm_B9 hp s true) (bm_all8 n1.2) (bm_all8 n2.2) ((bm_allT ⟨bm_n R C (1 - s), by omega⟩ ⟨0, by omega⟩).mpr (by dsimp only; omega)) ((bm_allT ⟨bm_n R C s, by omega⟩ ⟨0, by omega⟩).mpr (by dsimp only; omega)) hI hX hY
    have r := bm_red_u hX.1.1 b0 e
    refine ⟨b0, ?_, bm_mk hRC hp⟩
    rw [if_pos rfl, r.1]
  · unfold wpY_sureTop wpY_sure
    dsimp only
    exact by_side (fun q => absurd q hs) (fun _ => br_t rfl ⟨rfl, bm_mk hRC hp⟩)
theorem i_vc_sureBottom {k : Nat} {u : SX} {v : SY} (I : i_Rel k u v) (hk : k + 4 ≤ 2050) (v1 : Int32) : wpX_sureBottom (fun r u' => wpY_sureBottom (fun r' v' => r' = r ∧ i_Rel (k + 4) u' v') v v1) u v1 := by
  obtain ⟨R, C, p, hRC, hp, ⟨fm, ft, fb, ae, am, ac, aq, aw, ar, ah, rfl⟩, ⟨ys, yn, yq, yw, ym, yg, rfl⟩⟩ := I
  unfold wpX_sureBottom
  dsimp only
  refine bx_side (fun hs => br_f (by decide) ?_) (fun hs => br_t rfl ?_)
  · obtain ⟨s, hs2, rfl⟩ := bm_sd hs
    refine bx_ws hRC hs2 hp (fun t b fm' ae' am' hX => ?_)
    dsimp only
    unfold wpY_sureBottom
    dsimp only
    refine by_sure (asked := false) hRC hs2 hp (fun t' b' L yn' yq' yw' ym' yg' hI hY => ?_)
    have n1 := bm_n13 (s := s) hRC
    have n2 := bm_n13 (s := 1 - s) hRC
    obtain ⟨b0, e⟩ := bm_SXY (bm_B9 hp s true) (bm_all8 n1.2) (bm_all8 n2.2) ((bm_allT ⟨bm_n R C (1 - s), by omega⟩ ⟨0, by omega⟩).mpr (by dsimp only; omega)) ((bm_allT ⟨bm_n R C s, by omega⟩ ⟨0, by omega⟩).mpr (by dsimp only; omega)) hI hX hY
    have r := bm_red_u hX.1.1 b0 e
    refine ⟨b0, ?_, bm_mk hRC hp⟩
    rw [if_neg (by decide), r.2]
  · unfold wpY_sureBottom wpY_sure
    dsimp only
    exact by_side (fun q => absurd q hs) (fun _ => br_t rfl ⟨rfl, bm_mk hRC hp⟩)
theorem i_vc_replies {k : Nat} {u : SX} {v : SY} (I : i_Rel k u v) (hk : k + 4 ≤ 2050) (v1 : Int32) : wpX_replies (fun r u' => wpY_replies (fun r' v' => r' = r ∧ i_Rel (k + 4) u' v') v v1) u v1 := by
  obtain ⟨R, C, p, hRC, hp, ⟨fm, ft, fb, ae, am, ac, aq, aw, ar, ah, rfl⟩, ⟨ys, yn, yq, yw, ym, yg, rfl⟩⟩ := I
  unfold wpX_replies
  dsimp only
  refine bx_side (fun hs => br_f (by decide) ?_) (fun hs => br_t rfl ?_)
  · obtain ⟨s, hs2, rfl⟩ := bm_sd hs
    have O8 := bm_all8 (bm_n13 (s := s) hRC).2
    have M8 := bm_all8 (bm_n13 (s := 1 - s) hRC).2
    refine bx_every hRC hs2 ?_
    rw [bx_1s hs2]
    refine bx_every hRC (by omega) ?_
    refine bx_ra hs2 M8 O8 hp (fun f fm' ae' am' hf => ?_)
    dsimp only
    unfold wpY_replies
    dsimp only
    refine by_side (fun _ => br_f (by decide) ?_) (fun q => absurd hs q)
    refine by_allOf hRC hs2 ?_
    rw [bx_1s hs2]
    refine by_allOf hRC (by omega) ?_
    refine by_ro hs2 M8 O8 hp (fun g yn' yq' yw' ym' yg' hg => ?_)
    refine ⟨?_, bm_mk hRC hp⟩
    rw [bm_RX_e hf, bm_RY_e (bm_A9p hp s (1 - s)) M8 O8 hg]
  · unfold wpY_replies
    dsimp only
    exact by_side (fun q => absurd q hs) (fun _ => br_t rfl ⟨rfl, bm_mk hRC hp⟩)
theorem i_vc_left {k : Nat} {u : SX} {v : SY} (I : i_Rel k u v) (hk : k + 4 ≤ 2050) : wpX_left (fun r u' => wpY_left (fun r' v' => r' = r ∧ i_Rel (k + 4) u' v') v) u := by
  obtain ⟨R, C, p, hRC, hp, ⟨fm, ft, fb, ae, am, ac, aq, aw, ar, ah, rfl⟩, ⟨ys, yn, yq, yw, ym, yg, rfl⟩⟩ := I
  exact bx_left hRC hp (fun fm' ae' am' => by_left hRC hp (fun yn' yq' yw' ym' yg' => ⟨rfl, bm_mk hRC hp⟩))
theorem i_vc_exchange {k : Nat} {u : SX} {v : SY} (I : i_Rel k u v) (hk : k + 4 ≤ 2050) : wpX_exchange (fun u' => wpY_exchange (fun v' => i_Rel (k + 4) u' v') v) u := by
  obtain ⟨R, C, p, hRC, hp, ⟨fm, ft, fb, ae, am, ac, aq, aw, ar, ah, rfl⟩, ⟨ys, yn, yq, yw, ym, yg, rfl⟩⟩ := I
  exact bx_exchange (by_exchange (fun ys' => bm_mk (by unfold bm_RC at *; omega) (bm_ex9 hp)))
