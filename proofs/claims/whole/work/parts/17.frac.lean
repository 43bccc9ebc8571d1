/-! fractions -/
def bm_q (t b : Int) : Nat := Nat.gcd t.natAbs b.natAbs
theorem bm_q_pos {t b : Int} (h : 0 < b) : 0 < bm_q t b := Nat.gcd_pos_of_pos_right _ (by omega)
theorem bm_q_le {t b : Int} (h : 0 < b) : (bm_q t b : Int) ≤ b := by
  have := Nat.le_of_dvd (by omega) (Nat.gcd_dvd_right t.natAbs b.natAbs)
  unfold bm_q
  omega
section
variable {fr fc fm ft fb : Int32} {ap ae am ac aq aw ar ah : Nat → Int32}
theorem bx_red {post : SX → Prop} {t b : Int} (ht : t.natAbs < 2147483648) (hb : 0 < b) (hb' : b < 165580141) (h : post (fr, fc, fm, bm_i (t.tdiv (bm_q t b)), bm_i (b.tdiv (bm_q t b)), ap, ae, am, ac, aq, aw, ar, ah)) : wpX_reduceFraction post (fr, fc, fm, bm_i t, bm_i b, ap, ae, am, ac, aq, aw, ar, ah) := by
  have q0 := bm_q_pos (t := t) hb
  have q1 := bm_q_le (t := t) hb
  unfold wpX_reduceFraction
  dsimp only
  refine bx_cd ht (by omega) ?_
  have e : Nat.gcd t.natAbs b.natAbs = bm_q t b := rfl
  rw [e]
  by_cases m : t = -2147483648
  · omega
  refine pk_le (bm_q t b) 1 (fun z => ?_) (fun z => ?_) rfl rfl (by omega) (by omega)
  · have : bm_q t b = 1 := by omega
    rw [this] at h
    simp only [Int.natCast_one, Int.tdiv_one] at h
    exact h
  · have hne : ¬ nI (bm_q t b) = 0 := nI_ne0 q0 (by omega)
    refine ⟨hne, ?_⟩
    intro y ey
    refine ⟨hne, ?_⟩
    intro y2 ey2
    rw [bm_nI, bm_div (by omega) (by omega) (by omega) (by omega)] at ey ey2
    subst ey ey2
    exact h
end
section
variable {yr yc : Int32} {yp ys yn yq yw ym yg : Nat → Int32}
theorem by_lowest {post : Int32 → Prop} {t b : Int} {asked : Bool} (ht : t.natAbs < 2147483648) (hb : 0 < b) (hb' : b < 165580141) (h : post (bm_i ((if asked = true then t else b).tdiv (bm_q t b)))) : wpY_lowest post (yr, yc, yp, ys, yn, yq, yw, ym, yg) (bm_i t) (bm_i b) (bm_ow asked) := by
  have q0 := bm_q_pos (t := t) hb
  have q1 := bm_q_le (t := t) hb
  have tail : wY_lowest_14 post (bm_i t) (bm_i b) (bm_ow asked) (nI (bm_q t b)) yr yc yp ys yn yq yw ym yg := by
    have go : ∀ z : Int, z.natAbs < 2147483648 → post (bm_i (z.tdiv (bm_q t b))) → wY_lowest_25 post (nI (bm_q t b)) (bm_i z) yr yc yp ys yn yq yw ym yg := by
      intro z hz hpz
      refine br_t (nI_le (a := 1) q0 (by omega)) ⟨nI_ne0 q0 (by omega), ?_⟩
      rw [bm_nI, bm_div (by omega) (by omega) (by omega) (by omega)]
      exact hpz
    cases asked with
    | false => exact br_t rfl (go b (by omega) h)
    | true => exact br_f (by decide) (go t ht h)
  unfold wpY_lowest
  dsimp only
  rw [← bm_0, bm_eq (by omega) (by omega) (by omega) (by omega)]
  refine br_c (fun z => ?_) (fun z => ?_)
  · have e : bm_q t b = b.natAbs := by
      unfold bm_q
      rw [z]
      exact Nat.gcd_zero_left _
    rw [e, ← bm_abs (by omega)] at tail
    exact tail
  · refine by_common ht (by omega) ?_
    have e : max 1 (Nat.gcd t.natAbs b.natAbs) = bm_q t b := Nat.max_eq_right q0
    rw [e]
    exact tail
end
/-! the sum of payments -/
def bm_tm (p : Nat → Int32) (s : Nat) (v w : bm_V) (i j : Nat) : Int := bm_at v i * bm_at w j * (p (9 * s + 3 * i + j)).toInt
def bm_s1 (t : Nat → Nat → Int) (i : Nat) : Nat → Int
  | 0 => 0
  | n + 1 => bm_s1 t i n + t i n
def bm_s2 (t : Nat → Nat → Int) (c : Nat) : Nat → Int
  | 0 => 0
  | i + 1 => bm_s2 t c i + bm_s1 t i c
theorem bm_s23 {t : Nat → Nat → Int} {R C : Nat} (h : bm_RC R C) (hz : ∀ i j, i < 3 → j < 3 → R ≤ i ∨ C ≤ j → t i j = 0) : bm_s2 t C R = bm_s2 t 3 3 := by
  unfold bm_RC at h
  have hR : R = 1 ∨ R = 2 ∨ R = 3 := by omega
  have hC : C = 1 ∨ C = 2 ∨ C = 3 := by omega
  have z00 := hz 0 0 (by omega) (by omega)
  have z01 := hz 0 1 (by omega) (by omega)
  have z02 := hz 0 2 (by omega) (by omega)
  have z10 := hz 1 0 (by omega) (by omega)
  have z11 := hz 1 1 (by omega) (by omega)
  have z12 := hz 1 2 (by omega) (by omega)
  have z20 := hz 2 0 (by omega) (by omega)
  have z21 := hz 2 1 (by omega) (by omega)
  have z22 := hz 2 2 (by omega) (by omega)
  rcases hR with rfl | rfl | rfl <;> rcases hC with rfl | rfl | rfl <;> simp only [bm_s2, bm_s1] <;> omega
theorem bm_tm_b {p : Nat → Int32} (hp : bm_p9 p) {s : Nat} {v w : bm_V} (hv : bm_b3 v) (hw : bm_b3 w) (i j : Nat) : -3779136 ≤ bm_tm p s v w i j ∧ bm_tm p s v w i j ≤ 3779136 := by
  unfold bm_tm
  have a := bm_at_b hv i
  have b := bm_at_b hw j
  have c := hp (9 * s + 3 * i + j)
  have k1 := bm_p18 (a := bm_at v i) (b := bm_at w j) (s := 648) (t := 648) (by omega) (by omega) (by omega) (by omega)
  have k2 := bm_p18 (a := bm_at v i * bm_at w j) (b := (p (9 * s + 3 * i + j)).toInt) (s := 419904) (t := 9) (by omega) (by omega) (by omega) (by omega)
  omega
theorem bm_s2_b {p : Nat → Int32} (hp : bm_p9 p) {s : Nat} {v w : bm_V} (hv : bm_b3 v) (hw : bm_b3 w) : -34012224 ≤ bm_s2 (bm_tm p s v w) 3 3 ∧ bm_s2 (bm_tm p s v w) 3 3 ≤ 34012224 := by
  have a00 := bm_tm_b hp hv hw (s := s) 0 0
  have a01 := bm_tm_b hp hv hw (s := s) 0 1
  have a02 := bm_tm_b hp hv hw (s := s) 0 2
  have a10 := bm_tm_b hp hv hw (s := s) 1 0
  have a11 := bm_tm_b hp hv hw (s := s) 1 1
  have a12 := bm_tm_b hp hv hw (s := s) 1 2
  have a20 := bm_tm_b hp hv hw (s := s) 2 0
  have a21 := bm_tm_b hp hv hw (s := s) 2 1
  have a22 := bm_tm_b hp hv hw (s := s) 2 2
  simp only [bm_s2, bm_s1]
  omega
theorem bm_sgsg {v w : bm_V} (hv : bm_b3 v) (hw : bm_b3 w) (hvp : bm_P v) (hwp : bm_P w) : 0 < bm_sg v * bm_sg w ∧ bm_sg v * bm_sg w ≤ 3779136 := by
  have a := bm_sg_b hv
  have b := bm_sg_b hw
  have k1 := bm_p18 (a := bm_sg v) (b := bm_sg w) (s := 1944) (t := 1944) (by omega) (by omega) (by omega) (by omega)
  exact ⟨Int.mul_pos hvp.2.2.2.1 hwp.2.2.2.1, by omega⟩
theorem bm_allF {n j : Nat} (hn : n ≤ 3) (hj : j < 3) (h : n ≤ j) : (2 ^ n - 1).testBit j = false := by
  have k := bm_allT ⟨n, by omega⟩ ⟨j, hj⟩
  dsimp only at k
  cases e : (2 ^ n - 1).testBit j
  · rfl
  · have := k.mp e
    omega
section
variable {fr fc fm ft fb : Int32} {ap ae am ac aq aw ar ah : Nat → Int32}
theorem bx_weigh {post : SX → Prop} {R C s a b : Nat} {L0 L1 : List bm_V} {v w : bm_V} (hRC : bm_RC R C) (hp : bm_p9 ap) (hs : s < 2) (hS : bm_XS ap R C L0 L1 ac aq aw ar) (h0 : ah 0 = nI a) (h1 : ah 1 = nI (64 + b)) (hv : L0[a]? = some v) (hw : L1[b]? = some w)
    (h : post (nI R, nI C, fm, bm_i ((bm_s2 (bm_tm ap s v w) 3 3).tdiv (bm_q (bm_s2 (bm_tm ap s v w) 3 3) (bm_sg v * bm_sg w))), bm_i ((bm_sg v * bm_sg w).tdiv (bm_q (bm_s2 (bm_tm ap s v w) 3 3) (bm_sg v * bm_sg w))), ap, ae, am, ac, aq, aw, ar, ah)) : wpX_weighChosen post (nI R, nI C, fm, ft, fb, ap, ae, am, ac, aq, aw, ar, ah) (nI s) := by
  obtain ⟨hI0, hI1, hX0, hX1, hc0, hc1⟩ := hS
  have k0 := bm_IsL_b (bm_A9p hp 1 0) hI0
  have k1 := bm_IsL_b (bm_A9p hp 0 1) hI1
  have hvm := List.mem_of_getElem? hv
  have hwm := List.mem_of_getElem? hw
  have hvb := k0.2.1 v hvm
  have hwb := k1.2.1 w hwm
  have hal := (List.getElem?_eq_some_iff.mp hv).1
  have hbl := (List.getElem?_eq_some_iff.mp hw).1
  have sv := hX0 a v hv
  have sw := hX1 b w hw
  rw [Nat.zero_add] at sv
  have hRC' := hRC
  unfold bm_RC at hRC'
  have e3 : bm_s2 (bm_tm ap s v w) C R = bm_s2 (bm_tm ap s v w) 3 3 := by
    apply bm_s23 hRC
    intro i j hi hj hz
    unfold bm_tm
    rcases hz with z | z
    · rw [bm_IsL_s hI0 hvm hi (bm_allF (by omega) hi z)]
      simp
    · rw [bm_IsL_s hI1 hwm hj (bm_allF (by omega) hj z)]
      simp
  have inner : ∀ (J : Int32 → Int32 → Prop) (i : Nat) (x : Int), i < R → J (bm_i (x + bm_s1 (bm_tm ap s v w) i C)) (nI (i + 1)) → ∀ (m j q : Nat), j + m = C → m < q → wX_weighChosen_15 post J (nI s) (nI i) (nI R) (nI C) fm ft fb ap ae am ac aq aw ar ah q (bm_i (x + bm_s1 (bm_tm ap s v w) i j)) (nI j) := by
    intro J i x hi hJ m
    induction m with
    | zero =>
      intro j q hj hq
      obtain ⟨q, rfl⟩ : ∃ q', q = q' + 1 := ⟨q - 1, by omega⟩
      have : j = C := by omega
      subst this
      refine br_t (nI_le (by omega) (by omega)) ?_
      intro y ey
      rw [nI_1] at ey
      subst ey
      exact hJ
    | succ m ih =>
      intro j q hj hq
      obtain ⟨q, rfl⟩ : ∃ q', q = q' + 1 := ⟨q - 1, by omega⟩
      have i1 : 3 * ah 0 + nI i = nI (3 * a + i) := by rw [h0, bx_3]
      have i2 : 3 * ah 1 + nI j = nI (3 * (64 + b) + j) := by rw [h1, bx_3]
      have i3 : nI s * 9 + 3 * nI i + nI j = nI (9 * s + 3 * i + j) := by
        show nI s * nI 9 + nI 3 * nI i + nI j = _
        rw [pk_mul, pk_mul, nI_add, nI_add, Nat.mul_comm s 9]
      refine br_f (nI_ge (by omega) (by omega)) ⟨pk_in (3 * a + i) 384 (by omega) i1, pk_in (3 * (64 + b) + j) 384 (by omega) i2, ?_⟩
      intro y ey
      refine ⟨pk_in (9 * s + 3 * i + j) 18 (by omega) i3, ?_⟩
      intro y2 ey2 k ek
      rw [i1, i2, nI_clamp (by omega), nI_clamp (by omega), sv.1 i (by omega), sw.1 j (by omega), bm_mul] at ey
      rw [i3, nI_clamp (by omega), ey, bm_o (ap (9 * s + 3 * i + j)), bm_mul, bm_add] at ey2
      rw [nI_1] at ek
      subst ek ey2
      have := ih (j + 1) q (by omega) (by omega)
      have e : x + bm_s1 (bm_tm ap s v w) i (j + 1) = x + bm_s1 (bm_tm ap s v w) i j + bm_at v i * bm_at w j * (ap (9 * s + 3 * i + j)).toInt := by
        show x + (bm_s1 (bm_tm ap s v w) i j + bm_tm ap s v w i j) = _
        unfold bm_tm
        omega
      rw [e] at this
      exact this
  have outer : ∀ (m i q : Nat), i + m = R → m < q → wX_weighChosen_4 post (nI s) (nI R) (nI C) fm ft fb ap ae am ac aq aw ar ah q (bm_i (bm_s2 (bm_tm ap s v w) C i)) (nI i) := by
    intro m
    induction m with
    | zero =>
      intro i q hi hq
      obtain ⟨q, rfl⟩ : ∃ q', q = q' + 1 := ⟨q - 1, by omega⟩
      have : i = R := by omega
      subst this
      refine br_t (nI_le (by omega) (by omega)) ?_
      refine ⟨pk_in a 128 (by omega) h0, pk_in (64 + b) 128 (by omega) h1, ?_⟩
      intro y ey
      rw [h0, h1, nI_clamp (by omega), nI_clamp (by omega), sv.2.1, sw.2.1, bm_mul] at ey
      subst ey
      rw [e3]
      have tb := bm_s2_b hp (s := s) hvb hwb
      have gb := bm_sgsg hvb hwb (k0.2.2 v hvm) (k1.2.2 w hwm)
      exact bx_red (by omega) gb.1 (by omega) h
    | succ m ih =>
      intro i q hi hq
      obtain ⟨q, rfl⟩ : ∃ q', q = q' + 1 := ⟨q - 1, by omega⟩
      refine br_f (nI_ge (by omega) (by omega)) ⟨C + 1, ?_⟩
      have := inner (wX_weighChosen_4 post (nI s) (nI R) (nI C) fm ft fb ap ae am ac aq aw ar ah q) i (bm_s2 (bm_tm ap s v w) C i) (by omega) (ih (i + 1) q (by omega) (by omega)) C 0 (C + 1) (by omega) (by omega)
      rw [show bm_s2 (bm_tm ap s v w) C i + bm_s1 (bm_tm ap s v w) i 0 = bm_s2 (bm_tm ap s v w) C i from Int.add_zero _] at this
      exact this
  exact ⟨R + 1, outer R 0 (R + 1) (by omega) (by omega)⟩
end
section
variable {yr yc : Int32} {yp ys yn yq yw ym yg : Nat → Int32}
theorem by_ge33 {post : Int32 → SY → Prop} {R C s a b : Nat} {asked : Bool} {L0 L1 : List bm_V} {v w : bm_V} (hp : bm_p9 yp) (hs : s < 2) (hS : bm_YS yp R C L0 L1 yn yq yw) (hv : L0[a]? = some v) (hw : L1[b]? = some w)
    (h : post (bm_i ((if asked = true then bm_s2 (bm_tm yp s v w) 3 3 else bm_sg v * bm_sg w).tdiv (bm_q (bm_s2 (bm_tm yp s v w) 3 3) (bm_sg v * bm_sg w)))) (yr, yc, yp, ys, yn, yq, yw, ym, yg)) : ∃ n, wY_getsOf_33 post (nI s) (bm_ow asked) (nI (16 * a + b)) yr yc yp ys yn yq yw ym yg n 0 0 := by
  obtain ⟨hI0, hI1, hX0, hX1, hc0, hc1⟩ := hS
  have k0 := bm_IsL_b (bm_A9p hp 1 0) hI0
  have k1 := bm_IsL_b (bm_A9p hp 0 1) hI1
  have hvm := List.mem_of_getElem? hv
  have hwm := List.mem_of_getElem? hw
  have hvb := k0.2.1 v hvm
  have hwb := k1.2.1 w hwm
  have hal := (List.getElem?_eq_some_iff.mp hv).1
  have hbl := (List.getElem?_eq_some_iff.mp hw).1
  have sv := hX0 a v hv
  have sw := hX1 b w hw
  rw [Nat.zero_add] at sv
  have d1 : nI (16 * a + b) / 16 = nI a := by
    rw [show nI (16 * a + b) / 16 = nI ((16 * a + b) / 16) from pk_div (d := 16) (by omega) (by omega) (by omega)]
    congr 1
    omega
  have d2 : nI (16 * a + b) - nI (16 * a + b) / 16 * 16 = nI b := by
    rw [show nI (16 * a + b) - nI (16 * a + b) / 16 * 16 = nI ((16 * a + b) % 16) from pk_rem (d := 16) (by omega) (by omega) (by omega)]
    congr 1
    omega
  have i2 : ∀ j, 48 + 3 * nI b + nI j = nI (3 * (16 + b) + j) := by
    intro j
    have := by_48 1 b j
    rw [show 16 * 1 + b = 16 + b by omega] at this
    rw [← this]
    congr 2
  have inner : ∀ (J : Int32 → Int32 → Prop) (i q : Nat) (x : Int), i < 3 → J (bm_i (x + bm_s1 (bm_tm yp s v w) i 3)) (nI (i + 1)) → wY_getsOf_42 post J (nI s) (bm_ow asked) (nI (16 * a + b)) (nI i) yr yc yp ys yn yq yw ym yg 4 (bm_i x) 0 := by
    intro J i q x hi hJ
    have step : ∀ (n j : Nat), j < 3 → wY_getsOf_42 post J (nI s) (bm_ow asked) (nI (16 * a + b)) (nI i) yr yc yp ys yn yq yw ym yg n (bm_i (x + bm_s1 (bm_tm yp s v w) i (j + 1))) (nI (j + 1)) → wY_getsOf_42 post J (nI s) (bm_ow asked) (nI (16 * a + b)) (nI i) yr yc yp ys yn yq yw ym yg (n + 1) (bm_i (x + bm_s1 (bm_tm yp s v w) i j)) (nI j) := by
      intro n j hj hk
      have i3 : 9 * nI s + 3 * nI i + nI j = nI (9 * s + 3 * i + j) := by
        show nI 9 * nI s + nI 3 * nI i + nI j = _
        rw [pk_mul, pk_mul, nI_add, nI_add]
      refine br_f (nI_ge (b := 3) hj (by decide)) ⟨by decide, pk_in (3 * a + i) 96 (by omega) (by rw [d1, bx_3]), by decide, pk_in (3 * (16 + b) + j) 96 (by omega) (by rw [d2, i2]), pk_in (9 * s + 3 * i + j) 18 (by omega) i3, ?_⟩
      intro y ey k ek
      rw [d2, i2, d1, bx_3, i3, nI_clamp (by omega), nI_clamp (by omega), nI_clamp (by omega), sv.1 i hi, sw.1 j hj, bm_o (yp (9 * s + 3 * i + j)), bm_mul, bm_mul, bm_add] at ey
      rw [nI_1] at ek
      subst ey ek
      have e : x + bm_s1 (bm_tm yp s v w) i (j + 1) = x + bm_s1 (bm_tm yp s v w) i j + bm_at v i * bm_at w j * (yp (9 * s + 3 * i + j)).toInt := by
        show x + (bm_s1 (bm_tm yp s v w) i j + bm_tm yp s v w i j) = _
        unfold bm_tm
        omega
      rw [e] at hk
      exact hk
    have z := step 3 0 (by omega) (step 2 1 (by omega) (step 1 2 (by omega) (br_t (by decide) (fun y ey => by
      rw [nI_1] at ey
      subst ey
      exact hJ))))
    rw [show x + bm_s1 (bm_tm yp s v w) i 0 = x from Int.add_zero _] at z
    exact z
  have outer : ∀ (n i : Nat), i < 3 → wY_getsOf_33 post (nI s) (bm_ow asked) (nI (16 * a + b)) yr yc yp ys yn yq yw ym yg n (bm_i (bm_s2 (bm_tm yp s v w) 3 (i + 1))) (nI (i + 1)) → wY_getsOf_33 post (nI s) (bm_ow asked) (nI (16 * a + b)) yr yc yp ys yn yq yw ym yg (n + 1) (bm_i (bm_s2 (bm_tm yp s v w) 3 i)) (nI i) := by
    intro n i hi hk
    exact br_f (nI_ge (b := 3) hi (by decide)) ⟨4, inner _ i 0 _ hi hk⟩
  refine ⟨4, outer 3 0 (by omega) (outer 2 1 (by omega) (outer 1 2 (by omega) (br_t (by decide) ?_)))⟩
  refine ⟨by decide, pk_in a 32 (by omega) d1, by decide, pk_in (16 + b) 32 (by omega) (by rw [d2]; exact nI_add 16 b), ?_⟩
  intro y ey
  rw [d2, d1, show (16 : Int32) + nI b = nI (16 + b) from nI_add 16 b, nI_clamp (by omega), nI_clamp (by omega), sv.2, sw.2, bm_mul] at ey
  subst ey
  have tb := bm_s2_b hp (s := s) hvb hwb
  have gb := bm_sgsg hvb hwb (k0.2.2 v hvm) (k1.2.2 w hwm)
  exact by_lowest (by show (bm_s2 (bm_tm yp s v w) 3 3).natAbs < _; omega) gb.1 (by omega) h
end
