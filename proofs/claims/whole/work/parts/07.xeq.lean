theorem bm_gcdS (g h : Nat) : Nat.gcd g h = Nat.gcd h (g % h) := by
  rw [Nat.gcd_comm g h, Nat.gcd_rec h g, Nat.gcd_comm]
theorem bx_cd25 {post : Int32 → Prop} : ∀ n g h t : Nat, bm_En n g h → g < 2 ^ 31 → h < 2 ^ 31 → t + n ≤ 999 → post (nI (Nat.gcd g h)) → wX_commonDivisor_25 post (n + 1) (nI g) (nI h) (nI t) := by
  intro n
  induction n with
  | zero =>
    intro g h t e hg hh ht hp
    have h0 := bm_En0 e
    subst h0
    rw [Nat.gcd_zero_right] at hp
    exact br_f (nI_ge (b := 1000) (by omega) (by decide)) (br_t rfl hp)
  | succ n ih =>
    intro g h t e hg hh ht hp
    refine br_f (nI_ge (b := 1000) (by omega) (by decide)) ?_
    by_cases z : h = 0
    · subst z
      rw [Nat.gcd_zero_right] at hp
      exact br_t rfl hp
    · have hn : ¬ nI h = 0 := nI_ne0 (by omega) hh
      refine br_f hn ⟨hn, ?_⟩
      intro y ey k ek
      rw [pk_rem hg (by omega) hh] at ey
      rw [nI_1] at ek
      subst ey ek
      have hr : g % h < h := Nat.mod_lt _ (by omega)
      refine ih h (g % h) (t + 1) (bm_EnS e (by omega)) hh (by omega) (by omega) ?_
      rw [← bm_gcdS]
      exact hp
theorem bm_abs {a : Int} (h : 0 ≤ a) : bm_i a = nI a.natAbs := by
  rw [bm_nI]
  congr 1
  omega
theorem bm_absn {a : Int} (h : a < 0) : -bm_i a = nI a.natAbs := by
  rw [bm_nI, bm_neg]
  congr 1
  omega
theorem bx_cd {post : Int32 → Prop} {a b : Int} (ha : a.natAbs < 2147483648) (hb : b.natAbs < 165580141) (h : post (nI (Nat.gcd a.natAbs b.natAbs))) : wpX_commonDivisor post (bm_i a) (bm_i b) := by
  have go : wX_commonDivisor_10 post (bm_i b) (nI a.natAbs) := by
    have k := bx_cd25 (post := post) 40 a.natAbs b.natAbs 0 (bm_En40 hb) ha (by omega) (by omega) h
    rcases Int.lt_or_le b 0 with z | z
    · refine br_f ?_ ?_
      · rw [← bm_0, bm_le (by omega) (by omega) (by omega) (by omega)]
        omega
      · intro y ey
        rw [bm_absn z] at ey
        subst ey
        exact ⟨41, k⟩
    · refine br_t ?_ ?_
      · rw [← bm_0, bm_le (by omega) (by omega) (by omega) (by omega)]
        omega
      · rw [bm_abs z]
        exact ⟨41, k⟩
  rcases Int.lt_or_le a 0 with z | z
  · refine br_f ?_ ?_
    · rw [← bm_0, bm_le (by omega) (by omega) (by omega) (by omega)]
      omega
    · rw [bm_absn z]
      exact go
  · refine br_t ?_ ?_
    · rw [← bm_0, bm_le (by omega) (by omega) (by omega) (by omega)]
      omega
    · rw [bm_abs z]
      exact go
/-! the equations -/
def bm_put (a : Nat → Int32) (f : Nat) (r : bm_V) : Nat → Int32 := upd (upd (upd a f (bm_i r.1)) (f + 1) (bm_i r.2.1)) (f + 2) (bm_i r.2.2)
def bm_un (c : Nat) : bm_V := (if 0 = c then 1 else 0, if 1 = c then 1 else 0, if 2 = c then 1 else 0)
def bm_df (A : Nat → Nat → Int) (c g : Nat) : bm_V := (A 0 c - A 0 g, A 1 c - A 1 g, A 2 c - A 2 g)
def bm_fi : Option Nat → Int32
  | none => -1
  | some g => nI g
def bm_w1 (z c : Nat) (q : Nat × (Nat → Int32)) : Nat × (Nat → Int32) := if z.testBit c = true ∧ q.1 < 6 then (q.1 + 3, bm_put q.2 q.1 (bm_un c)) else q
def bm_w2 (A : Nat → Nat → Int) (a c : Nat) (f : Nat) (e : Nat → Int32) : Option Nat → Nat × Option Nat × (Nat → Int32)
  | none => if a.testBit c = true then (f, some c, e) else (f, none, e)
  | some g => if a.testBit c = true ∧ f < 6 then (f + 3, some g, bm_put e f (bm_df A c g)) else (f, some g, e)
def bm_w (A : Nat → Nat → Int) (z a c : Nat) (q : Nat × Option Nat × (Nat → Int32)) : Nat × Option Nat × (Nat → Int32) := bm_w2 A a c (bm_w1 z c (q.1, q.2.2)).1 (bm_w1 z c (q.1, q.2.2)).2 q.2.1
def bm_wt (A : Nat → Nat → Int) (z a : Nat) (e : Nat → Int32) : Nat × Option Nat × (Nat → Int32) := bm_w A z a 2 (bm_w A z a 1 (bm_w A z a 0 (0, none, e)))
section
variable {fr fc fm ft fb : Int32} {ap ae am ac aq aw ar ah : Nat → Int32}
theorem bx_35 {post : SX → Prop} {J9 : Int32 → Int32 → Int32 → (Nat → Int32) → (Nat → Int32) → (Nat → Int32) → (Nat → Int32) → (Nat → Int32) → (Nat → Int32) → (Nat → Int32) → (Nat → Int32) → Prop} {x1 x2 x3 x4 x6 : Int32} {f c : Nat} (hf : f ≤ 3) (hc : c < 3)
    (h : wX_writeEquations_72 post J9 x1 x2 x3 x4 (nI (f + 3)) x6 (nI c) fr fc fm ft fb ap (bm_put ae f (bm_un c)) am ac aq aw ar ah) : ∃ n, wX_writeEquations_35 post J9 x1 x2 x3 x4 (nI f) x6 (nI c) fr fc fm ft fb n 0 ap ae am ac aq aw ar ah := by
  have step : ∀ (n i : Nat) (e : Nat → Int32), i < 3 → wX_writeEquations_35 post J9 x1 x2 x3 x4 (nI f) x6 (nI c) fr fc fm ft fb n (nI (i + 1)) ap (upd e (f + i) (bm_i (if i = c then 1 else 0))) am ac aq aw ar ah → wX_writeEquations_35 post J9 x1 x2 x3 x4 (nI f) x6 (nI c) fr fc fm ft fb (n + 1) (nI i) ap e am ac aq aw ar ah := by
    intro n i e hi hk
    refine br_f (nI_ge (b := 3) hi (by decide)) (pk_eq i c (fun z => ?_) (fun z => ?_) rfl rfl (by omega) (by omega))
    · refine ⟨pk_in (f + i) 6 (by omega) (nI_add f i), ?_⟩
      intro y ey k ek
      rw [nI_add, nI_clamp (by omega)] at ey
      rw [nI_1] at ek
      subst ey ek
      rw [if_pos z] at hk
      exact hk
    · refine ⟨pk_in (f + i) 6 (by omega) (nI_add f i), ?_⟩
      intro y ey k ek
      rw [nI_add, nI_clamp (by omega)] at ey
      rw [nI_1] at ek
      subst ey ek
      rw [if_neg z] at hk
      exact hk
  refine ⟨4, step 3 0 _ (by omega) (step 2 1 _ (by omega) (step 1 2 _ (by omega) (br_t (by decide) ?_)))⟩
  intro y ey
  rw [show nI f + 3 = nI (f + 3) from nI_add f 3] at ey
  subst ey
  exact h
theorem bx_117 {post : SX → Prop} {J9 : Int32 → Int32 → Int32 → (Nat → Int32) → (Nat → Int32) → (Nat → Int32) → (Nat → Int32) → (Nat → Int32) → (Nat → Int32) → (Nat → Int32) → (Nat → Int32) → Prop} {x3 x4 : Int32} {s w f c g : Nat} (hs : s < 2) (hw : w < 2) (hf : f ≤ 3) (hc : c < 3) (hg : g < 3)
    (h : J9 (nI (f + 3)) (nI g) (nI (c + 1)) ap (bm_put ae f (bm_df (bm_A ap w s) c g)) am ac aq aw ar ah) : ∃ n, wX_writeEquations_117 post J9 (nI s) (nI w) x3 x4 (nI f) (nI g) (nI c) fr fc fm ft fb n 0 ap ae am ac aq aw ar ah := by
  have step : ∀ (n i : Nat) (e : Nat → Int32), i < 3 → wX_writeEquations_117 post J9 (nI s) (nI w) x3 x4 (nI f) (nI g) (nI c) fr fc fm ft fb n (nI (i + 1)) ap (upd e (f + i) (bm_i (bm_A ap w s i c - bm_A ap w s i g))) am ac aq aw ar ah → wX_writeEquations_117 post J9 (nI s) (nI w) x3 x4 (nI f) (nI g) (nI c) fr fc fm ft fb (n + 1) (nI i) ap e am ac aq aw ar ah := by
    intro n i e hi hk
    have st : ∀ y z : Nat, bm_ix w s i c = 9 * w + y → bm_ix w s i g = 9 * w + z → wX_writeEquations_167 post J9 (wX_writeEquations_117 post J9 (nI s) (nI w) x3 x4 (nI f) (nI g) (nI c) fr fc fm ft fb n) (nI s) (nI w) x3 x4 (nI f) (nI g) (nI c) (nI i) (nI y) (nI z) fr fc fm ft fb ap e am ac aq aw ar ah := by
      intro y z hy hz
      have l1 : 9 * w + y < 18 := by rw [← hy]; exact bm_ix18 hw hi hc
      have l2 : 9 * w + z < 18 := by rw [← hz]; exact bm_ix18 hw hi hg
      refine ⟨pk_in (9 * w + y) 18 l1 (bx_i w y), pk_in (9 * w + z) 18 l2 (bx_i w z), pk_in (f + i) 6 (by omega) (nI_add f i), ?_⟩
      intro e' ee k ek
      rw [nI_add, nI_clamp (by omega), pk_cl (9 * w + y) (bx_i w y) (by omega), pk_cl (9 * w + z) (bx_i w z) (by omega), ← hy, ← hz, bm_Ao ap, bm_Ao ap, bm_sub] at ee
      rw [nI_1] at ek
      subst ee ek
      exact hk
    refine br_f (nI_ge (b := 3) hi (by decide)) ?_
    have h2 : s = 0 ∨ s = 1 := by omega
    rcases h2 with rfl | rfl
    · refine br_t rfl (br_t rfl ?_)
      rw [bx_3, bx_3]
      exact st _ _ rfl rfl
    · refine br_f (by decide) (br_f (by decide) ?_)
      rw [bx_3, bx_3]
      exact st _ _ rfl rfl
  refine ⟨4, step 3 0 _ (by omega) (step 2 1 _ (by omega) (step 1 2 _ (by omega) (br_t (by decide) ?_)))⟩
  intro y ey k ek
  rw [show nI f + 3 = nI (f + 3) from nI_add f 3] at ey
  rw [nI_1] at ek
  subst ey ek
  exact h
theorem bx_w1ok {z c f : Nat} {e : Nat → Int32} (h : f = 0 ∨ f = 3 ∨ f = 6) : (bm_w1 z c (f, e)).1 = 0 ∨ (bm_w1 z c (f, e)).1 = 3 ∨ (bm_w1 z c (f, e)).1 = 6 := by
  unfold bm_w1
  split
  · dsimp only at *
    omega
  · exact h
theorem bx_w2ok {A : Nat → Nat → Int} {a c f : Nat} {e : Nat → Int32} {g : Option Nat} (hc : c < 3) (h : f = 0 ∨ f = 3 ∨ f = 6) (hg : ∀ y, g = some y → y < 3) : ((bm_w2 A a c f e g).1 = 0 ∨ (bm_w2 A a c f e g).1 = 3 ∨ (bm_w2 A a c f e g).1 = 6) ∧ ∀ y, (bm_w2 A a c f e g).2.1 = some y → y < 3 := by
  cases g with
  | none =>
    unfold bm_w2
    dsimp only
    split
    · refine ⟨h, fun y hy => ?_⟩
      cases hy
      exact hc
    · exact ⟨h, fun y hy => by cases hy⟩
  | some g =>
    unfold bm_w2
    dsimp only
    split
    · refine ⟨by dsimp only; omega, fun y hy => ?_⟩
      cases hy
      exact hg _ rfl
    · exact ⟨h, fun y hy => by cases hy; exact hg _ rfl⟩
theorem bx_72 {post : SX → Prop} {J9 : Int32 → Int32 → Int32 → (Nat → Int32) → (Nat → Int32) → (Nat → Int32) → (Nat → Int32) → (Nat → Int32) → (Nat → Int32) → (Nat → Int32) → (Nat → Int32) → Prop} {x3 : Int32} {s w f c a : Nat} {g : Option Nat} (hs : s < 2) (hw : w < 2) (ha : a < 8) (hf : f = 0 ∨ f = 3 ∨ f = 6) (hc : c < 3) (hg : ∀ y, g = some y → y < 3)
    (h : J9 (nI (bm_w2 (bm_A ap w s) a c f ae g).1) (bm_fi (bm_w2 (bm_A ap w s) a c f ae g).2.1) (nI (c + 1)) ap ((bm_w2 (bm_A ap w s) a c f ae g).2.2) am ac aq aw ar ah) : wX_writeEquations_72 post J9 (nI s) (nI w) x3 (nI a) (nI f) (bm_fi g) (nI c) fr fc fm ft fb ap ae am ac aq aw ar ah := by
  cases g with
  | none =>
    refine bx_bit ha hc (fun hb => br_t rfl ?_) (fun hb => ?_)
    · intro k ek
      rw [nI_1] at ek
      subst ek
      unfold bm_w2 at h
      rw [if_pos hb] at h
      exact h
    · refine bx_bit ha hc (fun hb' => by rw [hb] at hb'; cases hb') (fun _ => ?_)
      intro k ek
      rw [nI_1] at ek
      subst ek
      unfold bm_w2 at h
      rw [if_neg (by rw [hb]; decide)] at h
      exact h
  | some g =>
    have hg3 := hg g rfl
    have go : wX_writeEquations_96 post J9 (nI s) (nI w) x3 (nI a) (nI f) (nI g) (nI c) fr fc fm ft fb ap ae am ac aq aw ar ah := by
      unfold bm_w2 at h
      dsimp only at h
      refine bx_bit ha hc (fun hb => pk_le 6 f (fun z => ?_) (fun z => ?_) rfl rfl (by omega) (by omega)) (fun hb => ?_)
      · intro k ek
        rw [nI_1] at ek
        subst ek
        rw [if_neg (by omega)] at h
        exact h
      · rw [if_pos ⟨hb, z⟩] at h
        exact bx_117 hs hw (by omega) hc hg3 h
      · intro k ek
        rw [nI_1] at ek
        subst ek
        rw [if_neg (by rw [hb]; rintro ⟨q, -⟩; cases q)] at h
        exact h
    refine bx_bit ha hc (fun hb => br_f ?_ go) (fun hb => go)
    have : ∀ g : Fin 3, ¬ nI g.val = -1 := by decide +kernel
    exact this ⟨g, hg3⟩
theorem bx_9 {post : SX → Prop} {s w c a z : Nat} {q : Nat × Option Nat × (Nat → Int32)} (n : Nat) (hs : s < 2) (hw : w < 2) (ha : a < 8) (hz : z < 8) (hf : q.1 = 0 ∨ q.1 = 3 ∨ q.1 = 6) (hc : c < 3) (hg : ∀ y, q.2.1 = some y → y < 3)
    (h : wX_writeEquations_9 post (nI s) (nI w) (nI z) (nI a) fr fc fm ft fb n (nI (bm_w (bm_A ap w s) z a c q).1) (bm_fi (bm_w (bm_A ap w s) z a c q).2.1) (nI (c + 1)) ap ((bm_w (bm_A ap w s) z a c q).2.2) am ac aq aw ar ah) : wX_writeEquations_9 post (nI s) (nI w) (nI z) (nI a) fr fc fm ft fb (n + 1) (nI q.1) (bm_fi q.2.1) (nI c) ap q.2.2 am ac aq aw ar ah := by
  obtain ⟨f, g, e⟩ := q
  unfold bm_w at h
  dsimp only at h hf hg ⊢
  refine br_f (nI_ge (b := 3) hc (by decide)) (bx_bit hz hc (fun hb => pk_le 6 f (fun y => ?_) (fun y => ?_) rfl rfl (by omega) (by omega)) (fun hb => ?_))
  · have e1 : bm_w1 z c (f, e) = (f, e) := by unfold bm_w1; rw [if_neg (by dsimp only; omega)]
    rw [e1] at h
    exact bx_72 hs hw ha hf hc hg h
  · have e1 : bm_w1 z c (f, e) = (f + 3, bm_put e f (bm_un c)) := by unfold bm_w1; rw [if_pos ⟨hb, y⟩]
    rw [e1] at h
    exact bx_35 (by omega) hc (bx_72 hs hw ha (by omega) hc hg h)
  · have e1 : bm_w1 z c (f, e) = (f, e) := by unfold bm_w1; rw [if_neg (by rw [hb]; rintro ⟨q, -⟩; cases q)]
    rw [e1] at h
    exact bx_72 hs hw ha hf hc hg h
theorem bx_wok {A : Nat → Nat → Int} {z a c : Nat} {q : Nat × Option Nat × (Nat → Int32)} (hf : q.1 = 0 ∨ q.1 = 3 ∨ q.1 = 6) (hc : c < 3) (hg : ∀ y, q.2.1 = some y → y < 3) : ((bm_w A z a c q).1 = 0 ∨ (bm_w A z a c q).1 = 3 ∨ (bm_w A z a c q).1 = 6) ∧ ∀ y, (bm_w A z a c q).2.1 = some y → y < 3 := bx_w2ok hc (bx_w1ok hf) hg
theorem bx_we {post : SX → Prop} {s w a z : Nat} (hs : s < 2) (hw : w < 2) (ha : a < 8) (hz : z < 8) (h : post (fr, fc, fm, ft, fb, ap, (bm_wt (bm_A ap w s) z a ae).2.2, am, ac, aq, aw, ar, ah)) : wpX_writeEquations post (fr, fc, fm, ft, fb, ap, ae, am, ac, aq, aw, ar, ah) (nI s) (nI w) (nI z) (nI a) := by
  have o0 : ((0, none, ae) : Nat × Option Nat × (Nat → Int32)).1 = 0 ∨ ((0, none, ae) : Nat × Option Nat × (Nat → Int32)).1 = 3 ∨ ((0, none, ae) : Nat × Option Nat × (Nat → Int32)).1 = 6 := Or.inl rfl
  have g0 : ∀ y, ((0, none, ae) : Nat × Option Nat × (Nat → Int32)).2.1 = some y → y < 3 := fun y hy => by cases hy
  have k1 := bx_wok (A := bm_A ap w s) (z := z) (a := a) (c := 0) o0 (by omega) g0
  have k2 := bx_wok (A := bm_A ap w s) (z := z) (a := a) (c := 1) k1.1 (by omega) k1.2
  refine ⟨4, bx_9 (c := 0) (q := (0, none, ae)) 3 hs hw ha hz o0 (by omega) g0 (bx_9 (c := 1) 2 hs hw ha hz k1.1 (by omega) k1.2 (bx_9 (c := 2) 1 hs hw ha hz k2.1 (by omega) k2.2 (br_t (by decide) h)))⟩
end
def bm_x (r t : bm_V) : bm_V := (r.2.1 * t.2.2 - r.2.2 * t.2.1, r.2.2 * t.1 - r.1 * t.2.2, r.1 * t.2.1 - r.2.1 * t.1)
def bm_ng (v : bm_V) : bm_V := (-v.1, -v.2.1, -v.2.2)
def bm_H6 (a : Nat → Int32) (r t : bm_V) : Prop := (a 0 = bm_i r.1 ∧ a 1 = bm_i r.2.1 ∧ a 2 = bm_i r.2.2) ∧ (a 3 = bm_i t.1 ∧ a 4 = bm_i t.2.1 ∧ a 5 = bm_i t.2.2)

theorem bm_e_0_7 (A : Nat → Nat → Int) (e : Nat → Int32) : ∃ r t, bm_H6 (bm_wt A 0 7 e).2.2 r t ∧ (bm_x r t = bm_raw A 7 7 ∨ bm_x r t = bm_ng (bm_raw A 7 7)) := by
  refine ⟨(bm_df A 1 0), (bm_df A 2 0), ⟨⟨rfl, rfl, rfl⟩, rfl, rfl, rfl⟩, Or.inl ?_⟩
  have : bm_raw A 7 7 = bm_raw A 7 7 := rfl
  refine Prod.ext ?_ (Prod.ext ?_ ?_)
  all_goals simp [bm_x, bm_raw, bm_ng, bm_un, bm_df, bm_fs, bm_ls, bm_cr, Nat.testBit, Nat.shiftRight_eq_div_pow]
  all_goals grind
theorem bm_e_1_3 (A : Nat → Nat → Int) (e : Nat → Int32) : ∃ r t, bm_H6 (bm_wt A 1 3 e).2.2 r t ∧ (bm_x r t = bm_raw A 6 3 ∨ bm_x r t = bm_ng (bm_raw A 6 3)) := by
  refine ⟨(bm_un 0), (bm_df A 1 0), ⟨⟨rfl, rfl, rfl⟩, rfl, rfl, rfl⟩, Or.inr ?_⟩
  have : bm_ng (bm_raw A 6 3) = bm_ng (bm_raw A 6 3) := rfl
  refine Prod.ext ?_ (Prod.ext ?_ ?_)
  all_goals simp [bm_x, bm_raw, bm_ng, bm_un, bm_df, bm_fs, bm_ls, bm_cr, Nat.testBit, Nat.shiftRight_eq_div_pow]
  all_goals grind
theorem bm_e_1_5 (A : Nat → Nat → Int) (e : Nat → Int32) : ∃ r t, bm_H6 (bm_wt A 1 5 e).2.2 r t ∧ (bm_x r t = bm_raw A 6 5 ∨ bm_x r t = bm_ng (bm_raw A 6 5)) := by
  refine ⟨(bm_un 0), (bm_df A 2 0), ⟨⟨rfl, rfl, rfl⟩, rfl, rfl, rfl⟩, Or.inr ?_⟩
  have : bm_ng (bm_raw A 6 5) = bm_ng (bm_raw A 6 5) := rfl
  refine Prod.ext ?_ (Prod.ext ?_ ?_)
  all_goals simp [bm_x, bm_raw, bm_ng, bm_un, bm_df, bm_fs, bm_ls, bm_cr, Nat.testBit, Nat.shiftRight_eq_div_pow]
  all_goals grind
theorem bm_e_1_6 (A : Nat → Nat → Int) (e : Nat → Int32) : ∃ r t, bm_H6 (bm_wt A 1 6 e).2.2 r t ∧ (bm_x r t = bm_raw A 6 6 ∨ bm_x r t = bm_ng (bm_raw A 6 6)) := by
  refine ⟨(bm_un 0), (bm_df A 2 1), ⟨⟨rfl, rfl, rfl⟩, rfl, rfl, rfl⟩, Or.inr ?_⟩
  have : bm_ng (bm_raw A 6 6) = bm_ng (bm_raw A 6 6) := rfl
  refine Prod.ext ?_ (Prod.ext ?_ ?_)
  all_goals simp [bm_x, bm_raw, bm_ng, bm_un, bm_df, bm_fs, bm_ls, bm_cr, Nat.testBit, Nat.shiftRight_eq_div_pow]
  all_goals grind
theorem bm_e_2_3 (A : Nat → Nat → Int) (e : Nat → Int32) : ∃ r t, bm_H6 (bm_wt A 2 3 e).2.2 r t ∧ (bm_x r t = bm_raw A 5 3 ∨ bm_x r t = bm_ng (bm_raw A 5 3)) := by
  refine ⟨(bm_un 1), (bm_df A 1 0), ⟨⟨rfl, rfl, rfl⟩, rfl, rfl, rfl⟩, Or.inl ?_⟩
  have : bm_raw A 5 3 = bm_raw A 5 3 := rfl
  refine Prod.ext ?_ (Prod.ext ?_ ?_)
  all_goals simp [bm_x, bm_raw, bm_ng, bm_un, bm_df, bm_fs, bm_ls, bm_cr, Nat.testBit, Nat.shiftRight_eq_div_pow]
  all_goals grind
theorem bm_e_2_5 (A : Nat → Nat → Int) (e : Nat → Int32) : ∃ r t, bm_H6 (bm_wt A 2 5 e).2.2 r t ∧ (bm_x r t = bm_raw A 5 5 ∨ bm_x r t = bm_ng (bm_raw A 5 5)) := by
  refine ⟨(bm_un 1), (bm_df A 2 0), ⟨⟨rfl, rfl, rfl⟩, rfl, rfl, rfl⟩, Or.inl ?_⟩
  have : bm_raw A 5 5 = bm_raw A 5 5 := rfl
  refine Prod.ext ?_ (Prod.ext ?_ ?_)
  all_goals simp [bm_x, bm_raw, bm_ng, bm_un, bm_df, bm_fs, bm_ls, bm_cr, Nat.testBit, Nat.shiftRight_eq_div_pow]
  all_goals grind
theorem bm_e_2_6 (A : Nat → Nat → Int) (e : Nat → Int32) : ∃ r t, bm_H6 (bm_wt A 2 6 e).2.2 r t ∧ (bm_x r t = bm_raw A 5 6 ∨ bm_x r t = bm_ng (bm_raw A 5 6)) := by
  refine ⟨(bm_un 1), (bm_df A 2 1), ⟨⟨rfl, rfl, rfl⟩, rfl, rfl, rfl⟩, Or.inl ?_⟩
  have : bm_raw A 5 6 = bm_raw A 5 6 := rfl
  refine Prod.ext ?_ (Prod.ext ?_ ?_)
  all_goals simp [bm_x, bm_raw, bm_ng, bm_un, bm_df, bm_fs, bm_ls, bm_cr, Nat.testBit, Nat.shiftRight_eq_div_pow]
  all_goals grind
theorem bm_e_3_1 (A : Nat → Nat → Int) (e : Nat → Int32) : ∃ r t, bm_H6 (bm_wt A 3 1 e).2.2 r t ∧ (bm_x r t = bm_raw A 4 1 ∨ bm_x r t = bm_ng (bm_raw A 4 1)) := by
  refine ⟨(bm_un 0), (bm_un 1), ⟨⟨rfl, rfl, rfl⟩, rfl, rfl, rfl⟩, Or.inl ?_⟩
  have : bm_raw A 4 1 = bm_raw A 4 1 := rfl
  refine Prod.ext ?_ (Prod.ext ?_ ?_)
  all_goals simp [bm_x, bm_raw, bm_ng, bm_un, bm_df, bm_fs, bm_ls, bm_cr, Nat.testBit, Nat.shiftRight_eq_div_pow]
  all_goals grind
theorem bm_e_3_2 (A : Nat → Nat → Int) (e : Nat → Int32) : ∃ r t, bm_H6 (bm_wt A 3 2 e).2.2 r t ∧ (bm_x r t = bm_raw A 4 2 ∨ bm_x r t = bm_ng (bm_raw A 4 2)) := by
  refine ⟨(bm_un 0), (bm_un 1), ⟨⟨rfl, rfl, rfl⟩, rfl, rfl, rfl⟩, Or.inl ?_⟩
  have : bm_raw A 4 2 = bm_raw A 4 2 := rfl
  refine Prod.ext ?_ (Prod.ext ?_ ?_)
  all_goals simp [bm_x, bm_raw, bm_ng, bm_un, bm_df, bm_fs, bm_ls, bm_cr, Nat.testBit, Nat.shiftRight_eq_div_pow]
  all_goals grind
theorem bm_e_3_4 (A : Nat → Nat → Int) (e : Nat → Int32) : ∃ r t, bm_H6 (bm_wt A 3 4 e).2.2 r t ∧ (bm_x r t = bm_raw A 4 4 ∨ bm_x r t = bm_ng (bm_raw A 4 4)) := by
  refine ⟨(bm_un 0), (bm_un 1), ⟨⟨rfl, rfl, rfl⟩, rfl, rfl, rfl⟩, Or.inl ?_⟩
  have : bm_raw A 4 4 = bm_raw A 4 4 := rfl
  refine Prod.ext ?_ (Prod.ext ?_ ?_)
  all_goals simp [bm_x, bm_raw, bm_ng, bm_un, bm_df, bm_fs, bm_ls, bm_cr, Nat.testBit, Nat.shiftRight_eq_div_pow]
  all_goals grind
theorem bm_e_4_3 (A : Nat → Nat → Int) (e : Nat → Int32) : ∃ r t, bm_H6 (bm_wt A 4 3 e).2.2 r t ∧ (bm_x r t = bm_raw A 3 3 ∨ bm_x r t = bm_ng (bm_raw A 3 3)) := by
  refine ⟨(bm_df A 1 0), (bm_un 2), ⟨⟨rfl, rfl, rfl⟩, rfl, rfl, rfl⟩, Or.inl ?_⟩
  have : bm_raw A 3 3 = bm_raw A 3 3 := rfl
  refine Prod.ext ?_ (Prod.ext ?_ ?_)
  all_goals simp [bm_x, bm_raw, bm_ng, bm_un, bm_df, bm_fs, bm_ls, bm_cr, Nat.testBit, Nat.shiftRight_eq_div_pow]
  all_goals grind
theorem bm_e_4_5 (A : Nat → Nat → Int) (e : Nat → Int32) : ∃ r t, bm_H6 (bm_wt A 4 5 e).2.2 r t ∧ (bm_x r t = bm_raw A 3 5 ∨ bm_x r t = bm_ng (bm_raw A 3 5)) := by
  refine ⟨(bm_un 2), (bm_df A 2 0), ⟨⟨rfl, rfl, rfl⟩, rfl, rfl, rfl⟩, Or.inr ?_⟩
  have : bm_ng (bm_raw A 3 5) = bm_ng (bm_raw A 3 5) := rfl
  refine Prod.ext ?_ (Prod.ext ?_ ?_)
  all_goals simp [bm_x, bm_raw, bm_ng, bm_un, bm_df, bm_fs, bm_ls, bm_cr, Nat.testBit, Nat.shiftRight_eq_div_pow]
  all_goals grind
theorem bm_e_4_6 (A : Nat → Nat → Int) (e : Nat → Int32) : ∃ r t, bm_H6 (bm_wt A 4 6 e).2.2 r t ∧ (bm_x r t = bm_raw A 3 6 ∨ bm_x r t = bm_ng (bm_raw A 3 6)) := by
  refine ⟨(bm_un 2), (bm_df A 2 1), ⟨⟨rfl, rfl, rfl⟩, rfl, rfl, rfl⟩, Or.inr ?_⟩
  have : bm_ng (bm_raw A 3 6) = bm_ng (bm_raw A 3 6) := rfl
  refine Prod.ext ?_ (Prod.ext ?_ ?_)
  all_goals simp [bm_x, bm_raw, bm_ng, bm_un, bm_df, bm_fs, bm_ls, bm_cr, Nat.testBit, Nat.shiftRight_eq_div_pow]
  all_goals grind
theorem bm_e_5_1 (A : Nat → Nat → Int) (e : Nat → Int32) : ∃ r t, bm_H6 (bm_wt A 5 1 e).2.2 r t ∧ (bm_x r t = bm_raw A 2 1 ∨ bm_x r t = bm_ng (bm_raw A 2 1)) := by
  refine ⟨(bm_un 0), (bm_un 2), ⟨⟨rfl, rfl, rfl⟩, rfl, rfl, rfl⟩, Or.inr ?_⟩
  have : bm_ng (bm_raw A 2 1) = bm_ng (bm_raw A 2 1) := rfl
  refine Prod.ext ?_ (Prod.ext ?_ ?_)
  all_goals simp [bm_x, bm_raw, bm_ng, bm_un, bm_df, bm_fs, bm_ls, bm_cr, Nat.testBit, Nat.shiftRight_eq_div_pow]
  all_goals grind
theorem bm_e_5_2 (A : Nat → Nat → Int) (e : Nat → Int32) : ∃ r t, bm_H6 (bm_wt A 5 2 e).2.2 r t ∧ (bm_x r t = bm_raw A 2 2 ∨ bm_x r t = bm_ng (bm_raw A 2 2)) := by
  refine ⟨(bm_un 0), (bm_un 2), ⟨⟨rfl, rfl, rfl⟩, rfl, rfl, rfl⟩, Or.inr ?_⟩
  have : bm_ng (bm_raw A 2 2) = bm_ng (bm_raw A 2 2) := rfl
  refine Prod.ext ?_ (Prod.ext ?_ ?_)
  all_goals simp [bm_x, bm_raw, bm_ng, bm_un, bm_df, bm_fs, bm_ls, bm_cr, Nat.testBit, Nat.shiftRight_eq_div_pow]
  all_goals grind
theorem bm_e_5_4 (A : Nat → Nat → Int) (e : Nat → Int32) : ∃ r t, bm_H6 (bm_wt A 5 4 e).2.2 r t ∧ (bm_x r t = bm_raw A 2 4 ∨ bm_x r t = bm_ng (bm_raw A 2 4)) := by
  refine ⟨(bm_un 0), (bm_un 2), ⟨⟨rfl, rfl, rfl⟩, rfl, rfl, rfl⟩, Or.inr ?_⟩
  have : bm_ng (bm_raw A 2 4) = bm_ng (bm_raw A 2 4) := rfl
  refine Prod.ext ?_ (Prod.ext ?_ ?_)
  all_goals simp [bm_x, bm_raw, bm_ng, bm_un, bm_df, bm_fs, bm_ls, bm_cr, Nat.testBit, Nat.shiftRight_eq_div_pow]
  all_goals grind
theorem bm_e_6_1 (A : Nat → Nat → Int) (e : Nat → Int32) : ∃ r t, bm_H6 (bm_wt A 6 1 e).2.2 r t ∧ (bm_x r t = bm_raw A 1 1 ∨ bm_x r t = bm_ng (bm_raw A 1 1)) := by
  refine ⟨(bm_un 1), (bm_un 2), ⟨⟨rfl, rfl, rfl⟩, rfl, rfl, rfl⟩, Or.inl ?_⟩
  have : bm_raw A 1 1 = bm_raw A 1 1 := rfl
  refine Prod.ext ?_ (Prod.ext ?_ ?_)
  all_goals simp [bm_x, bm_raw, bm_ng, bm_un, bm_df, bm_fs, bm_ls, bm_cr, Nat.testBit, Nat.shiftRight_eq_div_pow]
  all_goals grind
theorem bm_e_6_2 (A : Nat → Nat → Int) (e : Nat → Int32) : ∃ r t, bm_H6 (bm_wt A 6 2 e).2.2 r t ∧ (bm_x r t = bm_raw A 1 2 ∨ bm_x r t = bm_ng (bm_raw A 1 2)) := by
  refine ⟨(bm_un 1), (bm_un 2), ⟨⟨rfl, rfl, rfl⟩, rfl, rfl, rfl⟩, Or.inl ?_⟩
  have : bm_raw A 1 2 = bm_raw A 1 2 := rfl
  refine Prod.ext ?_ (Prod.ext ?_ ?_)
  all_goals simp [bm_x, bm_raw, bm_ng, bm_un, bm_df, bm_fs, bm_ls, bm_cr, Nat.testBit, Nat.shiftRight_eq_div_pow]
  all_goals grind
theorem bm_e_6_4 (A : Nat → Nat → Int) (e : Nat → Int32) : ∃ r t, bm_H6 (bm_wt A 6 4 e).2.2 r t ∧ (bm_x r t = bm_raw A 1 4 ∨ bm_x r t = bm_ng (bm_raw A 1 4)) := by
  refine ⟨(bm_un 1), (bm_un 2), ⟨⟨rfl, rfl, rfl⟩, rfl, rfl, rfl⟩, Or.inl ?_⟩
  have : bm_raw A 1 4 = bm_raw A 1 4 := rfl
  refine Prod.ext ?_ (Prod.ext ?_ ?_)
  all_goals simp [bm_x, bm_raw, bm_ng, bm_un, bm_df, bm_fs, bm_ls, bm_cr, Nat.testBit, Nat.shiftRight_eq_div_pow]
  all_goals grind
theorem bm_eqs {A : Nat → Nat → Int} {e : Nat → Int32} {z a : Nat} (hz : z < 8) (ha : a < 8) (h0 : a ≠ 0) (h : bm_sz z + bm_sz a = 3) : ∃ r t, bm_H6 (bm_wt A z a e).2.2 r t ∧ (bm_x r t = bm_raw A (7 - z) a ∨ bm_x r t = bm_ng (bm_raw A (7 - z) a)) := by
  have k : ∀ z a : Fin 8, a.val ≠ 0 → bm_sz z.val + bm_sz a.val = 3 → (z.val, a.val) ∈ [(0, 7), (1, 3), (1, 5), (1, 6), (2, 3), (2, 5), (2, 6), (3, 1), (3, 2), (3, 4), (4, 3), (4, 5), (4, 6), (5, 1), (5, 2), (5, 4), (6, 1), (6, 2), (6, 4)] := by decide +kernel
  have m := k ⟨z, hz⟩ ⟨a, ha⟩ h0 h
  simp only [List.mem_cons, List.not_mem_nil, or_false, Prod.mk.injEq] at m
  rcases m with ⟨rfl, rfl⟩ | ⟨rfl, rfl⟩ | ⟨rfl, rfl⟩ | ⟨rfl, rfl⟩ | ⟨rfl, rfl⟩ | ⟨rfl, rfl⟩ | ⟨rfl, rfl⟩ | ⟨rfl, rfl⟩ | ⟨rfl, rfl⟩ | ⟨rfl, rfl⟩ | ⟨rfl, rfl⟩ | ⟨rfl, rfl⟩ | ⟨rfl, rfl⟩ | ⟨rfl, rfl⟩ | ⟨rfl, rfl⟩ | ⟨rfl, rfl⟩ | ⟨rfl, rfl⟩ | ⟨rfl, rfl⟩ | ⟨rfl, rfl⟩
  · exact bm_e_0_7 A e
  · exact bm_e_1_3 A e
  · exact bm_e_1_5 A e
  · exact bm_e_1_6 A e
  · exact bm_e_2_3 A e
  · exact bm_e_2_5 A e
  · exact bm_e_2_6 A e
  · exact bm_e_3_1 A e
  · exact bm_e_3_2 A e
  · exact bm_e_3_4 A e
  · exact bm_e_4_3 A e
  · exact bm_e_4_5 A e
  · exact bm_e_4_6 A e
  · exact bm_e_5_1 A e
  · exact bm_e_5_2 A e
  · exact bm_e_5_4 A e
  · exact bm_e_6_1 A e
  · exact bm_e_6_2 A e
  · exact bm_e_6_4 A e
