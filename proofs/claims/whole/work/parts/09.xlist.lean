/-! corners and their lists -/
def bm_K (A : Nat → Nat → Int) (M O S T : Nat) : Prop := bm_fit M O S T ∧ bm_ok (bm_raw A S T) ∧ T &&& bm_rp A O (bm_nv (bm_raw A S T)) = T
def bm_XH (A : Nat → Nat → Int) (O : Nat) (aq aw ar : Nat → Int32) (n : Nat) (v : bm_V) : Prop := (∀ i, i < 3 → aq (3 * n + i) = bm_i (bm_at v i)) ∧ aw n = bm_i (bm_sg v) ∧ ar n = nI (bm_rp A O v)
/-- the slot n' of the second holds what n of the first held -/
def bm_se (aq aw ar : Nat → Int32) (n : Nat) (aq' aw' ar' : Nat → Int32) (n' : Nat) : Prop := (∀ i, i < 3 → aq' (3 * n' + i) = aq (3 * n + i)) ∧ aw' n' = aw n ∧ ar' n' = ar n
theorem bm_se_r (aq aw ar : Nat → Int32) (n : Nat) : bm_se aq aw ar n aq aw ar n := ⟨fun _ _ => rfl, rfl, rfl⟩
theorem bm_se_t {aq aw ar aq' aw' ar' aq2 aw2 ar2 : Nat → Int32} {n n' n2 : Nat} (h : bm_se aq aw ar n aq' aw' ar' n') (h' : bm_se aq' aw' ar' n' aq2 aw2 ar2 n2) : bm_se aq aw ar n aq2 aw2 ar2 n2 := ⟨fun i hi => (h'.1 i hi).trans (h.1 i hi), h'.2.1.trans h.2.1, h'.2.2.trans h.2.2⟩
theorem bm_se_H {A : Nat → Nat → Int} {O : Nat} {aq aw ar aq' aw' ar' : Nat → Int32} {n n' : Nat} {v : bm_V} (h : bm_se aq aw ar n aq' aw' ar' n') (hH : bm_XH A O aq aw ar n v) : bm_XH A O aq' aw' ar' n' v := ⟨fun i hi => (h.1 i hi).trans (hH.1 i hi), h.2.1.trans hH.2.1, h.2.2.trans hH.2.2⟩
def bm_XL (A : Nat → Nat → Int) (O b : Nat) (aq aw ar : Nat → Int32) (L : List bm_V) : Prop := ∀ k v, L[k]? = some v → bm_XH A O aq aw ar (b + k) v
theorem bm_at_b {v : bm_V} (h : bm_b3 v) (i : Nat) : -648 ≤ bm_at v i ∧ bm_at v i ≤ 648 := by
  unfold bm_at
  unfold bm_b3 at h
  repeat' split
  all_goals omega
theorem bm_d_b {v w : bm_V} (hv : bm_b3 v) (hw : bm_b3 w) (i : Nat) : -3000000 ≤ bm_d v w i ∧ bm_d v w i ≤ 3000000 := by
  unfold bm_d
  have a := bm_at_b hv i
  have b := bm_at_b hw i
  have c := bm_sg_b hv
  have d := bm_sg_b hw
  have k1 := bm_p18 (a := bm_at v i) (b := bm_sg w) (s := 648) (t := 1944) (by omega) (by omega) (by omega) (by omega)
  have k2 := bm_p18 (a := bm_at w i) (b := bm_sg v) (s := 648) (t := 1944) (by omega) (by omega) (by omega) (by omega)
  omega
theorem bm_cm_b {v w : bm_V} (hv : bm_b3 v) (hw : bm_b3 w) : -3000000 ≤ bm_cm v w ∧ bm_cm v w ≤ 3000000 := by
  have d0 := bm_d_b hv hw 0
  have d1 := bm_d_b hv hw 1
  have d2 := bm_d_b hv hw 2
  unfold bm_cm
  repeat' split
  all_goals omega
section
variable {fr fc fm ft fb : Int32} {ap ae am ac aq aw ar ah : Nat → Int32}
theorem bx_cmp {post : Int32 → Prop} {A : Nat → Nat → Int} {O n : Nat} {v w : bm_V} (hn : n < 128) (hv : bm_b3 v) (hw : bm_b3 w) (hm : bm_H am v) (hf : fm = bm_i (bm_sg v)) (hs : bm_XH A O aq aw ar n w) (h : post (bm_i (bm_cm v w))) : wpX_compareMix post (fr, fc, fm, ft, fb, ap, ae, am, ac, aq, aw, ar, ah) (nI n) := by
  have step : ∀ (q i : Nat), i < 3 → (bm_d v w i = 0 → wX_compareMix_2 post (nI n) fr fc fm ft fb ap ae am ac aq aw ar ah q (nI (i + 1))) → (bm_d v w i ≠ 0 → post (bm_i (bm_d v w i))) → wX_compareMix_2 post (nI n) fr fc fm ft fb ap ae am ac aq aw ar ah (q + 1) (nI i) := by
    intro q i hi h1 h2
    refine br_f (nI_ge (b := 3) hi (by decide)) ⟨vp_in_nI hi (by decide), vp_in_nI hn (by decide), pk_in (3 * n + i) 384 (by omega) (bx_3 n i), ?_⟩
    intro y ey
    rw [bx_3, nI_clamp (by omega), nI_clamp (by omega), nI_clamp (by omega), hs.1 i hi, hs.2.1, bm_H_at hm hi, hf, bm_mul, bm_mul, bm_sub] at ey
    have ey' : y = bm_i (bm_d v w i) := ey
    clear ey
    subst ey'
    have db := bm_d_b hv hw i
    rw [← bm_0, bm_eq (by omega) (by omega) (by omega) (by omega)]
    refine br_c (fun z => ?_) (fun z => h2 z)
    intro k ek
    rw [nI_1] at ek
    subst ek
    exact h1 z
  unfold bm_cm at h
  refine ⟨4, step 3 0 (by omega) (fun z0 => step 2 1 (by omega) (fun z1 => step 1 2 (by omega) (fun z2 => br_t (by decide) ?_) (fun z2 => ?_)) (fun z1 => ?_)) (fun z0 => ?_)⟩
  · rw [if_neg (by omega), if_neg (by omega), z2] at h
    exact h
  · rw [if_neg (by omega), if_neg (by omega)] at h
    exact h
  · rw [if_neg (by omega), if_pos z1] at h
    exact h
  · rw [if_pos z0] at h
    exact h
theorem bx_copy {post : SX → Prop} {a b : Nat} (ha : a < 128) (hb : b < 128) (hab : a ≠ b)
    (h : ∀ aq' aw' ar', bm_se aq aw ar a aq' aw' ar' b → (∀ n, n ≠ b → bm_se aq aw ar n aq' aw' ar' n) → post (fr, fc, fm, ft, fb, ap, ae, am, ac, aq', aw', ar', ah)) : wpX_copyCorner post (fr, fc, fm, ft, fb, ap, ae, am, ac, aq, aw, ar, ah) (nI a) (nI b) := by
  have step : ∀ (q i : Nat) (e : Nat → Int32), i < 3 → (∀ j, j < i → e (3 * b + j) = aq (3 * a + j)) → (∀ j, (∀ k, k < i → j ≠ 3 * b + k) → e j = aq j) → (∀ e', (∀ j, j < i + 1 → e' (3 * b + j) = aq (3 * a + j)) → (∀ j, (∀ k, k < i + 1 → j ≠ 3 * b + k) → e' j = aq j) → wX_copyCorner_2 post (nI a) (nI b) fr fc fm ft fb q (nI (i + 1)) ap ae am ac e' aw ar ah) → wX_copyCorner_2 post (nI a) (nI b) fr fc fm ft fb (q + 1) (nI i) ap ae am ac e aw ar ah := by
    intro q i e hi h1 h2 hk
    refine br_f (nI_ge (b := 3) hi (by decide)) ⟨pk_in (3 * a + i) 384 (by omega) (bx_3 a i), pk_in (3 * b + i) 384 (by omega) (bx_3 b i), ?_⟩
    intro y ey k ek
    rw [bx_3, bx_3, nI_clamp (by omega), nI_clamp (by omega)] at ey
    rw [nI_1] at ek
    subst ey ek
    refine hk _ (fun j hj => ?_) (fun j hj => ?_)
    · by_cases z : j = i
      · subst z
        rw [pk_us]
        exact h2 _ (fun k hk => by omega)
      · rw [pk_un (by omega)]
        exact h1 j (by omega)
    · rw [pk_un (hj i (by omega))]
      exact h2 j (fun k hk => hj k (by omega))
  refine ⟨4, step 3 0 _ (by omega) (fun j hj => absurd hj (by omega)) (fun j _ => rfl) (fun e1 a1 b1 => step 2 1 _ (by omega) a1 b1 (fun e2 a2 b2 => step 1 2 _ (by omega) a2 b2 (fun e3 a3 b3 => br_t (by decide) ?_)))⟩
  refine ⟨vp_in_nI ha (by decide), vp_in_nI hb (by decide), ?_⟩
  intro w ew
  refine ⟨vp_in_nI ha (by decide), vp_in_nI hb (by decide), ?_⟩
  intro r er
  rw [nI_clamp (by omega), nI_clamp (by omega)] at ew er
  subst ew er
  refine h _ _ _ ⟨fun i hi => a3 i hi, pk_us, pk_us⟩ (fun n hn => ⟨fun i hi => b3 _ (fun k hk => by omega), pk_un hn, pk_un hn⟩)
/-- the writing at the end of an insertion -/
theorem bx_92 {post : SX → Prop} {A : Nat → Nat → Int} {O s n c : Nat} {v : bm_V} (hs : s < 2) (hn : n < 128) (hm : bm_H am v) (hf : fm = bm_i (bm_sg v)) (hc : ac s = nI c)
    (h : ∀ aq' aw' ar', bm_XH A O aq' aw' ar' n v → (∀ k, k ≠ n → bm_se aq aw ar k aq' aw' ar' k) → post (fr, fc, fm, ft, fb, ap, ae, am, upd ac s (nI (c + 1)), aq', aw', ar', ah)) : ∃ q, wX_insertCorner_92 post (nI s) (nI (bm_rp A O v)) (nI n) fr fc fm ft fb q 0 ap ae am ac aq aw ar ah := by
  have step : ∀ (q i : Nat) (e : Nat → Int32), i < 3 → (∀ j, j < i → e (3 * n + j) = bm_i (bm_at v j)) → (∀ j, (∀ k, k < i → j ≠ 3 * n + k) → e j = aq j) → (∀ e', (∀ j, j < i + 1 → e' (3 * n + j) = bm_i (bm_at v j)) → (∀ j, (∀ k, k < i + 1 → j ≠ 3 * n + k) → e' j = aq j) → wX_insertCorner_92 post (nI s) (nI (bm_rp A O v)) (nI n) fr fc fm ft fb q (nI (i + 1)) ap ae am ac e' aw ar ah) → wX_insertCorner_92 post (nI s) (nI (bm_rp A O v)) (nI n) fr fc fm ft fb (q + 1) (nI i) ap ae am ac e aw ar ah := by
    intro q i e hi h1 h2 hk
    refine br_f (nI_ge (b := 3) hi (by decide)) ⟨vp_in_nI hi (by decide), pk_in (3 * n + i) 384 (by omega) (bx_3 n i), ?_⟩
    intro y ey k ek
    rw [bx_3, nI_clamp (by omega), nI_clamp (by omega), bm_H_at hm hi] at ey
    rw [nI_1] at ek
    subst ey ek
    refine hk _ (fun j hj => ?_) (fun j hj => ?_)
    · by_cases z : j = i
      · subst z
        exact pk_us
      · rw [pk_un (by omega)]
        exact h1 j (by omega)
    · rw [pk_un (hj i (by omega))]
      exact h2 j (fun k hk => hj k (by omega))
  refine ⟨4, step 3 0 _ (by omega) (fun j hj => absurd hj (by omega)) (fun j _ => rfl) (fun e1 a1 b1 => step 2 1 _ (by omega) a1 b1 (fun e2 a2 b2 => step 1 2 _ (by omega) a2 b2 (fun e3 a3 b3 => br_t (by decide) ?_)))⟩
  refine ⟨vp_in_nI hn (by decide), ?_⟩
  intro w ew
  refine ⟨vp_in_nI hn (by decide), ?_⟩
  intro r er
  refine ⟨vp_in_nI hs (by decide), vp_in_nI hs (by decide), ?_⟩
  intro cc ec
  rw [nI_clamp (by omega)] at ew er
  rw [nI_clamp (by omega), hc, nI_1] at ec
  subst ew er ec
  exact h _ _ _ ⟨fun i hi => a3 i hi, by rw [pk_us, hf], pk_us⟩ (fun k hk => ⟨fun i hi => b3 _ (fun k' hk' => by omega), pk_un hk, pk_un hk⟩)
/-- the shift -/
theorem bx_66 {post : SX → Prop} {A : Nat → Nat → Int} {O s b p : Nat} {L : List bm_V} {v : bm_V} (hs : s < 2) (hb : b + L.length < 128) (hp : p ≤ L.length) (hm : bm_H am v) (hf : fm = bm_i (bm_sg v)) (hc : ac s = nI L.length) (hL : bm_XL A O b aq aw ar L)
    (h : ∀ aq' aw' ar', bm_XL A O b aq' aw' ar' (bm_ins L p v) → (∀ n, n < b ∨ b + L.length < n → bm_se aq aw ar n aq' aw' ar' n) → post (fr, fc, fm, ft, fb, ap, ae, am, upd ac s (nI (L.length + 1)), aq', aw', ar', ah)) :
    ∀ (k q : Nat) (aq1 aw1 ar1 : Nat → Int32), p ≤ k → k ≤ L.length → k - p < q → (∀ n, n ≤ b + k ∨ b + L.length < n → bm_se aq aw ar n aq1 aw1 ar1 n) → (∀ j, k ≤ j → j < L.length → bm_se aq aw ar (b + j) aq1 aw1 ar1 (b + j + 1)) → wX_insertCorner_66 post (nI s) (nI (bm_rp A O v)) (nI (b + p)) q (nI (b + k)) fr fc fm ft fb ap ae am ac aq1 aw1 ar1 ah := by
  intro k
  induction k with
  | zero =>
    intro q aq1 aw1 ar1 hpk hkl hq h1 h2
    obtain ⟨q, rfl⟩ : ∃ q', q = q' + 1 := ⟨q - 1, by omega⟩
    refine br_t (nI_le (by omega) (by omega)) ?_
    have p0 : p = 0 := by omega
    subst p0
    refine bx_92 (A := A) (O := O) hs (by omega) hm hf hc (fun aq' aw' ar' hH hse => h _ _ _ ?_ ?_)
    · intro j w hj
      rcases j with _ | j
      · rw [bm_ins_eq hp] at hj
        cases hj
        exact hH
      · rw [bm_ins_gt hp (by omega)] at hj
        have hjl : j < L.length := (List.getElem?_eq_some_iff.mp hj).1
        exact bm_se_H (bm_se_t (h2 j (by omega) hjl) (hse _ (by omega))) (hL j w hj)
    · intro n hn
      exact bm_se_t (h1 n (by omega)) (hse n (by omega))
  | succ k ih =>
    intro q aq1 aw1 ar1 hpk hkl hq h1 h2
    obtain ⟨q, rfl⟩ : ∃ q', q = q' + 1 := ⟨q - 1, by omega⟩
    by_cases z : p = k + 1
    · subst z
      refine br_t (nI_le (by omega) (by omega)) ?_
      refine bx_92 (A := A) (O := O) hs (by omega) hm hf hc (fun aq' aw' ar' hH hse => h _ _ _ ?_ ?_)
      · intro j w hj
        rcases Nat.lt_trichotomy j (k + 1) with y | y | y
        · rw [bm_ins_lt hp y] at hj
          exact bm_se_H (bm_se_t (h1 _ (by omega)) (hse _ (by omega))) (hL j w hj)
        · subst y
          rw [bm_ins_eq hp] at hj
          cases hj
          exact hH
        · obtain ⟨j, rfl⟩ : ∃ j', j = j' + 1 := ⟨j - 1, by omega⟩
          rw [bm_ins_gt hp (by omega)] at hj
          have hjl : j < L.length := (List.getElem?_eq_some_iff.mp hj).1
          exact bm_se_H (bm_se_t (h2 j (by omega) hjl) (hse _ (by omega))) (hL j w hj)
      · intro n hn
        exact bm_se_t (h1 n (by omega)) (hse n (by omega))
    · refine br_f (nI_ge (by omega) (by omega)) ?_
      rw [show nI (b + (k + 1)) - 1 = nI (b + k) from nI_pred (b + k)]
      refine bx_copy (by omega) (by omega) (by omega) (fun aq' aw' ar' hc1 hc2 => ?_)
      intro y ey
      rw [show nI (b + (k + 1)) + (-1) = nI (b + k) from pk_m1 (b + k)] at ey
      subst ey
      refine ih q aq' aw' ar' (by omega) (by omega) (by omega) (fun n hn => ?_) (fun j hj hjl => ?_)
      · exact bm_se_t (h1 n (by omega)) (hc2 n (by omega))
      · by_cases y : j = k
        · subst y
          exact bm_se_t (h1 _ (by omega)) hc1
        · exact bm_se_t (h2 j (by omega) hjl) (hc2 _ (by omega))
theorem bx_ins {post : SX → Prop} {A : Nat → Nat → Int} {O s : Nat} {L : List bm_V} {v : bm_V} (hs : s < 2) (hl : L.length < 60) (hS : bm_S L) (hb : ∀ w, w ∈ L → bm_b3 w) (hv : bm_P v) (hvb : bm_b3 v) (hm : bm_H am v) (hf : fm = bm_i (bm_sg v)) (hc : ac s = nI L.length) (hL : bm_XL A O (64 * s) aq aw ar L)
    (h : ∀ ac' aq' aw' ar' L', bm_S L' → (∀ x, x ∈ L' ↔ x = v ∨ x ∈ L) → bm_XL A O (64 * s) aq' aw' ar' L' → ac' s = nI L'.length → (∀ j, j ≠ s → ac' j = ac j) → (∀ n, n < 64 * s ∨ 64 * s + 64 ≤ n → bm_se aq aw ar n aq' aw' ar' n) → post (fr, fc, fm, ft, fb, ap, ae, am, ac', aq', aw', ar', ah)) : wpX_insertCorner post (fr, fc, fm, ft, fb, ap, ae, am, ac, aq, aw, ar, ah) (nI s) (nI (bm_rp A O v)) := by
  intro b0 eb0
  rw [show nI s * 64 = nI (64 * s) by rw [Nat.mul_comm, ← pk_mul]; rfl] at eb0
  subst eb0
  refine ⟨vp_in_nI hs (by decide), ?_⟩
  intro e0 ee0
  rw [nI_clamp (by omega), hc, nI_add] at ee0
  subst ee0
  have e56 : ∀ (p : Nat) (o : Int32), p ≤ L.length → ¬ o = 0 → (∀ k w, k < p → L[k]? = some w → bm_cm w v < 0) → (∀ k w, p ≤ k → L[k]? = some w → bm_cm v w < 0) → wX_insertCorner_56 post (nI s) (nI (bm_rp A O v)) (nI (64 * s + L.length)) (nI (64 * s + p)) o fr fc fm ft fb ap ae am ac aq aw ar ah := by
    intro p o hp ho lo hi
    refine br_f ho ⟨L.length + 1, bx_66 hs (by omega) hp hm hf hc hL ?_ L.length (L.length + 1) _ _ _ hp (Nat.le_refl _) (by omega) (fun n _ => bm_se_r _ _ _ _) (fun j hj hjl => absurd hjl (by omega))⟩
    intro aq' aw' ar' hL' hse
    refine h _ _ _ _ (bm_ins L p v) (bm_S_ins hS hv lo hi) (fun x => bm_ins_mem) hL' ?_ (fun j hj => pk_un hj) (fun n hn => hse n (by omega))
    rw [pk_us, bm_ins_len hp]
  have loop : ∀ (m k q : Nat) (o : Int32), k + m = L.length → m < q → ¬ o = 0 → (∀ j w, j < k → L[j]? = some w → bm_cm w v < 0) → wX_insertCorner_24 post (nI s) (nI (bm_rp A O v)) (nI (64 * s + L.length)) fr fc fm ft fb ap ae am ac aq aw ar ah q (nI (64 * s + k)) o (nI (64 * s + k)) := by
    intro m
    induction m with
    | zero =>
      intro k q o hk hq ho lo
      obtain ⟨q, rfl⟩ : ∃ q', q = q' + 1 := ⟨q - 1, by omega⟩
      have : k = L.length := by omega
      subst this
      refine br_t (nI_le (by omega) (by omega)) (e56 _ o (Nat.le_refl _) ho lo (fun j w hj hw => ?_))
      have := (List.getElem?_eq_some_iff.mp hw).1
      omega
    | succ m ih =>
      intro k q o hk hq ho lo
      obtain ⟨q, rfl⟩ : ∃ q', q = q' + 1 := ⟨q - 1, by omega⟩
      refine br_f (nI_ge (by omega) (by omega)) ?_
      obtain ⟨w, hw⟩ : ∃ w, L[k]? = some w := ⟨_, List.getElem?_eq_getElem (by omega)⟩
      have hwm : w ∈ L := List.mem_of_getElem? hw
      have hwb := hb w hwm
      have cb := bm_cm_b hvb hwb
      refine bx_cmp (A := A) (O := O) (by omega) hvb hwb hm hf (hL k w hw) ?_
      rw [← bm_0, bm_lt (by omega) (by omega) (by omega) (by omega)]
      refine br_c (fun z => ?_) (fun z => ?_)
      · intro y1 e1 y2 e2
        rw [show nI (64 * s + k) + 1 = nI (64 * s + (k + 1)) from nI_1 _] at e1 e2
        subst e1 e2
        refine ih (k + 1) q _ (by omega) (by omega) ?_ (fun j w' hj hw' => ?_)
        · rw [← bm_0, bm_eq (by omega) (by omega) (by omega) (by omega)]
          omega
        · by_cases y : j = k
          · subst y
            rw [hw] at hw'
            cases hw'
            have := bm_cm_anti v w
            omega
          · exact lo j w' (by omega) hw'
      · by_cases y : bm_cm v w = 0
        · have evw : v = w := bm_cm_eq hv (hS.2 w hwm) y
          refine br_t (by rw [y]; rfl) ?_
          refine h ac aq aw ar L hS (fun x => ⟨fun hx => Or.inr hx, fun hx => ?_⟩) hL hc (fun _ _ => rfl) (fun n _ => bm_se_r _ _ _ _)
          rcases hx with rfl | hx
          · rw [evw]
            exact hwm
          · exact hx
        · refine e56 k _ (by omega) ?_ lo (fun j w' hj hw' => ?_)
          · rw [← bm_0, bm_eq (by omega) (by omega) (by omega) (by omega)]
            omega
          · by_cases y2 : j = k
            · subst y2
              rw [hw] at hw'
              cases hw'
              omega
            · exact bm_cm_tr hv (hS.2 w hwm) (hS.2 w' (List.mem_of_getElem? hw')) (by omega) (bm_S_rel hS hw hw' (by omega))
  exact ⟨L.length + 1, loop L.length 0 (L.length + 1) 1 (by omega) (by omega) (by decide) (fun j w hj _ => absurd hj (by omega))⟩
end
