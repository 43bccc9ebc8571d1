def bm_YH (yq yw : Nat → Int32) (n : Nat) (v : bm_V) : Prop := (∀ i, i < 3 → yq (3 * n + i) = bm_i (bm_at v i)) ∧ yw n = bm_i (bm_sg v)
def bm_ye (yq yw : Nat → Int32) (n : Nat) (yq' yw' : Nat → Int32) (n' : Nat) : Prop := (∀ i, i < 3 → yq' (3 * n' + i) = yq (3 * n + i)) ∧ yw' n' = yw n
theorem bm_ye_r (yq yw : Nat → Int32) (n : Nat) : bm_ye yq yw n yq yw n := ⟨fun _ _ => rfl, rfl⟩
theorem bm_ye_t {yq yw yq' yw' yq2 yw2 : Nat → Int32} {n n' n2 : Nat} (h : bm_ye yq yw n yq' yw' n') (h' : bm_ye yq' yw' n' yq2 yw2 n2) : bm_ye yq yw n yq2 yw2 n2 := ⟨fun i hi => (h'.1 i hi).trans (h.1 i hi), h'.2.trans h.2⟩
theorem bm_ye_H {yq yw yq' yw' : Nat → Int32} {n n' : Nat} {v : bm_V} (h : bm_ye yq yw n yq' yw' n') (hH : bm_YH yq yw n v) : bm_YH yq' yw' n' v := ⟨fun i hi => (h.1 i hi).trans (hH.1 i hi), h.2.trans hH.2⟩
def bm_YL (b : Nat) (yq yw : Nat → Int32) (L : List bm_V) : Prop := ∀ k v, L[k]? = some v → bm_YH yq yw (b + k) v
theorem by_16 (s k : Nat) : 16 * nI s + nI k = nI (16 * s + k) := by
  show nI 16 * nI s + nI k = _
  rw [pk_mul, nI_add]
theorem by_48 (s k i : Nat) : 48 * nI s + 3 * nI k + nI i = nI (3 * (16 * s + k) + i) := by
  show nI 48 * nI s + nI 3 * nI k + nI i = _
  rw [pk_mul, pk_mul, nI_add, nI_add]
  congr 1
  omega
theorem bm_at_ext {v w : bm_V} (h0 : bm_at v 0 = bm_at w 0) (h1 : bm_at v 1 = bm_at w 1) (h2 : bm_at v 2 = bm_at w 2) : v = w := by
  obtain ⟨a, b, c⟩ := v
  obtain ⟨d, e, f⟩ := w
  have h0' : a = d := h0
  have h1' : b = e := h1
  have h2' : c = f := h2
  rw [h0', h1', h2']
section
variable {yr yc : Int32} {yp ys yn yq yw ym yg : Nat → Int32}
theorem by_before {post : Int32 → Prop} {s k : Nat} {v w : bm_V} (hs : s < 2) (hk : k < 16) (hv : bm_b3 v) (hw : bm_b3 w) (hm : bm_H ym v) (hh : bm_YH yq yw (16 * s + k) w) (h : post (if bm_cm v w < 0 then 1 else 0)) : wpY_isBefore post (yr, yc, yp, ys, yn, yq, yw, ym, yg) (nI s) (nI k) := by
  intro x ex
  rw [hm.1, hm.2.1, hm.2.2, bm_add, bm_add] at ex
  have ex' : x = bm_i (bm_sg v) := ex
  clear ex
  subst ex'
  have step : ∀ (q i : Nat), i < 3 → (bm_d v w i = 0 → wY_isBefore_24 post (nI s) (nI k) (bm_i (bm_sg v)) yr yc yp ys yn yq yw ym yg q (nI (i + 1))) → (bm_d v w i ≠ 0 → post (if bm_d v w i < 0 then 1 else 0)) → wY_isBefore_24 post (nI s) (nI k) (bm_i (bm_sg v)) yr yc yp ys yn yq yw ym yg (q + 1) (nI i) := by
    intro q i hi h1 h2
    refine br_f (nI_ge (b := 3) hi (by decide)) ⟨vp_in_nI hi (by decide), pk_in (16 * s + k) 32 (by omega) (by_16 s k), pk_in (3 * (16 * s + k) + i) 96 (by omega) (by_48 s k i), ?_⟩
    intro y ey
    rw [by_16, by_48, nI_clamp (by omega), nI_clamp (by omega), nI_clamp (by omega), hh.1 i hi, hh.2, bm_H_at hm hi, bm_mul, bm_mul, bm_sub] at ey
    have ey' : y = bm_i (bm_d v w i) := ey
    clear ey
    subst ey'
    have db := bm_d_b hv hw i
    rw [← bm_0, bm_eq (by omega) (by omega) (by omega) (by omega), bm_le (by omega) (by omega) (by omega) (by omega)]
    refine br_c (fun z => ?_) (fun z => br_c (fun p => ?_) (fun p => ?_))
    · intro k ek
      rw [nI_1] at ek
      subst ek
      exact h1 z
    · have := h2 z
      rw [if_neg (by omega)] at this
      exact this
    · have := h2 z
      rw [if_pos (by omega)] at this
      exact this
  unfold bm_cm at h
  refine ⟨4, step 3 0 (by omega) (fun z0 => step 2 1 (by omega) (fun z1 => step 1 2 (by omega) (fun z2 => br_t (by decide) ?_) (fun z2 => ?_)) (fun z1 => ?_)) (fun z0 => ?_)⟩
  · rw [if_neg (c := bm_d v w 0 ≠ 0) (by omega), if_neg (c := bm_d v w 1 ≠ 0) (by omega), z2] at h
    exact h
  · rw [if_neg (c := bm_d v w 0 ≠ 0) (by omega), if_neg (c := bm_d v w 1 ≠ 0) (by omega)] at h
    exact h
  · rw [if_neg (c := bm_d v w 0 ≠ 0) (by omega), if_pos (c := bm_d v w 1 ≠ 0) z1] at h
    exact h
  · rw [if_pos (c := bm_d v w 0 ≠ 0) z0] at h
    exact h
theorem by_same {post : Int32 → Prop} {s k : Nat} {v w : bm_V} (hs : s < 2) (hk : k < 16) (hv : bm_b3 v) (hw : bm_b3 w) (hm : bm_H ym v) (hh : bm_YH yq yw (16 * s + k) w) (h1 : v = w → post 1) (h0 : v ≠ w → post 0) : wpY_isSame post (yr, yc, yp, ys, yn, yq, yw, ym, yg) (nI s) (nI k) := by
  have step : ∀ (q i : Nat), i < 3 → (bm_at v i = bm_at w i → wY_isSame_2 post (nI s) (nI k) yr yc yp ys yn yq yw ym yg q (nI (i + 1))) → wY_isSame_2 post (nI s) (nI k) yr yc yp ys yn yq yw ym yg (q + 1) (nI i) := by
    intro q i hi hn
    have a := bm_at_b hv i
    have b := bm_at_b hw i
    refine br_f (nI_ge (b := 3) hi (by decide)) ⟨vp_in_nI hi (by decide), pk_in (3 * (16 * s + k) + i) 96 (by omega) (by_48 s k i), ?_⟩
    rw [by_48, nI_clamp (by omega), nI_clamp (by omega), hh.1 i hi, bm_H_at hm hi, bm_eq (by omega) (by omega) (by omega) (by omega)]
    refine br_c (fun z => ?_) (fun z => h0 (fun e => z (by rw [e])))
    intro k ek
    rw [nI_1] at ek
    subst ek
    exact hn z
  exact ⟨4, step 3 0 (by omega) (fun z0 => step 2 1 (by omega) (fun z1 => step 1 2 (by omega) (fun z2 => br_t (by decide) (h1 (bm_at_ext z0 z1 z2)))))⟩
theorem by_136 {post : SY → Prop} {s k c : Nat} {v : bm_V} (hs : s < 2) (hk : k < 16) (hm : bm_H ym v) (hc : yn s = nI c)
    (h : ∀ yq' yw', bm_YH yq' yw' (16 * s + k) v → (∀ n, n ≠ 16 * s + k → bm_ye yq yw n yq' yw' n) → post (yr, yc, yp, ys, upd yn s (nI (c + 1)), yq', yw', ym, yg)) : ∃ q, wY_keep_136 post (nI s) (nI k) yr yc q 0 yp ys yn yq yw ym yg := by
  have step : ∀ (q i : Nat) (e : Nat → Int32), i < 3 → (∀ j, j < i → e (3 * (16 * s + k) + j) = bm_i (bm_at v j)) → (∀ j, (∀ l, l < i → j ≠ 3 * (16 * s + k) + l) → e j = yq j) → (∀ e', (∀ j, j < i + 1 → e' (3 * (16 * s + k) + j) = bm_i (bm_at v j)) → (∀ j, (∀ l, l < i + 1 → j ≠ 3 * (16 * s + k) + l) → e' j = yq j) → wY_keep_136 post (nI s) (nI k) yr yc q (nI (i + 1)) yp ys yn e' yw ym yg) → wY_keep_136 post (nI s) (nI k) yr yc (q + 1) (nI i) yp ys yn e yw ym yg := by
    intro q i e hi h1 h2 hk'
    refine br_f (nI_ge (b := 3) hi (by decide)) ⟨vp_in_nI hi (by decide), pk_in (3 * (16 * s + k) + i) 96 (by omega) (by_48 s k i), ?_⟩
    intro y ey l el
    rw [by_48, nI_clamp (by omega), nI_clamp (by omega), bm_H_at hm hi] at ey
    rw [nI_1] at el
    subst ey el
    refine hk' _ (fun j hj => ?_) (fun j hj => ?_)
    · by_cases z : j = i
      · subst z
        exact pk_us
      · rw [pk_un (by omega)]
        exact h1 j (by omega)
    · rw [pk_un (hj i (by omega))]
      exact h2 j (fun k hk => hj k (by omega))
  refine ⟨4, step 3 0 _ (by omega) (fun j hj => absurd hj (by omega)) (fun j _ => rfl) (fun e1 a1 b1 => step 2 1 _ (by omega) a1 b1 (fun e2 a2 b2 => step 1 2 _ (by omega) a2 b2 (fun e3 a3 b3 => br_t (by decide) ?_)))⟩
  refine ⟨pk_in (16 * s + k) 32 (by omega) (by_16 s k), ?_⟩
  intro w ew
  refine ⟨vp_in_nI hs (by decide), vp_in_nI hs (by decide), ?_⟩
  intro cc ec
  rw [by_16, nI_clamp (by omega), hm.1, hm.2.1, hm.2.2, bm_add, bm_add] at ew
  rw [nI_clamp (by omega), hc, nI_1] at ec
  subst ew ec
  exact h _ _ ⟨fun i hi => a3 i hi, pk_us⟩ (fun n hn => ⟨fun i hi => b3 _ (fun k' hk' => by omega), pk_un hn⟩)
theorem by_82 {post : SY → Prop} {J : Int32 → (Nat → Int32) → (Nat → Int32) → (Nat → Int32) → (Nat → Int32) → (Nat → Int32) → (Nat → Int32) → (Nat → Int32) → Prop} {x2 : Int32} {s k : Nat} (hs : s < 2) (hk : k < 15)
    (h : ∀ yq', (∀ i, i < 3 → yq' (3 * (16 * s + (k + 1)) + i) = yq (3 * (16 * s + k) + i)) → (∀ j, (∀ l, l < 3 → j ≠ 3 * (16 * s + (k + 1)) + l) → yq' j = yq j) → J (nI k) yp ys yn yq' yw ym yg) : ∃ q, wY_keep_82 post J (nI s) x2 (nI (k + 1)) yr yc q 0 yp ys yn yq yw ym yg := by
  have ei : ∀ i, 48 * nI s + 3 * nI (k + 1) - 3 + nI i = nI (3 * (16 * s + k) + i) := by
    intro i
    have e1 : 48 * nI s + 3 * nI (k + 1) = nI (3 * (16 * s + k) + 3) := by
      have := by_48 s (k + 1) 0
      rw [nI_0, Int32.add_zero] at this
      rw [this]
      congr 1
    rw [e1, show nI (3 * (16 * s + k) + 3) - 3 = nI (3 * (16 * s + k)) from pk_sub (a := 3 * (16 * s + k) + 3) (b := 3) (by omega), nI_add]
  have step : ∀ (q i : Nat) (e : Nat → Int32), i < 3 → (∀ j, j < i → e (3 * (16 * s + (k + 1)) + j) = yq (3 * (16 * s + k) + j)) → (∀ j, (∀ l, l < i → j ≠ 3 * (16 * s + (k + 1)) + l) → e j = yq j) → (∀ e', (∀ j, j < i + 1 → e' (3 * (16 * s + (k + 1)) + j) = yq (3 * (16 * s + k) + j)) → (∀ j, (∀ l, l < i + 1 → j ≠ 3 * (16 * s + (k + 1)) + l) → e' j = yq j) → wY_keep_82 post J (nI s) x2 (nI (k + 1)) yr yc q (nI (i + 1)) yp ys yn e' yw ym yg) → wY_keep_82 post J (nI s) x2 (nI (k + 1)) yr yc (q + 1) (nI i) yp ys yn e yw ym yg := by
    intro q i e hi h1 h2 hk'
    refine br_f (nI_ge (b := 3) hi (by decide)) ⟨pk_in (3 * (16 * s + k) + i) 96 (by omega) (ei i), pk_in (3 * (16 * s + (k + 1)) + i) 96 (by omega) (by_48 s (k + 1) i), ?_⟩
    intro y ey l el
    rw [ei, by_48, nI_clamp (by omega), nI_clamp (by omega)] at ey
    rw [nI_1] at el
    subst ey el
    refine hk' _ (fun j hj => ?_) (fun j hj => ?_)
    · by_cases z : j = i
      · subst z
        rw [pk_us]
        exact h2 _ (fun l hl => by omega)
      · rw [pk_un (by omega)]
        exact h1 j (by omega)
    · rw [pk_un (hj i (by omega))]
      exact h2 j (fun k hk => hj k (by omega))
  refine ⟨4, step 3 0 _ (by omega) (fun j hj => absurd hj (by omega)) (fun j _ => rfl) (fun e1 a1 b1 => step 2 1 _ (by omega) a1 b1 (fun e2 a2 b2 => step 1 2 _ (by omega) a2 b2 (fun e3 a3 b3 => br_t (by decide) ?_)))⟩
  intro y ey
  rw [pk_m1] at ey
  subst ey
  exact h _ a3 b3
theorem by_50 {post : SY → Prop} {s p : Nat} {L : List bm_V} {v : bm_V} (hs : s < 2) (hb : L.length < 15) (hp : p ≤ L.length) (hm : bm_H ym v) (hc : yn s = nI L.length) (hL : bm_YL (16 * s) yq yw L)
    (h : ∀ yq' yw', bm_YL (16 * s) yq' yw' (bm_ins L p v) → (∀ n, n < 16 * s ∨ 16 * s + L.length < n → bm_ye yq yw n yq' yw' n) → post (yr, yc, yp, ys, upd yn s (nI (L.length + 1)), yq', yw', ym, yg)) :
    ∀ (k q : Nat) (yq1 yw1 : Nat → Int32), p ≤ k → k ≤ L.length → k - p < q → (∀ n, n ≤ 16 * s + k ∨ 16 * s + L.length < n → bm_ye yq yw n yq1 yw1 n) → (∀ j, k ≤ j → j < L.length → bm_ye yq yw (16 * s + j) yq1 yw1 (16 * s + j + 1)) → wY_keep_50 post (nI s) (nI p) yr yc q (nI k) yp ys yn yq1 yw1 ym yg := by
  intro k
  induction k with
  | zero =>
    intro q yq1 yw1 hpk hkl hq h1 h2
    obtain ⟨q, rfl⟩ : ∃ q', q = q' + 1 := ⟨q - 1, by omega⟩
    refine br_t (nI_le (by omega) (by omega)) ?_
    have p0 : p = 0 := by omega
    subst p0
    refine by_136 hs (by omega) hm hc (fun yq' yw' hH hse => h _ _ ?_ ?_)
    · intro j w hj
      rcases j with _ | j
      · rw [bm_ins_eq hp] at hj
        cases hj
        exact hH
      · rw [bm_ins_gt hp (by omega)] at hj
        have hjl : j < L.length := (List.getElem?_eq_some_iff.mp hj).1
        exact bm_ye_H (bm_ye_t (h2 j (by omega) hjl) (hse _ (by omega))) (hL j w hj)
    · intro n hn
      exact bm_ye_t (h1 n (by omega)) (hse n (by omega))
  | succ k ih =>
    intro q yq1 yw1 hpk hkl hq h1 h2
    obtain ⟨q, rfl⟩ : ∃ q', q = q' + 1 := ⟨q - 1, by omega⟩
    by_cases z : p = k + 1
    · subst z
      refine br_t (nI_le (by omega) (by omega)) ?_
      refine by_136 hs (by omega) hm hc (fun yq' yw' hH hse => h _ _ ?_ ?_)
      · intro j w hj
        rcases Nat.lt_trichotomy j (k + 1) with y | y | y
        · rw [bm_ins_lt hp y] at hj
          exact bm_ye_H (bm_ye_t (h1 _ (by omega)) (hse _ (by omega))) (hL j w hj)
        · subst y
          rw [bm_ins_eq hp] at hj
          cases hj
          exact hH
        · obtain ⟨j, rfl⟩ : ∃ j', j = j' + 1 := ⟨j - 1, by omega⟩
          rw [bm_ins_gt hp (by omega)] at hj
          have hjl : j < L.length := (List.getElem?_eq_some_iff.mp hj).1
          exact bm_ye_H (bm_ye_t (h2 j (by omega) hjl) (hse _ (by omega))) (hL j w hj)
      · intro n hn
        exact bm_ye_t (h1 n (by omega)) (hse n (by omega))
    · refine br_f (nI_ge (by omega) (by omega)) ?_
      have e1 : 16 * nI s + nI (k + 1) - 1 = nI (16 * s + k) := by
        rw [by_16]
        exact nI_pred (16 * s + k)
      refine ⟨pk_in (16 * s + k) 32 (by omega) e1, pk_in (16 * s + (k + 1)) 32 (by omega) (by_16 s (k + 1)), ?_⟩
      intro w ew
      rw [e1, by_16, nI_clamp (by omega), nI_clamp (by omega)] at ew
      subst ew
      refine by_82 hs (by omega) (fun yq' a1 b1 => ih q yq' _ (by omega) (by omega) (by omega) (fun n hn => ?_) (fun j hj hjl => ?_))
      · refine bm_ye_t (h1 n (by omega)) ⟨fun i hi => b1 _ (fun l hl => by omega), pk_un (by omega)⟩
      · by_cases y : j = k
        · subst y
          exact bm_ye_t (h1 _ (by omega)) ⟨fun i hi => a1 i hi, pk_us⟩
        · exact bm_ye_t (h2 j (by omega) hjl) ⟨fun i hi => b1 _ (fun l hl => by omega), pk_un (by omega)⟩
theorem by_keep {post : SY → Prop} {s : Nat} {L : List bm_V} {v : bm_V} (hs : s < 2) (hl : L.length < 15) (hS : bm_S L) (hb : ∀ w, w ∈ L → bm_b3 w) (hv : bm_P v) (hvb : bm_b3 v) (hm : bm_H ym v) (hc : yn s = nI L.length) (hL : bm_YL (16 * s) yq yw L)
    (h : ∀ yn' yq' yw' L', bm_S L' → (∀ x, x ∈ L' ↔ x = v ∨ x ∈ L) → bm_YL (16 * s) yq' yw' L' → yn' s = nI L'.length → (∀ j, j ≠ s → yn' j = yn j) → (∀ n, n < 16 * s ∨ 16 * s + 16 ≤ n → bm_ye yq yw n yq' yw' n) → post (yr, yc, yp, ys, yn', yq', yw', ym, yg)) : wpY_keep post (yr, yc, yp, ys, yn, yq, yw, ym, yg) (nI s) := by
  have loop : ∀ (m k p q : Nat), k + m = L.length → m < q → p ≤ k → (∀ j w, j < p → L[j]? = some w → bm_cm w v < 0) → (∀ j w, p ≤ j → j < k → L[j]? = some w → bm_cm v w < 0) → wY_keep_4 post (nI s) yr yc yp ys yn yq yw ym yg q (nI p) (nI k) := by
    intro m
    induction m with
    | zero =>
      intro k p q hk hq hpk lo hi
      obtain ⟨q, rfl⟩ : ∃ q', q = q' + 1 := ⟨q - 1, by omega⟩
      have : k = L.length := by omega
      subst this
      refine ⟨vp_in_nI hs (by decide), ?_⟩
      rw [nI_clamp (by omega), hc]
      refine br_t (nI_le (by omega) (by omega)) ⟨vp_in_nI hs (by decide), ?_⟩
      intro x ex
      subst ex
      refine ⟨L.length + 1, by_50 hs hl hpk hm hc hL ?_ L.length (L.length + 1) _ _ hpk (Nat.le_refl _) (by omega) (fun n _ => bm_ye_r _ _ _) (fun j hj hjl => absurd hjl (by omega))⟩
      intro yq' yw' hL' hse
      refine h _ _ _ (bm_ins L p v) (bm_S_ins hS hv lo (fun j w hj hw => hi j w hj (List.getElem?_eq_some_iff.mp hw).1 hw)) (fun x => bm_ins_mem) hL' ?_ (fun j hj => pk_un hj) (fun n hn => hse n (by omega))
      rw [pk_us, bm_ins_len hpk]
    | succ m ih =>
      intro k p q hk hq hpk lo hi
      obtain ⟨q, rfl⟩ : ∃ q', q = q' + 1 := ⟨q - 1, by omega⟩
      refine ⟨vp_in_nI hs (by decide), ?_⟩
      rw [nI_clamp (by omega), hc]
      refine br_f (nI_ge (by omega) (by omega)) ?_
      obtain ⟨w, hw⟩ : ∃ w, L[k]? = some w := ⟨_, List.getElem?_eq_getElem (by omega)⟩
      have hwm : w ∈ L := List.mem_of_getElem? hw
      have hwb := hb w hwm
      refine by_same hs (by omega) hvb hwb hm (hL k w hw) (fun e => br_f (by decide) ?_) (fun ne => br_t rfl ?_)
      · refine h yn yq yw L hS (fun x => ⟨fun hx => Or.inr hx, fun hx => ?_⟩) hL hc (fun _ _ => rfl) (fun n _ => bm_ye_r _ _ _)
        rcases hx with rfl | hx
        · rw [e]
          exact hwm
        · exact hx
      · refine by_before hs (by omega) hvb hwb hm (hL k w hw) ?_
        by_cases z : bm_cm v w < 0
        · rw [if_pos z]
          refine br_f (by decide) ?_
          intro y ey
          rw [nI_1] at ey
          subst ey
          refine ih (k + 1) p q (by omega) (by omega) (by omega) lo (fun j w' hj hjk hw' => ?_)
          by_cases y : j = k
          · subst y
            rw [hw] at hw'
            cases hw'
            exact z
          · exact hi j w' hj (by omega) hw'
        · rw [if_neg z]
          refine br_t rfl ?_
          intro y1 e1 y2 e2
          rw [nI_1] at e1 e2
          subst e1 e2
          have hwv : bm_cm w v < 0 := by
            have := bm_cm_anti v w
            have : bm_cm v w ≠ 0 := fun q => ne (bm_cm_eq hv (hS.2 w hwm) q)
            omega
          refine ih (k + 1) (k + 1) q (by omega) (by omega) (by omega) (fun j w' hj hw' => ?_) (fun j w' hj hjk => absurd hjk (by omega))
          by_cases y : j = k
          · subst y
            rw [hw] at hw'
            cases hw'
            exact hwv
          · exact bm_cm_tr (hS.2 w' (List.mem_of_getElem? hw')) (hS.2 w hwm) hv (bm_S_rel hS hw' hw (by omega)) hwv
  exact ⟨L.length + 1, loop L.length 0 0 (L.length + 1) (by omega) (by omega) (by omega) (fun j w hj _ => absurd hj (by omega)) (fun j w _ hj => absurd hj (by omega))⟩
end
