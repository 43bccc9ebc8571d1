def bm_IsL (A : Nat → Nat → Int) (M O : Nat) (L : List bm_V) : Prop := bm_S L ∧ ∀ x, x ∈ L ↔ ∃ S T, S < 8 ∧ T < 8 ∧ bm_K A M O S T ∧ x = bm_nv (bm_raw A S T)
theorem bm_IsL_u {A : Nat → Nat → Int} {M O : Nat} {L L' : List bm_V} (h : bm_IsL A M O L) (h' : bm_IsL A M O L') : L = L' := bm_S_uniq h.1 h'.1 (fun x => by rw [h.2, h'.2])
theorem bm_IsL_b {A : Nat → Nat → Int} {M O : Nat} {L : List bm_V} (hA : bm_A9 A) (h : bm_IsL A M O L) : L.length ≤ 13 ∧ (∀ w, w ∈ L → bm_b3 w) ∧ ∀ w, w ∈ L → bm_P w := by
  refine ⟨bm_len13 (A := A) h.1 (fun x hx => ?_), fun w hw => ?_, h.1.2⟩
  · obtain ⟨S, T, hS, hT, hK, rfl⟩ := (h.2 x).mp hx
    exact bm_fit_C hS hT hK.1
  · obtain ⟨S, T, hS, hT, hK, rfl⟩ := (h.2 w).mp hw
    exact bm_nv_b (bm_raw_b hA _ _) hK.2.1
theorem bx_all : ∀ R : Fin 4, ((1 : Int32) <<< (nI R.val &&& 31)) - 1 = nI (2 ^ R.val - 1) := by decide +kernel
def bm_n (R C s : Nat) : Nat := if s = 0 then R else C
def bm_RC (R C : Nat) : Prop := 1 ≤ R ∧ R ≤ 3 ∧ 1 ≤ C ∧ C ≤ 3
theorem bm_n13 {R C s : Nat} (h : bm_RC R C) : 1 ≤ bm_n R C s ∧ bm_n R C s ≤ 3 := by
  unfold bm_RC at h
  unfold bm_n
  split <;> omega
theorem bm_all8 {n : Nat} (h : n ≤ 3) : 2 ^ n - 1 < 8 := by
  have : n = 0 ∨ n = 1 ∨ n = 2 ∨ n = 3 := by omega
  rcases this with rfl | rfl | rfl | rfl <;> decide
theorem bm_allT : ∀ (n : Fin 4) (j : Fin 3), ((2 ^ n.val - 1).testBit j.val = true ↔ j.val < n.val) := by decide +kernel
theorem bx_t8 : ∀ (d : Fin 64) (f : Fin 8), ((nI d.val &&& 7) &&& (nI f.val ^^^ (-1)) = 0 ↔ (d.val % 8) &&& f.val = d.val % 8) := by decide +kernel
section
variable {fr fc fm ft fb : Int32} {ap ae am ac aq aw ar ah : Nat → Int32}
theorem bx_every {post : Int32 → Prop} {R C s : Nat} (h : bm_RC R C) (hs : s < 2) (hp : post (nI (2 ^ bm_n R C s - 1))) : wpX_everyChoice post (nI R, nI C, fm, ft, fb, ap, ae, am, ac, aq, aw, ar, ah) (nI s) := by
  have h2 : s = 0 ∨ s = 1 := by omega
  unfold bm_RC at h
  rcases h2 with rfl | rfl
  · refine br_t rfl ?_
    rw [bx_all ⟨R, by omega⟩]
    exact hp
  · refine br_f (by decide) ?_
    rw [bx_all ⟨C, by omega⟩]
    exact hp
/-- the corners met by the demands below d -/
def bm_lst (A : Nat → Nat → Int) (M O d : Nat) (L : List bm_V) : Prop := bm_S L ∧ ∀ x, x ∈ L ↔ ∃ e, e < d ∧ bm_K A M O (7 - e / 8) (e % 8) ∧ x = bm_nv (bm_raw A (7 - e / 8) (e % 8))
theorem bx_fc24 {post : SX → Prop} {R C s M O : Nat} (hM : M < 8) (hO : O < 8) (hs : s < 2) (hp : bm_p9 ap)
    (h : ∀ fm' ae' am' ac' aq' aw' ar' L, bm_IsL (bm_A ap (1 - s) s) M O L → bm_XL (bm_A ap (1 - s) s) O (64 * s) aq' aw' ar' L → ac' s = nI L.length → (∀ j, j ≠ s → ac' j = ac j) → (∀ n, n < 64 * s ∨ 64 * s + 64 ≤ n → bm_se aq aw ar n aq' aw' ar' n) → post (fr, fc, fm', ft, fb, ap, ae', am', ac', aq', aw', ar', ah)) :
    ∀ (m d q : Nat) (fm' : Int32) (ae' am' ac' aq' aw' ar' : Nat → Int32) (L : List bm_V), d + m = 64 → m < q → bm_lst (bm_A ap (1 - s) s) M O d L → bm_XL (bm_A ap (1 - s) s) O (64 * s) aq' aw' ar' L → ac' s = nI L.length → (∀ j, j ≠ s → ac' j = ac j) → (∀ n, n < 64 * s ∨ 64 * s + 64 ≤ n → bm_se aq aw ar n aq' aw' ar' n) → wX_findCorners_24 post (nI s) (nI M) (nI O) q (nI d) fr fc fm' ft fb ap ae' am' ac' aq' aw' ar' ah := by
  intro m
  induction m with
  | zero =>
    intro d q fm' ae' am' ac' aq' aw' ar' L hd hq hL hX hc hcj hfr
    obtain ⟨q, rfl⟩ : ∃ q', q = q' + 1 := ⟨q - 1, by omega⟩
    have : d = 64 := by omega
    subst this
    refine br_t (by decide) (h _ _ _ _ _ _ _ L ⟨hL.1, fun x => ?_⟩ hX hc hcj hfr)
    rw [hL.2]
    constructor
    · rintro ⟨e, he, hK, hx⟩
      exact ⟨_, _, by omega, by omega, hK, hx⟩
    · rintro ⟨S, T, hS, hT, hK, hx⟩
      refine ⟨8 * (7 - S) + T, by omega, ?_⟩
      rw [show 7 - (8 * (7 - S) + T) / 8 = S by omega, show (8 * (7 - S) + T) % 8 = T by omega]
      exact ⟨hK, hx⟩
  | succ m ih =>
    intro d q fm' ae' am' ac' aq' aw' ar' L hd hq hL hX hc hcj hfr
    obtain ⟨q, rfl⟩ : ∃ q', q = q' + 1 := ⟨q - 1, by omega⟩
    have hA := bm_A9p hp (1 - s) s
    have skip : ¬ bm_K (bm_A ap (1 - s) s) M O (7 - d / 8) (d % 8) → bm_lst (bm_A ap (1 - s) s) M O (d + 1) L := by
      intro hn
      refine ⟨hL.1, fun x => ?_⟩
      rw [hL.2]
      constructor
      · rintro ⟨e, he, hK, hx⟩
        exact ⟨e, by omega, hK, hx⟩
      · rintro ⟨e, he, hK, hx⟩
        refine ⟨e, ?_, hK, hx⟩
        rcases Nat.lt_or_ge e d with z | z
        · exact z
        · have : e = d := by omega
          subst this
          exact absurd hK hn
    refine br_f (nI_ge (b := 64) (by omega) (by decide)) ?_
    rw [bx_1s hs]
    refine bx_solve hs (by omega) hM hO (by omega) hp (fun hfit hok ae2 am2 hm2 => ?_) (fun hno fm2 ae2 am2 => ?_)
    · refine br_f (by decide) ?_
      have hb := bm_nv_b (bm_raw_b hA _ _) hok
      refine bx_rtm hs hO hp hb hm2 ?_
      rw [bx_t8 ⟨d, by omega⟩ ⟨_, bm_rp8 _ _ _⟩]
      refine br_c (fun z => ?_) (fun z => ?_)
      · have hlen : L.length ≤ 13 := bm_len13 (A := bm_A ap (1 - s) s) hL.1 (fun x hx => by
          obtain ⟨e, he, hK, rfl⟩ := (hL.2 x).mp hx
          exact bm_fit_C (by omega) (by omega) hK.1)
        refine bx_ins (A := bm_A ap (1 - s) s) (O := O) (L := L) hs (by omega) hL.1 (fun w hw => ?_) (bm_nv_P hok) hb hm2 rfl hc hX ?_
        · obtain ⟨e, he, hK, rfl⟩ := (hL.2 w).mp hw
          exact bm_nv_b (bm_raw_b hA _ _) hK.2.1
        · intro ac3 aq3 aw3 ar3 L' hS' hmem hX' hc' hcj' hfr'
          intro y ey
          rw [nI_1] at ey
          subst ey
          refine ih (d + 1) q _ _ _ _ _ _ _ L' (by omega) (by omega) ⟨hS', fun x => ?_⟩ hX' hc' (fun j hj => (hcj' j hj).trans (hcj j hj)) (fun n hn => bm_se_t (hfr n hn) (hfr' n hn))
          rw [hmem, hL.2]
          constructor
          · rintro (hx | ⟨e, he, hK, hx⟩)
            · exact ⟨d, by omega, ⟨hfit, hok, z⟩, hx⟩
            · exact ⟨e, by omega, hK, hx⟩
          · rintro ⟨e, he, hK, hx⟩
            rcases Nat.lt_or_ge e d with y | y
            · exact Or.inr ⟨e, y, hK, hx⟩
            · have : e = d := by omega
              subst this
              exact Or.inl hx
      · intro y ey
        rw [nI_1] at ey
        subst ey
        exact ih (d + 1) q _ _ _ _ _ _ _ L (by omega) (by omega) (skip (fun hK => z hK.2.2)) hX hc hcj hfr
    · refine br_t rfl ?_
      intro y ey
      rw [nI_1] at ey
      subst ey
      exact ih (d + 1) q _ _ _ _ _ _ _ L (by omega) (by omega) (skip (fun hK => hno ⟨hK.1, hK.2.1⟩)) hX hc hcj hfr
theorem bx_fc {post : SX → Prop} {R C s : Nat} (hRC : bm_RC R C) (hs : s < 2) (hp : bm_p9 ap)
    (h : ∀ fm' ae' am' ac' aq' aw' ar' L, bm_IsL (bm_A ap (1 - s) s) (2 ^ bm_n R C s - 1) (2 ^ bm_n R C (1 - s) - 1) L → bm_XL (bm_A ap (1 - s) s) (2 ^ bm_n R C (1 - s) - 1) (64 * s) aq' aw' ar' L → ac' s = nI L.length → (∀ j, j ≠ s → ac' j = ac j) → (∀ n, n < 64 * s ∨ 64 * s + 64 ≤ n → bm_se aq aw ar n aq' aw' ar' n) → post (nI R, nI C, fm', ft, fb, ap, ae', am', ac', aq', aw', ar', ah)) : wpX_findCorners post (nI R, nI C, fm, ft, fb, ap, ae, am, ac, aq, aw, ar, ah) (nI s) := by
  unfold wpX_findCorners
  dsimp only
  refine bx_every hRC hs ?_
  rw [bx_1s hs]
  refine bx_every hRC (by omega) ?_
  refine ⟨vp_in_nI hs (by decide), ?_⟩
  intro c ec
  rw [nI_clamp (by omega)] at ec
  subst ec
  have M8 := bm_all8 (bm_n13 (s := s) hRC).2
  have O8 := bm_all8 (bm_n13 (s := 1 - s) hRC).2
  refine ⟨65, bx_fc24 (fr := nI R) (fc := nI C) (R := R) (C := C) M8 O8 hs hp ?_ 64 0 65 _ _ _ _ _ _ _ [] (by omega) (by omega) ⟨bm_S_nil, fun x => ⟨fun hx => (by cases hx), fun ⟨e, he, _⟩ => absurd he (by omega)⟩⟩ (fun k v hv => by simp at hv) (pk_us.trans rfl) (fun j hj => rfl) (fun n _ => bm_se_r _ _ _ _)⟩
  intro fm' ae' am' ac' aq' aw' ar' L h1 h2 h3 h4 h5
  exact h fm' ae' am' ac' aq' aw' ar' L h1 h2 h3 (fun j hj => (h4 j hj).trans (pk_un hj)) h5
/-- the corner v uses only what f holds -/
def bm_uo (v : bm_V) (f : Nat) : Bool := (decide (bm_at v 0 ≤ 0) || f.testBit 0) && (decide (bm_at v 1 ≤ 0) || f.testBit 1) && (decide (bm_at v 2 ≤ 0) || f.testBit 2)
theorem bx_uor {post : Int32 → Prop} {n n' f : Nat} {v : bm_V} (hn : n < 128) (hn' : n' < 128) (hf : f < 8) (hb : bm_b3 v) (h1 : ∀ i, i < 3 → aq (3 * n + i) = bm_i (bm_at v i)) (h2 : ar n' = nI f) (h : post (if bm_uo v f = true then 1 else 0)) : wpX_usesOnlyReplies post (fr, fc, fm, ft, fb, ap, ae, am, ac, aq, aw, ar, ah) (nI n) (nI n') := by
  have step : ∀ (q i : Nat), i < 3 → ((decide (bm_at v i ≤ 0) || f.testBit i) = true → wX_usesOnlyReplies_2 post (nI n) (nI n') fr fc fm ft fb ap ae am ac aq aw ar ah q (nI (i + 1))) → ((decide (bm_at v i ≤ 0) || f.testBit i) = false → post 0) → wX_usesOnlyReplies_2 post (nI n) (nI n') fr fc fm ft fb ap ae am ac aq aw ar ah (q + 1) (nI i) := by
    intro q i hi ht hf0
    refine br_f (nI_ge (b := 3) hi (by decide)) ⟨pk_in (3 * n + i) 384 (by omega) (bx_3 n i), ?_⟩
    have ab := bm_at_b hb i
    rw [bx_3, nI_clamp (by omega), h1 i hi, ← bm_0, bm_le (by omega) (by omega) (by omega) (by omega)]
    refine br_c (fun z => ?_) (fun z => ⟨vp_in_nI hn' (by decide), ?_⟩)
    · intro y ey
      rw [nI_1] at ey
      subst ey
      exact ht (by simp [z])
    · rw [nI_clamp (by omega), h2]
      refine bx_bit0 hf hi (fun y => ?_) (fun y => ?_)
      · exact hf0 (by simp [y]; omega)
      · intro k ek
        rw [nI_1] at ek
        subst ek
        exact ht (by simp [y])
  unfold bm_uo at h
  refine ⟨4, step 3 0 (by omega) (fun z0 => step 2 1 (by omega) (fun z1 => step 1 2 (by omega) (fun z2 => br_t (by decide) ?_) (fun z2 => ?_)) (fun z1 => ?_)) (fun z0 => ?_)⟩
  · rw [z0, z1, z2] at h
    exact h
  · rw [z2, Bool.and_false] at h
    exact h
  · rw [z1, Bool.and_false, Bool.false_and] at h
    exact h
  · rw [z0, Bool.false_and, Bool.false_and] at h
    exact h
end
/-! the pairs that are equilibria, in their order -/
def bm_eI (E : Nat → Nat → Bool) (i : Nat) (acc : List (Nat × Nat)) : Nat → List (Nat × Nat)
  | 0 => acc
  | j + 1 => if E i j = true then bm_eI E i acc j ++ [(i, j)] else bm_eI E i acc j
def bm_eO (E : Nat → Nat → Bool) (n1 : Nat) : Nat → List (Nat × Nat)
  | 0 => []
  | i + 1 => bm_eI E i (bm_eO E n1 i) n1
theorem bm_eI_len (E : Nat → Nat → Bool) (i : Nat) (acc : List (Nat × Nat)) : ∀ j, (bm_eI E i acc j).length ≤ acc.length + j
  | 0 => Nat.le_refl _
  | j + 1 => by
    have := bm_eI_len E i acc j
    unfold bm_eI
    split
    · rw [List.length_append]
      show _ + 1 ≤ _
      omega
    · omega
theorem bm_eO_len (E : Nat → Nat → Bool) (n1 : Nat) : ∀ i, (bm_eO E n1 i).length ≤ i * n1
  | 0 => by simp [bm_eO]
  | i + 1 => by
    have := bm_eO_len E n1 i
    have h2 := bm_eI_len E i (bm_eO E n1 i) n1
    rw [Nat.succ_mul]
    show (bm_eI E i (bm_eO E n1 i) n1).length ≤ _
    omega
theorem bm_eI_pre (E : Nat → Nat → Bool) (i : Nat) (acc : List (Nat × Nat)) {n : Nat} {q : Nat × Nat} (h : acc[n]? = some q) : ∀ j, (bm_eI E i acc j)[n]? = some q
  | 0 => h
  | j + 1 => by
    have := bm_eI_pre E i acc h j
    unfold bm_eI
    split
    · rw [List.getElem?_append_left (List.getElem?_eq_some_iff.mp this).1]
      exact this
    · exact this
theorem bm_eI_pre2 (E : Nat → Nat → Bool) (i : Nat) (acc : List (Nat × Nat)) {n j : Nat} {q : Nat × Nat} (h : (bm_eI E i acc j)[n]? = some q) : ∀ m, (bm_eI E i acc (j + m))[n]? = some q
  | 0 => h
  | m + 1 => by
    have := bm_eI_pre2 E i acc h m
    show (if E i (j + m) = true then bm_eI E i acc (j + m) ++ [(i, j + m)] else bm_eI E i acc (j + m))[n]? = some q
    split
    · rw [List.getElem?_append_left (List.getElem?_eq_some_iff.mp this).1]
      exact this
    · exact this
theorem bm_eO_pre (E : Nat → Nat → Bool) (n1 : Nat) {n i : Nat} {q : Nat × Nat} (h : (bm_eO E n1 i)[n]? = some q) : ∀ m, (bm_eO E n1 (i + m))[n]? = some q
  | 0 => h
  | m + 1 => bm_eI_pre E (i + m) _ (bm_eO_pre E n1 h m) n1
theorem bm_eI_mem (E : Nat → Nat → Bool) (i : Nat) (acc : List (Nat × Nat)) : ∀ j q, q ∈ bm_eI E i acc j → q ∈ acc ∨ (q.1 = i ∧ q.2 < j ∧ E q.1 q.2 = true)
  | 0, q, h => Or.inl h
  | j + 1, q, h => by
    unfold bm_eI at h
    split at h
    · rename_i hE
      rcases List.mem_append.mp h with h | h
      · rcases bm_eI_mem E i acc j q h with h | ⟨a, b, c⟩
        · exact Or.inl h
        · exact Or.inr ⟨a, by omega, c⟩
      · rw [List.mem_singleton] at h
        subst h
        exact Or.inr ⟨rfl, by dsimp only; omega, hE⟩
    · rcases bm_eI_mem E i acc j q h with h | ⟨a, b, c⟩
      · exact Or.inl h
      · exact Or.inr ⟨a, by omega, c⟩
theorem bm_eO_mem (E : Nat → Nat → Bool) (n1 : Nat) : ∀ i q, q ∈ bm_eO E n1 i → q.1 < i ∧ q.2 < n1 ∧ E q.1 q.2 = true
  | 0, q, h => by cases h
  | i + 1, q, h => by
    rcases bm_eI_mem E i _ n1 q h with h | ⟨a, b, c⟩
    · have := bm_eO_mem E n1 i q h
      exact ⟨by omega, this.2⟩
    · exact ⟨by omega, b, c⟩
