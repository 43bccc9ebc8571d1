/-! before the owed statements -/
theorem bx_side {post : Int32 → Prop} {x : Int32} (h1 : (x = 0 ∨ x = 1) → post 1) (h0 : ¬ (x = 0 ∨ x = 1) → post 0) : wpX_isSide post x := br_c (fun z => h1 (Or.inl z)) (fun z => br_c (fun y => h1 (Or.inr y)) (fun y => h0 (fun q => q.elim z y)))
theorem bm_sd {x : Int32} (h : x = 0 ∨ x = 1) : ∃ s, s < 2 ∧ x = nI s := by
  rcases h with rfl | rfl
  · exact ⟨0, by omega, rfl⟩
  · exact ⟨1, by omega, rfl⟩
theorem bm_sd' {s : Nat} (hs : s < 2) : nI s = 0 ∨ nI s = 1 := by
  have h2 : s = 0 ∨ s = 1 := by omega
  rcases h2 with rfl | rfl
  · exact Or.inl rfl
  · exact Or.inr rfl
def bm_nn (p : Nat → Int32) (R C : Nat) (kk : Int32) : Prop := kk < 0 ∨ ∃ n, n < 2 ^ 31 ∧ kk = nI n ∧ ∃ L0 L1, bm_IsL (bm_A p 1 0) (2 ^ R - 1) (2 ^ C - 1) L0 ∧ bm_IsL (bm_A p 0 1) (2 ^ C - 1) (2 ^ R - 1) L1 ∧ (bm_eO (bm_E p R C L0 L1) L1.length L0.length)[n]? = none
section
variable {yr yc : Int32} {yp ys yn yq yw ym yg : Nat → Int32}
theorem by_none {post : Int32 → SY → Prop} {kk : Int32} {R C : Nat} (hRC : bm_RC R C) (hp : bm_p9 yp) (hn : bm_nn yp R C kk) (h : ∀ yn' yq' yw' ym' yg', post (-1) (nI R, nI C, yp, ys, yn', yq', yw', ym', yg')) : wpY_list post (nI R, nI C, yp, ys, yn, yq, yw, ym, yg) kk 0 := by
  refine by_list (all := false) hRC hp (fun L0 L1 yn' yq' yw' ym' yg' hS => ⟨fun _ n a b hn2 hkn hs => ?_, fun _ _ => h _ _ _ _ _, fun q => by cases q⟩)
  exfalso
  rcases hn with z | ⟨m, hm, hkm, M0, M1, i0, i1, e⟩
  · rw [hkn] at z
    exact nI_pos hn2 z
  · have : n = m := (nI_eq hn2 hm).mp (hkn.symm.trans hkm)
    subst this
    rw [bm_IsL_u hS.1 i0, bm_IsL_u hS.2.1 i1, e] at hs
    cases hs
theorem by_some {post : Int32 → SY → Prop} {kk : Int32} {R C n a b : Nat} {L0 L1 : List bm_V} (hRC : bm_RC R C) (hp : bm_p9 yp) (hn : n < 2 ^ 31) (hk : kk = nI n) (i0 : bm_IsL (bm_A yp 1 0) (2 ^ R - 1) (2 ^ C - 1) L0) (i1 : bm_IsL (bm_A yp 0 1) (2 ^ C - 1) (2 ^ R - 1) L1) (e : (bm_eO (bm_E yp R C L0 L1) L1.length L0.length)[n]? = some (a, b)) (h : ∀ yn' yq' yw' ym' yg', bm_YS yp R C L0 L1 yn' yq' yw' → post (nI (16 * a + b)) (nI R, nI C, yp, ys, yn', yq', yw', ym', yg')) : wpY_list post (nI R, nI C, yp, ys, yn, yq, yw, ym, yg) kk 0 := by
  refine by_list (all := false) hRC hp (fun M0 M1 yn' yq' yw' ym' yg' hS => ⟨fun _ m c d hm hkm hs => ?_, fun _ hno => ?_, fun q => by cases q⟩)
  · have : m = n := (nI_eq hm hn).mp (hkm.symm.trans hk)
    subst this
    have e0 := bm_IsL_u hS.1 i0
    have e1 := bm_IsL_u hS.2.1 i1
    subst e0 e1
    rw [e] at hs
    cases hs
    exact h _ _ _ _ _ hS
  · exfalso
    have := hno n hn hk
    rw [bm_IsL_u hS.1 i0, bm_IsL_u hS.2.1 i1, e] at this
    cases this
end
/-- what is got from a pair of the list -/
theorem bm_pair {p : Nat → Int32} {R C n a b : Nat} {L0 L1 : List bm_V} (e : (bm_eO (bm_E p R C L0 L1) L1.length L0.length)[n]? = some (a, b)) : a < L0.length ∧ b < L1.length := by
  have := bm_eO_mem _ _ _ _ (List.mem_of_getElem? e)
  exact ⟨this.1, this.2.1⟩
