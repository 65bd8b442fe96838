/-! blushes and sure: what is refused; the search itself is a premise here -/
/-- both are refused alike, or both come to the search over a row of as many places as there are persons -/
theorem blush_start {F : Nat} (M1 M2 : Mem) (a0 : Int32) (hR : Rel M1 M2) : (∃ (r : Int32) (P1 P2 : Mem), ¬ r = 0 ∧ K_blushesRefused F M1 a0 = some (r, P1) ∧ M_layBlushes F M2 a0 = some (r, P2) ∧ Rel P1 P2) ∨ ∃ r np : Nat, r < 6 ∧ a0 = nI r ∧ M1 23 0 = nI np ∧ 2 ≤ np ∧ np ≤ 6 ∧ M1 (1 + 1 + 2 * r) 1 = nI np ∧ M2 103 r = nI np ∧ (∀ i, i < np → M1 (1 + 1 + 2 * r + 1) i = M2 104 (40 * r + i)) ∧ K_blushesRefused F M1 a0 = some (0, M1) ∧ M_layBlushes F M2 a0 = (L_M_layBlushes_71 F (nI r) F (up (up (up M2 100 28 0) 100 29 (-9)) 100 30 0) 0).bind fun u17 => some (0, u17) := by
  obtain ⟨np, nd, D, hc⟩ := hR.2.2.2
  obtain ⟨kn, dr, hx, hm, hg, -, -⟩ := hc.views
  have hnp := hg.2.1
  have n3 : ¬ (-3 : Int32) = 0 := by decide
  have hno : ∀ h : (a0 < 0 ∨ (0 ≤ a0 ∧ nI 6 ≤ a0)), ∃ (r : Int32) (P1 P2 : Mem), ¬ r = 0 ∧ K_blushesRefused F M1 a0 = some (r, P1) ∧ M_layBlushes F M2 a0 = some (r, P2) ∧ Rel P1 P2 := by
    intro h
    have e := isRow_no (M1 := M1) (M2 := M2) (F := F) h
    simp only [K_blushesRefused, M_layBlushes, e.1, e.2, ob_some, ↓reduceIte]
    exact ⟨_, _, _, by decide, rfl, rfl, hR⟩
  rcases ixc a0 (n := 6) (by omega) with h | h | ⟨r, hr, rfl⟩
  · exact Or.inl (hno (Or.inl h))
  · exact Or.inl (hno (Or.inr h))
  have e := isRow_yes (M1 := M1) (M2 := M2) (F := F) hr
  have hl : r < ln 103 := hr
  have z01 : ((0 : Int32) ≤ -1) = False := by decide
  by_cases h0 : np = 0
  · refine Or.inl ⟨-4, M1, M2, by decide, ?_, ?_, hR⟩
    · simp only [K_blushesRefused, e.1, ob_some, i10, ↓reduceIte, isEmpty_eq hx, i10c, h0, not_true_eq_false]
    · have z0 : (nI 0 = 0) = True := by decide
      simp only [M_layBlushes, e.2, ob_some, i10, ↓reduceIte, hm.1, h0, z0]
  rcases hR.2.1 r hr with ⟨p1, p2⟩ | ⟨n, hn, p1, p2, p3⟩
  · refine Or.inl ⟨-3, _, _, n3, ?_, ?_, refuse_rel hR (f := 1) (by omega) (by omega)⟩
    · simp only [K_blushesRefused, e.1, ob_some, i10, ↓reduceIte, isEmpty_eq hx, i10c, h0, not_false_eq_true, idx_nI hr (by omega : 6 ≤ 1000000), miss_yes p1, ref1]
    · simp only [M_layBlushes, e.2, ob_some, i10, ↓reduceIte, hm.1, np_zero hnp, h0, ard_nI hl, p2, z01, fin1]
  have hge : ((0 : Int32) ≤ nI n) = True := eq_true (nI_ge0 (by omega))
  have en : (nI n = nI np) = (n = np) := by rw [nI_eq (by omega) (by omega)]
  by_cases k : n = np
  · subst k
    refine Or.inr ⟨r, n, hr, rfl, hx.2.2.1, by have := hg.1; omega, hnp, p1, p2, p3, ?_, ?_⟩
    · simp only [K_blushesRefused, e.1, ob_some, i10, ↓reduceIte, isEmpty_eq hx, i10c, h0, not_false_eq_true, idx_nI hr (by omega : 6 ≤ 1000000), miss_no (show n ≤ 80 by omega) p1, p1, hx.2.2.1]
    · simp only [M_layBlushes, e.2, ob_some, i10, ↓reduceIte, hm.1, np_zero hnp, h0, ard_nI hl, p2, hge]
  · refine Or.inl ⟨-3, _, _, n3, ?_, ?_, refuse_rel hR (f := 5) (by omega) (by omega)⟩
    · simp only [K_blushesRefused, e.1, ob_some, i10, ↓reduceIte, isEmpty_eq hx, i10c, h0, not_false_eq_true, idx_nI hr (by omega : 6 ≤ 1000000), miss_no (show n ≤ 80 by omega) p1, p1, hx.2.2.1, en, k, ref5]
    · simp only [M_layBlushes, e.2, ob_some, i10, ↓reduceIte, hm.1, np_zero hnp, h0, ard_nI hl, p2, hge, en, k, fin5]
