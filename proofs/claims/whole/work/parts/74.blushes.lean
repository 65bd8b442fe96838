/-! blushes and sure -/
theorem searchL_X {F : Nat} (hF : FB ≤ F) {M : Mem} {np r : Nat} (hr : r < 6) (hnp : np ≤ 6) (h : M 23 0 = nI np) : ∃ N, L_B_search_18 F 23 (1 + 1 + 2 * r + 1) F M 0 = some N ∧ (∀ a, a ≠ 75 → N a = M a) ∧ ∀ p, p < np → N 75 p = M (1 + 1 + 2 * r + 1) p := by
  have hF' := FBL hF
  have hl := ln_row hr
  obtain ⟨N, n1, n2, n3⟩ := lpE (fun m p (N : Mem) => L_B_search_18 F 23 (1 + 1 + 2 * r + 1) m N (nI p)) (fun k N => (∀ a, a ≠ 75 → N a = M a) ∧ ∀ p, p < k → N 75 p = M (1 + 1 + 2 * r + 1) p) (fun N => some N) np
    (fun m p N hp hI => by
      obtain ⟨i1, i2⟩ := hI
      refine ⟨up N 75 p (N (1 + 1 + 2 * r + 1) p), ?_, fun a ha => by rw [up_cell ha, i1 a ha], fun y hy => ?_⟩
      · show B_B_search_18 F 23 (1 + 1 + 2 * r + 1) _ N (nI p) = _
        unfold B_B_search_18
        have c1 : (nI np ≤ nI p) = False := by rw [nI_leI (by omega) (by omega)]; simp; omega
        have c2 : (nI 40 ≤ nI p) = False := by rw [nI_leI (by omega) (by omega)]; simp; omega
        have c3 : Int32.ofNat (ln (1 + 1 + 2 * r + 1)) = nI 40 := by rw [hl]; rfl
        simp only [i1 23 (by omega), h, c1, c2, c3, ↓reduceIte, ard_nI (M := N) (a := 1 + 1 + 2 * r + 1) (k := p) (by rw [hl]; omega), ob_some, awr_nI (M := N) (a := 75) (k := p) (by show p < 6; omega), nI_1]
      · by_cases e : y = p
        · subst e
          rw [up_same, i1 _ (by omega)]
        · rw [up_ne (by omega), i2 y (by omega)])
    (fun m N hI => by
      show B_B_search_18 F 23 (1 + 1 + 2 * r + 1) _ N (nI np) = _
      unfold B_B_search_18
      rw [hI.1 23 (by omega), h, if_pos (by rw [nI_leI (by omega) (by omega)]; omega)])
    np 0 F M (by omega) (by omega) ⟨fun _ _ => rfl, fun p hp => absurd hp (by omega)⟩
  rw [nI_0] at n1
  exact ⟨N, n1, n2, n3⟩
theorem search_X {F : Nat} (hF : FB ≤ F) {M : Mem} {np nd w r : Nat} {kn : Nat → Int32} {dr : Nat → Nat → Int32} (hx : VX M 23 np nd kn dr) (hg : GV np nd w kn dr) (hr : r < 6) : ∃ N, B_search F M 23 (1 + 1 + 2 * r + 1) = some N ∧ (N 74 0, N 74 1, N 74 2) = fo (blushF np nd dr (fun p => M (1 + 1 + 2 * r + 1) p)) (2 ^ nd) 0 (0, -9, 0) ∧ ∀ a, a ≠ 74 → a ≠ 75 → N a = M a := by
  have hnp := hg.2.1
  have hnd := hg.2.2.1
  have u : ∀ a, a ≠ 74 → up (up (up M 74 0 0) 74 1 (-9)) 74 2 0 a = M a := fun a ha => by rw [up_cell ha, up_cell ha, up_cell ha]
  obtain ⟨U, u1, u2, u3⟩ := searchL_X hF (M := up (up (up M 74 0 0) 74 1 (-9)) 74 2 0) hr hnp (by rw [u 23 (by omega)]; exact hx.2.2.1)
  have hxU : VX U 23 np nd kn dr := VX_of hx (fun a h1 h2 => by rw [u2 a (by omega), u a (by omega)])
  have hl : lkI np nd dr (fun p => M (1 + 1 + 2 * r + 1) p) U (2 ^ nd * 0) := by
    refine ⟨fun i hi hb => ?_, fun p hp => ?_⟩
    · rw [Nat.mul_zero, nI_0, tb_0] at hb
      exact absurd hb (by simp)
    · rw [u3 p hp, u _ (by omega), ftS_sum, sumI_0s (fun i hi => by
        unfold ftV ftB
        rw [Nat.mul_zero, nI_0, tb_0]
        simp)]
      grind
  obtain ⟨N, n1, n2, n3⟩ := choose_X hF hg nd 14 U 0 (Nat.le_refl _) (by omega) hxU hl
  rw [Nat.mul_zero, nI_0] at n1
  rw [Nat.mul_zero, u2 74 (by omega)] at n2
  refine ⟨N, ?_, ?_, fun a h1 h2 => by rw [n3 a h1, u2 a h2, u a h1]⟩
  · unfold B_search
    simp only [u1, ob_some, hxU.2.2.2.1, n1]
  · rw [n2]
    simp [up_eqn]
theorem blush_both {F : Nat} (hF : FB ≤ F) {M1 M2 : Mem} {a0 : Int32} (hR : Rel M1 M2) : (∃ (r : Int32) (P1 P2 : Mem), ¬ r = 0 ∧ K_blushesRefused F M1 a0 = some (r, P1) ∧ M_layBlushes F M2 a0 = some (r, P2) ∧ Rel P1 P2) ∨ ∃ (r : Nat) (N1 N2 : Mem), r < 6 ∧ a0 = nI r ∧ K_blushesRefused F M1 a0 = some (0, M1) ∧ B_search F M1 23 (1 + 1 + 2 * r + 1) = some N1 ∧ M_layBlushes F M2 a0 = some (0, N2) ∧ N1 74 0 = N2 100 28 ∧ N1 74 1 = N2 100 29 ∧ N1 74 2 = N2 100 30 ∧ (∀ a, a ≠ 74 → a ≠ 75 → N1 a = M1 a) ∧ (∀ a, a ≠ 100 → N2 a = M2 a) ∧ ∀ b, b < 28 → N2 100 b = M2 100 b := by
  rcases blush_start (F := F) M1 M2 a0 hR with h | ⟨r, np, hr, rfl, e1, -, hnp6, -, -, e2, e3, e4⟩
  · exact Or.inl h
  obtain ⟨np', nd, D, hc⟩ := hR.2.2.2
  obtain ⟨kn, dr, hx, hm, hg, -, -⟩ := hc.views
  have enp : np' = np := by
    have := hx.2.2.1
    rw [e1] at this
    exact (nI_inj (by omega) (by have := hg.2.1; omega) this).symm
  subst enp
  obtain ⟨N1, n1, n2, n3⟩ := search_X hF hx hg hr
  have uu : ∀ a, a ≠ 100 → up (up (up M2 100 28 0) 100 29 (-9)) 100 30 0 a = M2 a := fun a ha => by rw [up_cell ha, up_cell ha, up_cell ha]
  have ub : ∀ b, b < 28 → up (up (up M2 100 28 0) 100 29 (-9)) 100 30 0 100 b = M2 100 b := fun b hb => by rw [up_ne (by omega), up_ne (by omega), up_ne (by omega)]
  have hm2 : VM (up (up (up M2 100 28 0) 100 29 (-9)) 100 30 0) np' nd kn dr := VM_of hm (ub 1 (by omega)) (uu 101 (by omega)) (uu 102 (by omega))
  obtain ⟨N2, m1, m2, m3, m4⟩ := blush_M hF hm2 hr
  have es : fo (blushF np' nd dr (fun p => M1 (1 + 1 + 2 * r + 1) p)) (2 ^ nd) 0 (0, -9, 0) = fo (blushF np' nd dr (fun p => M2 104 (40 * r + p))) (2 ^ nd) 0 (0, -9, 0) := by
    refine fo_congr (e := 2 ^ nd) (fun k s _ => ?_) (2 ^ nd) 0 _ (by omega)
    have : goodB np' nd dr (fun p => M1 (1 + 1 + 2 * r + 1) p) (nI k) = goodB np' nd dr (fun p => M2 104 (40 * r + p)) (nI k) := by
      unfold goodB
      congr 1
      rw [Bool.eq_iff_iff, allF_iff, allF_iff]
      constructor
      · intro h i h1 h2
        have := h i h1 h2
        unfold fitB at this ⊢
        show decide (_ = M2 104 (40 * r + i)) = true
        rw [← e2 i (by omega)]
        exact this
      · intro h i h1 h2
        have := h i h1 h2
        unfold fitB at this ⊢
        show decide (_ = M1 (1 + 1 + 2 * r + 1) i) = true
        rw [e2 i (by omega)]
        exact this
    unfold blushF
    rw [this]
  rw [uu 104 (by omega)] at m2
  have z3 : (up (up (up M2 100 28 0) 100 29 (-9)) 100 30 0 100 28, up (up (up M2 100 28 0) 100 29 (-9)) 100 30 0 100 29, up (up (up M2 100 28 0) 100 29 (-9)) 100 30 0 100 30) = ((0 : Int32), (-9 : Int32), (0 : Int32)) := by simp [up_eqn]
  rw [z3, ← es, ← n2] at m2
  simp only [Prod.mk.injEq] at m2
  refine Or.inr ⟨r, N1, N2, hr, rfl, e3, n1, ?_, m2.1.symm, m2.2.1.symm, m2.2.2.symm, n3, fun a ha => by rw [m3 a ha, uu a ha], fun b hb => by rw [m4 b hb, ub b hb]⟩
  rw [e4, m1, ob_some]
theorem op_blushes {F : Nat} (hF : FB ≤ F) (M1 M2 : Mem) (a0 : Int32) (hR : Rel M1 M2) : ∃ (r : Int32) (M1' : Mem) (M2' : Mem), K_blushes F M1 a0 = some (r, M1') ∧ M_blushes F M2 a0 = some (r, M2') ∧ Rel M1' M2' := by
  rcases blush_both hF hR (a0 := a0) with ⟨r, P1, P2, hr, h1, h2, h3⟩ | ⟨r, N1, N2, hr, rfl, h1, h2, h3, q0, q1, q2, f1, f2, f3⟩
  · refine ⟨r, P1, P2, ?_, ?_, h3⟩
    · simp only [K_blushes, h1, ob_some, hr, ↓reduceIte]
    · simp only [M_blushes, h2, ob_some, hr, ↓reduceIte]
  · have c1 : up N1 0 11 (N1 74 1) 74 0 = N1 74 0 := up_ne (by omega)
    have c2 : up N2 100 7 (N2 100 29) 100 28 = N2 100 28 := up_ne (by omega)
    refine ⟨N1 74 0, up N1 0 11 (N1 74 1), up N2 100 7 (N2 100 29), ?_, ?_, ?_⟩
    · simp only [K_blushes, h1, ob_some, ↓reduceIte, idx_nI hr (by omega : 6 ≤ 1000000), h2, c1]
    · simp only [M_blushes, h3, ob_some, ↓reduceIte, c2, q0]
    · refine Rel_scr hR (fun a ha hb => by rw [up_cell ha, f1 a (by omega) (by omega)]) (fun b hb => by rw [up_ne (by omega), f1 0 (by omega) (by omega)]) (fun a h h' => by rw [up_cell (by omega), f2 a (by omega)]) (fun b hb => by rw [up_ne (by omega), f3 b (by omega)]) ?_
      rw [up_same, up_same, q1]
theorem op_sure {F : Nat} (hF : FB ≤ F) (M1 M2 : Mem) (a0 : Int32) (hR : Rel M1 M2) : ∃ (r : Int32) (M1' : Mem) (M2' : Mem), K_sure F M1 a0 = some (r, M1') ∧ M_sure F M2 a0 = some (r, M2') ∧ Rel M1' M2' := by
  rcases blush_both hF hR (a0 := a0) with ⟨r, P1, P2, hr, h1, h2, h3⟩ | ⟨r, N1, N2, hr, rfl, h1, h2, h3, q0, q1, q2, f1, f2, f3⟩
  · refine ⟨r, P1, P2, ?_, ?_, h3⟩
    · simp only [K_sure, h1, ob_some, hr, ↓reduceIte]
    · simp only [M_sure, h2, ob_some, hr, ↓reduceIte]
  · refine ⟨N1 74 2, N1, N2, ?_, ?_, ?_⟩
    · simp only [K_sure, h1, ob_some, ↓reduceIte, idx_nI hr (by omega : 6 ≤ 1000000), h2]
    · simp only [M_sure, h3, ob_some, ↓reduceIte, q2]
    · refine Rel_scr hR (fun a ha hb => by rw [f1 a (by omega) (by omega)]) (fun b hb => by rw [f1 0 (by omega) (by omega)]) (fun a h h' => by rw [f2 a (by omega)]) (fun b hb => by rw [f3 b (by omega)]) ?_
      rw [f1 0 (by omega) (by omega), f3 7 (by omega)]
      exact hR.1.2.1
