/-! village -/
theorem op_village {F : Nat} (hF : FB ≤ F) (M1 M2 : Mem) (a0 : Int32) (hR : Rel M1 M2) : ∃ (r : Int32) (M1' : Mem) (M2' : Mem), K_village F M1 a0 = some (r, M1') ∧ M_village F M2 a0 = some (r, M2') ∧ Rel M1' M2' := by
  have hno : ∀ h : (a0 < 0 ∨ (0 ≤ a0 ∧ nI 4 ≤ a0)), ∃ (r : Int32) (M1' : Mem) (M2' : Mem), K_village F M1 a0 = some (r, M1') ∧ M_village F M2 a0 = some (r, M2') ∧ Rel M1' M2' := by
    intro h
    have e := isText_no (M1 := M1) (M2 := M2) (F := F) h
    simp only [K_village, M_village, e.1, e.2, ob_some, ↓reduceIte]
    exact ⟨_, _, _, rfl, rfl, hR⟩
  rcases ixc a0 (n := 4) (by omega) with h | h | ⟨t, ht, rfl⟩
  · exact hno (Or.inl h)
  · exact hno (Or.inr h)
  have e := isText_yes (M1 := M1) (M2 := M2) (F := F) ht
  have hl : t < ln 105 := ht
  have z01 : ((0 : Int32) ≤ -1) = False := by decide
  rcases hR.2.2.1 t ht with ⟨p1, p2⟩ | ⟨n, hn, p1, p2, p3⟩
  · refine ⟨-3, _, _, ?_, ?_, refuse_rel hR (f := 1) (by omega) (by omega)⟩
    · simp only [K_village, e.1, ob_some, i10, ↓reduceIte, idx_nI ht (by omega : 4 ≤ 1000000), miss_yes p1, ref1]
    · simp only [M_village, e.2, ob_some, i10, ↓reduceIte, ard_nI hl, p2, z01, fin1]
  have hge : ((0 : Int32) ≤ nI n) = True := eq_true (nI_ge0 (by omega))
  obtain ⟨v, P1, P2, q1, q2, q3, q4, q5, q6⟩ := faultOf_both hF ht hn p1 p2 (by' := fun i => M2 106 (80 * t + i)) p3 (fun _ _ => rfl)
  by_cases hv : v = -9
  · obtain ⟨np, nd, kn, dr, hS, hnp2⟩ := q6 hv
    obtain ⟨h1, h2, h3, h4, h5, h6, h7⟩ := hS
    have hnp := h1.2.2.2.2.1
    have hnd := h1.2.2.2.2.2.1
    obtain ⟨C, c1, c2, c3⟩ := likeB_eq hF h1
    obtain ⟨K, k1, k2, k3⟩ := villX hF (up C 53 0 0)
    have fK : ∀ a, a < 53 ∨ a = 76 → K a = C a := fun a ha => by rw [k2 a (by omega) (by omega) (by omega), up_cell (by omega)]
    have vK : VX K 23 np nd kn dr := VX_of c2 (fun a ha hb => fK a (by omega))
    obtain ⟨A, a1, a2, a3⟩ := villM1 hF hnp (M := up P2 100 1 (nI np)) (up_same ..)
    obtain ⟨B, b1, b2, b3⟩ := villM2 hF A
    have hB102 : ∀ p, p < np → B 102 p = kn p := fun p hp => by rw [b2 102 (by omega), a3 p hp, up_cell (by omega), (h6 p hp).1]
    have hB100 : ∀ b, b ≠ 1 → B 100 b = P2 100 b := fun b hb => by rw [b2 100 (by omega), a2 100 (by omega), up_ne (by omega)]
    have hBa : ∀ a, a ≠ 100 → a ≠ 101 → a ≠ 102 → B a = P2 a := fun a x y z => by rw [b2 a y, a2 a z, up_cell x]
    have vB : VM B np 0 kn dr := ⟨by rw [b2 100 (by omega), a2 100 (by omega), up_same], by rw [b3 1 (by omega)]; rfl, hnp, by omega, hB102, fun i hi => absurd hi (by omega)⟩
    obtain ⟨G, g1, g2, g3, g4⟩ := villM3 hF vB hnd (by rw [hB100 18 (by omega)]; exact h5) (fun i hi => ⟨(h7 i hi).2.1, (h7 i hi).2.2.1, fun j hj => by rw [hBa 109 (by omega) (by omega) (by omega)]; exact (h7 i hi).2.2.2 j hj⟩)
    obtain ⟨E, e1', e2', e3', e4'⟩ := villM4 hF G
    have vE : VM E np nd kn dr := ⟨by rw [e2' 100 (by omega)]; exact g2.1, by rw [e3' 1 (by omega)]; exact g2.2.1, hnp, hnd, fun p hp => by rw [e2' 102 (by omega)]; exact g2.2.2.2.2.1 p hp, fun i hi j hj => by rw [e3' _ (by omega)]; exact g2.2.2.2.2.2 i hi j hj⟩
    have fE : ∀ a, a ≠ 100 → a ≠ 101 → a ≠ 102 → a ≠ 108 → a ≠ 109 → E a = M2 a := fun a x y z u w => by rw [e2' a y, g3 a y, hBa a x y z, q4 a x u w]
    have fE100 : ∀ b, b = 7 ∨ b = 8 ∨ b = 9 ∨ b = 10 → E 100 b = M2 100 b := fun b hb => by rw [e2' 100 (by omega), g3 100 (by omega), hB100 b (by omega), q5 b (by omega) (by omega) (by omega) (by omega) (by omega)]
    have fKM : ∀ a, a < 23 ∨ a = 76 → K a = M1 a := fun a ha => by rw [fK a (by omega), c3 a (by omega), q3 a (by omega)]
    refine ⟨nI np, K, E, ?_, ?_, ⟨?_, ?_, ?_, ?_, ?_⟩, RelR_of hR.2.1 (fun k x y => fKM k (by omega)) (fE 103 (by omega) (by omega) (by omega) (by omega) (by omega)) (fE 104 (by omega) (by omega) (by omega) (by omega) (by omega)), RelT_of hR.2.2.1 (fun k x y => fKM k (by omega)) (fE 105 (by omega) (by omega) (by omega) (by omega) (by omega)) (fE 106 (by omega) (by omega) (by omega) (by omega) (by omega)), np, nd, 0, ⟨Or.inr hnp2, hnp, vK.2.2.1, vE.1, fun p hp => ?_⟩, ⟨hnd, vK.2.2.2.1, vE.2.1, fun i hi => ?_⟩, ⟨by omega, ?_, ?_, fun x hx => absurd hx (by omega)⟩, fun k hk => Or.inl ⟨k3 k hk, e4' k hk⟩⟩
    · simp only [K_village, e.1, ob_some, i10, ↓reduceIte, idx_nI ht (by omega : 4 ≤ 1000000), miss_no hn p1, q1, hv, c1, k1, vK.2.2.1]
    · simp only [M_village, e.2, ob_some, i10, ↓reduceIte, ard_nI hl, p2, hge, q2, hv, h4, a1, b1, g1, e1', vE.1]
    · rw [fKM 0 (by omega), fE100 10 (by omega)]; exact hR.1.1
    · rw [fKM 0 (by omega), fE100 7 (by omega)]; exact hR.1.2.1
    · rw [fKM 0 (by omega), fE100 8 (by omega)]; exact hR.1.2.2.1
    · rw [fKM 0 (by omega), fE100 9 (by omega)]; exact hR.1.2.2.2.1
    · intro f x y
      rw [fKM 76 (by omega), fE 107 (by omega) (by omega) (by omega) (by omega) (by omega)]
      exact hR.1.2.2.2.2 f x y
    · have := vE.2.2.2.2.1 p hp
      exact ⟨by rw [this]; exact vK.2.2.2.2.2.2.1 p hp, by rw [this]; exact (h6 p hp).2⟩
    · have hd : ∀ j, j < 6 → drM E 1 i j = dr i j := fun j hj => by
        have := vE.2.2.2.2.2 i hi j hj
        show E 101 (1 + 1 + 6 * i + j) = _
        rw [show 1 + 1 + 6 * i + j = 2 + 6 * i + j by omega, this]
      exact ⟨GoodD_congr (h7 i hi).1 hd, fun j hj => by rw [hd j hj]; exact vK.2.2.2.2.2.2.2 i hi j hj⟩
    · rw [k2 53 (by omega) (by omega) (by omega), up_same]; rfl
    · rw [e3' 0 (by omega), g4 0 (by omega), b3 0 (by omega)]; rfl
  · refine ⟨-4, P1, P2, ?_, ?_, fault_rel hR q3 q4 q5⟩
    · simp only [K_village, e.1, ob_some, i10, ↓reduceIte, idx_nI ht (by omega : 4 ≤ 1000000), miss_no hn p1, q1, hv]
    · simp only [M_village, e.2, ob_some, i10, ↓reduceIte, ard_nI hl, p2, hge, q2, hv]
