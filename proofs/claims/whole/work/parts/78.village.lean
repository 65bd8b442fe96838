/-! fault and village -/
theorem faultOf_both {F t n : Nat} (hF : FB ≤ F) {M1 M2 : Mem} {by' : Nat → Int32} (ht : t < 4) (hn : n ≤ 80) (e1 : M1 (14 + 1 + 2 * t) 1 = nI n) (e2 : M2 105 t = nI n) (e3 : ∀ i, i < n → M1 (14 + 1 + 2 * t + 1) i = by' i) (e4 : ∀ i, i < n → M2 106 (80 * t + i) = by' i) : ∃ (v : Int32) (P1 P2 : Mem), R_faultOf F M1 (14 + 1 + 2 * t) 38 = some (v, P1) ∧ M_faultOf F M2 (nI t) = some (v, P2) ∧ frX M1 P1 ∧ (∀ a, a ≠ 100 → a ≠ 108 → a ≠ 109 → P2 a = M2 a) ∧ (∀ b, b ≠ 12 → b ≠ 13 → b ≠ 14 → b ≠ 16 → b ≠ 18 → P2 100 b = M2 100 b) ∧ (v = -9 → ∃ (np nd : Nat) (kn : Nat → Int32) (dr : Nat → Nat → Int32), PS (14 + 1 + 2 * t) t n by' P1 P2 np nd kn dr ∧ 2 ≤ np) := by
  have hF' := FBL hF
  have a1 : up (up M1 38 0 0) 38 1 0 38 0 = nI 0 := by rw [up_ne (by omega), up_same]; rfl
  have a2 : up (up M1 38 0 0) 38 1 0 38 1 = nI 0 := by rw [up_same]; rfl
  have fA : frX M1 (up (up M1 38 0 0) 38 1 0) := fun a ha => by rw [up_cell (by omega), up_cell (by omega)]
  have hR : R_faultOf F M1 (14 + 1 + 2 * t) 38 = (L_R_faultOf_6 F (14 + 1 + 2 * t) 38 F (up (up M1 38 0 0) 38 1 0) 0).bind fun u10 => Sum.elim (fun r11 => some r11) (fun w12 => (if 2 ≤ (w12 38 0) then some ((-9), w12) else some ((w12 (14 + 1 + 2 * t) 1), w12))) u10 := by
    unfold R_faultOf V_becomeEmpty
    rw [ob_some]
  have ix : (80 : Int32) * nI t = nI (80 * t) := by rw [show (80 : Int32) = nI 80 from rfl, pk_mul]
  have r1 : ard (up (up M2 100 12 (nI (80 * t))) 100 13 0) 105 (nI t) = some (nI n) := by rw [ard_nI (by show t < 4; omega), up_cell (by omega), up_cell (by omega), e2]
  have hM : M_faultOf F M2 (nI t) = (((M_skip F (up (up (up (up (up M2 100 12 (nI (80 * t))) 100 13 0) 100 14 (nI n)) 100 16 0) 100 18 0)).bind fun c => L_M_faultOf_39 F F c 1)).bind fun u12 => (if u12.1 = 0 then some ((u12.2 100 13), u12.2) else (if (u12.2 100 16) ≤ 1 then some ((u12.2 100 13), u12.2) else some ((-9), u12.2))) := by
    unfold M_faultOf
    rw [ix, r1, ob_some, Option.bind_assoc]
  have b12 : up (up (up (up (up M2 100 12 (nI (80 * t))) 100 13 0) 100 14 (nI n)) 100 16 0) 100 18 0 100 12 = nI (80 * t) := by simp [up_eqn]
  have b13 : up (up (up (up (up M2 100 12 (nI (80 * t))) 100 13 0) 100 14 (nI n)) 100 16 0) 100 18 0 100 13 = nI 0 := by simp [up_eqn, nI_0]
  have b14 : up (up (up (up (up M2 100 12 (nI (80 * t))) 100 13 0) 100 14 (nI n)) 100 16 0) 100 18 0 100 14 = nI n := by simp [up_eqn]
  have b16 : up (up (up (up (up M2 100 12 (nI (80 * t))) 100 13 0) 100 14 (nI n)) 100 16 0) 100 18 0 100 16 = nI 0 := by simp [up_eqn, nI_0]
  have b18 : up (up (up (up (up M2 100 12 (nI (80 * t))) 100 13 0) 100 14 (nI n)) 100 16 0) 100 18 0 100 18 = nI 0 := by simp [up_eqn, nI_0]
  have bc : ∀ a, a ≠ 100 → up (up (up (up (up M2 100 12 (nI (80 * t))) 100 13 0) 100 14 (nI n)) 100 16 0) 100 18 0 a = M2 a := fun a ha => by rw [up_cell ha, up_cell ha, up_cell ha, up_cell ha, up_cell ha]
  have bb : ∀ b, b ≠ 12 → b ≠ 13 → b ≠ 14 → b ≠ 16 → b ≠ 18 → up (up (up (up (up M2 100 12 (nI (80 * t))) 100 13 0) 100 14 (nI n)) 100 16 0) 100 18 0 100 b = M2 100 b := fun b h1 h2 h3 h4 h5 => by rw [up_ne (by omega), up_ne (by omega), up_ne (by omega), up_ne (by omega), up_ne (by omega)]
  generalize up (up (up (up (up M2 100 12 (nI (80 * t))) 100 13 0) 100 14 (nI n)) 100 16 0) 100 18 0 = B at *
  generalize up (up M1 38 0 0) 38 1 0 = A at *
  have hS : PS (14 + 1 + 2 * t) t n by' A B 0 0 (fun _ => 0) (fun _ _ => 0) := ⟨⟨rfl, rfl, a1, a2, by omega, by omega, fun p hp => absurd hp (by omega), fun i hi => absurd hi (by omega)⟩, ⟨hn, ln_text ht, by rw [fA _ (by omega)]; exact e1, fun i hi => by rw [fA _ (by omega)]; exact e3 i hi⟩, ⟨hn, ht, b12, b14, fun i hi => by rw [bc 106 (by omega)]; exact e4 i hi⟩, b16, b18, fun p hp => absurd hp (by omega), fun i hi => absurd hi (by omega)⟩
  rcases read_both hF (show 14 + 1 + 2 * t ≤ 21 by omega) n 0 F F A B 0 0 _ _ (by omega) (by omega) (by omega) (by omega) hS b13 with ⟨f, M', N', g1, g2, g3, g4, g5, g6⟩ | ⟨M', N', np, nd, kn, dr, g2, g3, g4, g5, g6, g7⟩
  · rw [nI_0] at g2
    refine ⟨nI f, M', N', ?_, ?_, fun a ha => by rw [g5 a ha, fA a ha], fun a h1 h2 h3 => by rw [g6.1 a h1 h2 h3, bc a h1], fun b h1 h2 h3 h4 h5 => by rw [g6.2 b h2 h4 h5, bb b h1 h2 h3 h4 h5], fun h => absurd h (n9_nI (by omega))⟩
    · rw [hR, g2, ob_some]
      rfl
    · rw [hM, g3, ob_some]
      show (if (0 : Int32) = 0 then some ((N' 100 13), N') else _) = _
      rw [if_pos rfl, g4]
  · rw [nI_0] at g2
    have hnp := g5.1.2.2.2.2.1
    have z10 : ((1 : Int32) = 0) = False := by decide
    have c2 : ((2 : Int32) ≤ nI np) = (2 ≤ np) := by rw [show (2 : Int32) = nI 2 from rfl, nI_leI (by omega) (by omega)]
    have c1 : (nI np ≤ (1 : Int32)) = (np ≤ 1) := by rw [show (1 : Int32) = nI 1 from rfl, nI_leI (by omega) (by omega)]
    refine ⟨if 2 ≤ np then -9 else nI n, M', N', ?_, ?_, fun a ha => by rw [g6 a ha, fA a ha], fun a h1 h2 h3 => by rw [g7.1 a h1 h2 h3, bc a h1], fun b h1 h2 h3 h4 h5 => by rw [g7.2 b h2 h4 h5, bb b h1 h2 h3 h4 h5], fun h => ?_⟩
    · rw [hR, g2, ob_some]
      simp only [Sum.elim_inr, g5.1.2.2.1, c2, g5.2.1.2.2.1]
      by_cases q : 2 ≤ np
      · rw [if_pos q, if_pos q]
      · rw [if_neg q, if_neg q]
    · rw [hM, g3, ob_some]
      simp only [z10, ↓reduceIte, g5.2.2.2.1, c1, g4]
      by_cases q : 2 ≤ np
      · rw [if_pos q, if_neg (by omega)]
      · rw [if_neg q, if_pos (by omega)]
    · by_cases q : 2 ≤ np
      · exact ⟨np, nd, kn, dr, g5, q⟩
      · rw [if_neg q] at h
        exact absurd h (n9_nI (by omega))
theorem fault_rel {M1 M2 P1 P2 : Mem} (hR : Rel M1 M2) (f1 : frX M1 P1) (f2 : ∀ a, a ≠ 100 → a ≠ 108 → a ≠ 109 → P2 a = M2 a) (f3 : ∀ b, b ≠ 12 → b ≠ 13 → b ≠ 14 → b ≠ 16 → b ≠ 18 → P2 100 b = M2 100 b) : Rel P1 P2 := by
  refine Rel_scr hR (fun a h0 h => f1 a (by omega)) (fun b hb => by rw [f1 0 (by omega)]) (fun a h h' => f2 a (by omega) (by omega) (by omega)) (fun b hb => f3 b (by omega) (by omega) (by omega) (by omega) (by omega)) ?_
  rw [f1 0 (by omega), f3 7 (by omega) (by omega) (by omega) (by omega) (by omega)]
  exact hR.1.2.1
theorem op_fault {F : Nat} (hF : FB ≤ F) (M1 M2 : Mem) (a0 : Int32) (hR : Rel M1 M2) : ∃ (r : Int32) (M1' : Mem) (M2' : Mem), K_fault F M1 a0 = some (r, M1') ∧ M_fault F M2 a0 = some (r, M2') ∧ Rel M1' M2' := by
  have hno : ∀ h : (a0 < 0 ∨ (0 ≤ a0 ∧ nI 4 ≤ a0)), ∃ (r : Int32) (M1' : Mem) (M2' : Mem), K_fault F M1 a0 = some (r, M1') ∧ M_fault F M2 a0 = some (r, M2') ∧ Rel M1' M2' := by
    intro h
    have e := isText_no (M1 := M1) (M2 := M2) (F := F) h
    simp only [K_fault, M_fault, e.1, e.2, ob_some, ↓reduceIte]
    exact ⟨_, _, _, rfl, rfl, hR⟩
  rcases ixc a0 (n := 4) (by omega) with h | h | ⟨t, ht, rfl⟩
  · exact hno (Or.inl h)
  · exact hno (Or.inr h)
  have e := isText_yes (M1 := M1) (M2 := M2) (F := F) ht
  have hl : t < ln 105 := ht
  have z01 : ((0 : Int32) ≤ -1) = False := by decide
  rcases hR.2.2.1 t ht with ⟨p1, p2⟩ | ⟨n, hn, p1, p2, p3⟩
  · refine ⟨-3, _, _, ?_, ?_, refuse_rel hR (f := 1) (by omega) (by omega)⟩
    · simp only [K_fault, e.1, ob_some, i10, ↓reduceIte, idx_nI ht (by omega : 4 ≤ 1000000), miss_yes p1, ref1]
    · simp only [M_fault, e.2, ob_some, i10, ↓reduceIte, ard_nI hl, p2, z01, fin1]
  have hge : ((0 : Int32) ≤ nI n) = True := eq_true (nI_ge0 (by omega))
  obtain ⟨v, P1, P2, q1, q2, q3, q4, q5, -⟩ := faultOf_both hF ht hn p1 p2 (by' := fun i => M2 106 (80 * t + i)) p3 (fun _ _ => rfl)
  refine ⟨v, P1, P2, ?_, ?_, fault_rel hR q3 q4 q5⟩
  · simp only [K_fault, e.1, ob_some, i10, ↓reduceIte, idx_nI ht (by omega : 4 ≤ 1000000), miss_no hn p1, q1]
  · simp only [M_fault, e.2, ob_some, i10, ↓reduceIte, ard_nI hl, p2, hge, q2]
theorem villX {F : Nat} (hF : FB ≤ F) (M : Mem) : ∃ N, L_K_village_69 F F M 0 = some N ∧ (∀ a, a ≠ 57 → a ≠ 60 → a ≠ 63 → N a = M a) ∧ ∀ z, z < 3 → N (56 + 1 + 3 * z) 0 = -1 := by
  have hF' := FBL hF
  obtain ⟨N, n1, n2, n3⟩ := lpE (fun m z (N : Mem) => L_K_village_69 F m N (nI z)) (fun z N => (∀ a, a ≠ 57 → a ≠ 60 → a ≠ 63 → N a = M a) ∧ ∀ y, y < z → N (56 + 1 + 3 * y) 0 = -1) (fun N => some N) 3
    (fun m z N hz hI => by
      obtain ⟨i1, i2⟩ := hI
      refine ⟨up N (56 + 1 + 3 * z) 0 (-1), ?_, fun a h1 h2 h3 => by rw [up_cell (by omega), i1 a h1 h2 h3], fun y hy => ?_⟩
      · show B_K_village_69 F _ N (nI z) = _
        unfold B_K_village_69
        have c1 : ((3 : Int32) ≤ nI z) = False := by rw [show (3 : Int32) = nI 3 from rfl, nI_leI (by omega) (by omega)]; simp; omega
        simp only [c1, ↓reduceIte, idx_nI hz (by omega : 3 ≤ 1000000), ob_some, nI_1]
      · by_cases e : y = z
        · subst e
          rw [up_same]
        · rw [up_ne (by omega), i2 y (by omega)])
    (fun m N hI => by
      show B_K_village_69 F _ N (nI 3) = _
      unfold B_K_village_69
      rw [if_pos (by decide)])
    3 0 F M (by omega) (by omega) ⟨fun _ _ _ _ => rfl, fun y hy => absurd hy (by omega)⟩
  rw [nI_0] at n1
  exact ⟨N, n1, n2, n3⟩
theorem villM1 {F np : Nat} (hF : FB ≤ F) (hnp : np ≤ 6) {M : Mem} (h : M 100 1 = nI np) : ∃ N, L_M_village_47 F F M 0 = some N ∧ (∀ a, a ≠ 102 → N a = M a) ∧ ∀ p, p < np → N 102 p = M 108 p := by
  have hF' := FBL hF
  obtain ⟨N, n1, n2, n3⟩ := lpE (fun m p (N : Mem) => L_M_village_47 F m N (nI p)) (fun p N => (∀ a, a ≠ 102 → N a = M a) ∧ ∀ y, y < p → N 102 y = M 108 y) (fun N => some N) np
    (fun m p N hp hI => by
      obtain ⟨i1, i2⟩ := hI
      refine ⟨up N 102 p (M 108 p), ?_, fun a h1 => by rw [up_cell h1, i1 a h1], fun y hy => ?_⟩
      · show B_M_village_47 F _ N (nI p) = _
        unfold B_M_village_47
        have c1 : (nI np ≤ nI p) = False := by rw [nI_leI (by omega) (by omega)]; simp; omega
        simp only [i1 100 (by omega), h, c1, ↓reduceIte, ard_nI (M := N) (a := 108) (k := p) (by show p < 6; omega), i1 108 (by omega), ob_some, awr_nI (M := N) (a := 102) (k := p) (by show p < 6; omega), nI_1]
      · by_cases e : y = p
        · subst e
          rw [up_same]
        · rw [up_ne (by omega), i2 y (by omega)])
    (fun m N hI => by
      show B_M_village_47 F _ N (nI np) = _
      unfold B_M_village_47
      rw [hI.1 100 (by omega), h, if_pos (by rw [nI_leI (by omega) (by omega)]; omega)])
    np 0 F M (by omega) (by omega) ⟨fun _ _ => rfl, fun y hy => absurd hy (by omega)⟩
  rw [nI_0] at n1
  exact ⟨N, n1, n2, n3⟩
theorem villM2 {F : Nat} (hF : FB ≤ F) (M : Mem) : ∃ N, L_M_village_75 F F M 0 = some N ∧ (∀ a, a ≠ 101 → N a = M a) ∧ ∀ p, p < 2994 → N 101 p = 0 := by
  have hF' := FBL hF
  have hl : ln 101 = 11976 := by decide
  obtain ⟨N, n1, n2, n3⟩ := lpE (fun m p (N : Mem) => L_M_village_75 F m N (nI p)) (fun p N => (∀ a, a ≠ 101 → N a = M a) ∧ ∀ y, y < p → N 101 y = 0) (fun N => some N) 2994
    (fun m p N hp hI => by
      obtain ⟨i1, i2⟩ := hI
      refine ⟨up N 101 p 0, ?_, fun a h1 => by rw [up_cell h1, i1 a h1], fun y hy => ?_⟩
      · show B_M_village_75 F _ N (nI p) = _
        unfold B_M_village_75
        have c1 : ((2994 : Int32) ≤ nI p) = False := by rw [show (2994 : Int32) = nI 2994 from rfl, nI_leI (by omega) (by omega)]; simp; omega
        simp only [c1, ↓reduceIte, ob_some, awr_nI (M := N) (a := 101) (k := p) (by rw [hl]; omega), nI_1]
      · by_cases e : y = p
        · subst e
          rw [up_same]
        · rw [up_ne (by omega), i2 y (by omega)])
    (fun m N hI => by
      show B_M_village_75 F _ N (nI 2994) = _
      unfold B_M_village_75
      rw [if_pos (by decide)])
    2994 0 F M (by omega) (by omega) ⟨fun _ _ => rfl, fun y hy => absurd hy (by omega)⟩
  rw [nI_0] at n1
  exact ⟨N, n1, n2, n3⟩
theorem villM3 {F np nd : Nat} (hF : FB ≤ F) {M : Mem} {kn : Nat → Int32} {dr : Nat → Nat → Int32} (h : VM M np 0 kn dr) (hnd : nd ≤ 12) (h18 : M 100 18 = nI nd) (hd : ∀ i, i < nd → dr i 4 = 0 ∧ dr i 5 = 0 ∧ ∀ j, j < 4 → M 109 (4 * i + j) = dr i j) : ∃ N, L_M_village_97 F F M 0 = some N ∧ VM N np nd kn dr ∧ (∀ a, a ≠ 101 → N a = M a) ∧ ∀ p, p = 0 ∨ 74 ≤ p → N 101 p = M 101 p := by
  have hF' := FBL hF
  have l109 : ln 109 = 48 := by decide
  obtain ⟨N, n1, n2, n3, n4⟩ := lpE (fun m i (N : Mem) => L_M_village_97 F m N (nI i)) (fun i N => VM N np i kn dr ∧ (∀ a, a ≠ 101 → N a = M a) ∧ ∀ p, p = 0 ∨ 74 ≤ p → N 101 p = M 101 p) (fun N => some N) nd
    (fun m i N hi hI => by
      obtain ⟨i1, i2, i3⟩ := hI
      obtain ⟨d4, d5, d0⟩ := hd i hi
      obtain ⟨P, p1, q2, q3, q4⟩ := addDraft_M (F := F) i1 (show i < 12 by omega) (dr i 0) (dr i 1) (dr i 2) (dr i 3)
      refine ⟨P, ?_, VM_congr q2 (fun y hy j hj => ?_), fun a ha => by rw [q3 a ha, i2 a ha], fun p hp => by rw [q4 p hp, i3 p hp]⟩
      · show B_M_village_97 F _ N (nI i) = _
        unfold B_M_village_97
        have c1 : (nI nd ≤ nI i) = False := by rw [nI_leI (by omega) (by omega)]; simp; omega
        have g : ∀ j, j < 4 → ard N 109 (nI (4 * i + j)) = some (dr i j) := fun j hj => by rw [ard_nI (by rw [l109]; omega), i2 109 (by omega), d0 j hj]
        have g0 : ard N 109 (nI (4 * i)) = some (dr i 0) := g 0 (by omega)
        simp only [i2 100 (by omega), h18, c1, ↓reduceIte, ix4, nI_1, p2, p3, g0, g 1 (by omega), g 2 (by omega), g 3 (by omega), ob_some, p1]
      · by_cases e : y = i
        · subst e
          rw [addD_at]
          rcases (show j = 0 ∨ j = 1 ∨ j = 2 ∨ j = 3 ∨ j = 4 ∨ j = 5 by omega) with rfl | rfl | rfl | rfl | rfl | rfl
          · rfl
          · rfl
          · rfl
          · rfl
          · exact d4
          · exact d5
        · rw [addD_ne e])
    (fun m N hI => by
      show B_M_village_97 F _ N (nI nd) = _
      unfold B_M_village_97
      rw [hI.2.1 100 (by omega), h18, if_pos (by rw [nI_leI (by omega) (by omega)]; omega)])
    nd 0 F M (by omega) (by omega) ⟨h, fun _ _ => rfl, fun _ _ => rfl⟩
  rw [nI_0] at n1
  exact ⟨N, n1, n2, n3, n4⟩
theorem villM4 {F : Nat} (hF : FB ≤ F) (M : Mem) : ∃ N, L_M_village_155 F F M 1 = some N ∧ (∀ a, a ≠ 101 → N a = M a) ∧ (∀ p, p < 2994 → N 101 p = M 101 p) ∧ ∀ k, k < 3 → N 101 (2994 * (k + 1)) = -1 := by
  have hF' := FBL hF
  have hl : ln 101 = 11976 := by decide
  obtain ⟨N, n1, n0, n2, n3, n4⟩ := lpE (fun m p (N : Mem) => L_M_village_155 F m N (nI p)) (fun p N => 1 ≤ p ∧ (∀ a, a ≠ 101 → N a = M a) ∧ (∀ q, q < 2994 → N 101 q = M 101 q) ∧ ∀ k, k + 1 < p → N 101 (2994 * (k + 1)) = -1) (fun N => some N) 4
    (fun m p N hp hI => by
      obtain ⟨i0, i1, i2, i3⟩ := hI
      refine ⟨up N 101 (2994 * p) (-1), ?_, by omega, fun a h1 => by rw [up_cell h1, i1 a h1], fun q hq => by rw [up_ne (by omega), i2 q hq], fun k hk => ?_⟩
      · show B_M_village_155 F _ N (nI p) = _
        unfold B_M_village_155
        have c1 : ((4 : Int32) ≤ nI p) = False := by rw [show (4 : Int32) = nI 4 from rfl, nI_leI (by omega) (by omega)]; simp; omega
        have ix : (2994 : Int32) * nI p + 0 = nI (2994 * p) := by rw [show (2994 : Int32) = nI 2994 from rfl, pk_mul, Int32.add_zero]
        simp only [c1, ↓reduceIte, ix, ob_some, awr_nI (M := N) (a := 101) (k := 2994 * p) (by rw [hl]; omega), nI_1]
      · by_cases e : k + 1 = p
        · rw [e, up_same]
        · rw [up_ne (by omega), i3 k (by omega)])
    (fun m N hI => by
      show B_M_village_155 F _ N (nI 4) = _
      unfold B_M_village_155
      rw [if_pos (by decide)])
    3 1 F M (by omega) (by omega) ⟨by omega, fun _ _ => rfl, fun _ _ => rfl, fun k hk => absurd hk (by omega)⟩
  have l1 : nI 1 = 1 := rfl
  rw [l1] at n1
  exact ⟨N, n1, n2, n3, fun k hk => n4 k (by omega)⟩
