/-! lay, at, tear, text, put -/
theorem toInt_pred {n : Nat} (h : n ≤ 100000) : (nI n - 1).toInt = (n : Int) - 1 := pk_sub_toInt (a := n) (b := 1) (by omega) (by omega)
theorem fa_miss {F : Nat} {M : Mem} {k : Nat} {x : Int32} (h : M k 1 = -1) : S_findingAt F M k x = some 1 := by
  simp only [S_findingAt, S_isMissing, h, ↓reduceIte, Option.bind_some, i10]
theorem fa_out {F : Nat} {M : Mem} {k n : Nat} {x : Int32} (hn : n ≤ 80) (h : M k 1 = nI n) (hx : x < 0 ∨ (0 ≤ x ∧ nI n ≤ x)) : S_findingAt F M k x = some 2 := by
  have h1 : (nI n = -1) = False := by simp [nI_m1 (n := n) (by omega)]
  rcases hx with hx | ⟨h0, hx⟩
  · simp only [S_findingAt, S_isMissing, S_hasPlace, h, h1, hx, ↓reduceIte, Option.bind_some]
  · have h2 : (x < 0) = False := by simp; exact h0
    simp only [S_findingAt, S_isMissing, S_hasPlace, h, h1, hx, h2, ↓reduceIte, Option.bind_some]
theorem fa_in {F : Nat} {M : Mem} {k n i : Nat} (hn : n ≤ 80) (h : M k 1 = nI n) (hi : i < n) : S_findingAt F M k (nI i) = some 0 := by
  have h1 : (nI n = -1) = False := by simp [nI_m1 (n := n) (by omega)]
  have h2 : (nI i < 0) = False := by simp [nI_nlt0 (n := i) (by omega)]
  have h3 : (nI n ≤ nI i) = False := by rw [nI_leI (by omega) (by omega)]; simp; omega
  simp only [S_findingAt, S_isMissing, S_hasPlace, h, h1, h2, h3, ↓reduceIte, Option.bind_some, i10]
theorem in_out {F : Nat} {M : Mem} {n : Nat} {x : Int32} (hn : n ≤ 80) (hx : x < 0 ∨ (0 ≤ x ∧ nI n ≤ x)) : M_in F M x.toInt64 0 (nI n - 1).toInt64 = some 0 := by
  rw [in32 _ _ _ _ _ (by decide), i64_wide, toInt_pred (by omega)]
  have e0 : (0 : Int64).toInt = 0 := rfl
  rw [e0]
  rcases hx with hx | ⟨h0, hx⟩
  · rw [i32_lt] at hx; rw [if_pos (show x.toInt < 0 from hx)]
  · rw [i32_le, tI (by omega)] at hx
    rw [if_neg (by omega), if_pos (by omega)]
theorem in_in {F : Nat} {M : Mem} {n i : Nat} (hn : n ≤ 80) (hi : i < n) : M_in F M (nI i).toInt64 0 (nI n - 1).toInt64 = some 1 := by
  rw [in32 _ _ _ _ _ (by decide), i64_wide, toInt_pred (by omega), tI (by omega)]
  have e0 : (0 : Int64).toInt = 0 := rfl
  rw [e0, if_neg (by omega), if_neg (by omega)]
theorem m1_lt : ((0 : Int32) ≤ -1) = False := by decide
theorem nI_ge0' {n : Nat} (h : n < 2147483648) : ((0 : Int32) ≤ nI n) = True := by simp [nI_ge0 h]
theorem refd_miss {F : Nat} {M : Mem} {r : Nat} {x : Int32} (hr : r < 6) (h : M 103 r = -1) : M_refused F M (nI r) x = some (-3, up (up M 100 10 (nI 1)) 107 1 (M 107 1 + 1)) := by
  simp only [M_refused, (isRow_yes (M1 := M) (M2 := M) (F := F) hr).2, Option.bind_some, i10, ↓reduceIte, ard_nI (M := M) (a := 103) (k := r) (by show r < 6; exact hr), h, m1_lt, fin1]
theorem refd_out {F : Nat} {M : Mem} {r n : Nat} {x : Int32} (hr : r < 6) (hn : n ≤ 40) (h : M 103 r = nI n) (hx : x < 0 ∨ (0 ≤ x ∧ nI n ≤ x)) : M_refused F M (nI r) x = some (-3, up (up M 100 10 (nI 2)) 107 2 (M 107 2 + 1)) := by
  simp only [M_refused, (isRow_yes (M1 := M) (M2 := M) (F := F) hr).2, Option.bind_some, i10, ↓reduceIte, ard_nI (M := M) (a := 103) (k := r) (by show r < 6; exact hr), h, nI_ge0' (n := n) (by omega), in_out (F := F) (M := M) (n := n) (x := x) (by omega) hx, fin2]
theorem refd_in {F : Nat} {M : Mem} {r n i : Nat} (hr : r < 6) (hn : n ≤ 40) (h : M 103 r = nI n) (hi : i < n) : M_refused F M (nI r) (nI i) = some (0, M) := by
  simp only [M_refused, (isRow_yes (M1 := M) (M2 := M) (F := F) hr).2, Option.bind_some, i10, ↓reduceIte, ard_nI (M := M) (a := 103) (k := r) (by show r < 6; exact hr), h, nI_ge0' (n := n) (by omega), in_in (F := F) (M := M) (n := n) (by omega) hi]
theorem refd_no {F : Nat} {M : Mem} {x y : Int32} (h : M_isRow F M x = some 0) : M_refused F M x y = some (-1, M) := by
  simp only [M_refused, h, Option.bind_some, ↓reduceIte]
theorem i30 : ((-3 : Int32) = 0) = False := by decide
theorem im10 : ((-1 : Int32) = 0) = False := by decide
theorem i20 : ((2 : Int32) = 0) = False := by decide
theorem op_at {F : Nat} (hF : FB ≤ F) (M1 M2 : Mem) (a0 : Int32) (a1 : Int32) (hR : Rel M1 M2) : ∃ (r : Int32) (M1' : Mem) (M2' : Mem), K_at F M1 a0 a1 = some (r, M1') ∧ M_at F M2 a0 a1 = some (r, M2') ∧ Rel M1' M2' := by
  have hno : ∀ h : (a0 < 0 ∨ (0 ≤ a0 ∧ nI 6 ≤ a0)), ∃ (r : Int32) (M1' : Mem) (M2' : Mem), K_at F M1 a0 a1 = some (r, M1') ∧ M_at F M2 a0 a1 = some (r, M2') ∧ Rel M1' M2' := by
    intro h
    have e := isRow_no (M1 := M1) (M2 := M2) (F := F) h
    simp only [K_at, M_at, e.1, refd_no e.2, Option.bind_some, ↓reduceIte, im10]
    exact ⟨_, _, _, rfl, rfl, hR⟩
  rcases ixc a0 (n := 6) (by omega) with h | h | ⟨r, hr, rfl⟩
  · exact hno (Or.inl h)
  · exact hno (Or.inr h)
  · have e := isRow_yes (M1 := M1) (M2 := M2) (F := F) hr
    rcases hR.2.1 r hr with ⟨p1, p2⟩ | ⟨n, hn, p1, p2, p3⟩
    · simp only [K_at, M_at, e.1, refd_miss hr p2, fa_miss p1, idx_nI hr (by omega : 6 ≤ 1000000), Option.bind_some, ↓reduceIte, i10, i30, ref1]
      exact ⟨_, _, _, rfl, rfl, refuse_rel hR (by omega) (by omega)⟩
    · have hout : ∀ h : (a1 < 0 ∨ (0 ≤ a1 ∧ nI n ≤ a1)), ∃ (q : Int32) (M1' : Mem) (M2' : Mem), K_at F M1 (nI r) a1 = some (q, M1') ∧ M_at F M2 (nI r) a1 = some (q, M2') ∧ Rel M1' M2' := by
        intro h
        simp only [K_at, M_at, e.1, refd_out hr hn p2 h, fa_out (by omega : n ≤ 80) p1 h, idx_nI hr (by omega : 6 ≤ 1000000), Option.bind_some, ↓reduceIte, i10, i20, i30, ref2]
        exact ⟨_, _, _, rfl, rfl, refuse_rel hR (by omega) (by omega)⟩
      rcases ixc a1 (n := n) (by omega) with h | h | ⟨i, hi, rfl⟩
      · exact hout (Or.inl h)
      · exact hout (Or.inr h)
      · have hl : i < ln (1 + 1 + 2 * r + 1) := by rw [ln_row hr]; omega
        have hl2 : 40 * r + i < ln 104 := by show _ < 240; omega
        simp only [K_at, M_at, e.1, refd_in hr hn p2 hi, fa_in (by omega : n ≤ 80) p1 hi, idx_nI hr (by omega : 6 ≤ 1000000), Option.bind_some, ↓reduceIte, i10, ard_nI hl, ix40, ard_nI hl2, K_tell, M_tell, p3 i hi]
        exact ⟨_, _, _, rfl, rfl, tell_rel hR _⟩
/-- a place of a strip gets a value on both sides -/
theorem lay_rel {M1 M2 : Mem} (hR : Rel M1 M2) {r n i : Nat} (v : Int32) (hr : r < 6) (hn : n ≤ 40) (hi : i < n) (p1 : M1 (1 + 1 + 2 * r) 1 = nI n) (p2 : M2 103 r = nI n) (p3 : ∀ i, i < n → M1 (1 + 1 + 2 * r + 1) i = M2 104 (40 * r + i)) : Rel (up M1 (1 + 1 + 2 * r + 1) i v) (up M2 104 (40 * r + i) v) := by
  obtain ⟨⟨a1, a2, a3, a4, a5⟩, hrr, ht, np, nd, D, hc⟩ := hR
  refine ⟨⟨?_, ?_, ?_, ?_, ?_⟩, ?_, RelT_of ht (fun k h h' => by rw [up_cell (by omega)]) (by rw [up_cell (by decide)]) (by rw [up_cell (by decide)]), np, nd, D, RelC_of hc (fun k h => by rw [up_cell (by omega)]) (by rw [up_cell (by decide)]) (by rw [up_cell (by decide)]) (by rw [up_cell (by decide)])⟩
  · rw [up_cell (by omega), up_cell (by decide)]; exact a1
  · rw [up_cell (by omega), up_cell (by decide)]; exact a2
  · rw [up_cell (by omega), up_cell (by decide)]; exact a3
  · rw [up_cell (by omega), up_cell (by decide)]; exact a4
  · intro f h1 h5
    rw [up_cell (by omega), up_cell (by decide)]; exact a5 f h1 h5
  · refine RelS_upd (b := 1) (c := 103) (a := 104) (most := 40) (cnt := 6) hrr (r := r) (fun q hq hqr => ⟨by rw [up_cell (by omega)], by rw [up_cell (by omega)]⟩) (fun q hq => by rw [up_cell (by decide)]) (fun j hj => by rw [up_ne (Or.inr (by omega))]) (Or.inr ⟨n, hn, ?_, ?_, fun j hj => ?_⟩)
    · rw [up_cell (by omega)]; exact p1
    · rw [up_cell (by decide)]; exact p2
    · simp only [up_eqn]
      by_cases hji : j = i
      · subst hji; simp
      · rw [if_neg (by omega), if_neg (by omega)]; exact p3 j hj
theorem op_lay {F : Nat} (hF : FB ≤ F) (M1 M2 : Mem) (a0 : Int32) (a1 : Int32) (a2 : Int32) (hR : Rel M1 M2) : ∃ (r : Int32) (M1' : Mem) (M2' : Mem), K_lay F M1 a0 a1 a2 = some (r, M1') ∧ M_lay F M2 a0 a1 a2 = some (r, M2') ∧ Rel M1' M2' := by
  have hno : ∀ h : (a0 < 0 ∨ (0 ≤ a0 ∧ nI 6 ≤ a0)), ∃ (r : Int32) (M1' : Mem) (M2' : Mem), K_lay F M1 a0 a1 a2 = some (r, M1') ∧ M_lay F M2 a0 a1 a2 = some (r, M2') ∧ Rel M1' M2' := by
    intro h
    have e := isRow_no (M1 := M1) (M2 := M2) (F := F) h
    simp only [K_lay, M_lay, e.1, refd_no e.2, Option.bind_some, ↓reduceIte, im10]
    exact ⟨_, _, _, rfl, rfl, hR⟩
  rcases ixc a0 (n := 6) (by omega) with h | h | ⟨r, hr, rfl⟩
  · exact hno (Or.inl h)
  · exact hno (Or.inr h)
  · have e := isRow_yes (M1 := M1) (M2 := M2) (F := F) hr
    rcases hR.2.1 r hr with ⟨p1, p2⟩ | ⟨n, hn, p1, p2, p3⟩
    · simp only [K_lay, M_lay, e.1, refd_miss hr p2, fa_miss p1, idx_nI hr (by omega : 6 ≤ 1000000), Option.bind_some, ↓reduceIte, i10, i30, ref1]
      exact ⟨_, _, _, rfl, rfl, refuse_rel hR (by omega) (by omega)⟩
    · have hout : ∀ h : (a1 < 0 ∨ (0 ≤ a1 ∧ nI n ≤ a1)), ∃ (q : Int32) (M1' : Mem) (M2' : Mem), K_lay F M1 (nI r) a1 a2 = some (q, M1') ∧ M_lay F M2 (nI r) a1 a2 = some (q, M2') ∧ Rel M1' M2' := by
        intro h
        simp only [K_lay, M_lay, e.1, refd_out hr hn p2 h, fa_out (by omega : n ≤ 80) p1 h, idx_nI hr (by omega : 6 ≤ 1000000), Option.bind_some, ↓reduceIte, i10, i20, i30, ref2]
        exact ⟨_, _, _, rfl, rfl, refuse_rel hR (by omega) (by omega)⟩
      rcases ixc a1 (n := n) (by omega) with h | h | ⟨i, hi, rfl⟩
      · exact hout (Or.inl h)
      · exact hout (Or.inr h)
      · have hl : i < ln (1 + 1 + 2 * r + 1) := by rw [ln_row hr]; omega
        have hl2 : 40 * r + i < ln 104 := by show _ < 240; omega
        simp only [K_lay, M_lay, e.1, refd_in hr hn p2 hi, fa_in (by omega : n ≤ 80) p1 hi, idx_nI hr (by omega : 6 ≤ 1000000), Option.bind_some, ↓reduceIte, i10, ard_nI hl, ix40, ard_nI hl2, awr_nI hl, awr_nI hl2, K_tell, M_tell, p3 i hi]
        exact ⟨_, _, _, rfl, rfl, tell_rel (lay_rel hR a2 hr hn hi p1 p2 p3) _⟩
theorem miss_no {F : Nat} {M : Mem} {k n : Nat} (hn : n ≤ 80) (h : M k 1 = nI n) : S_isMissing F M k = some 0 := by
  have h1 : (nI n = -1) = False := by simp [nI_m1 (n := n) (by omega)]
  simp only [S_isMissing, h, h1, ↓reduceIte]
theorem miss_yes {F : Nat} {M : Mem} {k : Nat} (h : M k 1 = -1) : S_isMissing F M k = some 1 := by
  simp only [S_isMissing, h, ↓reduceIte]
theorem tear_rel {M1 M2 : Mem} (hR : Rel M1 M2) {r : Nat} (hr : r < 6) : Rel (up M1 (1 + 1 + 2 * r) 1 (-1)) (up M2 103 r (-1)) := by
  obtain ⟨⟨a1, a2, a3, a4, a5⟩, hrr, ht, np, nd, D, hc⟩ := hR
  refine ⟨⟨?_, ?_, ?_, ?_, ?_⟩, ?_, RelT_of ht (fun k h h' => by rw [up_cell (by omega)]) (by rw [up_cell (by decide)]) (by rw [up_cell (by decide)]), np, nd, D, RelC_of hc (fun k h => by rw [up_cell (by omega)]) (by rw [up_cell (by decide)]) (by rw [up_cell (by decide)]) (by rw [up_cell (by decide)])⟩
  · rw [up_cell (by omega), up_cell (by decide)]; exact a1
  · rw [up_cell (by omega), up_cell (by decide)]; exact a2
  · rw [up_cell (by omega), up_cell (by decide)]; exact a3
  · rw [up_cell (by omega), up_cell (by decide)]; exact a4
  · intro f h1 h5
    rw [up_cell (by omega), up_cell (by decide)]; exact a5 f h1 h5
  · exact RelS_upd (b := 1) (c := 103) (a := 104) (most := 40) (cnt := 6) hrr (r := r) (fun q hq hqr => ⟨by rw [up_cell (by omega)], by rw [up_cell (by omega)]⟩) (fun q hq => by rw [up_ne (Or.inr hq)]) (fun j hj => by rw [up_cell (by decide)]) (Or.inl ⟨up_same _ _ _ _, up_same _ _ _ _⟩)
theorem op_tear {F : Nat} (hF : FB ≤ F) (M1 M2 : Mem) (a0 : Int32) (hR : Rel M1 M2) : ∃ (r : Int32) (M1' : Mem) (M2' : Mem), K_tear F M1 a0 = some (r, M1') ∧ M_tear F M2 a0 = some (r, M2') ∧ Rel M1' M2' := by
  have hno : ∀ h : (a0 < 0 ∨ (0 ≤ a0 ∧ nI 6 ≤ a0)), ∃ (r : Int32) (M1' : Mem) (M2' : Mem), K_tear F M1 a0 = some (r, M1') ∧ M_tear F M2 a0 = some (r, M2') ∧ Rel M1' M2' := by
    intro h
    have e := isRow_no (M1 := M1) (M2 := M2) (F := F) h
    simp only [K_tear, M_tear, e.1, e.2, Option.bind_some, ↓reduceIte]
    exact ⟨_, _, _, rfl, rfl, hR⟩
  rcases ixc a0 (n := 6) (by omega) with h | h | ⟨r, hr, rfl⟩
  · exact hno (Or.inl h)
  · exact hno (Or.inr h)
  · have e := isRow_yes (M1 := M1) (M2 := M2) (F := F) hr
    have hl : r < ln 103 := hr
    rcases hR.2.1 r hr with ⟨p1, p2⟩ | ⟨n, hn, p1, p2, p3⟩
    · simp only [K_tear, M_tear, e.1, e.2, miss_yes p1, ard_nI hl, p2, m1_lt, idx_nI hr (by omega : 6 ≤ 1000000), Option.bind_some, ↓reduceIte, i10, ref1, fin1]
      exact ⟨_, _, _, rfl, rfl, refuse_rel hR (by omega) (by omega)⟩
    · simp only [K_tear, M_tear, e.1, e.2, miss_no (by omega : n ≤ 80) p1, ard_nI hl, awr_nI hl, p2, nI_ge0' (n := n) (by omega), idx_nI hr (by omega : 6 ≤ 1000000), Option.bind_some, ↓reduceIte, i10]
      exact ⟨_, _, _, rfl, rfl, tear_rel hR hr⟩
theorem mtext_eq {F : Nat} (hF : FB ≤ F) {M : Mem} {t : Nat} {x : Int32} (ht : t < 4) : L_M_text_34 F (nI t) x F (up M 105 t x) 0 = some (fillR (up M 105 t x) 106 (80 * t) 80 32) := by
  have hF' := FBL hF
  have key := lpF (fun m i (M : Mem) => L_M_text_34 F (nI t) x m M (nI i)) (fun i M => up M 106 (80 * t + i) 32) (fun M => some M) 80
    (fun m i M hi => by
      show B_M_text_34 F (nI t) x _ M (nI i) = _
      unfold B_M_text_34
      rw [if_neg (by rw [lit 80, nI_leI (by omega) (by omega)]; omega), ix80, awr_nI (by show _ < 320; omega)]
      simp only [Option.bind_some]
      rw [nI_1])
    (fun m M => by
      show B_M_text_34 F (nI t) x _ M (nI 80) = _
      unfold B_M_text_34
      rw [if_pos (by rw [lit 80, nI_leI (by omega) (by omega)]; omega)])
    80 0 F (up M 105 t x) (by omega) (by omega)
  show L_M_text_34 F (nI t) x F (up M 105 t x) (nI 0) = _
  rw [key, fo_fill]
theorem text_rel {M1 M2 : Mem} (hR : Rel M1 M2) {r n : Nat} (hr : r < 4) (hn : n ≤ 80) : Rel (fillR (up M1 (14 + 1 + 2 * r) 1 (nI n)) (14 + 1 + 2 * r + 1) 0 n 32) (fillR (up M2 105 r (nI n)) 106 (80 * r) 80 32) := by
  obtain ⟨⟨a1, a2, a3, a4, a5⟩, hrr, ht, np, nd, D, hc⟩ := hR
  refine ⟨⟨?_, ?_, ?_, ?_, ?_⟩, RelR_of hrr (fun k h h' => by rw [fillR_cell (by omega), up_cell (by omega)]) (by rw [fillR_cell (by decide), up_cell (by decide)]) (by rw [fillR_cell (by decide), up_cell (by decide)]), ?_, np, nd, D, RelC_of hc (fun k h => by rw [fillR_cell (by omega), up_cell (by omega)]) (by rw [fillR_cell (by decide), up_cell (by decide)]) (by rw [fillR_cell (by decide), up_cell (by decide)]) (by rw [fillR_cell (by decide), up_cell (by decide)])⟩
  · rw [fillR_cell (by omega), up_cell (by omega), fillR_cell (by decide), up_cell (by decide)]; exact a1
  · rw [fillR_cell (by omega), up_cell (by omega), fillR_cell (by decide), up_cell (by decide)]; exact a2
  · rw [fillR_cell (by omega), up_cell (by omega), fillR_cell (by decide), up_cell (by decide)]; exact a3
  · rw [fillR_cell (by omega), up_cell (by omega), fillR_cell (by decide), up_cell (by decide)]; exact a4
  · intro f h1 h5
    rw [fillR_cell (by omega), up_cell (by omega), fillR_cell (by decide), up_cell (by decide)]; exact a5 f h1 h5
  · refine RelS_upd (b := 14) (c := 105) (a := 106) (most := 80) (cnt := 4) ht (r := r) (fun q hq hqr => ⟨by rw [fillR_cell (by omega), up_cell (by omega)], by rw [fillR_cell (by omega), up_cell (by omega)]⟩) (fun q hq => by rw [fillR_cell (by decide), up_ne (Or.inr hq)]) (fun j hj => ?_) (Or.inr ⟨n, hn, ?_, ?_, fun i hi => ?_⟩)
    · unfold fillR
      rw [if_neg (by omega), up_cell (by decide)]
    · rw [fillR_cell (by omega), up_same]
    · rw [fillR_cell (by decide), up_same]
    · unfold fillR
      rw [if_pos (by omega), if_pos (by omega)]
theorem op_text {F : Nat} (hF : FB ≤ F) (M1 M2 : Mem) (a0 : Int32) (a1 : Int32) (hR : Rel M1 M2) : ∃ (r : Int32) (M1' : Mem) (M2' : Mem), K_text F M1 a0 a1 = some (r, M1') ∧ M_text F M2 a0 a1 = some (r, M2') ∧ Rel M1' M2' := by
  have hno : ∀ h : (a0 < 0 ∨ (0 ≤ a0 ∧ nI 4 ≤ a0)), ∃ (r : Int32) (M1' : Mem) (M2' : Mem), K_text F M1 a0 a1 = some (r, M1') ∧ M_text F M2 a0 a1 = some (r, M2') ∧ Rel M1' M2' := by
    intro h
    have e := isText_no (M1 := M1) (M2 := M2) (F := F) h
    simp only [K_text, M_text, e.1, e.2, Option.bind_some, ↓reduceIte]
    exact ⟨_, _, _, rfl, rfl, hR⟩
  rcases ixc a0 (n := 4) (by omega) with h | h | ⟨r, hr, rfl⟩
  · exact hno (Or.inl h)
  · exact hno (Or.inr h)
  · have e := isText_yes (M1 := M1) (M2 := M2) (F := F) hr
    by_cases h40 : a1 ≤ 80
    · by_cases h0 : 0 ≤ a1
      · obtain ⟨n, hn, rfl⟩ := le80 h40 h0
        simp only [K_text, M_text, e.1, e.2, i10, h40, h0, ↓reduceIte, idx_nI hr (by omega : 4 ≤ 1000000), Option.bind_some, awr_nI (M := M2) (a := 105) (k := r) hr, mtext_eq hF hr, renew_eq hF (ln_text hr) hn (by omega : 80 ≤ 80)]
        exact ⟨_, _, _, rfl, rfl, text_rel hR hr hn⟩
      · simp only [K_text, M_text, e.1, e.2, i10, h40, h0, ↓reduceIte, ref5, fin5, Option.bind_some]
        exact ⟨_, _, _, rfl, rfl, refuse_rel hR (by omega) (by omega)⟩
    · simp only [K_text, M_text, e.1, e.2, i10, Option.bind_some, h40, ↓reduceIte]
      exact ⟨_, _, _, rfl, rfl, hR⟩
theorem put_rel {M1 M2 : Mem} (hR : Rel M1 M2) {r n i : Nat} (v : Int32) (hr : r < 4) (hn : n ≤ 80) (hi : i < n) (p1 : M1 (14 + 1 + 2 * r) 1 = nI n) (p2 : M2 105 r = nI n) (p3 : ∀ i, i < n → M1 (14 + 1 + 2 * r + 1) i = M2 106 (80 * r + i)) : Rel (up M1 (14 + 1 + 2 * r + 1) i v) (up M2 106 (80 * r + i) v) := by
  obtain ⟨⟨a1, a2, a3, a4, a5⟩, hrr, ht, np, nd, D, hc⟩ := hR
  refine ⟨⟨?_, ?_, ?_, ?_, ?_⟩, RelR_of hrr (fun k h h' => by rw [up_cell (by omega)]) (by rw [up_cell (by decide)]) (by rw [up_cell (by decide)]), ?_, np, nd, D, RelC_of hc (fun k h => by rw [up_cell (by omega)]) (by rw [up_cell (by decide)]) (by rw [up_cell (by decide)]) (by rw [up_cell (by decide)])⟩
  · rw [up_cell (by omega), up_cell (by decide)]; exact a1
  · rw [up_cell (by omega), up_cell (by decide)]; exact a2
  · rw [up_cell (by omega), up_cell (by decide)]; exact a3
  · rw [up_cell (by omega), up_cell (by decide)]; exact a4
  · intro f h1 h5
    rw [up_cell (by omega), up_cell (by decide)]; exact a5 f h1 h5
  · refine RelS_upd (b := 14) (c := 105) (a := 106) (most := 80) (cnt := 4) ht (r := r) (fun q hq hqr => ⟨by rw [up_cell (by omega)], by rw [up_cell (by omega)]⟩) (fun q hq => by rw [up_cell (by decide)]) (fun j hj => by rw [up_ne (Or.inr (by omega))]) (Or.inr ⟨n, hn, ?_, ?_, fun j hj => ?_⟩)
    · rw [up_cell (by omega)]; exact p1
    · rw [up_cell (by decide)]; exact p2
    · simp only [up_eqn]
      by_cases hji : j = i
      · subst hji; simp
      · rw [if_neg (by omega), if_neg (by omega)]; exact p3 j hj
theorem op_put {F : Nat} (hF : FB ≤ F) (M1 M2 : Mem) (a0 : Int32) (a1 : Int32) (a2 : Int32) (hR : Rel M1 M2) : ∃ (r : Int32) (M1' : Mem) (M2' : Mem), K_put F M1 a0 a1 a2 = some (r, M1') ∧ M_put F M2 a0 a1 a2 = some (r, M2') ∧ Rel M1' M2' := by
  have hno : ∀ h : (a0 < 0 ∨ (0 ≤ a0 ∧ nI 4 ≤ a0)), ∃ (r : Int32) (M1' : Mem) (M2' : Mem), K_put F M1 a0 a1 a2 = some (r, M1') ∧ M_put F M2 a0 a1 a2 = some (r, M2') ∧ Rel M1' M2' := by
    intro h
    have e := isText_no (M1 := M1) (M2 := M2) (F := F) h
    simp only [K_put, M_put, e.1, e.2, Option.bind_some, ↓reduceIte]
    exact ⟨_, _, _, rfl, rfl, hR⟩
  rcases ixc a0 (n := 4) (by omega) with h | h | ⟨r, hr, rfl⟩
  · exact hno (Or.inl h)
  · exact hno (Or.inr h)
  · have e := isText_yes (M1 := M1) (M2 := M2) (F := F) hr
    have hl0 : r < ln 105 := hr
    rcases hR.2.2.1 r hr with ⟨p1, p2⟩ | ⟨n, hn, p1, p2, p3⟩
    · simp only [K_put, M_put, e.1, e.2, ard_nI hl0, p2, m1_lt, fa_miss p1, idx_nI hr (by omega : 4 ≤ 1000000), Option.bind_some, ↓reduceIte, i10, ref1, fin1]
      exact ⟨_, _, _, rfl, rfl, refuse_rel hR (by omega) (by omega)⟩
    · have hout : ∀ h : (a1 < 0 ∨ (0 ≤ a1 ∧ nI n ≤ a1)), ∃ (q : Int32) (M1' : Mem) (M2' : Mem), K_put F M1 (nI r) a1 a2 = some (q, M1') ∧ M_put F M2 (nI r) a1 a2 = some (q, M2') ∧ Rel M1' M2' := by
        intro h
        simp only [K_put, M_put, e.1, e.2, ard_nI hl0, p2, nI_ge0' (n := n) (by omega), in_out (F := F) (M := M2) (n := n) (x := a1) hn h, fa_out hn p1 h, idx_nI hr (by omega : 4 ≤ 1000000), Option.bind_some, ↓reduceIte, i10, i20, ref2, fin2]
        exact ⟨_, _, _, rfl, rfl, refuse_rel hR (by omega) (by omega)⟩
      rcases ixc a1 (n := n) (by omega) with h | h | ⟨i, hi, rfl⟩
      · exact hout (Or.inl h)
      · exact hout (Or.inr h)
      · have hl : i < ln (14 + 1 + 2 * r + 1) := by rw [ln_text hr]; omega
        have hl2 : 80 * r + i < ln 106 := by show _ < 320; omega
        simp only [K_put, M_put, e.1, e.2, ard_nI hl0, p2, nI_ge0' (n := n) (by omega), in_in (F := F) (M := M2) (n := n) hn hi, fa_in hn p1 hi, idx_nI hr (by omega : 4 ≤ 1000000), Option.bind_some, ↓reduceIte, i10, ard_nI hl, ix80, ard_nI hl2, awr_nI hl, awr_nI hl2, p3 i hi]
        exact ⟨_, _, _, rfl, rfl, put_rel hR _ hr hn hi p1 p2 p3⟩
