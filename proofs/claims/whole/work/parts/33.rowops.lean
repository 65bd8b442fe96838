/-! row, lay, at, tear, text, put -/
theorem RelS_upd {M1 M2 N1 N2 : Mem} {b c a most cnt : Nat} (h : ∀ r, r < cnt → StripRel M1 M2 most (b + 1 + 2 * r) c a r) {r : Nat} (h1 : ∀ q, q < cnt → q ≠ r → N1 (b + 1 + 2 * q) = M1 (b + 1 + 2 * q) ∧ N1 (b + 1 + 2 * q + 1) = M1 (b + 1 + 2 * q + 1)) (h2 : ∀ q, q ≠ r → N2 c q = M2 c q) (h3 : ∀ j, (j < most * r ∨ most * r + most ≤ j) → N2 a j = M2 a j) (hs : StripRel N1 N2 most (b + 1 + 2 * r) c a r) : ∀ r, r < cnt → StripRel N1 N2 most (b + 1 + 2 * r) c a r := by
  intro q hq
  by_cases hqr : q = r
  · subst hqr; exact hs
  · obtain ⟨e1, e2⟩ := h1 q hq hqr
    rcases h q hq with ⟨p1, p2⟩ | ⟨n, p0, p1, p2, p3⟩
    · exact Or.inl ⟨by rw [e1]; exact p1, by rw [h2 q hqr]; exact p2⟩
    · refine Or.inr ⟨n, p0, by rw [e1]; exact p1, by rw [h2 q hqr]; exact p2, fun i hi => ?_⟩
      rw [e2, h3 (most * q + i) ?_]
      · exact p3 i hi
      · rcases Nat.lt_or_ge q r with g | g
        · left
          have : most * q + most ≤ most * r := by rw [← Nat.mul_succ]; exact Nat.mul_le_mul_left _ g
          omega
        · right
          have : most * r + most ≤ most * q := by rw [← Nat.mul_succ]; exact Nat.mul_le_mul_left _ (by omega)
          omega
theorem le40 {x : Int32} (h : x ≤ 40) (h0 : 0 ≤ x) : ∃ n : Nat, n ≤ 40 ∧ x = nI n := by
  rcases ixc x (n := 41) (by omega) with g | ⟨-, g⟩ | ⟨j, hj, e⟩
  · rw [i32_lt] at g; rw [i32_le] at h0; have : (0 : Int32).toInt = 0 := rfl; omega
  · rw [i32_le] at g h; have : (40 : Int32).toInt = 40 := rfl; have : (nI 41).toInt = 41 := rfl; omega
  · exact ⟨j, by omega, e⟩
theorem le80 {x : Int32} (h : x ≤ 80) (h0 : 0 ≤ x) : ∃ n : Nat, n ≤ 80 ∧ x = nI n := by
  rcases ixc x (n := 81) (by omega) with g | ⟨-, g⟩ | ⟨j, hj, e⟩
  · rw [i32_lt] at g; rw [i32_le] at h0; have : (0 : Int32).toInt = 0 := rfl; omega
  · rw [i32_le] at g h; have : (80 : Int32).toInt = 80 := rfl; have : (nI 81).toInt = 81 := rfl; omega
  · exact ⟨j, by omega, e⟩
theorem ix40 (r i : Nat) : (40 * nI r) + nI i = nI (40 * r + i) := by rw [lit 40, pk_mul, nI_add]
theorem ix80 (r i : Nat) : (80 * nI r) + nI i = nI (80 * r + i) := by rw [lit 80, pk_mul, nI_add]
theorem makeRow_eq {F : Nat} (hF : FB ≤ F) {M : Mem} {r : Nat} {x : Int32} (hr : r < 6) : M_makeRow F M (nI r) x = some (fillR (up M 103 r x) 104 (40 * r) 40 0) := by
  have hF' := FBL hF
  unfold M_makeRow
  rw [awr_nI (by show r < 6; exact hr)]
  simp only [Option.bind_some]
  have key := lpF (fun m i (M : Mem) => L_M_makeRow_9 F (nI r) m M (nI i)) (fun i M => up M 104 (40 * r + i) 0) (fun M => some M) 40
    (fun m i M hi => by
      show B_M_makeRow_9 F (nI r) _ M (nI i) = _
      unfold B_M_makeRow_9
      rw [if_neg (by rw [lit 40, nI_leI (by omega) (by omega)]; omega), ix40, awr_nI (by show _ < 240; omega)]
      simp only [Option.bind_some]
      rw [nI_1])
    (fun m M => by
      show B_M_makeRow_9 F (nI r) _ M (nI 40) = _
      unfold B_M_makeRow_9
      rw [if_pos (by rw [lit 40, nI_leI (by omega) (by omega)]; omega)])
    40 0 F (up M 103 r x) (by omega) (by omega)
  show ((L_M_makeRow_9 F (nI r) F (up M 103 r x) (nI 0)).bind fun u4 => some u4) = _
  rw [key, fo_fill]
  rfl
/-- a row comes anew on both sides -/
theorem row_rel {M1 M2 : Mem} (hR : Rel M1 M2) {r n : Nat} (hr : r < 6) (hn : n ≤ 40) : Rel (fillR (up M1 (1 + 1 + 2 * r) 1 (nI n)) (1 + 1 + 2 * r + 1) 0 n 0) (fillR (up M2 103 r (nI n)) 104 (40 * r) 40 0) := by
  obtain ⟨⟨a1, a2, a3, a4, a5⟩, hrr, ht, np, nd, D, hc⟩ := hR
  refine ⟨⟨?_, ?_, ?_, ?_, ?_⟩, ?_, RelT_of ht (fun k h h' => by rw [fillR_cell (by omega), up_cell (by omega)]) (by rw [fillR_cell (by decide), up_cell (by decide)]) (by rw [fillR_cell (by decide), up_cell (by decide)]), np, nd, D, RelC_of hc (fun k h => by rw [fillR_cell (by omega), up_cell (by omega)]) (by rw [fillR_cell (by decide), up_cell (by decide)]) (by rw [fillR_cell (by decide), up_cell (by decide)]) (by rw [fillR_cell (by decide), up_cell (by decide)])⟩
  · rw [fillR_cell (by omega), up_cell (by omega), fillR_cell (by decide), up_cell (by decide)]; exact a1
  · rw [fillR_cell (by omega), up_cell (by omega), fillR_cell (by decide), up_cell (by decide)]; exact a2
  · rw [fillR_cell (by omega), up_cell (by omega), fillR_cell (by decide), up_cell (by decide)]; exact a3
  · rw [fillR_cell (by omega), up_cell (by omega), fillR_cell (by decide), up_cell (by decide)]; exact a4
  · intro f h1 h5
    rw [fillR_cell (by omega), up_cell (by omega), fillR_cell (by decide), up_cell (by decide)]; exact a5 f h1 h5
  · refine RelS_upd (b := 1) (c := 103) (a := 104) (most := 40) (cnt := 6) hrr (r := r) (fun q hq hqr => ⟨by rw [fillR_cell (by omega), up_cell (by omega)], by rw [fillR_cell (by omega), up_cell (by omega)]⟩) (fun q hq => by rw [fillR_cell (by decide), up_ne (Or.inr hq)]) (fun j hj => ?_) (Or.inr ⟨n, hn, ?_, ?_, fun i hi => ?_⟩)
    · unfold fillR
      rw [if_neg (by omega), up_cell (by decide)]
    · rw [fillR_cell (by omega), up_same]
    · rw [fillR_cell (by decide), up_same]
    · unfold fillR
      rw [if_pos (by omega), if_pos (by omega)]
theorem i10 : ((1 : Int32) = 0) = False := by decide
theorem ln_row {r : Nat} (hr : r < 6) : ln (1 + 1 + 2 * r + 1) = 40 := by
  have key : ∀ r, r < 6 → ln (1 + 1 + 2 * r + 1) = 40 := by decide +kernel
  exact key r hr
theorem ln_text {r : Nat} (hr : r < 4) : ln (14 + 1 + 2 * r + 1) = 80 := by
  have key : ∀ r, r < 4 → ln (14 + 1 + 2 * r + 1) = 80 := by decide +kernel
  exact key r hr
theorem ref5 {F : Nat} {M1 : Mem} : K_refuse F M1 5 = some (-3, up (up M1 0 10 (nI 5)) 76 5 (M1 76 5 + 1)) := refuse_eq (f := 5) (by omega) (by omega)
theorem ref4 {F : Nat} {M1 : Mem} : K_refuse F M1 4 = some (-3, up (up M1 0 10 (nI 4)) 76 4 (M1 76 4 + 1)) := refuse_eq (f := 4) (by omega) (by omega)
theorem ref3 {F : Nat} {M1 : Mem} : K_refuse F M1 3 = some (-3, up (up M1 0 10 (nI 3)) 76 3 (M1 76 3 + 1)) := refuse_eq (f := 3) (by omega) (by omega)
theorem ref2 {F : Nat} {M1 : Mem} : K_refuse F M1 2 = some (-3, up (up M1 0 10 (nI 2)) 76 2 (M1 76 2 + 1)) := refuse_eq (f := 2) (by omega) (by omega)
theorem ref1 {F : Nat} {M1 : Mem} : K_refuse F M1 1 = some (-3, up (up M1 0 10 (nI 1)) 76 1 (M1 76 1 + 1)) := refuse_eq (f := 1) (by omega) (by omega)
theorem fin5 {F : Nat} {M2 : Mem} : M_find F M2 5 = some (-3, up (up M2 100 10 (nI 5)) 107 5 (M2 107 5 + 1)) := find_eq (f := 5) (by omega) (by omega)
theorem fin4 {F : Nat} {M2 : Mem} : M_find F M2 4 = some (-3, up (up M2 100 10 (nI 4)) 107 4 (M2 107 4 + 1)) := find_eq (f := 4) (by omega) (by omega)
theorem fin3 {F : Nat} {M2 : Mem} : M_find F M2 3 = some (-3, up (up M2 100 10 (nI 3)) 107 3 (M2 107 3 + 1)) := find_eq (f := 3) (by omega) (by omega)
theorem fin2 {F : Nat} {M2 : Mem} : M_find F M2 2 = some (-3, up (up M2 100 10 (nI 2)) 107 2 (M2 107 2 + 1)) := find_eq (f := 2) (by omega) (by omega)
theorem fin1 {F : Nat} {M2 : Mem} : M_find F M2 1 = some (-3, up (up M2 100 10 (nI 1)) 107 1 (M2 107 1 + 1)) := find_eq (f := 1) (by omega) (by omega)
theorem op_row {F : Nat} (hF : FB ≤ F) (M1 M2 : Mem) (a0 : Int32) (a1 : Int32) (hR : Rel M1 M2) : ∃ (r : Int32) (M1' : Mem) (M2' : Mem), K_row F M1 a0 a1 = some (r, M1') ∧ M_row F M2 a0 a1 = some (r, M2') ∧ Rel M1' M2' := by
  unfold K_row M_row
  rcases ixc a0 (n := 6) (by omega) with h | h | ⟨r, hr, rfl⟩
  · simp only [(isRow_no (M1 := M1) (M2 := M2) (F := F) (Or.inl h)).1, (isRow_no (M1 := M1) (M2 := M2) (F := F) (Or.inl h)).2]
    exact ⟨_, _, _, rfl, rfl, hR⟩
  · simp only [(isRow_no (M1 := M1) (M2 := M2) (F := F) (Or.inr h)).1, (isRow_no (M1 := M1) (M2 := M2) (F := F) (Or.inr h)).2]
    exact ⟨_, _, _, rfl, rfl, hR⟩
  · simp only [(isRow_yes (M1 := M1) (M2 := M2) (F := F) hr).1, (isRow_yes (M1 := M1) (M2 := M2) (F := F) hr).2, Option.bind_some, i10, ↓reduceIte]
    by_cases h40 : a1 ≤ 40
    · by_cases h0 : 0 ≤ a1
      · obtain ⟨n, hn, rfl⟩ := le40 h40 h0
        simp only [h40, h0, ↓reduceIte, idx_nI hr (by omega : 6 ≤ 1000000), makeRow_eq hF hr, Option.bind_some, renew_eq hF (ln_row hr) hn (by omega : 40 ≤ 80)]
        exact ⟨_, _, _, rfl, rfl, row_rel hR hr hn⟩
      · simp only [h40, h0, ↓reduceIte, ref5, fin5, Option.bind_some]
        exact ⟨_, _, _, rfl, rfl, refuse_rel hR (by omega) (by omega)⟩
    · simp only [h40, ↓reduceIte]
      exact ⟨_, _, _, rfl, rfl, hR⟩
