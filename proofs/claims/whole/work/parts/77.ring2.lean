/-! ring: its row -/
theorem rowset_rel {M1 M2 N1 N2 : Mem} (hR : Rel M1 M2) {r n : Nat} (hr : r < 6) (hn : n ≤ 40) (f1 : ∀ a, a ≠ 1 + 1 + 2 * r → a ≠ 1 + 1 + 2 * r + 1 → N1 a = M1 a) (f2 : ∀ a, a ≠ 103 → a ≠ 104 → N2 a = M2 a) (g1 : ∀ q, q ≠ r → N2 103 q = M2 103 q) (g2 : ∀ j, (j < 40 * r ∨ 40 * r + 40 ≤ j) → N2 104 j = M2 104 j) (e1 : N1 (1 + 1 + 2 * r) 1 = nI n) (e2 : N2 103 r = nI n) (e3 : ∀ i, i < n → N1 (1 + 1 + 2 * r + 1) i = N2 104 (40 * r + i)) : Rel N1 N2 := by
  obtain ⟨⟨a1, a2, a3, a4, a5⟩, hrr, htt, np, nd, D, hc⟩ := hR
  refine ⟨⟨?_, ?_, ?_, ?_, ?_⟩, ?_, RelT_of htt (fun k h h' => f1 k (by omega) (by omega)) (f2 _ (by decide) (by decide)) (f2 _ (by decide) (by decide)), np, nd, D, RelC_of hc (fun k h => f1 k (by omega) (by omega)) (by rw [f2 _ (by decide) (by decide)]) (f2 _ (by decide) (by decide)) (f2 _ (by decide) (by decide))⟩
  · rw [f1 _ (by omega) (by omega), f2 _ (by decide) (by decide)]; exact a1
  · rw [f1 _ (by omega) (by omega), f2 _ (by decide) (by decide)]; exact a2
  · rw [f1 _ (by omega) (by omega), f2 _ (by decide) (by decide)]; exact a3
  · rw [f1 _ (by omega) (by omega), f2 _ (by decide) (by decide)]; exact a4
  · intro f g1 g5
    rw [f1 _ (by omega) (by omega), f2 _ (by decide) (by decide)]; exact a5 f g1 g5
  · exact RelS_upd (b := 1) (c := 103) (a := 104) (most := 40) (cnt := 6) hrr (r := r) (fun q hq hqr => ⟨f1 _ (by omega) (by omega), f1 _ (by omega) (by omega)⟩) g1 g2 (Or.inr ⟨n, hn, e1, e2, e3⟩)
theorem ringCopy_M {F : Nat} (hF : FB ≤ F) {M : Mem} {c : List Nat} {r : Nat} (hr : r < 6) (hl : c.length ≤ 6) (h1 : M 100 23 = nI c.length) (h2 : PXc 112 M c) : ∃ N, L_M_ring_45 F (nI r) F M 0 = some N ∧ (∀ j, j < c.length → N 104 (40 * r + j) = nI (el c j)) ∧ (∀ j, (j < 40 * r ∨ 40 * r + 40 ≤ j) → N 104 j = M 104 j) ∧ ∀ a, a ≠ 104 → N a = M a := by
  have hF' := FBL hF
  obtain ⟨N, n1, n2, n3, n4⟩ := lpE (fun m k (N : Mem) => L_M_ring_45 F (nI r) m N (nI k)) (fun k N => (∀ j, j < k → N 104 (40 * r + j) = nI (el c j)) ∧ (∀ j, (j < 40 * r ∨ 40 * r + 40 ≤ j) → N 104 j = M 104 j) ∧ ∀ a, a ≠ 104 → N a = M a) (fun N => some N) c.length
    (fun m k N hk hI => by
      obtain ⟨i1, i2, i3⟩ := hI
      refine ⟨up N 104 (40 * r + k) (nI (el c k)), ?_, fun j hj => ?_, fun j hj => by rw [up_ne (by omega), i2 j hj], fun a ha => by rw [up_cell ha, i3 a ha]⟩
      · show B_M_ring_45 F (nI r) _ N (nI k) = _
        unfold B_M_ring_45
        have c1 : (nI c.length ≤ nI k) = False := by rw [nI_leI (by omega) (by omega)]; simp; omega
        have e : N 112 k = nI (el c k) := by rw [i3 112 (by omega), h2 k hk]
        simp only [i3 100 (by omega), h1, c1, ↓reduceIte, ard_nI (M := N) (a := 112) (k := k) (by show k < 6; omega), ob_some, e, ix40, awr_nI (M := N) (a := 104) (k := 40 * r + k) (by show _ < 240; omega), nI_1]
      · by_cases e : j = k
        · subst e
          rw [up_same]
        · rw [up_ne (by omega), i1 j (by omega)])
    (fun m N hI => by
      show B_M_ring_45 F (nI r) _ N (nI c.length) = _
      unfold B_M_ring_45
      rw [hI.2.2 100 (by omega), h1, if_pos (by rw [nI_leI (by omega) (by omega)]; omega)])
    c.length 0 F M (by omega) (by omega) ⟨fun j hj => absurd hj (by omega), fun _ _ => rfl, fun _ _ => rfl⟩
  rw [nI_0] at n1
  exact ⟨N, n1, n2, n3, n4⟩
theorem op_ring {F : Nat} (hF : FB ≤ F) (M1 M2 : Mem) (a0 : Int32) (a1 : Int32) (hR : Rel M1 M2) : ∃ (r : Int32) (M1' : Mem) (M2' : Mem), K_ring F M1 a0 a1 = some (r, M1') ∧ M_ring F M2 a0 a1 = some (r, M2') ∧ Rel M1' M2' := by
  obtain ⟨np, nd, D, hc⟩ := hR.2.2.2
  obtain ⟨kn, dr, hx, hm, hg, -, -⟩ := hc.views
  rcases ringSort (F := F) (M1 := M1) (M2 := M2) a0 with ⟨e1, e2⟩ | ⟨-, e1, e2⟩
  · exact ⟨-1, M1, M2, by simp only [K_ring, e1, ob_some, ↓reduceIte], by simp only [M_ring, e2, ob_some, ↓reduceIte], hR⟩
  have hno : ∀ h : (a1 < 0 ∨ (0 ≤ a1 ∧ nI 6 ≤ a1)), ∃ (r : Int32) (M1' : Mem) (M2' : Mem), K_ring F M1 a0 a1 = some (r, M1') ∧ M_ring F M2 a0 a1 = some (r, M2') ∧ Rel M1' M2' := by
    intro h
    have e := isRow_no (M1 := M1) (M2 := M2) (F := F) h
    simp only [K_ring, M_ring, e1, e2, e.1, e.2, ob_some, ↓reduceIte, i10]
    exact ⟨_, _, _, rfl, rfl, hR⟩
  rcases ixc a1 (n := 6) (by omega) with h | h | ⟨r, hr, rfl⟩
  · exact hno (Or.inl h)
  · exact hno (Or.inr h)
  have e := isRow_yes (M1 := M1) (M2 := M2) (F := F) hr
  have lk := LK_of a0 hg.2.1 hg.2.2.2.1
  have gd := Gd_of a0 hg.2.1 hg.2.2.1 hg.2.2.2.1
  have hlen := rest_len2 gd
  obtain ⟨N1, n1, n2, n3⟩ := rings_X hF (Or.inl rfl) hx lk gd
  obtain ⟨B, b1, b2, -, b3, b4⟩ := begin_M hF a0 hm hg
  obtain ⟨N2, m1, m2, m3, m4, m5, m6, m7⟩ := layBest_M hF (LK0_of lk) gd b2
  generalize hRr : rest (gOf a0 dr) nd [] 0 = R at hlen n2 m1 m3 m4 m5
  have hrel : Rel N1 N2 := by
    refine Rel_scr hR (fun a h0 h => n3 a (by omega)) (fun b hb => by rw [n3 0 (by omega)]) (fun a h h' => by rw [m6 a (by omega) (by omega) (by omega), b3 a (by omega) (by omega)]) (fun b hb => by rw [m7 b (by omega) (by omega) (by omega), b4 b (by omega)]) ?_
    rw [n3 0 (by omega), m7 7 (by omega) (by omega) (by omega), b4 7 (by omega)]
    exact hR.1.2.1
  by_cases q : R = []
  · refine ⟨-9, N1, N2, ?_, ?_, hrel⟩
    · have z : N1 66 0 = 0 := by rw [n2.1, q]; rfl
      simp only [K_ring, e1, e.1, ob_some, i10, ↓reduceIte, n1, z]
    · simp only [M_ring, e2, e.2, ob_some, i10, ↓reduceIte, b1, m1, q]
  · have hb := m5 q
    have hl6 := n2.2.2.1
    have hl3 := (m4 hb).2
    obtain ⟨x2, x3, x4⟩ := n2.2.2.2.1 hb
    obtain ⟨y1, y2⟩ := m3.2 hb
    have z : (N1 66 0 = 0) = False := by
      rw [n2.1, ← nI_0, nI_eq (by omega) (by omega)]
      simp [List.length_eq_zero_iff, q]
    generalize hbb : bst (gOf a0 dr) R = b at hb hl6 hl3 x2 x3 x4 y1 y2 m3
    have ac := acp_eq (M := fillR (up N1 (1 + 1 + 2 * r) 1 (nI b.length)) (1 + 1 + 2 * r + 1) 0 b.length 0) (a := 67) (b := 1 + 1 + 2 * r + 1) (i := 0) (j := 0) (n := b.length) (by show 0 + b.length ≤ 6; omega) (by rw [ln_row hr]; omega)
    rw [nI_0] at ac
    have fx : ∀ a, a ≠ 1 + 1 + 2 * r → a ≠ 1 + 1 + 2 * r + 1 → fillR (up N1 (1 + 1 + 2 * r) 1 (nI b.length)) (1 + 1 + 2 * r + 1) 0 b.length 0 a = N1 a := fun a h h' => by rw [fillR_cell h', up_cell h]
    have w0 : ∀ a, a ≠ 104 → fillR (up N2 103 r (nI b.length)) 104 (40 * r) 40 0 a = up N2 103 r (nI b.length) a := fun a h => fillR_cell h
    obtain ⟨Q, q1, q2, q3, q4⟩ := ringCopy_M hF (M := fillR (up N2 103 r (nI b.length)) 104 (40 * r) 40 0) (c := b) hr hl6 (by rw [w0 100 (by omega), up_cell (by omega), m3.1]) (PXc_of y2 (by rw [w0 112 (by omega), up_cell (by omega)]))
    have rx : ∀ a, a ≠ 1 + 1 + 2 * r + 1 → upR (fillR (up N1 (1 + 1 + 2 * r) 1 (nI b.length)) (1 + 1 + 2 * r + 1) 0 b.length 0) (1 + 1 + 2 * r + 1) (va_cpy (fillR (up N1 (1 + 1 + 2 * r) 1 (nI b.length)) (1 + 1 + 2 * r + 1) 0 b.length 0 67) (fillR (up N1 (1 + 1 + 2 * r) 1 (nI b.length)) (1 + 1 + 2 * r + 1) 0 b.length 0 (1 + 1 + 2 * r + 1)) 0 0 b.length) a = fillR (up N1 (1 + 1 + 2 * r) 1 (nI b.length)) (1 + 1 + 2 * r + 1) 0 b.length 0 a := fun a ha => by simp only [upR, if_neg ha]
    refine ⟨nI (lst (gOf a0 dr) b), upR (fillR (up N1 (1 + 1 + 2 * r) 1 (nI b.length)) (1 + 1 + 2 * r + 1) 0 b.length 0) (1 + 1 + 2 * r + 1) (va_cpy (fillR (up N1 (1 + 1 + 2 * r) 1 (nI b.length)) (1 + 1 + 2 * r + 1) 0 b.length 0 67) (fillR (up N1 (1 + 1 + 2 * r) 1 (nI b.length)) (1 + 1 + 2 * r + 1) 0 b.length 0 (1 + 1 + 2 * r + 1)) 0 0 b.length), Q, ?_, ?_, rowset_rel hrel hr (show b.length ≤ 40 by omega) (fun a h h' => ?_) (fun a h h' => ?_) (fun p hp => ?_) (fun j hj => ?_) ?_ ?_ (fun i hi => ?_)⟩
    · simp only [K_ring, e1, e.1, ob_some, i10, ↓reduceIte, n1, z, idx_nI hr (by omega : 6 ≤ 1000000), x3, renew_eq hF (ln_row hr) (show b.length ≤ 40 by omega) (by omega : 40 ≤ 80), fx 66 (by omega) (by omega), ac]
      rw [rx 66 (by omega), fx 66 (by omega) (by omega), x2]
    · simp only [M_ring, e2, e.2, ob_some, i10, ↓reduceIte, b1, m1, q, m3.1, makeRow_eq hF hr, q1]
      rw [q4 100 (by omega), w0 100 (by omega), up_cell (by omega), y1]
    · rw [rx a h', fx a h h']
    · rw [q4 a h', w0 a h', up_cell h]
    · rw [q4 103 (by omega), w0 103 (by omega), up_ne (by omega)]
    · rw [q3 j hj]
      unfold fillR
      rw [if_neg (by omega), up_cell (by omega)]
    · rw [rx _ (by omega), fillR_cell (by omega), up_same]
    · rw [q4 103 (by omega), w0 103 (by omega), up_same]
    · rw [q2 i hi]
      unfold upR
      rw [if_pos rfl, pk_cpy_in (by omega) (by omega), fx 67 (by omega) (by omega)]
      simp only [Nat.zero_add, Nat.sub_zero]
      exact x4 i hi
