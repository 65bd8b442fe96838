/-! owe -/
theorem nn_nI {x : Int32} (h : ¬ x < 0) : ∃ n : Nat, n < 2 ^ 31 ∧ x = nI n := by
  refine ⟨x.toInt.toNat, ?_, ?_⟩
  · have := i32_hi x
    omega
  · have h0 : 0 ≤ x.toInt := by
      rw [i32_lt] at h
      have : (0 : Int32).toInt = 0 := rfl
      omega
    have h2 := i32_hi x
    rw [i32_eq, tI (by omega)]
    omega
theorem rmi10 {n : Nat} (h : n < 2 ^ 31) : rmi (nI n) 10 = some (nI (n % 10)) := by
  unfold rmi
  rw [if_neg (by decide), lit 10, pk_rem h (by omega) (by omega)]
theorem dvi10 {n : Nat} (h : n < 2 ^ 31) : dvi (nI n) 10 = some (nI (n / 10)) := by
  unfold dvi
  rw [if_neg (by decide), lit 10, pk_div h (by omega) (by omega)]
theorem dvi100 {n : Nat} (h : n < 2 ^ 31) : dvi (nI n) 100 = some (nI (n / 100)) := by
  unfold dvi
  rw [if_neg (by decide), lit 100, pk_div h (by omega) (by omega)]
def newD (a b c k : Int32) : Nat → Int32 := fun j => if j = 0 then a else if j = 1 then b else if j = 2 then c else if j = 3 then k else 0
def addD (dr : Nat → Nat → Int32) (nd : Nat) (d : Nat → Int32) : Nat → Nat → Int32 := fun i => if i = nd then d else dr i
theorem addD_at {dr : Nat → Nat → Int32} {nd : Nat} {d : Nat → Int32} : addD dr nd d nd = d := by simp [addD]
theorem addD_ne {dr : Nat → Nat → Int32} {nd i : Nat} {d : Nat → Int32} (h : ¬ i = nd) : addD dr nd d i = dr i := by simp [addD, h]
theorem addDraft_X {F : Nat} {M : Mem} {np nd : Nat} {kn : Nat → Int32} {dr : Nat → Nat → Int32} (h : VX M 23 np nd kn dr) (hn : nd < 12) (a b c k : Int32) : ∃ M', V_addDraft F M 23 a b c k = some M' ∧ VX M' 23 np (nd + 1) kn (addD dr nd (newD a b c k)) ∧ ∀ p, p ≠ 23 → ¬ (26 ≤ p ∧ p ≤ 37) → M' p = M p := by
  obtain ⟨h1, h2, h3, h4, h5, h6, h7, h8⟩ := h
  unfold V_addDraft D_become
  have hc : (12 ≤ nI nd) = False := by rw [lit 12, nI_leI (by omega) (by omega)]; simp; omega
  simp only [h4, hc, ↓reduceIte, h2, idx_nI (k := nd) (n := 12) hn (by omega), Option.bind_some]
  refine ⟨_, rfl, ⟨h1, h2, ?_, ?_, h5, by omega, fun p hp => ?_, fun i hi j hj => ?_⟩, fun p hp hq => ?_⟩
  · rw [up_ne (by omega)]
    simp only [up_cell (show 23 ≠ 23 + 2 + 1 + nd by omega)]
    exact h3
  · rw [up_same]
    simp only [up_cell (show 23 ≠ 23 + 2 + 1 + nd by omega)]
    rw [h4, nI_1]
  · rw [up_cell (by omega)]
    simp only [up_cell (show 23 + 1 ≠ 23 + 2 + 1 + nd by omega)]
    exact h7 p hp
  · rw [up_cell (by omega)]
    by_cases e : i = nd
    · subst e
      rw [addD_at]
      unfold newD
      rcases (show j = 0 ∨ j = 1 ∨ j = 2 ∨ j = 3 ∨ j = 4 ∨ j = 5 by omega) with rfl | rfl | rfl | rfl | rfl | rfl <;> simp [up_eqn]
    · rw [addD_ne e]
      simp only [up_cell (show 23 + 2 + 1 + i ≠ 23 + 2 + 1 + nd by omega)]
      exact h8 i (by omega) j hj
  · rw [up_cell hp]
    simp only [up_cell (show p ≠ 23 + 2 + 1 + nd by omega)]
theorem addDraft_M {F : Nat} {M : Mem} {np nd : Nat} {kn : Nat → Int32} {dr : Nat → Nat → Int32} (h : VM M np nd kn dr) (hn : nd < 12) (a b c k : Int32) : ∃ M', M_addDraft F M a b c k = some M' ∧ VM M' np (nd + 1) kn (addD dr nd (newD a b c k)) ∧ (∀ p, p ≠ 101 → M' p = M p) ∧ ∀ p, p = 0 ∨ 74 ≤ p → M' 101 p = M 101 p := by
  obtain ⟨h3, h4, h5, h6, h7, h8⟩ := h
  have hl : ln 101 = 11976 := by decide
  have x0 : (2 + 6 * nI nd) + 0 = nI (2 + 6 * nd + 0) := ix6 nd 0
  have x1 : (2 + 6 * nI nd) + 1 = nI (2 + 6 * nd + 1) := ix6 nd 1
  have x2 : (2 + 6 * nI nd) + 2 = nI (2 + 6 * nd + 2) := ix6 nd 2
  have x3 : (2 + 6 * nI nd) + 3 = nI (2 + 6 * nd + 3) := ix6 nd 3
  have x4 : (2 + 6 * nI nd) + 4 = nI (2 + 6 * nd + 4) := ix6 nd 4
  have x5 : (2 + 6 * nI nd) + 5 = nI (2 + 6 * nd + 5) := ix6 nd 5
  have aw : ∀ (N : Mem) (j : Nat) (v : Int32), j < 6 → awr N 101 (nI (2 + 6 * nd + j)) v = some (up N 101 (2 + 6 * nd + j) v) := fun N j v hj => awr_nI (by rw [hl]; omega)
  have a1 : ∀ (N : Mem) (v : Int32), awr N 101 1 v = some (up N 101 1 v) := fun N v => awr_nI (k := 1) (by rw [hl]; omega)
  unfold M_addDraft
  simp only [h4, x0, x1, x2, x3, x4, x5, aw _ 0 _ (by omega), aw _ 1 _ (by omega), aw _ 2 _ (by omega), aw _ 3 _ (by omega), aw _ 4 _ (by omega), aw _ 5 _ (by omega), a1, Option.bind_some]
  refine ⟨_, rfl, ⟨?_, ?_, h5, by omega, fun p hp => ?_, fun i hi j hj => ?_⟩, fun p hp => ?_, fun p hp => ?_⟩
  · simp only [up_cell (show 100 ≠ 101 by omega)]; exact h3
  · rw [up_same]
    simp (disch := omega) only [up_ne]
    rw [h4, nI_1]
  · simp only [up_cell (show 102 ≠ 101 by omega)]; exact h7 p hp
  · by_cases e : i = nd
    · subst e
      rw [addD_at]
      unfold newD
      rcases (show j = 0 ∨ j = 1 ∨ j = 2 ∨ j = 3 ∨ j = 4 ∨ j = 5 by omega) with rfl | rfl | rfl | rfl | rfl | rfl <;> simp [up_eqn] <;> omega
    · rw [addD_ne e]
      simp (disch := omega) only [up_ne]
      exact h8 i (by omega) j hj
  · simp only [up_cell hp]
  · simp (disch := omega) only [up_ne]
theorem in_19 {F : Nat} {M : Mem} {x : Int32} : M_in F M x.toInt64 1 9 = some (if x < 1 ∨ ¬ x ≤ 9 then 0 else 1) := by
  rw [in32 _ _ _ _ _ (by decide)]
  have e1 : (1 : Int64).toInt = 1 := rfl
  have e9 : (9 : Int64).toInt = 9 := rfl
  have f1 : (1 : Int32).toInt = 1 := rfl
  have f9 : (9 : Int32).toInt = 9 := rfl
  rw [e1, e9]
  simp only [i32_lt, i32_le, f1, f9]
  by_cases c1 : x.toInt < 1
  · simp only [c1, true_or, ↓reduceIte]
  · by_cases c2 : 9 < x.toInt
    · have : ¬ x.toInt ≤ 9 := by omega
      simp only [c1, c2, this, not_false_eq_true, or_true, ↓reduceIte]
    · have : x.toInt ≤ 9 := by omega
      simp only [c1, c2, this, not_true_eq_false, or_self, ↓reduceIte]
theorem op_owe {F : Nat} (hF : FB ≤ F) (M1 M2 : Mem) (a0 : Int32) (a1 : Int32) (hR : Rel M1 M2) : ∃ (r : Int32) (M1' : Mem) (M2' : Mem), K_owe F M1 a0 a1 = some (r, M1') ∧ M_owe F M2 a0 a1 = some (r, M2') ∧ Rel M1' M2' := by
  obtain ⟨np, nd, D, hc⟩ := hR.2.2.2
  obtain ⟨kn, dr, hx, hm, hg, ekn, edr⟩ := hc.views
  have hnp := hg.2.1
  have hnd := hg.2.2.1
  unfold K_owe M_owe
  by_cases c0 : a0 < 0
  · simp only [c0, ↓reduceIte]
    exact ⟨_, _, _, rfl, rfl, hR⟩
  obtain ⟨n, hn, rfl⟩ := nn_nI c0
  have hn10 : n / 10 < 2 ^ 31 := by omega
  have c12 : (12 ≤ nI nd) = (nd = 12) := by rw [lit 12, nI_leI (by omega) (by omega)]; simp only [eq_iff_iff]; omega
  have c12' : (nI nd = 12) = (nd = 12) := by rw [lit 12, nI_eq (by omega) (by omega)]
  have c3 : (nI (n % 10) < 3) = (n % 10 < 3) := by rw [lit 3, nI_ltI (by omega) (by omega)]
  have cin : M_in F M2 (nI (n % 10)).toInt64 0 2 = some (if n % 10 < 3 then 1 else 0) := by
    rw [in_02 (n := 2) rfl (by omega)]
    have e1 : (nI (n % 10) < 0) = False := by simp [nI_nlt0 (n := n % 10) (by omega)]
    have e2 : (nI (2 + 1) ≤ nI (n % 10)) = (3 ≤ n % 10) := by rw [nI_leI (by omega) (by omega)]
    simp only [e1, e2, false_or]
    by_cases q : n % 10 < 3
    · rw [if_neg (by omega), if_pos q]
    · rw [if_pos (by omega), if_neg q]
  simp only [c0, ↓reduceIte, dvi100 hn, dvi10 hn, rmi10 hn10, rmi10 hn, ob_some, hasTwo_eq hx, areTwo_eq hm, c3, cin, in_19, i10c, i01, hx.2.2.2.1, hm.2.1, c12, c12', full_X hc.2.2.1.1 hc.2.2.1.2.1, full_M hc.2.2.1.1 hc.2.2.1.2.2.1]
  rcases two_cases (nI (n / 100)) (nI (n / 10 % 10)) hnp with h | ⟨h, p, q, hp, hq, hpq, ep, eq⟩
  · simp only [h, ↓reduceIte]
    refine ⟨-1, M1, M2, ?_, rfl, hR⟩
    split
    · rfl
    · split <;> rfl
  simp only [h, ↓reduceIte]
  by_cases k1 : a1 < 1
  · refine ⟨-1, M1, M2, by simp only [k1, ↓reduceIte], ?_, hR⟩
    simp only [k1, true_or, ↓reduceIte]
    split <;> rfl
  by_cases k2' : ¬ a1 ≤ 9
  · have k2 : (a1 ≤ 9) = False := eq_false k2'
    refine ⟨-1, M1, M2, by simp only [k1, k2, ↓reduceIte], ?_, hR⟩
    simp only [k1, k2, not_false_eq_true, or_true, ↓reduceIte]
    split <;> rfl
  have k2 : a1 ≤ 9 := Decidable.not_not.mp k2'
  simp only [k1, k2, not_true_eq_false, or_self, ↓reduceIte]
  by_cases k3' : ¬ n % 10 < 3
  · have k3 : (n % 10 < 3) = False := eq_false k3'
    simp only [k3, not_false_eq_true, ↓reduceIte]
    exact ⟨_, _, _, rfl, rfl, hR⟩
  have k3 : n % 10 < 3 := Decidable.not_not.mp k3'
  simp only [k3, not_true_eq_false, ↓reduceIte]
  by_cases k4 : nd = 12
  · simp only [k4, ↓reduceIte]
    exact ⟨_, _, _, rfl, rfl, hR⟩
  by_cases k5 : D = 40
  · simp only [k4, k5, not_true_eq_false, ↓reduceIte]
    exact ⟨_, _, _, rfl, rfl, hR⟩
  have hD := hc.2.2.1.1
  obtain ⟨N1, N2, b1, b2, b3, b4, b5, b6, b7⟩ := begin_rel hF hc (by omega)
  obtain ⟨kn', dr', hx', hm', hg', ekn', edr'⟩ := b3.views
  rw [ep, eq]
  obtain ⟨k, hk, ek⟩ := nn_nI (x := a1) (fun e => k1 (Int32.lt_trans e (by decide)))
  subst ek
  have hk9 : k ≤ 9 := by rw [lit 9, nI_leI (by omega) (by omega)] at k2; exact k2
  obtain ⟨P1, u1, u2, u3⟩ := addDraft_X (F := F) hx' (by omega) (nI p) (nI q) (nI (n % 10)) (nI k)
  obtain ⟨P2, v1, v2, v3, v4⟩ := addDraft_M (F := F) hm' (by omega) (nI p) (nI q) (nI (n % 10)) (nI k)
  simp only [k4, k5, not_false_eq_true, ↓reduceIte, b1, b2, ob_some, u1, v1, u2.2.2.2.1, v2.2.1]
  refine ⟨_, _, _, rfl, rfl, Rel_of_C hR (fun p hp => ?_) (fun p hp => ?_) (RelC_views b3 (fun p hp => u3 p (by omega) (by omega)) v3 v4 u2 v2 (fun i hi => ?_))⟩
  · rw [u3 p (by omega) (by omega), b5 p (by omega)]
  · rw [v3 p hp, b6 p hp]
  · by_cases e : i = nd
    · subst e
      rw [addD_at]
      exact ⟨p, q, n % 10, k, 0, 0, rfl, rfl, rfl, rfl, rfl, rfl, hp, hq, hpq, k3, by omega, by omega, by omega⟩
    · rw [addD_ne e]
      exact hg'.2.2.2.1 i (by omega)
