/-! the pairs that owe: both lists, whole -/
theorem gather_X {F : Nat} (hF : FB ≤ F) {M : Mem} {np nd : Nat} {kn : Nat → Int32} {dr : Nat → Nat → Int32} (h : VX M 23 np nd kn dr) (hb : BN nd dr) : ∃ N, O_gather F M 23 = some N ∧ GX N (plist (opB nd dr) np) ∧ (plist (opB nd dr) np).length ≤ 15 ∧ ∀ a, a < 70 ∨ 72 < a → N a = M a := by
  have hF' := FBL hF
  have hnp := h.2.2.2.2.1
  unfold O_gather
  obtain ⟨s', h1, h2, h3, h4, h5⟩ := lpE (fun m p (s : Mem × List (Nat × Nat)) => L_O_gather_7 F 23 m s.1 (nI p)) (fun p s => s.2 = fo (fun p l => fo (inP (opB nd dr) p) (np - (p + 1)) 0 l) p 0 [] ∧ GX s.1 s.2 ∧ s.2.length ≤ tri p ∧ ∀ a, a < 70 ∨ 72 < a → s.1 a = M a) (fun s => some s.1) np
    (fun m p s hp hI => by
      obtain ⟨N, l⟩ := s
      obtain ⟨i1, i2, i3, i4⟩ := hI
      simp only at i1 i2 i3 i4
      have hx := VX_of h (N := N) (fun a h1 h2 => i4 a (by omega))
      have hc : (nI np ≤ nI p) = False := by rw [nI_leI (by omega) (by omega)]; simp; omega
      obtain ⟨P, q1, q2, q3, q4⟩ := gatherIn_X hF hx hb hp i2 i3
      refine ⟨(P, fo (inP (opB nd dr) p) (np - (p + 1)) 0 l), ?_, ?_, q2, q3, fun a ha => by simp only; rw [q4 a ha, i4 a ha]⟩
      · show B_O_gather_7 F 23 _ N (nI p) = _
        unfold B_O_gather_7
        simp only [hx.2.2.1, hc, ↓reduceIte, V_owedByAny_eq hF hx hb, ob_some, nI_1, q1]
      · rw [fo_succ, Nat.zero_add, ← i1])
    (fun m s hI => by
      show B_O_gather_7 F 23 _ s.1 (nI np) = _
      unfold B_O_gather_7
      rw [hI.2.2.2 23 (by omega), h.2.2.1, if_pos (by rw [nI_leI (by omega) (by omega)]; omega)])
    np 0 F (up M 70 0 0, []) (by omega) (by omega) ⟨rfl, ⟨by simp only [up_same]; rfl, fun k a b hk => absurd hk (by simp)⟩, by simp [tri], fun a ha => up_cell (by omega)⟩
  rw [nI_0] at h1
  simp only at h1
  have := tri_le np
  refine ⟨s'.1, by rw [h1, ob_some], ?_, ?_, h5⟩
  · unfold plist; rw [← h2]; exact h3
  · unfold plist; rw [← h2]; omega
def onB (dr : Nat → Nat → Int32) (p q : Int32) (i : Nat) : Bool := !(decide (dr i 3 ≤ 0)) && ((decide (dr i 0 = p) && decide (dr i 1 = q)) || (decide (dr i 0 = q) && decide (dr i 1 = p)))
def anyB (P : Nat → Bool) : Nat → Bool
  | 0 => false
  | n + 1 => anyB P n || P n
theorem anyB_iff {P : Nat → Bool} : ∀ n, anyB P n = true ↔ ∃ i, i < n ∧ P i = true := by
  intro n
  induction n with
  | zero => exact ⟨fun h => absurd h (by simp [anyB]), fun ⟨i, hi, _⟩ => absurd hi (by omega)⟩
  | succ n ih =>
    simp only [anyB, Bool.or_eq_true, ih]
    constructor
    · rintro (⟨i, hi, h⟩ | h)
      · exact ⟨i, by omega, h⟩
      · exact ⟨n, by omega, h⟩
    · rintro ⟨i, hi, h⟩
      by_cases e : i = n
      · subst e; exact Or.inr h
      · exact Or.inl ⟨i, by omega, h⟩
theorem openBetween_M {F : Nat} (hF : FB ≤ F) {M : Mem} {np nd : Nat} {kn : Nat → Int32} {dr : Nat → Nat → Int32} (h : VM M np nd kn dr) (p q : Int32) : M_isOpenBetween F M p q = some (if anyB (onB dr p q) nd = true then 1 else 0) := by
  have hF' := FBL hF
  have hnd := h.2.2.2.1
  unfold M_isOpenBetween
  obtain ⟨s', h1, h2⟩ := lpE (fun m i (s : Int32) => L_M_isOpenBetween_5 F M p q m s (nI i)) (fun i s => s = if anyB (onB dr p q) i = true then 1 else 0) (fun s => some s) nd
    (fun m i s hi hI => by
      have hc : (nI nd ≤ nI i) = False := by rw [nI_leI (by omega) (by omega)]; simp; omega
      refine ⟨if anyB (onB dr p q) (i + 1) = true then 1 else 0, ?_, rfl⟩
      show B_M_isOpenBetween_5 F M p q _ s (nI i) = _
      unfold B_M_isOpenBetween_5
      rw [hI]
      simp only [h.2.1, hc, ↓reduceIte, M_isOpen_eq h hi, M_isOn_eq h hi, ob_some, i01, i10c, nI_1]
      by_cases c : anyB (onB dr p q) i = true
      · simp [anyB, c]
      · rcases Classical.propComplete (dr i 0 = p) with C0 | C0 <;> rcases Classical.propComplete (dr i 1 = q) with C1 | C1 <;> rcases Classical.propComplete (dr i 0 = q) with C2 | C2 <;> rcases Classical.propComplete (dr i 1 = p) with C3 | C3 <;> rcases Classical.propComplete (dr i 3 ≤ 0) with C4 | C4 <;> simp [anyB, onB, c, C0, C1, C2, C3, C4])
    (fun m s hI => by
      show B_M_isOpenBetween_5 F M p q _ s (nI nd) = _
      unfold B_M_isOpenBetween_5
      rw [h.2.1, if_pos (by rw [nI_leI (by omega) (by omega)]; omega)])
    nd 0 F 0 (by omega) (by omega) rfl
  rw [nI_0] at h1
  rw [h1, ob_some, h2]
  split <;> rfl
theorem op_eq {nd : Nat} {dr : Nat → Nat → Int32} (hb : BN nd dr) {p q : Nat} (hp : p < 6) (hq : q < 6) : anyB (onB dr (nI p) (nI q)) nd = opB nd dr p q := by
  rw [Bool.eq_iff_iff, anyB_iff]
  unfold opB
  rw [Bool.or_eq_true, reach_tb hb, reach_tb hb]
  have e : ∀ i, i < nd → ∀ x, x < 6 → (dr i 0 = nI x ↔ whoN dr i = x) ∧ (dr i 1 = nI x ↔ whomN dr i = x) := by
    intro i hi x hx
    obtain ⟨a, b, ha, hbb, ea, eb, wa, wb⟩ := hb i hi
    rw [ea, eb, wa, wb]
    exact ⟨⟨fun g => nI_inj (by omega) (by omega) g, fun g => by rw [g]⟩, ⟨fun g => nI_inj (by omega) (by omega) g, fun g => by rw [g]⟩⟩
  constructor
  · rintro ⟨i, hi, h⟩
    simp only [onB, Bool.and_eq_true, Bool.or_eq_true, Bool.not_eq_true', decide_eq_true_eq, decide_eq_false_iff_not] at h
    rcases h.2 with ⟨h1, h2⟩ | ⟨h1, h2⟩
    · refine Or.inl ⟨i, hi, h.1, ?_, ((e i hi q hq).2).mp h2⟩
      rw [tb_1 (by omega), ((e i hi p hp).1).mp h1]; simp
    · refine Or.inr ⟨i, hi, h.1, ?_, ((e i hi p hp).2).mp h2⟩
      rw [tb_1 (by omega), ((e i hi q hq).1).mp h1]; simp
  · rintro (⟨i, hi, h1, h2, h3⟩ | ⟨i, hi, h1, h2, h3⟩)
    · rw [tb_1 (by omega)] at h2
      simp only [decide_eq_true_eq] at h2
      refine ⟨i, hi, ?_⟩
      simp only [onB, Bool.and_eq_true, Bool.or_eq_true, Bool.not_eq_true', decide_eq_true_eq, decide_eq_false_iff_not]
      exact ⟨h1, Or.inl ⟨((e i hi p hp).1).mpr h2.symm, ((e i hi q hq).2).mpr h3⟩⟩
    · rw [tb_1 (by omega)] at h2
      simp only [decide_eq_true_eq] at h2
      refine ⟨i, hi, ?_⟩
      simp only [onB, Bool.and_eq_true, Bool.or_eq_true, Bool.not_eq_true', decide_eq_true_eq, decide_eq_false_iff_not]
      exact ⟨h1, Or.inr ⟨((e i hi q hq).1).mpr h2.symm, ((e i hi p hp).2).mpr h3⟩⟩
theorem VM_of {M N : Mem} {np nd : Nat} {kn : Nat → Int32} {dr : Nat → Nat → Int32} (h : VM M np nd kn dr) (e1 : N 100 1 = M 100 1) (e2 : N 101 = M 101) (e3 : N 102 = M 102) : VM N np nd kn dr := by
  obtain ⟨h3, h4, h5, h6, h7, h8⟩ := h
  exact ⟨by rw [e1, h3], by rw [e2, h4], h5, h6, fun p hp => by rw [e3, h7 p hp], fun i hi j hj => by rw [e2, h8 i hi j hj]⟩
theorem gatherIn_M {F : Nat} (hF : FB ≤ F) {M : Mem} {np nd p : Nat} {kn : Nat → Int32} {dr : Nat → Nat → Int32} {l0 : List (Nat × Nat)} (h : VM M np nd kn dr) (hb : BN nd dr) (hp : p < np) (hg : GM M l0) (hl : l0.length ≤ tri p) : ∃ N, L_M_layPairs_19 F (nI p) F M (nI (p + 1)) = some N ∧ GM N (fo (inP (opB nd dr) p) (np - (p + 1)) 0 l0) ∧ (fo (inP (opB nd dr) p) (np - (p + 1)) 0 l0).length ≤ tri (p + 1) ∧ (∀ a, a ≠ 100 → a ≠ 113 → N a = M a) ∧ ∀ b, b ≠ 26 → N 100 b = M 100 b := by
  have hF' := FBL hF
  have hnp := h.2.2.1
  have hts := tri_step (p := p) (by omega)
  have htl := tri_le (p + 1)
  obtain ⟨s', h1, h2, h3, h4, h5, h6⟩ := lpE (fun m d (s : Mem × List (Nat × Nat)) => L_M_layPairs_19 F (nI p) m s.1 (nI (p + 1 + d))) (fun d s => s.2 = fo (inP (opB nd dr) p) d 0 l0 ∧ GM s.1 s.2 ∧ s.2.length ≤ tri p + d ∧ (∀ a, a ≠ 100 → a ≠ 113 → s.1 a = M a) ∧ ∀ b, b ≠ 26 → s.1 100 b = M 100 b) (fun s => some s.1) (np - (p + 1))
    (fun m d s hd hI => by
      obtain ⟨N, l⟩ := s
      obtain ⟨i1, i2, i3, i4, i5⟩ := hI
      simp only at i1 i2 i3 i4 i5
      have hx := VM_of h (N := N) (i5 1 (by omega)) (i4 _ (by omega) (by omega)) (i4 _ (by omega) (by omega))
      have hc : (nI np ≤ nI (p + 1 + d)) = False := by rw [nI_leI (by omega) (by omega)]; simp; omega
      have ll : l.length < 15 := by omega
      have fs : fo (inP (opB nd dr) p) (d + 1) 0 l0 = inP (opB nd dr) p d l := by rw [fo_succ, Nat.zero_add, ← i1]
      have l1 : 2 * l.length < ln 113 := by show _ < 30; omega
      have l2 : 2 * l.length + 1 < ln 113 := by show _ < 30; omega
      have step : L_M_layPairs_19 F (nI p) (m + 1) N (nI (p + 1 + d)) = if opB nd dr p (p + 1 + d) = true then L_M_layPairs_19 F (nI p) m (up (up (up N 113 (2 * l.length) (nI p)) 113 (2 * l.length + 1) (nI (p + 1 + d))) 100 26 (nI (l.length + 1))) (nI (p + 1 + (d + 1))) else L_M_layPairs_19 F (nI p) m N (nI (p + 1 + (d + 1))) := by
        show B_M_layPairs_19 F (nI p) _ N (nI (p + 1 + d)) = _
        unfold B_M_layPairs_19
        have x1 : 2 * nI l.length = nI (2 * l.length) := by rw [lit 2, pk_mul]
        have w1 : awr N 113 (nI (2 * l.length)) (nI p) = some (up N 113 (2 * l.length) (nI p)) := awr_nI l1
        have u1 : up N 113 (2 * l.length) (nI p) 100 26 = nI l.length := by rw [up_cell (by omega), i2.1]
        have w2 : awr (up N 113 (2 * l.length) (nI p)) 113 (nI (2 * l.length + 1)) (nI (p + 1 + d)) = some (up (up N 113 (2 * l.length) (nI p)) 113 (2 * l.length + 1) (nI (p + 1 + d))) := awr_nI l2
        have u2 : up (up N 113 (2 * l.length) (nI p)) 113 (2 * l.length + 1) (nI (p + 1 + d)) 100 26 = nI l.length := by rw [up_cell (by omega), u1]
        simp only [hx.1, hc, ↓reduceIte, openBetween_M hF hx, op_eq hb (show p < 6 by omega) (show p + 1 + d < 6 by omega), ob_some, i10c, i2.1, x1, w1, u1, nI_1, w2, u2]
        by_cases c : opB nd dr p (p + 1 + d) = true
        · simp only [c, not_true_eq_false, ↓reduceIte]; rfl
        · simp only [c, not_false_eq_true, ↓reduceIte, Bool.false_eq_true]; rfl
      by_cases c : opB nd dr p (p + 1 + d) = true
      · refine ⟨(up (up (up N 113 (2 * l.length) (nI p)) 113 (2 * l.length + 1) (nI (p + 1 + d))) 100 26 (nI (l.length + 1)), l ++ [(p, p + 1 + d)]), ?_, ?_, ⟨?_, fun k a b hk => ?_⟩, ?_, fun a ha hb => ?_, fun b hb => ?_⟩
        · show L_M_layPairs_19 F (nI p) (m + 1) N (nI (p + 1 + d)) = _
          rw [step, if_pos c]
        · rw [fs]; simp only [inP, c, ↓reduceIte]
        · simp only [up_same, List.length_append, List.length_cons, List.length_nil]
        · simp only
          rcases get_snoc hk with ⟨k1, k2⟩ | ⟨k1, k2⟩
          · have := i2.2 k a b k2
            rw [up_cell (by omega), up_ne (by omega), up_ne (by omega), up_ne (by omega), up_ne (by omega)]
            exact this
          · subst k1
            obtain ⟨rfl, rfl⟩ := Prod.mk.inj k2
            rw [up_cell (by omega), up_ne (by omega), up_same, up_same]
            exact ⟨rfl, rfl⟩
        · simp only [List.length_append, List.length_cons, List.length_nil]; omega
        · simp only
          rw [up_cell ha, up_cell hb, up_cell hb, i4 a ha hb]
        · simp only
          rw [up_ne (by omega), up_cell (by omega), up_cell (by omega), i5 b hb]
      · refine ⟨(N, l), ?_, ?_, i2, ?_, i4, i5⟩
        · show L_M_layPairs_19 F (nI p) (m + 1) N (nI (p + 1 + d)) = _
          rw [step, if_neg c]
        · rw [fs]; simp only [inP, c, ↓reduceIte, Bool.false_eq_true]
        · simp only; omega)
    (fun m s hI => by
      show B_M_layPairs_19 F (nI p) _ s.1 (nI (p + 1 + (np - (p + 1)))) = _
      unfold B_M_layPairs_19
      rw [hI.2.2.2.2 1 (by omega), h.1, if_pos (by rw [nI_leI (by omega) (by omega)]; omega)])
    (np - (p + 1)) 0 F (M, l0) (by omega) (by omega) ⟨rfl, hg, by simp only; omega, fun _ _ _ => rfl, fun _ _ => rfl⟩
  refine ⟨s'.1, h1, by rw [← h2]; exact h3, by rw [← h2]; omega, h5, h6⟩
theorem gather_M {F : Nat} (hF : FB ≤ F) {M : Mem} {np nd : Nat} {kn : Nat → Int32} {dr : Nat → Nat → Int32} (h : VM M np nd kn dr) (hb : BN nd dr) : ∃ N, M_layPairs F M = some N ∧ GM N (plist (opB nd dr) np) ∧ (∀ a, a ≠ 100 → a ≠ 113 → N a = M a) ∧ ∀ b, b ≠ 26 → N 100 b = M 100 b := by
  have hF' := FBL hF
  have hnp := h.2.2.1
  unfold M_layPairs
  obtain ⟨s', h1, h2, h3, h4, h5, h6⟩ := lpE (fun m p (s : Mem × List (Nat × Nat)) => L_M_layPairs_7 F m s.1 (nI p)) (fun p s => s.2 = fo (fun p l => fo (inP (opB nd dr) p) (np - (p + 1)) 0 l) p 0 [] ∧ GM s.1 s.2 ∧ s.2.length ≤ tri p ∧ (∀ a, a ≠ 100 → a ≠ 113 → s.1 a = M a) ∧ ∀ b, b ≠ 26 → s.1 100 b = M 100 b) (fun s => some s.1) np
    (fun m p s hp hI => by
      obtain ⟨N, l⟩ := s
      obtain ⟨i1, i2, i3, i4, i5⟩ := hI
      simp only at i1 i2 i3 i4 i5
      have hx := VM_of h (N := N) (i5 1 (by omega)) (i4 _ (by omega) (by omega)) (i4 _ (by omega) (by omega))
      have hc : (nI np ≤ nI p) = False := by rw [nI_leI (by omega) (by omega)]; simp; omega
      obtain ⟨P, q1, q2, q3, q4, q5⟩ := gatherIn_M hF hx hb hp i2 i3
      refine ⟨(P, fo (inP (opB nd dr) p) (np - (p + 1)) 0 l), ?_, ?_, q2, q3, fun a ha hb => by simp only; rw [q4 a ha hb, i4 a ha hb], fun b hb => by simp only; rw [q5 b hb, i5 b hb]⟩
      · show B_M_layPairs_7 F _ N (nI p) = _
        unfold B_M_layPairs_7
        simp only [hx.1, hc, ↓reduceIte, ob_some, nI_1, q1]
      · rw [fo_succ, Nat.zero_add, ← i1])
    (fun m s hI => by
      show B_M_layPairs_7 F _ s.1 (nI np) = _
      unfold B_M_layPairs_7
      rw [hI.2.2.2.2 1 (by omega), h.1, if_pos (by rw [nI_leI (by omega) (by omega)]; omega)])
    np 0 F (up M 100 26 0, []) (by omega) (by omega) ⟨rfl, ⟨by simp only [up_same]; rfl, fun k a b hk => absurd hk (by simp)⟩, by simp [tri], fun a ha _ => up_cell ha, fun b hb => up_ne (by omega)⟩
  rw [nI_0] at h1
  simp only at h1
  refine ⟨s'.1, by rw [h1, ob_some], ?_, h5, h6⟩
  unfold plist; rw [← h2]; exact h3
