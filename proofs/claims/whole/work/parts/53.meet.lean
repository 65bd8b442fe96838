/-! meet -/
def netN (nd : Nat) (dr : Nat → Nat → Int32) (p q t : Int32) : Nat := if betwN dr q p t nd ≤ betwN dr p q t nd then betwN dr q p t nd else betwN dr p q t nd
def n1D (nd : Nat) (dr : Nat → Nat → Int32) (p q t : Int32) : Nat → Nat → Int32 := lsD (lsD dr p q t (netN nd dr p q t)) q p t (netN nd dr p q t)
def nst (nd : Nat) (dr : Nat → Nat → Int32) (p q : Int32) : Nat → Nat → Nat → Int32
  | 0 => dr
  | t + 1 => n1D nd (nst nd dr p q t) p q (nI t)
theorem nst_KN {nd : Nat} {dr : Nat → Nat → Int32} (h : KN nd dr) (p q : Int32) : ∀ t, KN nd (nst nd dr p q t) := by
  intro t
  induction t with
  | zero => exact h
  | succ t ih => exact lsD_KN (lsD_KN ih _ _ _ _) _ _ _ _
theorem nst_ne {nd : Nat} {dr : Nat → Nat → Int32} {p q : Int32} {i j : Nat} (hj : j ≠ 3) : ∀ t, nst nd dr p q t i j = dr i j := by
  intro t
  induction t with
  | zero => rfl
  | succ t ih =>
    show lsD (lsD (nst nd dr p q t) p q (nI t) _) q p (nI t) _ i j = _
    rw [lsD_ne hj, lsD_ne hj, ih]
theorem netN_le {nd : Nat} {dr : Nat → Nat → Int32} (h : KN nd dr) (hn : nd ≤ 12) (p q t : Int32) : netN nd dr p q t ≤ 2000 := by
  have h1 := (betw_N h p q t).2
  have h2 := (betw_N h q p t).2
  unfold netN
  split <;> omega
theorem netK {nd : Nat} {dr : Nat → Nat → Int32} (h : KN nd dr) (hn : nd ≤ 12) (p q t : Int32) : (if betwS nd dr q p t < betwS nd dr p q t then betwS nd dr q p t else betwS nd dr p q t) = nI (netN nd dr p q t) := by
  have h1 := betw_N h p q t
  have h2 := betw_N h q p t
  rw [h1.1, h2.1]
  have e : (nI (betwN dr q p t nd) < nI (betwN dr p q t nd)) = (betwN dr q p t nd < betwN dr p q t nd) := by rw [nI_ltI (by omega) (by omega)]
  simp only [e]
  unfold netN
  by_cases c : betwN dr q p t nd < betwN dr p q t nd
  · rw [if_pos c, if_pos (by omega)]
  · rw [if_neg c]
    by_cases c2 : betwN dr q p t nd ≤ betwN dr p q t nd
    · rw [if_pos c2]; congr 1; omega
    · rw [if_neg c2]
theorem netM {F : Nat} (hF : FB ≤ F) {M : Mem} {np nd : Nat} {kn : Nat → Int32} {dr : Nat → Nat → Int32} (hm : VM M np nd kn dr) (h : KN nd dr) (p q t : Int32) : M_netted F M p q t = some (nI (netN nd dr p q t)) := by
  have h1 := betw_N h p q t
  have h2 := betw_N h q p t
  have hn := hm.2.2.2.1
  unfold M_netted
  rw [M_sumOf_eq hF hm, M_sumOf_eq hF hm, h1.1, h2.1]
  simp only [Option.bind_some]
  have e : (nI (betwN dr q p t nd) ≤ nI (betwN dr p q t nd)) = (betwN dr q p t nd ≤ betwN dr p q t nd) := by rw [nI_leI (by omega) (by omega)]
  simp only [e]
  unfold netN
  split <;> rfl
def netSum (nd : Nat) (dr : Nat → Nat → Int32) (p q : Int32) (n : Nat) : Int32 := fo (fun t (s : Int32) => s + nI (netN nd (nst nd dr p q t) p q (nI t))) n 0 0
theorem netTwo_X {F : Nat} (hF : FB ≤ F) {M : Mem} {v np nd : Nat} {kn : Nat → Int32} {dr : Nat → Nat → Int32} (h : VX M v np nd kn dr) (hk : KN nd dr) (p q : Int32) : ∃ M', V_netTwo F M v p q = some (netSum nd dr p q 2, M') ∧ VX M' v np nd kn (nst nd dr p q 2) ∧ ∀ a, ¬ (v + 3 ≤ a ∧ a ≤ v + 14) → M' a = M a := by
  have hF' := FBL hF
  have hnd := h.2.2.2.2.2.1
  unfold V_netTwo
  obtain ⟨s', h1, h2, h3, h4⟩ := lpE (fun n i (s : Int32 × Mem) => L_V_netTwo_5 F v p q n s.2 s.1 (nI i)) (fun i s => s.1 = netSum nd dr p q i ∧ VX s.2 v np nd kn (nst nd dr p q i) ∧ ∀ a, ¬ (v + 3 ≤ a ∧ a ≤ v + 14) → s.2 a = M a) (fun s => some s) 2
    (fun n i s hi hI => by
      obtain ⟨x1, N⟩ := s
      obtain ⟨i1, i2, i3⟩ := hI
      simp only at i1 i2 i3
      have hc : (1 < nI i) = False := by rw [lit 1, nI_ltI (by omega) (by omega)]; simp; omega
      have kk := nst_KN hk p q i
      have nl := netN_le kk hnd p q (nI i)
      obtain ⟨A, a1, a2, a3⟩ := lessen_X hF i2 kk p q (nI i) nl
      obtain ⟨B, b1, b2, b3⟩ := lessen_X hF a2 (lsD_KN kk _ _ _ _) q p (nI i) nl
      refine ⟨(x1 + nI (netN nd (nst nd dr p q i) p q (nI i)), B), ?_, ?_, b2, fun a ha => by simp only; rw [b3 a ha, a3 a ha, i3 a ha]⟩
      · show B_V_netTwo_5 F v p q _ N x1 (nI i) = _
        unfold B_V_netTwo_5
        simp only [hc, ↓reduceIte, V_kissesBetween_eq hF i2, ob_some, netK kk hnd, a1, b1, nI_1]
      · unfold netSum; rw [fo_succ, Nat.zero_add]; unfold netSum at i1; rw [← i1])
    (fun n s hI => by
      show B_V_netTwo_5 F v p q _ s.2 s.1 (nI 2) = _
      unfold B_V_netTwo_5
      rw [if_pos (by decide)])
    2 0 F (0, M) (by omega) (by omega) ⟨rfl, h, fun _ _ => rfl⟩
  rw [nI_0] at h1
  simp only at h1
  refine ⟨s'.2, ?_, h3, h4⟩
  rw [h1, ob_some, h2]
theorem netTwo_M {F : Nat} (hF : FB ≤ F) {M : Mem} {np nd : Nat} {kn : Nat → Int32} {dr : Nat → Nat → Int32} (h : VM M np nd kn dr) (hk : KN nd dr) (p q x : Int32) : ∃ M', L_M_doMeet_14 F p q x F M 0 = some M' ∧ VM M' np nd kn (nst nd dr p q 2) ∧ (∀ a, a ≠ 101 → M' a = M a) ∧ ∀ b, b < 2 ∨ 74 ≤ b → M' 101 b = M 101 b := by
  have hF' := FBL hF
  have hnd := h.2.2.2.1
  obtain ⟨s', h1, h3, h4, h5⟩ := lpE (fun n i (s : Mem) => L_M_doMeet_14 F p q x n s (nI i)) (fun i s => VM s np nd kn (nst nd dr p q i) ∧ (∀ a, a ≠ 101 → s a = M a) ∧ ∀ b, b < 2 ∨ 74 ≤ b → s 101 b = M 101 b) (fun s => some s) 2
    (fun n i N hi hI => by
      obtain ⟨i2, i3, i4⟩ := hI
      have hc : (2 ≤ nI i) = False := by rw [lit 2, nI_leI (by omega) (by omega)]; simp; omega
      have kk := nst_KN hk p q i
      have nl := netN_le kk hnd p q (nI i)
      obtain ⟨A, a1, a2, a3, a4⟩ := lessen_M hF i2 kk p q (nI i) nl
      obtain ⟨B, b1, b2, b3, b4⟩ := lessen_M hF a2 (lsD_KN kk _ _ _ _) q p (nI i) nl
      refine ⟨B, ?_, b2, fun a ha => by rw [b3 a ha, a3 a ha, i3 a ha], fun b hb => by rw [b4 b hb, a4 b hb, i4 b hb]⟩
      show B_M_doMeet_14 F p q x _ N (nI i) = _
      unfold B_M_doMeet_14
      simp only [hc, ↓reduceIte, netM hF i2 kk, ob_some, a1, b1, nI_1])
    (fun n s hI => by
      show B_M_doMeet_14 F p q x _ s (nI 2) = _
      unfold B_M_doMeet_14
      rw [if_pos (by decide)])
    2 0 F M (by omega) (by omega) ⟨h, fun _ _ => rfl, fun _ _ => rfl⟩
  rw [nI_0] at h1
  exact ⟨s', h1, h3, h4, h5⟩
def payC (kn : Nat → Int32) (dr : Nat → Nat → Int32) (p q : Int32) (i : Nat) : Bool := ((decide (dr i 0 = p) && decide (dr i 1 = q)) || (decide (dr i 0 = q) && decide (dr i 1 = p))) && !(decide (kn (dr i 0).toNatClampNeg = 2))
def payD (kn : Nat → Int32) (dr : Nat → Nat → Int32) (p q : Int32) : Nat → Nat → Int32 := fun i j => if j = 3 ∧ payC kn dr p q i = true then 0 else dr i j
def payMix (kn : Nat → Int32) (dr : Nat → Nat → Int32) (p q : Int32) (i : Nat) : Nat → Nat → Int32 := fun a => if a < i then payD kn dr p q a else dr a
theorem payMix_step (kn : Nat → Int32) (dr : Nat → Nat → Int32) (p q : Int32) (i a j : Nat) : payMix kn dr p q (i + 1) a j = if a = i then payD kn dr p q i j else payMix kn dr p q i a j := by
  unfold payMix
  by_cases h : a = i
  · subst h; rw [if_pos (by omega), if_pos rfl]
  · rw [if_neg h]
    by_cases h2 : a < i
    · rw [if_pos (by omega), if_pos h2]
    · rw [if_neg (by omega), if_neg h2]
theorem payMix_at (kn : Nat → Int32) (dr : Nat → Nat → Int32) (p q : Int32) (i : Nat) : payMix kn dr p q i i = dr i := by
  unfold payMix
  rw [if_neg (by omega)]
theorem isK_2 {k : Nat} (hk : k < 6) : (isK k 2 = true) = (nI k = 2) := kdom (fun k => (isK k 2 = true) = (nI k = 2)) (by decide) (by decide) (by decide) (by decide) (by decide) (by decide) hk
def WN (np nd : Nat) (dr : Nat → Nat → Int32) : Prop := ∀ i, i < nd → ∃ a : Nat, a < np ∧ dr i 0 = nI a
def KK (np : Nat) (kn : Nat → Int32) : Prop := ∀ p, p < np → ∃ k : Nat, k < 6 ∧ kn p = nI k
theorem payTwo_X {F : Nat} (hF : FB ≤ F) {M : Mem} {v np nd : Nat} {kn : Nat → Int32} {dr : Nat → Nat → Int32} (h : VX M v np nd kn dr) (hw : WN np nd dr) (hkk : KK np kn) (p q : Int32) : ∃ M', V_payTwo F M v p q = some (fo (fun i (s : Int32) => if payC kn dr p q i = true then s + dr i 3 else s) nd 0 0, M') ∧ VX M' v np nd kn (payD kn dr p q) ∧ ∀ a, ¬ (v + 3 ≤ a ∧ a ≤ v + 14) → M' a = M a := by
  have hF' := FBL hF
  have hnd := h.2.2.2.2.2.1
  have hnp := h.2.2.2.2.1
  unfold V_payTwo
  obtain ⟨s', h1, h2, h3, h4⟩ := lpE (fun n i (s : Int32 × Mem) => L_V_payTwo_5 F v p q n s.2 s.1 (nI i)) (fun i s => s.1 = fo (fun i (s : Int32) => if payC kn dr p q i = true then s + dr i 3 else s) i 0 0 ∧ VX s.2 v np nd kn (payMix kn dr p q i) ∧ ∀ a, ¬ (v + 3 ≤ a ∧ a ≤ v + 14) → s.2 a = M a) (fun s => some s) nd
    (fun n i s hi hI => by
      obtain ⟨x1, N⟩ := s
      obtain ⟨i1, i2, i3⟩ := hI
      simp only at i1 i2 i3
      have hc : (nI nd ≤ nI i) = False := by rw [nI_leI (by omega) (by omega)]; simp; omega
      have e := fun j hj => i2.2.2.2.2.2.2.2 i hi j hj
      rw [payMix_at] at e
      have e1 : idx (nI i) (ln (v + 2)) = some i := by rw [h.2.1]; exact idx_nI (k := i) (n := 12) (by omega) (by omega)
      obtain ⟨a, ha, ea⟩ := hw i hi
      obtain ⟨k, hk, ek⟩ := hkk a ha
      have ok : V_isOfKind F N v (dr i 0) 2 = some (if kn (dr i 0).toNatClampNeg = 2 then 1 else 0) := by
        have := isOfKind_X hF i2 ha hk (q := 2) (by omega) ek
        rw [ea, cl (by omega), ek]
        simp only [isK_2 hk] at this
        exact this
      have y := VX_set i2 i 3 0
      have step : L_V_payTwo_5 F v p q (n + 1) N x1 (nI i) = if payC kn dr p q i = true then L_V_payTwo_5 F v p q n (up N (v + 2 + 1 + i) 3 0) (x1 + dr i 3) (nI (i + 1)) else L_V_payTwo_5 F v p q n N x1 (nI (i + 1)) := by
        show B_V_payTwo_5 F v p q _ N x1 (nI i) = _
        unfold B_V_payTwo_5
        simp only [i2.2.2.2.1, hc, ↓reduceIte, e1, ob_some, e 0 (by omega), e 1 (by omega), e 3 (by omega), ok, i10c, nI_1]
        rcases Classical.propComplete (dr i 0 = p) with C0 | C0 <;> rcases Classical.propComplete (dr i 1 = q) with C1 | C1 <;> rcases Classical.propComplete (dr i 0 = q) with C2 | C2 <;> rcases Classical.propComplete (dr i 1 = p) with C3 | C3 <;> rcases Classical.propComplete (kn (dr i 0).toNatClampNeg = 2) with C4 | C4 <;> simp [payC, C0, C1, C2, C3, C4]
      by_cases c : payC kn dr p q i = true
      · refine ⟨(x1 + dr i 3, up N (v + 2 + 1 + i) 3 0), ?_, ?_, ?_, ?_⟩
        · show L_V_payTwo_5 F v p q (n + 1) N x1 (nI i) = _
          rw [step, if_pos c]
        · rw [fo_succ, Nat.zero_add, if_pos c, ← i1]
        · refine VX_congr y (fun a ha j hj => ?_)
          rw [payMix_step]
          simp only [sd]
          by_cases qa : a = i
          · subst qa
            rw [payMix_at]
            by_cases q3 : j = 3
            · subst q3; simp [payD, c]
            · simp [payD, q3]
          · simp [qa]
        · intro a ha
          simp only
          rw [up_cell (by omega)]; exact i3 a ha
      · refine ⟨(x1, N), ?_, ?_, ?_, i3⟩
        · show L_V_payTwo_5 F v p q (n + 1) N x1 (nI i) = _
          rw [step, if_neg c]
        · rw [fo_succ, Nat.zero_add, if_neg c]; exact i1
        · refine VX_congr i2 (fun a ha j hj => ?_)
          rw [payMix_step]
          split
          · next qa => rw [qa, payMix_at]; simp [payD, c]
          · rfl)
    (fun n s hI => by
      show B_V_payTwo_5 F v p q _ s.2 s.1 (nI nd) = _
      unfold B_V_payTwo_5
      rw [hI.2.1.2.2.2.1, if_pos (by rw [nI_leI (by omega) (by omega)]; omega)])
    nd 0 F (0, M) (by omega) (by omega) ⟨rfl, VX_congr h (fun i _ j _ => by simp [payMix]), fun _ _ => rfl⟩
  rw [nI_0] at h1
  simp only at h1
  refine ⟨s'.2, ?_, VX_congr h3 (fun i hi j hj => by simp [payMix, hi]), h4⟩
  rw [h1, ob_some, h2]
