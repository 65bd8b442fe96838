/-! lessen: so many kisses less, from the oldest draft on -/
def kN (dr : Nat → Nat → Int32) (i : Nat) : Nat := (dr i 3).toNatClampNeg
def KN (nd : Nat) (dr : Nat → Nat → Int32) : Prop := ∀ i, i < nd → dr i 3 = nI (kN dr i) ∧ kN dr i ≤ 99
theorem GV.kn {np nd w : Nat} {kn : Nat → Int32} {dr : Nat → Nat → Int32} (h : GV np nd w kn dr) : KN nd dr := by
  intro i hi
  obtain ⟨a, b, c, k, v, t, g0, g1, g2, g3, g4, g5, ha, hb, hab, hcc, hk, hv, ht⟩ := h.2.2.2.1 i hi
  have e : kN dr i = k := by unfold kN; rw [g3, cl (by omega)]
  rw [e]
  exact ⟨g3, hk⟩
def mt (dr : Nat → Nat → Int32) (p q t : Int32) (i : Nat) : Bool := decide (dr i 0 = p) && decide (dr i 1 = q) && decide (dr i 2 = t)
def betwN (dr : Nat → Nat → Int32) (p q t : Int32) (n : Nat) : Nat := fo (fun i (s : Nat) => if mt dr p q t i = true then s + kN dr i else s) n 0 0
theorem betwN_succ (dr : Nat → Nat → Int32) (p q t : Int32) (n : Nat) : betwN dr p q t (n + 1) = if mt dr p q t n = true then betwN dr p q t n + kN dr n else betwN dr p q t n := by
  unfold betwN
  rw [fo_succ, Nat.zero_add]
theorem mt_iff {dr : Nat → Nat → Int32} {p q t : Int32} {i : Nat} : mt dr p q t i = true ↔ dr i 0 = p ∧ dr i 1 = q ∧ dr i 2 = t := by
  simp [mt, and_assoc]
theorem betw_N {nd : Nat} {dr : Nat → Nat → Int32} (h : KN nd dr) (p q t : Int32) : betwS nd dr p q t = nI (betwN dr p q t nd) ∧ betwN dr p q t nd ≤ 99 * nd := by
  refine ⟨?_, foN_le (fun i hi => (h i hi).2) nd (Nat.le_refl _)⟩
  have := foS (c := fun i => mt dr p q t i = true) (fun i hi => (h i hi).1) nd (Nat.le_refl _)
  unfold betwN
  rw [← this]
  unfold betwS
  refine fo_congr (e := nd) (fun i s _ => ?_) nd 0 0 (by omega)
  by_cases c : dr i 0 = p ∧ dr i 1 = q ∧ dr i 2 = t
  · rw [if_pos c, if_pos (mt_iff.mpr c)]
  · rw [if_neg c, if_neg (fun e => c (mt_iff.mp e))]
def lsD (dr : Nat → Nat → Int32) (p q t : Int32) (m : Nat) : Nat → Nat → Int32 := fun i j => if j = 3 ∧ mt dr p q t i = true then nI (kN dr i - (m - betwN dr p q t i)) else dr i j
theorem lsD_ne {dr : Nat → Nat → Int32} {p q t : Int32} {m i j : Nat} (h : j ≠ 3) : lsD dr p q t m i j = dr i j := by
  unfold lsD
  rw [if_neg (fun e => h e.1)]
theorem lsD_out {dr : Nat → Nat → Int32} {p q t : Int32} {m i j : Nat} (h : ¬ mt dr p q t i = true) : lsD dr p q t m i j = dr i j := by
  unfold lsD
  rw [if_neg (fun e => h e.2)]
theorem lsD_in {dr : Nat → Nat → Int32} {p q t : Int32} {m i : Nat} (h : mt dr p q t i = true) : lsD dr p q t m i 3 = nI (kN dr i - (m - betwN dr p q t i)) := by
  unfold lsD
  rw [if_pos ⟨rfl, h⟩]
theorem lsD_mt {dr : Nat → Nat → Int32} {p q t x y s : Int32} {m i : Nat} : mt (lsD dr p q t m) x y s i = mt dr x y s i := by
  unfold mt
  rw [lsD_ne (by omega), lsD_ne (by omega), lsD_ne (by omega)]
theorem lsD_kN {nd : Nat} {dr : Nat → Nat → Int32} (h : KN nd dr) {p q t : Int32} {m i : Nat} (hi : i < nd) : kN (lsD dr p q t m) i = if mt dr p q t i = true then kN dr i - (m - betwN dr p q t i) else kN dr i := by
  have := (h i hi).2
  by_cases c : mt dr p q t i = true
  · rw [if_pos c]; unfold kN; rw [lsD_in c, cl (by unfold kN at this ⊢; omega)]; rfl
  · rw [if_neg c]; unfold kN; rw [lsD_out c]
theorem lsD_KN {nd : Nat} {dr : Nat → Nat → Int32} (h : KN nd dr) (p q t : Int32) (m : Nat) : KN nd (lsD dr p q t m) := by
  intro i hi
  have h2 := h i hi
  rw [lsD_kN h hi]
  by_cases c : mt dr p q t i = true
  · rw [if_pos c, lsD_in c]; exact ⟨rfl, by omega⟩
  · rw [if_neg c, lsD_out c]; exact h2
theorem ls_same {nd : Nat} {dr : Nat → Nat → Int32} (h : KN nd dr) (p q t : Int32) (m : Nat) : ∀ n, n ≤ nd → betwN (lsD dr p q t m) p q t n = betwN dr p q t n - m := by
  intro n
  induction n with
  | zero => intro _; simp [betwN, fo]
  | succ n ih =>
    intro hn
    rw [betwN_succ, betwN_succ, lsD_mt, ih (by omega), lsD_kN h (by omega)]
    split
    · omega
    · rfl
theorem ls_other {nd : Nat} {dr : Nat → Nat → Int32} (h : KN nd dr) (p q t : Int32) (m : Nat) {x y s : Int32} (hne : ¬ (x = p ∧ y = q ∧ s = t)) : ∀ n, n ≤ nd → betwN (lsD dr p q t m) x y s n = betwN dr x y s n := by
  intro n
  induction n with
  | zero => intro _; simp [betwN, fo]
  | succ n ih =>
    intro hn
    rw [betwN_succ, betwN_succ, lsD_mt, ih (by omega)]
    by_cases c : mt dr x y s n = true
    · have c2 : ¬ mt dr p q t n = true := fun e => by
        have e1 := mt_iff.mp c
        have e2 := mt_iff.mp e
        exact hne ⟨e1.1.symm.trans e2.1, e1.2.1.symm.trans e2.2.1, e1.2.2.symm.trans e2.2.2⟩
      rw [if_pos c, if_pos c, lsD_kN h (by omega), if_neg c2]
    · rw [if_neg c, if_neg c]
def lsMix (dr : Nat → Nat → Int32) (p q t : Int32) (m i : Nat) : Nat → Nat → Int32 := fun a => if a < i then lsD dr p q t m a else dr a
theorem lsMix_step (dr : Nat → Nat → Int32) (p q t : Int32) (m i a j : Nat) : lsMix dr p q t m (i + 1) a j = if a = i then lsD dr p q t m i j else lsMix dr p q t m i a j := by
  unfold lsMix
  by_cases h : a = i
  · subst h; rw [if_pos (by omega), if_pos rfl]
  · rw [if_neg h]
    by_cases h2 : a < i
    · rw [if_pos (by omega), if_pos h2]
    · rw [if_neg (by omega), if_neg h2]
theorem lsMix_at (dr : Nat → Nat → Int32) (p q t : Int32) (m i : Nat) : lsMix dr p q t m i i = dr i := by
  unfold lsMix
  rw [if_neg (by omega)]
theorem min_sub {k r : Nat} (hk : k ≤ 99) (hr : r ≤ 2000) : nI k - (if nI k < nI r then nI k else nI r) = nI (k - r) ∧ nI r - (if nI k < nI r then nI k else nI r) = nI (r - k) := by
  have e : (nI k < nI r) = (k < r) := by rw [nI_ltI (by omega) (by omega)]
  simp only [e]
  by_cases c : k < r
  · rw [if_pos c, pk_sub (Nat.le_refl _), pk_sub (by omega)]
    exact ⟨by congr 1; omega, rfl⟩
  · rw [if_neg c, pk_sub (by omega), pk_sub (Nat.le_refl _)]
    exact ⟨rfl, by congr 1; omega⟩
theorem min_flip {k r : Nat} (hk : k ≤ 99) (hr : r ≤ 2000) : (if nI r ≤ nI k then some (nI r) else some (nI k)) = some (if nI k < nI r then nI k else nI r) := by
  have e : (nI k < nI r) = (k < r) := by rw [nI_ltI (by omega) (by omega)]
  have e2 : (nI r ≤ nI k) = (r ≤ k) := by rw [nI_leI (by omega) (by omega)]
  simp only [e, e2]
  by_cases c : k < r
  · rw [if_pos c, if_neg (by omega)]
  · rw [if_neg c, if_pos (by omega)]
theorem lessen_X {F : Nat} (hF : FB ≤ F) {M : Mem} {v np nd m : Nat} {kn : Nat → Int32} {dr : Nat → Nat → Int32} (h : VX M v np nd kn dr) (hk : KN nd dr) (p q t : Int32) (hm : m ≤ 2000) : ∃ M', V_lessen F M v p q t (nI m) = some M' ∧ VX M' v np nd kn (lsD dr p q t m) ∧ ∀ a, ¬ (v + 3 ≤ a ∧ a ≤ v + 14) → M' a = M a := by
  have hF' := FBL hF
  have hnd := h.2.2.2.2.2.1
  unfold V_lessen
  obtain ⟨s', h1, h2, h3, h4⟩ := lpE (fun n i (s : Int32 × Mem) => L_V_lessen_7 F v p q t n s.2 s.1 (nI i)) (fun i s => s.1 = nI (m - betwN dr p q t i) ∧ VX s.2 v np nd kn (lsMix dr p q t m i) ∧ ∀ a, ¬ (v + 3 ≤ a ∧ a ≤ v + 14) → s.2 a = M a) (fun s => some s.2) nd
    (fun n i s hi hI => by
      obtain ⟨x1, N⟩ := s
      obtain ⟨i1, i2, i3⟩ := hI
      simp only at i1 i2 i3
      have hc : (nI nd ≤ nI i) = False := by rw [nI_leI (by omega) (by omega)]; simp; omega
      have e := fun j hj => i2.2.2.2.2.2.2.2 i hi j hj
      rw [lsMix_at] at e
      have e1 : idx (nI i) (ln (v + 2)) = some i := by rw [h.2.1]; exact idx_nI (k := i) (n := 12) (by omega) (by omega)
      have hki := hk i hi
      have mm := min_sub (k := kN dr i) (r := m - betwN dr p q t i) hki.2 (by omega)
      rw [← hki.1, ← i1] at mm
      have y := VX_set i2 i 3 (nI (kN dr i - (m - betwN dr p q t i)))
      have step : L_V_lessen_7 F v p q t (n + 1) N x1 (nI i) = if mt dr p q t i = true then L_V_lessen_7 F v p q t n (up N (v + 2 + 1 + i) 3 (nI (kN dr i - (m - betwN dr p q t i)))) (nI (m - betwN dr p q t i - kN dr i)) (nI (i + 1)) else L_V_lessen_7 F v p q t n N x1 (nI (i + 1)) := by
        show B_V_lessen_7 F v p q t _ N x1 (nI i) = _
        unfold B_V_lessen_7
        simp only [i2.2.2.2.1, hc, ↓reduceIte, e1, Option.bind_some, e 0 (by omega), e 1 (by omega), e 2 (by omega), e 3 (by omega), mm.1, mm.2, nI_1]
        by_cases c0 : dr i 0 = p <;> by_cases c1 : dr i 1 = q <;> by_cases c2 : dr i 2 = t <;> simp [mt, c0, c1, c2]
      by_cases c : mt dr p q t i = true
      · refine ⟨(nI (m - betwN dr p q t i - kN dr i), up N (v + 2 + 1 + i) 3 (nI (kN dr i - (m - betwN dr p q t i)))), ?_, ?_, ?_, ?_⟩
        · show L_V_lessen_7 F v p q t (n + 1) N x1 (nI i) = _
          rw [step, if_pos c]
        · rw [betwN_succ, if_pos c, ← Nat.sub_sub]
        · refine VX_congr y (fun a ha j hj => ?_)
          rw [lsMix_step]
          simp only [sd]
          by_cases qa : a = i
          · subst qa
            rw [lsMix_at]
            by_cases q3 : j = 3
            · subst q3; simp only [and_self, ↓reduceIte]; exact lsD_in c
            · simp only [q3, and_false, ↓reduceIte]; exact lsD_ne q3
          · simp [qa]
        · intro a ha
          simp only
          rw [up_cell (by omega)]; exact i3 a ha
      · refine ⟨(x1, N), ?_, ?_, ?_, i3⟩
        · show L_V_lessen_7 F v p q t (n + 1) N x1 (nI i) = _
          rw [step, if_neg c]
        · rw [betwN_succ, if_neg c]; exact i1
        · refine VX_congr i2 (fun a ha j hj => ?_)
          rw [lsMix_step]
          split
          · next qa => rw [qa, lsMix_at]; exact lsD_out c
          · rfl)
    (fun n s hI => by
      show B_V_lessen_7 F v p q t _ s.2 s.1 (nI nd) = _
      unfold B_V_lessen_7
      rw [hI.2.1.2.2.2.1, if_pos (by rw [nI_leI (by omega) (by omega)]; omega)])
    nd 0 F (nI m, M) (by omega) (by omega) ⟨by simp [betwN, fo], VX_congr h (fun i _ j _ => by simp [lsMix]), fun _ _ => rfl⟩
  rw [nI_0] at h1
  simp only at h1
  refine ⟨s'.2, ?_, VX_congr h3 (fun i hi j hj => by simp [lsMix, hi]), h4⟩
  rw [h1, Option.bind_some]
theorem lessen_M {F : Nat} (hF : FB ≤ F) {M : Mem} {np nd m : Nat} {kn : Nat → Int32} {dr : Nat → Nat → Int32} (h : VM M np nd kn dr) (hk : KN nd dr) (p q t : Int32) (hm : m ≤ 2000) : ∃ M', M_lessen F M p q t (nI m) = some M' ∧ VM M' np nd kn (lsD dr p q t m) ∧ (∀ a, a ≠ 101 → M' a = M a) ∧ ∀ b, b < 2 ∨ 74 ≤ b → M' 101 b = M 101 b := by
  have hF' := FBL hF
  have hnd := h.2.2.2.1
  have hl : ln 101 = 11976 := by decide
  unfold M_lessen
  obtain ⟨s', h1, h2, h3, h4, h5⟩ := lpE (fun n i (s : Int32 × Mem) => L_M_lessen_7 F p q t n s.2 s.1 (nI i)) (fun i s => s.1 = nI (m - betwN dr p q t i) ∧ VM s.2 np nd kn (lsMix dr p q t m i) ∧ (∀ a, a ≠ 101 → s.2 a = M a) ∧ ∀ b, b < 2 ∨ 74 ≤ b → s.2 101 b = M 101 b) (fun s => some s.2) nd
    (fun n i s hi hI => by
      obtain ⟨x1, N⟩ := s
      obtain ⟨i1, i2, i3, i3'⟩ := hI
      simp only at i1 i2 i3 i3'
      have hc : (nI nd ≤ nI i) = False := by rw [nI_leI (by omega) (by omega)]; simp; omega
      have hki := hk i hi
      have mm := min_sub (k := kN dr i) (r := m - betwN dr p q t i) hki.2 (by omega)
      have mf := min_flip (k := kN dr i) (r := m - betwN dr p q t i) hki.2 (by omega)
      rw [← hki.1, ← i1] at mm mf
      have y := VM_set i2 i (j := 3) (by omega) (nI (kN dr i - (m - betwN dr p q t i)))
      have o : M_isOn F N (nI i) p q = some (if dr i 0 = p ∧ dr i 1 = q then 1 else 0) := by
        have := M_isOn_eq (F := F) i2 hi p q
        rw [lsMix_at] at this
        exact this
      have q2 : M_of F N (nI i) 2 = some (dr i 2) := by
        have := M_of_eq (F := F) i2 hi (j := 2) (by omega)
        rw [lsMix_at] at this
        exact this
      have q3 : M_of F N (nI i) 3 = some (dr i 3) := by
        have := M_of_eq (F := F) i2 hi (j := 3) (by omega)
        rw [lsMix_at] at this
        exact this
      have lv : ∀ x, M_leave F N (nI i) x = some (up N 101 (2 + 6 * i + 3) x) := fun x => by
        unfold M_leave
        rw [show (3 : Int32) = nI 3 from rfl, ix6, awr_nI (by rw [hl]; omega), Option.bind_some]
      have step : L_M_lessen_7 F p q t (n + 1) N x1 (nI i) = if mt dr p q t i = true then L_M_lessen_7 F p q t n (up N 101 (2 + 6 * i + 3) (nI (kN dr i - (m - betwN dr p q t i)))) (nI (m - betwN dr p q t i - kN dr i)) (nI (i + 1)) else L_M_lessen_7 F p q t n N x1 (nI (i + 1)) := by
        show B_M_lessen_7 F p q t _ N x1 (nI i) = _
        unfold B_M_lessen_7
        simp only [i2.2.1, hc, ↓reduceIte, o, q2, q3, Option.bind_some, mf, mm.1, mm.2, lv, i10c, nI_1]
        by_cases c0 : dr i 0 = p <;> by_cases c1 : dr i 1 = q <;> by_cases c2 : dr i 2 = t <;> simp [mt, c0, c1, c2]
      by_cases c : mt dr p q t i = true
      · refine ⟨(nI (m - betwN dr p q t i - kN dr i), up N 101 (2 + 6 * i + 3) (nI (kN dr i - (m - betwN dr p q t i)))), ?_, ?_, ?_, ?_, ?_⟩
        · show L_M_lessen_7 F p q t (n + 1) N x1 (nI i) = _
          rw [step, if_pos c]
        · rw [betwN_succ, if_pos c, ← Nat.sub_sub]
        · refine VM_congr y (fun a ha j hj => ?_)
          rw [lsMix_step]
          simp only [sd]
          by_cases qa : a = i
          · subst qa
            rw [lsMix_at]
            by_cases q3 : j = 3
            · subst q3; simp only [and_self, ↓reduceIte]; exact lsD_in c
            · simp only [q3, and_false, ↓reduceIte]; exact lsD_ne q3
          · simp [qa]
        · intro a ha
          simp only
          rw [up_cell (by omega)]; exact i3 a ha
        · intro b hb
          simp only
          rw [up_ne (by omega)]; exact i3' b hb
      · refine ⟨(x1, N), ?_, ?_, ?_, i3, i3'⟩
        · show L_M_lessen_7 F p q t (n + 1) N x1 (nI i) = _
          rw [step, if_neg c]
        · rw [betwN_succ, if_neg c]; exact i1
        · refine VM_congr i2 (fun a ha j hj => ?_)
          rw [lsMix_step]
          split
          · next qa => rw [qa, lsMix_at]; exact lsD_out c
          · rfl)
    (fun n s hI => by
      show B_M_lessen_7 F p q t _ s.2 s.1 (nI nd) = _
      unfold B_M_lessen_7
      rw [hI.2.1.2.1, if_pos (by rw [nI_leI (by omega) (by omega)]; omega)])
    nd 0 F (nI m, M) (by omega) (by omega) ⟨by simp [betwN, fo], VM_congr h (fun i _ j _ => by simp [lsMix]), fun _ _ => rfl, fun _ _ => rfl⟩
  rw [nI_0] at h1
  simp only at h1
  refine ⟨s'.2, ?_, VM_congr h3 (fun i hi j hj => by simp [lsMix, hi]), h4, h5⟩
  rw [h1, Option.bind_some]
