/-! week -/
theorem VX_congr {M : Mem} {v np nd : Nat} {kn : Nat → Int32} {dr dr' : Nat → Nat → Int32} (h : VX M v np nd kn dr) (e : ∀ i, i < nd → ∀ j, j < 6 → dr' i j = dr i j) : VX M v np nd kn dr' := by
  obtain ⟨h1, h2, h3, h4, h5, h6, h7, h8⟩ := h
  exact ⟨h1, h2, h3, h4, h5, h6, h7, fun i hi j hj => by rw [e i hi j hj]; exact h8 i hi j hj⟩
theorem VM_congr {M : Mem} {np nd : Nat} {kn : Nat → Int32} {dr dr' : Nat → Nat → Int32} (h : VM M np nd kn dr) (e : ∀ i, i < nd → ∀ j, j < 6 → dr' i j = dr i j) : VM M np nd kn dr' := by
  obtain ⟨h3, h4, h5, h6, h7, h8⟩ := h
  exact ⟨h3, h4, h5, h6, h7, fun i hi j hj => by rw [e i hi j hj]; exact h8 i hi j hj⟩
def wkK (kn : Nat → Int32) (d : Nat → Int32) : Int32 := if d 3 + groK (kn (d 1).toNatClampNeg).toNatClampNeg ≤ 99 then d 3 + groK (kn (d 1).toNatClampNeg).toNatClampNeg else 99
def wkC (d : Nat → Int32) : Bool := !(decide (d 4 + 1 ≤ 3)) && !(decide (d 2 = 2))
def wkD (kn : Nat → Int32) (d : Nat → Int32) : Nat → Int32 := fun j => if d 3 ≤ 0 then d j else if j = 4 then d 4 + 1 else if j = 3 then (if wkC d = true then 0 else wkK kn d) else d j
def wkG (kn : Nat → Int32) (d : Nat → Int32) : Int32 := if d 3 ≤ 0 then 0 else if wkC d = true then wkK kn d else 0
def wkMix (kn : Nat → Int32) (dr : Nat → Nat → Int32) (i : Nat) : Nat → Nat → Int32 := fun a => if a < i then wkD kn (dr a) else dr a
theorem min99 (x : Int32) : (if x < 99 then x else 99) = (if x ≤ 99 then x else 99) := by
  by_cases h : x < 99
  · rw [if_pos h, if_pos (Int32.le_of_lt h)]
  · rw [if_neg h]
    by_cases h2 : x ≤ 99
    · rw [if_pos h2]
      exact Int32.le_antisymm (Int32.not_lt.mp h) h2
    · rw [if_neg h2]
theorem mix_step (kn : Nat → Int32) (dr : Nat → Nat → Int32) (i a j : Nat) : wkMix kn dr (i + 1) a j = if a = i then wkD kn (dr i) j else wkMix kn dr i a j := by
  unfold wkMix
  by_cases h : a = i
  · subst h; rw [if_pos (by omega), if_pos rfl]
  · rw [if_neg h]
    by_cases h2 : a < i
    · rw [if_pos (by omega), if_pos h2]
    · rw [if_neg (by omega), if_neg h2]
theorem mix_at (kn : Nat → Int32) (dr : Nat → Nat → Int32) (i : Nat) : wkMix kn dr i i = dr i := by
  unfold wkMix
  rw [if_neg (by omega)]
theorem lt4 (x : Int32) : (x < 4) = (x ≤ 3) := by
  rw [i32_lt, i32_le]
  have h1 : (4 : Int32).toInt = 4 := rfl
  have h2 : (3 : Int32).toInt = 3 := rfl
  simp only [eq_iff_iff, h1, h2]
  omega
theorem weekX {F : Nat} (hF : FB ≤ F) {M : Mem} {np nd w : Nat} {kn : Nat → Int32} {dr : Nat → Nat → Int32} (h : VX M 23 np nd kn dr) (hg : GV np nd w kn dr) : ∃ M', V_passWeek F M 23 = some (fo (fun i (s : Int32) => s + wkG kn (dr i)) nd 0 0, M') ∧ VX M' 23 np nd kn (fun i => wkD kn (dr i)) ∧ ∀ a, ¬ (26 ≤ a ∧ a ≤ 37) → M' a = M a := by
  have hF' := FBL hF
  have hnd := hg.2.2.1
  have hnp := hg.2.1
  unfold V_passWeek
  obtain ⟨s', h1, h2, h3, h4⟩ := lpE (fun m i (s : Int32 × Mem) => L_V_passWeek_4 F 23 m s.2 s.1 (nI i)) (fun i s => s.1 = fo (fun i (s : Int32) => s + wkG kn (dr i)) i 0 0 ∧ VX s.2 23 np nd kn (wkMix kn dr i) ∧ ∀ a, ¬ (26 ≤ a ∧ a ≤ 37) → s.2 a = M a) (fun s => some s) nd
    (fun m i s hi hI => by
      obtain ⟨x1, N⟩ := s
      obtain ⟨i1, i2, i3⟩ := hI
      simp only at i1 i2 i3
      have hc : (nI nd ≤ nI i) = False := by rw [nI_leI (by omega) (by omega)]; simp; omega
      have e := fun j hj => i2.2.2.2.2.2.2.2 i hi j hj
      rw [mix_at] at e
      have e1 : idx (nI i) (ln (23 + 2)) = some i := idx_nI (k := i) (n := 12) (by omega) (by omega)
      obtain ⟨a, b, c, k, v, t, g0, g1, g2, g3, g4, g5, ha, hb, hab, hcc, hk, hv, ht⟩ := hg.2.2.2.1 i hi
      obtain ⟨kk, hkk, ekk⟩ := hg.2.2.2.2 b hb
      have sum : fo (fun i (s : Int32) => s + wkG kn (dr i)) (i + 1) 0 0 = x1 + wkG kn (dr i) := by rw [fo_succ, Nat.zero_add, ← i1]
      have eg : groK (kn (dr i 1).toNatClampNeg).toNatClampNeg = groK kk := by rw [g1, cl (by omega), ekk, cl (by omega)]
      have y1 := VX_set i2 i 4 (dr i 4 + 1)
      have y2 := VX_set y1 i 3 (wkK kn (dr i))
      have y3 := VX_set y2 i 3 0
      have e5 : V_growthFor F (up N (23 + 2 + 1 + i) 4 (dr i 4 + 1)) 23 (dr i 1) = some (groK kk) := by rw [g1]; exact growth_X y1 hb hkk ekk
      have u1 : up N (23 + 2 + 1 + i) 4 (dr i 4 + 1) (23 + 2 + 1 + i) 1 = dr i 1 := by rw [up_ne (by omega), e 1 (by omega)]
      have u3 : up N (23 + 2 + 1 + i) 4 (dr i 4 + 1) (23 + 2 + 1 + i) 3 = dr i 3 := by rw [up_ne (by omega), e 3 (by omega)]
      have um : (if dr i 3 + groK kk < 99 then dr i 3 + groK kk else 99) = wkK kn (dr i) := by rw [min99]; unfold wkK; rw [eg]
      have u4 : up (up N (23 + 2 + 1 + i) 4 (dr i 4 + 1)) (23 + 2 + 1 + i) 3 (wkK kn (dr i)) (23 + 2 + 1 + i) 4 = dr i 4 + 1 := by rw [up_ne (by omega), up_same]
      have u2 : up (up N (23 + 2 + 1 + i) 4 (dr i 4 + 1)) (23 + 2 + 1 + i) 3 (wkK kn (dr i)) (23 + 2 + 1 + i) 2 = dr i 2 := by rw [up_ne (by omega), up_ne (by omega), e 2 (by omega)]
      have u5 : up (up N (23 + 2 + 1 + i) 4 (dr i 4 + 1)) (23 + 2 + 1 + i) 3 (wkK kn (dr i)) (23 + 2 + 1 + i) 3 = wkK kn (dr i) := up_same _ _ _ _
      have step : L_V_passWeek_4 F 23 (m + 1) N x1 (nI i) = (if dr i 3 ≤ 0 then L_V_passWeek_4 F 23 m N x1 (nI (i + 1)) else if wkC (dr i) = true then L_V_passWeek_4 F 23 m (up (up (up N (23 + 2 + 1 + i) 4 (dr i 4 + 1)) (23 + 2 + 1 + i) 3 (wkK kn (dr i))) (23 + 2 + 1 + i) 3 0) (x1 + wkK kn (dr i)) (nI (i + 1)) else L_V_passWeek_4 F 23 m (up (up N (23 + 2 + 1 + i) 4 (dr i 4 + 1)) (23 + 2 + 1 + i) 3 (wkK kn (dr i))) x1 (nI (i + 1))) := by
        show B_V_passWeek_4 F 23 _ N x1 (nI i) = _
        unfold B_V_passWeek_4
        simp only [i2.2.2.2.1, hc, ↓reduceIte, e1, Option.bind_some, D_isOpen_eq, e 3 (by omega), e 4 (by omega), i01, u1, u3, e5, um, u4, u2, u5, lt4, nI_1]
        by_cases c0 : dr i 3 ≤ 0
        · simp only [c0, ↓reduceIte]
        · simp only [c0, ↓reduceIte]
          by_cases c1 : dr i 4 + 1 ≤ 3
          · have : wkC (dr i) = false := by simp [wkC, c1]
            simp only [c1, this, ↓reduceIte, Bool.false_eq_true]
          · by_cases c2 : dr i 2 = 2
            · have : wkC (dr i) = false := by simp [wkC, c2]
              simp only [c1, c2, this, ↓reduceIte, Bool.false_eq_true]
            · have : wkC (dr i) = true := by simp [wkC, c1, c2]
              simp only [c1, c2, this, ↓reduceIte]
      by_cases c0 : dr i 3 ≤ 0
      · refine ⟨(x1, N), ?_, ?_, ?_, i3⟩
        · show L_V_passWeek_4 F 23 (m + 1) N x1 (nI i) = _
          rw [step, if_pos c0]
        · rw [sum]; simp only [wkG, c0, ↓reduceIte, Int32.add_zero]
        · refine VX_congr i2 (fun p hp j hj => ?_)
          rw [mix_step]
          split
          · next q => rw [q, mix_at]; simp only [wkD, c0, ↓reduceIte]
          · rfl
      · by_cases c1 : wkC (dr i) = true
        · refine ⟨(x1 + wkK kn (dr i), up (up (up N (23 + 2 + 1 + i) 4 (dr i 4 + 1)) (23 + 2 + 1 + i) 3 (wkK kn (dr i))) (23 + 2 + 1 + i) 3 0), ?_, ?_, ?_, ?_⟩
          · show L_V_passWeek_4 F 23 (m + 1) N x1 (nI i) = _
            rw [step, if_neg c0, if_pos c1]
          · rw [sum]; simp only [wkG, c0, c1, ↓reduceIte]
          · refine VX_congr y3 (fun p hp j hj => ?_)
            rw [mix_step]
            simp only [sd]
            by_cases q : p = i
            · subst q
              rw [mix_at]
              by_cases q3 : j = 3
              · subst q3; simp [wkD, c0, c1]
              · by_cases q4 : j = 4
                · subst q4; simp [wkD, c0]
                · simp [wkD, c0, q3, q4]
            · simp [q]
          · intro a ha
            simp only
            rw [up_cell (by omega), up_cell (by omega), up_cell (by omega)]; exact i3 a ha
        · refine ⟨(x1, up (up N (23 + 2 + 1 + i) 4 (dr i 4 + 1)) (23 + 2 + 1 + i) 3 (wkK kn (dr i))), ?_, ?_, ?_, ?_⟩
          · show L_V_passWeek_4 F 23 (m + 1) N x1 (nI i) = _
            rw [step, if_neg c0, if_neg c1]
          · rw [sum]; simp only [wkG, c0, c1, ↓reduceIte, Int32.add_zero, Bool.false_eq_true]
          · refine VX_congr y2 (fun p hp j hj => ?_)
            rw [mix_step]
            simp only [sd]
            by_cases q : p = i
            · subst q
              rw [mix_at]
              by_cases q3 : j = 3
              · subst q3; simp [wkD, c0, c1]
              · by_cases q4 : j = 4
                · subst q4; simp [wkD, c0]
                · simp [wkD, c0, q3, q4]
            · simp [q]
          · intro a ha
            simp only
            rw [up_cell (by omega), up_cell (by omega)]; exact i3 a ha)
    (fun m s hI => by
      show B_V_passWeek_4 F 23 _ s.2 s.1 (nI nd) = _
      unfold B_V_passWeek_4
      rw [hI.2.1.2.2.2.1, if_pos (by rw [nI_leI (by omega) (by omega)]; omega)])
    nd 0 F (0, M) (by omega) (by omega) ⟨rfl, VX_congr h (fun i _ j _ => by simp [wkMix]), fun _ _ => rfl⟩
  rw [nI_0] at h1
  simp only at h1
  refine ⟨s'.2, ?_, VX_congr h3 (fun i hi j hj => by simp [wkMix, hi]), h4⟩
  rw [h1, Option.bind_some, h2]
theorem weekM {F : Nat} (hF : FB ≤ F) {M : Mem} {np nd w : Nat} {kn : Nat → Int32} {dr : Nat → Nat → Int32} (h : VM M np nd kn dr) (hg : GV np nd w kn dr) : ∃ M', L_M_week_28 F F M 0 0 = some (fo (fun i (s : Int32) => s + wkG kn (dr i)) nd 0 0, M') ∧ VM M' np nd kn (fun i => wkD kn (dr i)) ∧ (∀ a, a ≠ 101 → M' a = M a) ∧ ∀ b, b < 2 ∨ 74 ≤ b → M' 101 b = M 101 b := by
  have hF' := FBL hF
  have hnd := hg.2.2.1
  have hnp := hg.2.1
  have hl : ln 101 = 11976 := by decide
  obtain ⟨s', h1, h2, h3, h4, h5⟩ := lpE (fun m i (s : Int32 × Mem) => L_M_week_28 F m s.2 s.1 (nI i)) (fun i s => s.1 = fo (fun i (s : Int32) => s + wkG kn (dr i)) i 0 0 ∧ VM s.2 np nd kn (wkMix kn dr i) ∧ (∀ a, a ≠ 101 → s.2 a = M a) ∧ ∀ b, b < 2 ∨ 74 ≤ b → s.2 101 b = M 101 b) (fun s => some s) nd
    (fun m i s hi hI => by
      obtain ⟨x1, N⟩ := s
      obtain ⟨i1, i2, i3, i3'⟩ := hI
      simp only at i1 i2 i3 i3'
      have hc : (nI nd ≤ nI i) = False := by rw [nI_leI (by omega) (by omega)]; simp; omega
      have e := fun j hj => i2.2.2.2.2.2 i hi j hj
      rw [mix_at] at e
      obtain ⟨a, b, c, k, v, t, g0, g1, g2, g3, g4, g5, ha, hb, hab, hcc, hk, hv, ht⟩ := hg.2.2.2.1 i hi
      obtain ⟨kk, hkk, ekk⟩ := hg.2.2.2.2 b hb
      have sum : fo (fun i (s : Int32) => s + wkG kn (dr i)) (i + 1) 0 0 = x1 + wkG kn (dr i) := by rw [fo_succ, Nat.zero_add, ← i1]
      have eg : groK (kn (dr i 1).toNatClampNeg).toNatClampNeg = groK kk := by rw [g1, cl (by omega), ekk, cl (by omega)]
      have y1 := VM_set i2 i (j := 4) (by omega) (dr i 4 + 1)
      have y2 := VM_set y1 i (j := 3) (by omega) (if wkC (dr i) = true then 0 else wkK kn (dr i))
      have r4 : ard N 101 (2 + 6 * nI i + 4) = some (dr i 4) := by rw [show (4 : Int32) = nI 4 from rfl, ix6, ard_nI (by rw [hl]; omega), e 4 (by omega)]
      have s4 : awr N 101 (2 + 6 * nI i + 4) (dr i 4 + 1) = some (up N 101 (2 + 6 * i + 4) (dr i 4 + 1)) := by rw [show (4 : Int32) = nI 4 from rfl, ix6, awr_nI (by rw [hl]; omega)]
      have o : M_isOpen F N (nI i) = some (if dr i 3 ≤ 0 then 0 else 1) := by
        have := M_isOpen_eq (F := F) i2 hi
        rw [mix_at] at this
        exact this
      have q3 : M_of F (up N 101 (2 + 6 * i + 4) (dr i 4 + 1)) (nI i) 3 = some (dr i 3) := by
        have := M_of_eq (F := F) y1 hi (j := 3) (by omega)
        rw [sd_ne (by omega), mix_at] at this
        exact this
      have q1 : M_of F (up N 101 (2 + 6 * i + 4) (dr i 4 + 1)) (nI i) 1 = some (dr i 1) := by
        have := M_of_eq (F := F) y1 hi (j := 1) (by omega)
        rw [sd_ne (by omega), mix_at] at this
        exact this
      have q2 : M_of F (up N 101 (2 + 6 * i + 4) (dr i 4 + 1)) (nI i) 2 = some (dr i 2) := by
        have := M_of_eq (F := F) y1 hi (j := 2) (by omega)
        rw [sd_ne (by omega), mix_at] at this
        exact this
      have q4 : M_of F (up N 101 (2 + 6 * i + 4) (dr i 4 + 1)) (nI i) 4 = some (dr i 4 + 1) := by
        have := M_of_eq (F := F) y1 hi (j := 4) (by omega)
        rw [sd_same] at this
        exact this
      have e5 : M_growth F (up N 101 (2 + 6 * i + 4) (dr i 4 + 1)) (dr i 1) = some (groK kk) := by rw [g1]; exact growth_M y1 hb hkk ekk
      have um : (if dr i 3 + groK kk ≤ 99 then some (dr i 3 + groK kk) else some 99) = some (wkK kn (dr i)) := by unfold wkK; rw [eg]; split <;> rfl
      have lv : ∀ x, M_leave F (up N 101 (2 + 6 * i + 4) (dr i 4 + 1)) (nI i) x = some (up (up N 101 (2 + 6 * i + 4) (dr i 4 + 1)) 101 (2 + 6 * i + 3) x) := fun x => by
        unfold M_leave
        rw [show (3 : Int32) = nI 3 from rfl, ix6, awr_nI (by rw [hl]; omega), Option.bind_some]
      have ck : (if dr i 4 + 1 ≤ 3 then some (0 : Int32) else if dr i 2 = 2 then some 0 else some 1) = some (if wkC (dr i) = true then 1 else 0) := by
        by_cases c1 : dr i 4 + 1 ≤ 3
        · simp [wkC, c1]
        · by_cases c2 : dr i 2 = 2 <;> simp [wkC, c1, c2]
      have step : L_M_week_28 F (m + 1) N x1 (nI i) = (if dr i 3 ≤ 0 then L_M_week_28 F m N x1 (nI (i + 1)) else L_M_week_28 F m (up (up N 101 (2 + 6 * i + 4) (dr i 4 + 1)) 101 (2 + 6 * i + 3) (if wkC (dr i) = true then 0 else wkK kn (dr i))) (x1 + (if wkC (dr i) = true then wkK kn (dr i) else 0)) (nI (i + 1))) := by
        show B_M_week_28 F _ N x1 (nI i) = _
        unfold B_M_week_28
        simp only [i2.2.1, hc, ↓reduceIte, o, Option.bind_some, i01, r4, s4, q3, q1, e5, um, q4, q2, ck, nI_1]
        by_cases c0 : dr i 3 ≤ 0
        · simp only [c0, ↓reduceIte]
        · simp only [c0, ↓reduceIte]
          have z10 : ((1 : Int32) = 0) = False := by decide
          by_cases c1 : wkC (dr i) = true
          · simp only [c1, ↓reduceIte, z10, Option.bind_some, lv]
          · simp only [c1, ↓reduceIte, Option.bind_some, lv, Bool.false_eq_true]
      by_cases c0 : dr i 3 ≤ 0
      · refine ⟨(x1, N), ?_, ?_, ?_, i3, i3'⟩
        · show L_M_week_28 F (m + 1) N x1 (nI i) = _
          rw [step, if_pos c0]
        · rw [sum]; simp only [wkG, c0, ↓reduceIte, Int32.add_zero]
        · refine VM_congr i2 (fun p hp j hj => ?_)
          rw [mix_step]
          split
          · next q => rw [q, mix_at]; simp only [wkD, c0, ↓reduceIte]
          · rfl
      · refine ⟨(x1 + (if wkC (dr i) = true then wkK kn (dr i) else 0), up (up N 101 (2 + 6 * i + 4) (dr i 4 + 1)) 101 (2 + 6 * i + 3) (if wkC (dr i) = true then 0 else wkK kn (dr i))), ?_, ?_, ?_, ?_, ?_⟩
        · show L_M_week_28 F (m + 1) N x1 (nI i) = _
          rw [step, if_neg c0]
        · rw [sum]; simp only [wkG, c0, ↓reduceIte]
        · refine VM_congr y2 (fun p hp j hj => ?_)
          rw [mix_step]
          simp only [sd]
          by_cases q : p = i
          · subst q
            rw [mix_at]
            by_cases q3 : j = 3
            · subst q3; simp [wkD, c0]
            · by_cases q4 : j = 4
              · subst q4; simp [wkD, c0]
              · simp [wkD, c0, q3, q4]
          · simp [q]
        · intro a ha
          simp only
          rw [up_cell (by omega), up_cell (by omega)]; exact i3 a ha
        · intro b hb
          simp only
          rw [up_ne (by omega), up_ne (by omega)]; exact i3' b hb)
    (fun m s hI => by
      show B_M_week_28 F _ s.2 s.1 (nI nd) = _
      unfold B_M_week_28
      rw [hI.2.1.2.1, if_pos (by rw [nI_leI (by omega) (by omega)]; omega)])
    nd 0 F (0, M) (by omega) (by omega) ⟨rfl, VM_congr h (fun i _ j _ => by simp [wkMix]), fun _ _ => rfl, fun _ _ => rfl⟩
  rw [nI_0] at h1
  simp only at h1
  refine ⟨s'.2, ?_, VM_congr h3 (fun i hi j hj => by simp [wkMix, hi]), h4, h5⟩
  rw [h1, ← h2]
theorem gro_N {k : Nat} (hk : k < 6) : ∃ g : Nat, g ≤ 1000 ∧ groK k = nI g := kdom (fun k => ∃ g : Nat, g ≤ 1000 ∧ groK k = nI g) ⟨(groK 0).toNatClampNeg, by decide⟩ ⟨(groK 1).toNatClampNeg, by decide⟩ ⟨(groK 2).toNatClampNeg, by decide⟩ ⟨(groK 3).toNatClampNeg, by decide⟩ ⟨(groK 4).toNatClampNeg, by decide⟩ ⟨(groK 5).toNatClampNeg, by decide⟩ hk
theorem op_week {F : Nat} (hF : FB ≤ F) (M1 M2 : Mem) (hR : Rel M1 M2) : ∃ (r : Int32) (M1' : Mem) (M2' : Mem), K_week F M1 = some (r, M1') ∧ M_week F M2 = some (r, M2') ∧ Rel M1' M2' := by
  obtain ⟨np, nd, D, hc⟩ := hR.2.2.2
  obtain ⟨kn, dr, hx, hm, hg, ekn, edr⟩ := hc.views
  have hnp := hg.2.1
  have hnd := hg.2.2.1
  unfold K_week M_week
  rw [isEmpty_eq hx, hm.1]
  simp only [np_zero hnp, Option.bind_some, i10c, full_X hc.2.2.1.1 hc.2.2.1.2.1, full_M hc.2.2.1.1 hc.2.2.1.2.2.1]
  by_cases h0 : np = 0
  · simp only [h0, ↓reduceIte, not_true_eq_false]
    exact ⟨_, _, _, rfl, rfl, hR⟩
  by_cases k5 : D = 40
  · simp only [h0, k5, ↓reduceIte, not_true_eq_false, not_false_eq_true]
    exact ⟨_, _, _, rfl, rfl, hR⟩
  have hD := hc.2.2.1.1
  obtain ⟨N1, N2, b1, b2, b3, b4, b5, b6, b7⟩ := begin_rel hF hc (by omega)
  obtain ⟨kn', dr', hx', hm', hg', ekn', edr'⟩ := b3.views
  obtain ⟨P1, u1, u2, u3⟩ := weekX hF hx' hg'
  obtain ⟨P2, v1, v2, v3, v4⟩ := weekM hF hm' hg'
  simp only [h0, k5, ↓reduceIte, not_false_eq_true, b1, b2, Option.bind_some, u1, v1]
  refine ⟨_, _, _, rfl, rfl, Rel_of_C hR (fun p hp => ?_) (fun p hp => ?_) (RelC_views b3 (fun p hp => u3 p (by omega)) v3 (fun b hb => v4 b (by omega)) u2 v2 (fun i hi => ?_))⟩
  · rw [u3 p (by omega), b5 p (by omega)]
  · rw [v3 p hp, b6 p hp]
  · have hgd := b4 i hi
    rw [← edr' i] at hgd
    obtain ⟨a, b, c, k, v, t, g0, g1, g2, g3, g4, g5, ha, hb, hab, hcc, hk, hv, ht⟩ := hgd
    obtain ⟨kk, hkk, ekk⟩ := hg'.2.2.2.2 b hb
    obtain ⟨g, hg9, eg⟩ := gro_N hkk
    have ew : wkK kn' (dr' i) = nI (if k + g ≤ 99 then k + g else 99) := by
      unfold wkK
      rw [g1, cl (by omega), ekk, cl (by omega), eg, g3, nI_add, lit 99]
      have : (nI (k + g) ≤ nI 99) = (k + g ≤ 99) := by rw [nI_leI (by omega) (by omega)]
      simp only [this]
      split <;> rfl
    by_cases c0 : dr' i 3 ≤ 0
    · exact ⟨a, b, c, k, v, t, by simp only [wkD, c0, ↓reduceIte, g0], by simp only [wkD, c0, ↓reduceIte, g1], by simp only [wkD, c0, ↓reduceIte, g2], by simp only [wkD, c0, ↓reduceIte]; exact g3, by simp only [wkD, c0, ↓reduceIte, g4], by simp only [wkD, c0, ↓reduceIte, g5], ha, hb, hab, hcc, hk, by omega, ht⟩
    · refine ⟨a, b, c, if wkC (dr' i) = true then 0 else (if k + g ≤ 99 then k + g else 99), v + 1, t, ?_, ?_, ?_, ?_, ?_, ?_, ha, hb, hab, hcc, ?_, by omega, ht⟩
      · simp [wkD, c0, g0]
      · simp [wkD, c0, g1]
      · simp [wkD, c0, g2]
      · simp only [wkD, c0, ↓reduceIte, ew]
        split
        · next q => exact absurd q (by omega)
        · split <;> rfl
      · simp only [wkD, c0, ↓reduceIte, g4, nI_1]
      · simp [wkD, c0, g5]
      · split
        · omega
        · split <;> omega
