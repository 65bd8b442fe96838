/-! loops over drafts: the class and the reference by one word each (by program: wip/whole/gen_p2.py) -/
def whoN (dr : Nat → Nat → Int32) (i : Nat) : Nat := (dr i 0).toNatClampNeg
def whomN (dr : Nat → Nat → Int32) (i : Nat) : Nat := (dr i 1).toNatClampNeg
def BN (nd : Nat) (dr : Nat → Nat → Int32) : Prop := ∀ i, i < nd → ∃ a b : Nat, a < 6 ∧ b < 6 ∧ dr i 0 = nI a ∧ dr i 1 = nI b ∧ whoN dr i = a ∧ whomN dr i = b
theorem GV.bn {np nd w : Nat} {kn : Nat → Int32} {dr : Nat → Nat → Int32} (h : GV np nd w kn dr) : BN nd dr := by
  intro i hi
  obtain ⟨a, b, c, k, v, t, h0, h1, h2, h3, h4, h5, ha, hb, -⟩ := h.2.2.2.1 i hi
  have hnp := h.2.1
  exact ⟨a, b, by omega, by omega, h0, h1, by unfold whoN; rw [h0, cl (by omega)], by unfold whomN; rw [h1, cl (by omega)]⟩
def owingS (nd : Nat) (dr : Nat → Nat → Int32) (p : Int32) : Int32 := fo (fun i (s : Int32) => if dr i 0 = p then s + dr i 3 * (dr i 2 + 1) else s) nd 0 0
theorem V_owing_eq {F : Nat} (hF : FB ≤ F) {M : Mem} {v np nd : Nat} {kn : Nat → Int32} {dr : Nat → Nat → Int32} (h : VX M v np nd kn dr) (p : Int32) : V_owing F M v p = some (owingS nd dr p) := by
  have hF' := FBL hF
  obtain ⟨hl1, hl2, hp0, hn0, hnp, hnd, hk, hd⟩ := h
  unfold V_owing
  have key := lpF (fun m i (s : Int32) => L_V_owing_4 F M v p m s (nI i)) (fun i s => if dr i 0 = p then s + dr i 3 * (dr i 2 + 1) else s) (fun s => some s) nd
    (fun m i s hi => by
      show B_V_owing_4 F M v p _ s (nI i) = _
      unfold B_V_owing_4
      have hc : (nI nd ≤ nI i) = False := by rw [nI_leI (by omega) (by omega)]; simp; omega
      have hx := idx_nI (k := i) (n := 12) (by omega) (by omega)
      have e0 := hd i hi 0 (by decide)
      have e1 := hd i hi 1 (by decide)
      have e2 := hd i hi 2 (by decide)
      have e3 := hd i hi 3 (by decide)
      have e4 := hd i hi 4 (by decide)
      have e5 := hd i hi 5 (by decide)
      simp only [hn0, hc, ↓reduceIte, hl2, hx, Option.bind_some, D_isOpen_eq, D_worth, i01, e0, e1, e2, e3, e4, e5, nI_1]
      by_cases c0 : dr i 0 = p <;> simp [c0])
    (fun m s => by
      show B_V_owing_4 F M v p _ s (nI nd) = _
      unfold B_V_owing_4
      rw [hn0, if_pos (by rw [nI_leI (by omega) (by omega)]; omega)])
    nd 0 F 0 (by omega) (by omega)
  show ((L_V_owing_4 F M v p F 0 (nI 0)).bind fun u => some u) = _
  rw [key]
  rfl
theorem M_owing_eq {F : Nat} (hF : FB ≤ F) {M : Mem} {np nd : Nat} {kn : Nat → Int32} {dr : Nat → Nat → Int32} (h : VM M np nd kn dr) (p : Int32) : M_owing F M p = some (owingS nd dr p) := by
  have hF' := FBL hF
  have hnd : nd ≤ 12 := h.2.2.2.1
  have hn0 : M 101 1 = nI nd := h.2.1
  unfold M_owing
  have key := lpF (fun m i (s : Int32) => L_M_owing_4 F M p m s (nI i)) (fun i s => if dr i 0 = p then s + dr i 3 * (dr i 2 + 1) else s) (fun s => some s) nd
    (fun m i s hi => by
      show B_M_owing_4 F M p _ s (nI i) = _
      unfold B_M_owing_4
      have hc : (nI nd ≤ nI i) = False := by rw [nI_leI (by omega) (by omega)]; simp; omega
      have e0 : M_of F M (nI i) 0 = some (dr i 0) := M_of_eq h hi (j := 0) (by decide)
      have e1 : M_of F M (nI i) 1 = some (dr i 1) := M_of_eq h hi (j := 1) (by decide)
      have e2 : M_of F M (nI i) 2 = some (dr i 2) := M_of_eq h hi (j := 2) (by decide)
      have e3 : M_of F M (nI i) 3 = some (dr i 3) := M_of_eq h hi (j := 3) (by decide)
      have e4 : M_of F M (nI i) 4 = some (dr i 4) := M_of_eq h hi (j := 4) (by decide)
      simp only [hn0, hc, ↓reduceIte, Option.bind_some, e0, e1, e2, e3, e4, M_isOpen_eq h hi, M_worth_eq h hi, M_isOn_eq h hi, i01, i10c, nI_1, Int32.add_zero, Int32.or_zero]
      by_cases c0 : dr i 0 = p <;> simp [c0])
    (fun m s => by
      show B_M_owing_4 F M p _ s (nI nd) = _
      unfold B_M_owing_4
      rw [hn0, if_pos (by rw [nI_leI (by omega) (by omega)]; omega)])
    nd 0 F 0 (by omega) (by omega)
  show ((L_M_owing_4 F M p F 0 (nI 0)).bind fun u => some u) = _
  rw [key]
  rfl
def owedS (nd : Nat) (dr : Nat → Nat → Int32) (p : Int32) (g : Int32) : Int32 := fo (fun i (s : Int32) => if dr i 1 = p ∧ tb g (whoN dr i) = false then s + dr i 3 * (dr i 2 + 1) else s) nd 0 0
theorem V_owed_eq {F : Nat} (hF : FB ≤ F) {M : Mem} {v np nd : Nat} {kn : Nat → Int32} {dr : Nat → Nat → Int32} (h : VX M v np nd kn dr) (hb : BN nd dr) (p : Int32) (g : Int32) : V_owed F M v p g = some (owedS nd dr p g) := by
  have hF' := FBL hF
  obtain ⟨hl1, hl2, hp0, hn0, hnp, hnd, hk, hd⟩ := h
  unfold V_owed
  have key := lpF (fun m i (s : Int32) => L_V_owed_5 F M v p g m s (nI i)) (fun i s => if dr i 1 = p ∧ tb g (whoN dr i) = false then s + dr i 3 * (dr i 2 + 1) else s) (fun s => some s) nd
    (fun m i s hi => by
      show B_V_owed_5 F M v p g _ s (nI i) = _
      unfold B_V_owed_5
      have hc : (nI nd ≤ nI i) = False := by rw [nI_leI (by omega) (by omega)]; simp; omega
      have hx := idx_nI (k := i) (n := 12) (by omega) (by omega)
      have e0 := hd i hi 0 (by decide)
      have e1 := hd i hi 1 (by decide)
      have e2 := hd i hi 2 (by decide)
      have e3 := hd i hi 3 (by decide)
      have e4 := hd i hi 4 (by decide)
      have e5 := hd i hi 5 (by decide)
      obtain ⟨a, b, ha, hbb, ea, eb, wa, wb⟩ := hb i hi
      simp only [hn0, hc, ↓reduceIte, hl2, hx, Option.bind_some, D_isOpen_eq, D_worth, i01, e0, e1, e2, e3, e4, e5, nI_1, ea, eb, wa, wb, and_bit' (show a < 31 by omega)]
      by_cases c0 : nI b = p <;> by_cases c1 : tb g a = false <;> simp [c0, c1])
    (fun m s => by
      show B_V_owed_5 F M v p g _ s (nI nd) = _
      unfold B_V_owed_5
      rw [hn0, if_pos (by rw [nI_leI (by omega) (by omega)]; omega)])
    nd 0 F 0 (by omega) (by omega)
  show ((L_V_owed_5 F M v p g F 0 (nI 0)).bind fun u => some u) = _
  rw [key]
  rfl
theorem M_owed_eq {F : Nat} (hF : FB ≤ F) {M : Mem} {np nd : Nat} {kn : Nat → Int32} {dr : Nat → Nat → Int32} (h : VM M np nd kn dr) (hb : BN nd dr) (p : Int32) (g : Int32) : M_owed F M p g = some (owedS nd dr p g) := by
  have hF' := FBL hF
  have hnd : nd ≤ 12 := h.2.2.2.1
  have hn0 : M 101 1 = nI nd := h.2.1
  unfold M_owed
  have key := lpF (fun m i (s : Int32) => L_M_owed_5 F M p g m s (nI i)) (fun i s => if dr i 1 = p ∧ tb g (whoN dr i) = false then s + dr i 3 * (dr i 2 + 1) else s) (fun s => some s) nd
    (fun m i s hi => by
      show B_M_owed_5 F M p g _ s (nI i) = _
      unfold B_M_owed_5
      have hc : (nI nd ≤ nI i) = False := by rw [nI_leI (by omega) (by omega)]; simp; omega
      have e0 : M_of F M (nI i) 0 = some (dr i 0) := M_of_eq h hi (j := 0) (by decide)
      have e1 : M_of F M (nI i) 1 = some (dr i 1) := M_of_eq h hi (j := 1) (by decide)
      have e2 : M_of F M (nI i) 2 = some (dr i 2) := M_of_eq h hi (j := 2) (by decide)
      have e3 : M_of F M (nI i) 3 = some (dr i 3) := M_of_eq h hi (j := 3) (by decide)
      have e4 : M_of F M (nI i) 4 = some (dr i 4) := M_of_eq h hi (j := 4) (by decide)
      obtain ⟨a, b, ha, hbb, ea, eb, wa, wb⟩ := hb i hi
      simp only [hn0, hc, ↓reduceIte, Option.bind_some, e0, e1, e2, e3, e4, M_isOpen_eq h hi, M_worth_eq h hi, M_isOn_eq h hi, i01, i10c, nI_1, Int32.add_zero, Int32.or_zero, ea, eb, wa, wb, M_has_eq (show a < 31 by omega)]
      by_cases c0 : nI b = p <;> by_cases c1 : tb g a = false <;> simp [c0, c1])
    (fun m s => by
      show B_M_owed_5 F M p g _ s (nI nd) = _
      unfold B_M_owed_5
      rw [hn0, if_pos (by rw [nI_leI (by omega) (by omega)]; omega)])
    nd 0 F 0 (by omega) (by omega)
  show ((L_M_owed_5 F M p g F 0 (nI 0)).bind fun u => some u) = _
  rw [key]
  rfl
def openS (nd : Nat) (dr : Nat → Nat → Int32) : Int32 := fo (fun i (s : Int32) => if dr i 3 ≤ 0 then s else s + 1) nd 0 0
theorem V_openDrafts_eq {F : Nat} (hF : FB ≤ F) {M : Mem} {v np nd : Nat} {kn : Nat → Int32} {dr : Nat → Nat → Int32} (h : VX M v np nd kn dr) : V_openDrafts F M v  = some (openS nd dr ) := by
  have hF' := FBL hF
  obtain ⟨hl1, hl2, hp0, hn0, hnp, hnd, hk, hd⟩ := h
  unfold V_openDrafts
  have key := lpF (fun m i (s : Int32) => L_V_openDrafts_4 F M v  m s (nI i)) (fun i s => if dr i 3 ≤ 0 then s else s + 1) (fun s => some s) nd
    (fun m i s hi => by
      show B_V_openDrafts_4 F M v  _ s (nI i) = _
      unfold B_V_openDrafts_4
      have hc : (nI nd ≤ nI i) = False := by rw [nI_leI (by omega) (by omega)]; simp; omega
      have hx := idx_nI (k := i) (n := 12) (by omega) (by omega)
      have e0 := hd i hi 0 (by decide)
      have e1 := hd i hi 1 (by decide)
      have e2 := hd i hi 2 (by decide)
      have e3 := hd i hi 3 (by decide)
      have e4 := hd i hi 4 (by decide)
      have e5 := hd i hi 5 (by decide)
      simp only [hn0, hc, ↓reduceIte, hl2, hx, Option.bind_some, D_isOpen_eq, D_worth, i01, e0, e1, e2, e3, e4, e5, nI_1]
      by_cases c0 : dr i 3 ≤ 0 <;> simp [c0])
    (fun m s => by
      show B_V_openDrafts_4 F M v  _ s (nI nd) = _
      unfold B_V_openDrafts_4
      rw [hn0, if_pos (by rw [nI_leI (by omega) (by omega)]; omega)])
    nd 0 F 0 (by omega) (by omega)
  show ((L_V_openDrafts_4 F M v  F 0 (nI 0)).bind fun u => some u) = _
  rw [key]
  rfl
theorem M_openMany_eq {F : Nat} (hF : FB ≤ F) {M : Mem} {np nd : Nat} {kn : Nat → Int32} {dr : Nat → Nat → Int32} (h : VM M np nd kn dr) : M_openMany F M  = some (openS nd dr ) := by
  have hF' := FBL hF
  have hnd : nd ≤ 12 := h.2.2.2.1
  have hn0 : M 101 1 = nI nd := h.2.1
  unfold M_openMany
  have key := lpF (fun m i (s : Int32) => L_M_openMany_4 F M  m s (nI i)) (fun i s => if dr i 3 ≤ 0 then s else s + 1) (fun s => some s) nd
    (fun m i s hi => by
      show B_M_openMany_4 F M  _ s (nI i) = _
      unfold B_M_openMany_4
      have hc : (nI nd ≤ nI i) = False := by rw [nI_leI (by omega) (by omega)]; simp; omega
      have e0 : M_of F M (nI i) 0 = some (dr i 0) := M_of_eq h hi (j := 0) (by decide)
      have e1 : M_of F M (nI i) 1 = some (dr i 1) := M_of_eq h hi (j := 1) (by decide)
      have e2 : M_of F M (nI i) 2 = some (dr i 2) := M_of_eq h hi (j := 2) (by decide)
      have e3 : M_of F M (nI i) 3 = some (dr i 3) := M_of_eq h hi (j := 3) (by decide)
      have e4 : M_of F M (nI i) 4 = some (dr i 4) := M_of_eq h hi (j := 4) (by decide)
      simp only [hn0, hc, ↓reduceIte, Option.bind_some, e0, e1, e2, e3, e4, M_isOpen_eq h hi, M_worth_eq h hi, M_isOn_eq h hi, i01, i10c, nI_1, Int32.add_zero, Int32.or_zero]
      by_cases c0 : dr i 3 ≤ 0 <;> simp [c0])
    (fun m s => by
      show B_M_openMany_4 F M  _ s (nI nd) = _
      unfold B_M_openMany_4
      rw [hn0, if_pos (by rw [nI_leI (by omega) (by omega)]; omega)])
    nd 0 F 0 (by omega) (by omega)
  show ((L_M_openMany_4 F M  F 0 (nI 0)).bind fun u => some u) = _
  rw [key]
  rfl
def openToS (nd : Nat) (dr : Nat → Nat → Int32) (p : Int32) : Int32 := fo (fun i (s : Int32) => if dr i 1 = p ∧ ¬ dr i 3 ≤ 0 then s + 1 else s) nd 0 0
theorem V_openOwedTo_eq {F : Nat} (hF : FB ≤ F) {M : Mem} {v np nd : Nat} {kn : Nat → Int32} {dr : Nat → Nat → Int32} (h : VX M v np nd kn dr) (p : Int32) : V_openOwedTo F M v p = some (openToS nd dr p) := by
  have hF' := FBL hF
  obtain ⟨hl1, hl2, hp0, hn0, hnp, hnd, hk, hd⟩ := h
  unfold V_openOwedTo
  have key := lpF (fun m i (s : Int32) => L_V_openOwedTo_4 F M v p m s (nI i)) (fun i s => if dr i 1 = p ∧ ¬ dr i 3 ≤ 0 then s + 1 else s) (fun s => some s) nd
    (fun m i s hi => by
      show B_V_openOwedTo_4 F M v p _ s (nI i) = _
      unfold B_V_openOwedTo_4
      have hc : (nI nd ≤ nI i) = False := by rw [nI_leI (by omega) (by omega)]; simp; omega
      have hx := idx_nI (k := i) (n := 12) (by omega) (by omega)
      have e0 := hd i hi 0 (by decide)
      have e1 := hd i hi 1 (by decide)
      have e2 := hd i hi 2 (by decide)
      have e3 := hd i hi 3 (by decide)
      have e4 := hd i hi 4 (by decide)
      have e5 := hd i hi 5 (by decide)
      simp only [hn0, hc, ↓reduceIte, hl2, hx, Option.bind_some, D_isOpen_eq, D_worth, i01, e0, e1, e2, e3, e4, e5, nI_1]
      by_cases c0 : dr i 1 = p <;> by_cases c1 : dr i 3 ≤ 0 <;> simp [c0, c1])
    (fun m s => by
      show B_V_openOwedTo_4 F M v p _ s (nI nd) = _
      unfold B_V_openOwedTo_4
      rw [hn0, if_pos (by rw [nI_leI (by omega) (by omega)]; omega)])
    nd 0 F 0 (by omega) (by omega)
  show ((L_V_openOwedTo_4 F M v p F 0 (nI 0)).bind fun u => some u) = _
  rw [key]
  rfl
theorem M_openTo_eq {F : Nat} (hF : FB ≤ F) {M : Mem} {np nd : Nat} {kn : Nat → Int32} {dr : Nat → Nat → Int32} (h : VM M np nd kn dr) (p : Int32) : M_openTo F M p = some (openToS nd dr p) := by
  have hF' := FBL hF
  have hnd : nd ≤ 12 := h.2.2.2.1
  have hn0 : M 101 1 = nI nd := h.2.1
  unfold M_openTo
  have key := lpF (fun m i (s : Int32) => L_M_openTo_4 F M p m s (nI i)) (fun i s => if dr i 1 = p ∧ ¬ dr i 3 ≤ 0 then s + 1 else s) (fun s => some s) nd
    (fun m i s hi => by
      show B_M_openTo_4 F M p _ s (nI i) = _
      unfold B_M_openTo_4
      have hc : (nI nd ≤ nI i) = False := by rw [nI_leI (by omega) (by omega)]; simp; omega
      have e0 : M_of F M (nI i) 0 = some (dr i 0) := M_of_eq h hi (j := 0) (by decide)
      have e1 : M_of F M (nI i) 1 = some (dr i 1) := M_of_eq h hi (j := 1) (by decide)
      have e2 : M_of F M (nI i) 2 = some (dr i 2) := M_of_eq h hi (j := 2) (by decide)
      have e3 : M_of F M (nI i) 3 = some (dr i 3) := M_of_eq h hi (j := 3) (by decide)
      have e4 : M_of F M (nI i) 4 = some (dr i 4) := M_of_eq h hi (j := 4) (by decide)
      simp only [hn0, hc, ↓reduceIte, Option.bind_some, e0, e1, e2, e3, e4, M_isOpen_eq h hi, M_worth_eq h hi, M_isOn_eq h hi, i01, i10c, nI_1, Int32.add_zero, Int32.or_zero]
      by_cases c0 : dr i 1 = p <;> by_cases c1 : dr i 3 ≤ 0 <;> simp [c0, c1])
    (fun m s => by
      show B_M_openTo_4 F M p _ s (nI nd) = _
      unfold B_M_openTo_4
      rw [hn0, if_pos (by rw [nI_leI (by omega) (by omega)]; omega)])
    nd 0 F 0 (by omega) (by omega)
  show ((L_M_openTo_4 F M p F 0 (nI 0)).bind fun u => some u) = _
  rw [key]
  rfl
def openOnS (nd : Nat) (dr : Nat → Nat → Int32) (p : Int32) : Int32 := fo (fun i (s : Int32) => if dr i 0 = p ∧ ¬ dr i 3 ≤ 0 then s + 1 else s) nd 0 0
theorem V_openOn_eq {F : Nat} (hF : FB ≤ F) {M : Mem} {v np nd : Nat} {kn : Nat → Int32} {dr : Nat → Nat → Int32} (h : VX M v np nd kn dr) (p : Int32) : V_openOn F M v p = some (openOnS nd dr p) := by
  have hF' := FBL hF
  obtain ⟨hl1, hl2, hp0, hn0, hnp, hnd, hk, hd⟩ := h
  unfold V_openOn
  have key := lpF (fun m i (s : Int32) => L_V_openOn_4 F M v p m s (nI i)) (fun i s => if dr i 0 = p ∧ ¬ dr i 3 ≤ 0 then s + 1 else s) (fun s => some s) nd
    (fun m i s hi => by
      show B_V_openOn_4 F M v p _ s (nI i) = _
      unfold B_V_openOn_4
      have hc : (nI nd ≤ nI i) = False := by rw [nI_leI (by omega) (by omega)]; simp; omega
      have hx := idx_nI (k := i) (n := 12) (by omega) (by omega)
      have e0 := hd i hi 0 (by decide)
      have e1 := hd i hi 1 (by decide)
      have e2 := hd i hi 2 (by decide)
      have e3 := hd i hi 3 (by decide)
      have e4 := hd i hi 4 (by decide)
      have e5 := hd i hi 5 (by decide)
      simp only [hn0, hc, ↓reduceIte, hl2, hx, Option.bind_some, D_isOpen_eq, D_worth, i01, e0, e1, e2, e3, e4, e5, nI_1]
      by_cases c0 : dr i 0 = p <;> by_cases c1 : dr i 3 ≤ 0 <;> simp [c0, c1])
    (fun m s => by
      show B_V_openOn_4 F M v p _ s (nI nd) = _
      unfold B_V_openOn_4
      rw [hn0, if_pos (by rw [nI_leI (by omega) (by omega)]; omega)])
    nd 0 F 0 (by omega) (by omega)
  show ((L_V_openOn_4 F M v p F 0 (nI 0)).bind fun u => some u) = _
  rw [key]
  rfl
theorem M_openOn_eq {F : Nat} (hF : FB ≤ F) {M : Mem} {np nd : Nat} {kn : Nat → Int32} {dr : Nat → Nat → Int32} (h : VM M np nd kn dr) (p : Int32) : M_openOn F M p = some (openOnS nd dr p) := by
  have hF' := FBL hF
  have hnd : nd ≤ 12 := h.2.2.2.1
  have hn0 : M 101 1 = nI nd := h.2.1
  unfold M_openOn
  have key := lpF (fun m i (s : Int32) => L_M_openOn_4 F M p m s (nI i)) (fun i s => if dr i 0 = p ∧ ¬ dr i 3 ≤ 0 then s + 1 else s) (fun s => some s) nd
    (fun m i s hi => by
      show B_M_openOn_4 F M p _ s (nI i) = _
      unfold B_M_openOn_4
      have hc : (nI nd ≤ nI i) = False := by rw [nI_leI (by omega) (by omega)]; simp; omega
      have e0 : M_of F M (nI i) 0 = some (dr i 0) := M_of_eq h hi (j := 0) (by decide)
      have e1 : M_of F M (nI i) 1 = some (dr i 1) := M_of_eq h hi (j := 1) (by decide)
      have e2 : M_of F M (nI i) 2 = some (dr i 2) := M_of_eq h hi (j := 2) (by decide)
      have e3 : M_of F M (nI i) 3 = some (dr i 3) := M_of_eq h hi (j := 3) (by decide)
      have e4 : M_of F M (nI i) 4 = some (dr i 4) := M_of_eq h hi (j := 4) (by decide)
      simp only [hn0, hc, ↓reduceIte, Option.bind_some, e0, e1, e2, e3, e4, M_isOpen_eq h hi, M_worth_eq h hi, M_isOn_eq h hi, i01, i10c, nI_1, Int32.add_zero, Int32.or_zero]
      by_cases c0 : dr i 0 = p <;> by_cases c1 : dr i 3 ≤ 0 <;> simp [c0, c1])
    (fun m s => by
      show B_M_openOn_4 F M p _ s (nI nd) = _
      unfold B_M_openOn_4
      rw [hn0, if_pos (by rw [nI_leI (by omega) (by omega)]; omega)])
    nd 0 F 0 (by omega) (by omega)
  show ((L_M_openOn_4 F M p F 0 (nI 0)).bind fun u => some u) = _
  rw [key]
  rfl
def betwS (nd : Nat) (dr : Nat → Nat → Int32) (p : Int32) (q : Int32) (t : Int32) : Int32 := fo (fun i (s : Int32) => if dr i 0 = p ∧ dr i 1 = q ∧ dr i 2 = t then s + dr i 3 else s) nd 0 0
theorem V_kissesBetween_eq {F : Nat} (hF : FB ≤ F) {M : Mem} {v np nd : Nat} {kn : Nat → Int32} {dr : Nat → Nat → Int32} (h : VX M v np nd kn dr) (p : Int32) (q : Int32) (t : Int32) : V_kissesBetween F M v p q t = some (betwS nd dr p q t) := by
  have hF' := FBL hF
  obtain ⟨hl1, hl2, hp0, hn0, hnp, hnd, hk, hd⟩ := h
  unfold V_kissesBetween
  have key := lpF (fun m i (s : Int32) => L_V_kissesBetween_6 F M v p q t m s (nI i)) (fun i s => if dr i 0 = p ∧ dr i 1 = q ∧ dr i 2 = t then s + dr i 3 else s) (fun s => some s) nd
    (fun m i s hi => by
      show B_V_kissesBetween_6 F M v p q t _ s (nI i) = _
      unfold B_V_kissesBetween_6
      have hc : (nI nd ≤ nI i) = False := by rw [nI_leI (by omega) (by omega)]; simp; omega
      have hx := idx_nI (k := i) (n := 12) (by omega) (by omega)
      have e0 := hd i hi 0 (by decide)
      have e1 := hd i hi 1 (by decide)
      have e2 := hd i hi 2 (by decide)
      have e3 := hd i hi 3 (by decide)
      have e4 := hd i hi 4 (by decide)
      have e5 := hd i hi 5 (by decide)
      simp only [hn0, hc, ↓reduceIte, hl2, hx, Option.bind_some, D_isOpen_eq, D_worth, i01, e0, e1, e2, e3, e4, e5, nI_1]
      by_cases c0 : dr i 0 = p <;> by_cases c1 : dr i 1 = q <;> by_cases c2 : dr i 2 = t <;> simp [c0, c1, c2])
    (fun m s => by
      show B_V_kissesBetween_6 F M v p q t _ s (nI nd) = _
      unfold B_V_kissesBetween_6
      rw [hn0, if_pos (by rw [nI_leI (by omega) (by omega)]; omega)])
    nd 0 F 0 (by omega) (by omega)
  show ((L_V_kissesBetween_6 F M v p q t F 0 (nI 0)).bind fun u => some u) = _
  rw [key]
  rfl
theorem M_sumOf_eq {F : Nat} (hF : FB ≤ F) {M : Mem} {np nd : Nat} {kn : Nat → Int32} {dr : Nat → Nat → Int32} (h : VM M np nd kn dr) (p : Int32) (q : Int32) (t : Int32) : M_sumOf F M p q t = some (betwS nd dr p q t) := by
  have hF' := FBL hF
  have hnd : nd ≤ 12 := h.2.2.2.1
  have hn0 : M 101 1 = nI nd := h.2.1
  unfold M_sumOf
  have key := lpF (fun m i (s : Int32) => L_M_sumOf_6 F M p q t m s (nI i)) (fun i s => if dr i 0 = p ∧ dr i 1 = q ∧ dr i 2 = t then s + dr i 3 else s) (fun s => some s) nd
    (fun m i s hi => by
      show B_M_sumOf_6 F M p q t _ s (nI i) = _
      unfold B_M_sumOf_6
      have hc : (nI nd ≤ nI i) = False := by rw [nI_leI (by omega) (by omega)]; simp; omega
      have e0 : M_of F M (nI i) 0 = some (dr i 0) := M_of_eq h hi (j := 0) (by decide)
      have e1 : M_of F M (nI i) 1 = some (dr i 1) := M_of_eq h hi (j := 1) (by decide)
      have e2 : M_of F M (nI i) 2 = some (dr i 2) := M_of_eq h hi (j := 2) (by decide)
      have e3 : M_of F M (nI i) 3 = some (dr i 3) := M_of_eq h hi (j := 3) (by decide)
      have e4 : M_of F M (nI i) 4 = some (dr i 4) := M_of_eq h hi (j := 4) (by decide)
      simp only [hn0, hc, ↓reduceIte, Option.bind_some, e0, e1, e2, e3, e4, M_isOpen_eq h hi, M_worth_eq h hi, M_isOn_eq h hi, i01, i10c, nI_1, Int32.add_zero, Int32.or_zero]
      by_cases c0 : dr i 0 = p <;> by_cases c1 : dr i 1 = q <;> by_cases c2 : dr i 2 = t <;> simp [c0, c1, c2])
    (fun m s => by
      show B_M_sumOf_6 F M p q t _ s (nI nd) = _
      unfold B_M_sumOf_6
      rw [hn0, if_pos (by rw [nI_leI (by omega) (by omega)]; omega)])
    nd 0 F 0 (by omega) (by omega)
  show ((L_M_sumOf_6 F M p q t F 0 (nI 0)).bind fun u => some u) = _
  rw [key]
  rfl
def sortS (nd : Nat) (dr : Nat → Nat → Int32) (t : Int32) : Int32 := fo (fun i (s : Int32) => if dr i 2 = t then s + dr i 3 else s) nd 0 0
theorem V_kissesOfSort_eq {F : Nat} (hF : FB ≤ F) {M : Mem} {v np nd : Nat} {kn : Nat → Int32} {dr : Nat → Nat → Int32} (h : VX M v np nd kn dr) (t : Int32) : V_kissesOfSort F M v t = some (sortS nd dr t) := by
  have hF' := FBL hF
  obtain ⟨hl1, hl2, hp0, hn0, hnp, hnd, hk, hd⟩ := h
  unfold V_kissesOfSort
  have key := lpF (fun m i (s : Int32) => L_V_kissesOfSort_4 F M v t m s (nI i)) (fun i s => if dr i 2 = t then s + dr i 3 else s) (fun s => some s) nd
    (fun m i s hi => by
      show B_V_kissesOfSort_4 F M v t _ s (nI i) = _
      unfold B_V_kissesOfSort_4
      have hc : (nI nd ≤ nI i) = False := by rw [nI_leI (by omega) (by omega)]; simp; omega
      have hx := idx_nI (k := i) (n := 12) (by omega) (by omega)
      have e0 := hd i hi 0 (by decide)
      have e1 := hd i hi 1 (by decide)
      have e2 := hd i hi 2 (by decide)
      have e3 := hd i hi 3 (by decide)
      have e4 := hd i hi 4 (by decide)
      have e5 := hd i hi 5 (by decide)
      simp only [hn0, hc, ↓reduceIte, hl2, hx, Option.bind_some, D_isOpen_eq, D_worth, i01, e0, e1, e2, e3, e4, e5, nI_1]
      by_cases c0 : dr i 2 = t <;> simp [c0])
    (fun m s => by
      show B_V_kissesOfSort_4 F M v t _ s (nI nd) = _
      unfold B_V_kissesOfSort_4
      rw [hn0, if_pos (by rw [nI_leI (by omega) (by omega)]; omega)])
    nd 0 F 0 (by omega) (by omega)
  show ((L_V_kissesOfSort_4 F M v t F 0 (nI 0)).bind fun u => some u) = _
  rw [key]
  rfl
def allS (nd : Nat) (dr : Nat → Nat → Int32) : Int32 := fo (fun i (s : Int32) => s + dr i 3) nd 0 0
theorem M_openKisses_eq {F : Nat} (hF : FB ≤ F) {M : Mem} {np nd : Nat} {kn : Nat → Int32} {dr : Nat → Nat → Int32} (h : VM M np nd kn dr) : M_openKisses F M  = some (allS nd dr ) := by
  have hF' := FBL hF
  have hnd : nd ≤ 12 := h.2.2.2.1
  have hn0 : M 101 1 = nI nd := h.2.1
  unfold M_openKisses
  have key := lpF (fun m i (s : Int32) => L_M_openKisses_4 F M  m s (nI i)) (fun i s => s + dr i 3) (fun s => some s) nd
    (fun m i s hi => by
      show B_M_openKisses_4 F M  _ s (nI i) = _
      unfold B_M_openKisses_4
      have hc : (nI nd ≤ nI i) = False := by rw [nI_leI (by omega) (by omega)]; simp; omega
      have e0 : M_of F M (nI i) 0 = some (dr i 0) := M_of_eq h hi (j := 0) (by decide)
      have e1 : M_of F M (nI i) 1 = some (dr i 1) := M_of_eq h hi (j := 1) (by decide)
      have e2 : M_of F M (nI i) 2 = some (dr i 2) := M_of_eq h hi (j := 2) (by decide)
      have e3 : M_of F M (nI i) 3 = some (dr i 3) := M_of_eq h hi (j := 3) (by decide)
      have e4 : M_of F M (nI i) 4 = some (dr i 4) := M_of_eq h hi (j := 4) (by decide)
      simp only [hn0, hc, ↓reduceIte, Option.bind_some, e0, e1, e2, e3, e4, M_isOpen_eq h hi, M_worth_eq h hi, M_isOn_eq h hi, i01, i10c, nI_1, Int32.add_zero, Int32.or_zero]
      skip)
    (fun m s => by
      show B_M_openKisses_4 F M  _ s (nI nd) = _
      unfold B_M_openKisses_4
      rw [hn0, if_pos (by rw [nI_leI (by omega) (by omega)]; omega)])
    nd 0 F 0 (by omega) (by omega)
  show ((L_M_openKisses_4 F M  F 0 (nI 0)).bind fun u => some u) = _
  rw [key]
  rfl
def reachS (nd : Nat) (dr : Nat → Nat → Int32) (g : Int32) : Int32 := fo (fun i (s : Int32) => if ¬ dr i 3 ≤ 0 ∧ tb g (whoN dr i) = true then s ||| (1 <<< (dr i 1 &&& 31)) else s) nd 0 0
theorem V_owedByAny_eq {F : Nat} (hF : FB ≤ F) {M : Mem} {v np nd : Nat} {kn : Nat → Int32} {dr : Nat → Nat → Int32} (h : VX M v np nd kn dr) (hb : BN nd dr) (g : Int32) : V_owedByAny F M v g = some (reachS nd dr g) := by
  have hF' := FBL hF
  obtain ⟨hl1, hl2, hp0, hn0, hnp, hnd, hk, hd⟩ := h
  unfold V_owedByAny
  have key := lpF (fun m i (s : Int32) => L_V_owedByAny_4 F M v g m s (nI i)) (fun i s => if ¬ dr i 3 ≤ 0 ∧ tb g (whoN dr i) = true then s ||| (1 <<< (dr i 1 &&& 31)) else s) (fun s => some s) nd
    (fun m i s hi => by
      show B_V_owedByAny_4 F M v g _ s (nI i) = _
      unfold B_V_owedByAny_4
      have hc : (nI nd ≤ nI i) = False := by rw [nI_leI (by omega) (by omega)]; simp; omega
      have hx := idx_nI (k := i) (n := 12) (by omega) (by omega)
      have e0 := hd i hi 0 (by decide)
      have e1 := hd i hi 1 (by decide)
      have e2 := hd i hi 2 (by decide)
      have e3 := hd i hi 3 (by decide)
      have e4 := hd i hi 4 (by decide)
      have e5 := hd i hi 5 (by decide)
      obtain ⟨a, b, ha, hbb, ea, eb, wa, wb⟩ := hb i hi
      simp only [hn0, hc, ↓reduceIte, hl2, hx, Option.bind_some, D_isOpen_eq, D_worth, i01, e0, e1, e2, e3, e4, e5, nI_1, ea, eb, wa, wb, and_bit' (show a < 31 by omega)]
      by_cases c0 : dr i 3 ≤ 0 <;> by_cases c1 : tb g a = false <;> simp [c0, c1])
    (fun m s => by
      show B_V_owedByAny_4 F M v g _ s (nI nd) = _
      unfold B_V_owedByAny_4
      rw [hn0, if_pos (by rw [nI_leI (by omega) (by omega)]; omega)])
    nd 0 F 0 (by omega) (by omega)
  show ((L_V_owedByAny_4 F M v g F 0 (nI 0)).bind fun u => some u) = _
  rw [key]
  rfl
def owesS (nd : Nat) (dr : Nat → Nat → Int32) (p : Int32) : Int32 := fo (fun i (s : Int32) => if ¬ dr i 3 ≤ 0 ∧ dr i 0 = p then s ||| (1 <<< (dr i 1 &&& 31)) else s) nd 0 0
theorem M_owesToL_eq {F : Nat} (hF : FB ≤ F) {M : Mem} {np nd : Nat} {kn : Nat → Int32} {dr : Nat → Nat → Int32} (h : VM M np nd kn dr) (p : Int32) : L_M_owesTo_4 F M p F 0 0 = some (owesS nd dr p) := by
  have hF' := FBL hF
  have hnd : nd ≤ 12 := h.2.2.2.1
  have hn0 : M 101 1 = nI nd := h.2.1
  have key := lpF (fun m i (s : Int32) => L_M_owesTo_4 F M p m s (nI i)) (fun i s => if ¬ dr i 3 ≤ 0 ∧ dr i 0 = p then s ||| (1 <<< (dr i 1 &&& 31)) else s) (fun s => some s) nd
    (fun m i s hi => by
      show B_M_owesTo_4 F M p _ s (nI i) = _
      unfold B_M_owesTo_4
      have hc : (nI nd ≤ nI i) = False := by rw [nI_leI (by omega) (by omega)]; simp; omega
      have e0 : M_of F M (nI i) 0 = some (dr i 0) := M_of_eq h hi (j := 0) (by decide)
      have e1 : M_of F M (nI i) 1 = some (dr i 1) := M_of_eq h hi (j := 1) (by decide)
      have e2 : M_of F M (nI i) 2 = some (dr i 2) := M_of_eq h hi (j := 2) (by decide)
      have e3 : M_of F M (nI i) 3 = some (dr i 3) := M_of_eq h hi (j := 3) (by decide)
      have e4 : M_of F M (nI i) 4 = some (dr i 4) := M_of_eq h hi (j := 4) (by decide)
      simp only [hn0, hc, ↓reduceIte, Option.bind_some, e0, e1, e2, e3, e4, M_isOpen_eq h hi, M_worth_eq h hi, M_isOn_eq h hi, i01, i10c, nI_1, Int32.add_zero, Int32.or_zero]
      by_cases c0 : dr i 0 = p <;> by_cases c1 : dr i 3 ≤ 0 <;> simp [c0, c1])
    (fun m s => by
      show B_M_owesTo_4 F M p _ s (nI nd) = _
      unfold B_M_owesTo_4
      rw [hn0, if_pos (by rw [nI_leI (by omega) (by omega)]; omega)])
    nd 0 F 0 (by omega) (by omega)
  exact key
def halfS (nd : Nat) (dr : Nat → Nat → Int32) (p : Int32) : Int32 := fo (fun i (s : Int32) => if dr i 0 = p ∨ dr i 1 = p then s + (dr i 3 - dr i 3 / 2) else s) nd 0 0
theorem dvi2 (x : Int32) : dvi x 2 = some (x / 2) := rfl
theorem V_clearedByHalving_eq {F : Nat} (hF : FB ≤ F) {M : Mem} {v np nd : Nat} {kn : Nat → Int32} {dr : Nat → Nat → Int32} (h : VX M v np nd kn dr) (p : Int32) : V_clearedByHalving F M v p = some (halfS nd dr p) := by
  have hF' := FBL hF
  obtain ⟨hl1, hl2, hp0, hn0, hnp, hnd, hk, hd⟩ := h
  unfold V_clearedByHalving
  have key := lpF (fun m i (s : Int32) => L_V_clearedByHalving_4 F M v p m s (nI i)) (fun i s => if dr i 0 = p ∨ dr i 1 = p then s + (dr i 3 - dr i 3 / 2) else s) (fun s => some s) nd
    (fun m i s hi => by
      show B_V_clearedByHalving_4 F M v p _ s (nI i) = _
      unfold B_V_clearedByHalving_4
      have hc : (nI nd ≤ nI i) = False := by rw [nI_leI (by omega) (by omega)]; simp; omega
      have hx := idx_nI (k := i) (n := 12) (by omega) (by omega)
      have e0 := hd i hi 0 (by decide)
      have e1 := hd i hi 1 (by decide)
      have e2 := hd i hi 2 (by decide)
      have e3 := hd i hi 3 (by decide)
      have e4 := hd i hi 4 (by decide)
      have e5 := hd i hi 5 (by decide)
      simp only [hn0, hc, ↓reduceIte, hl2, hx, Option.bind_some, D_isOpen_eq, D_worth, i01, e0, e1, e2, e3, e4, e5, nI_1, dvi2]
      by_cases c0 : dr i 0 = p <;> by_cases c1 : dr i 1 = p <;> simp [c0, c1])
    (fun m s => by
      show B_V_clearedByHalving_4 F M v p _ s (nI nd) = _
      unfold B_V_clearedByHalving_4
      rw [hn0, if_pos (by rw [nI_leI (by omega) (by omega)]; omega)])
    nd 0 F 0 (by omega) (by omega)
  show ((L_V_clearedByHalving_4 F M v p F 0 (nI 0)).bind fun u => some u) = _
  rw [key]
  rfl
