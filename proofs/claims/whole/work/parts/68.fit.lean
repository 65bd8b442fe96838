/-! sets of drafts: all open -/
def opnB (dr : Nat → Nat → Int32) (x : Int32) (i : Nat) : Bool := !(tb x i) || !(decide (dr i 3 ≤ 0))
theorem areOpen0 {F : Nat} {M : Mem} {np nd : Nat} {kn : Nat → Int32} {dr : Nat → Nat → Int32} (h : VM M np nd kn dr) (x : Int32) : ∀ (c i m : Nat), i + c = nd → c < m → L_M_areOpen_4 F M x m 0 (nI i) = some 0 := by
  have hnd := h.2.2.2.1
  intro c
  induction c with
  | zero =>
    intro i m hi hm
    obtain ⟨m, rfl⟩ : ∃ k, m = k + 1 := ⟨m - 1, by omega⟩
    show B_M_areOpen_4 F M x _ 0 (nI i) = _
    unfold B_M_areOpen_4
    rw [h.2.1, if_pos (by rw [nI_leI (by omega) (by omega)]; omega)]
  | succ c ih =>
    intro i m hi hm
    obtain ⟨m, rfl⟩ : ∃ k, m = k + 1 := ⟨m - 1, by omega⟩
    show B_M_areOpen_4 F M x _ 0 (nI i) = _
    unfold B_M_areOpen_4
    rw [h.2.1, if_neg (by rw [nI_leI (by omega) (by omega)]; omega), if_pos rfl, nI_1]
    exact ih (i + 1) m (by omega) (by omega)
theorem areOpenL {F : Nat} {M : Mem} {np nd : Nat} {kn : Nat → Int32} {dr : Nat → Nat → Int32} (h : VM M np nd kn dr) (x : Int32) : ∀ (c i m : Nat), i + c = nd → c < m → L_M_areOpen_4 F M x m 1 (nI i) = some (if allF (opnB dr x) c i = true then 1 else 0) := by
  have hnd := h.2.2.2.1
  intro c
  induction c with
  | zero =>
    intro i m hi hm
    obtain ⟨m, rfl⟩ : ∃ k, m = k + 1 := ⟨m - 1, by omega⟩
    show B_M_areOpen_4 F M x _ 1 (nI i) = _
    unfold B_M_areOpen_4
    rw [h.2.1, if_pos (by rw [nI_leI (by omega) (by omega)]; omega)]
    rfl
  | succ c ih =>
    intro i m hi hm
    obtain ⟨m, rfl⟩ : ∃ k, m = k + 1 := ⟨m - 1, by omega⟩
    show B_M_areOpen_4 F M x _ 1 (nI i) = _
    unfold B_M_areOpen_4
    have h10 : ((1 : Int32) = 0) = False := by decide
    have hc : (nI nd ≤ nI i) = False := by rw [nI_leI (by omega) (by omega)]; simp; omega
    simp only [h.2.1, hc, h10, ↓reduceIte, M_has_eq (show i < 31 by omega), ob_some, i01, M_isOpen_eq h (show i < nd by omega), nI_1, ih (i + 1) m (by omega) (by omega), areOpen0 (F := F) h x c (i + 1) m (by omega) (by omega), allF]
    by_cases q1 : tb x i = false
    · simp [opnB, q1]
    · have q1' : tb x i = true := by simpa using q1
      by_cases q2 : dr i 3 ≤ 0
      · simp [opnB, q1', q2]
      · simp [opnB, q1', q2]
theorem areOpen_M {F : Nat} (hF : FB ≤ F) {M : Mem} {np nd : Nat} {kn : Nat → Int32} {dr : Nat → Nat → Int32} (h : VM M np nd kn dr) (x : Int32) : M_areOpen F M x = some (if allF (opnB dr x) nd 0 = true then 1 else 0) := by
  have hF' := FBL hF
  have hnd := h.2.2.2.1
  unfold M_areOpen
  have key := areOpenL (F := F) h x nd 0 F (by omega) (by omega)
  rw [nI_0] at key
  rw [key, ob_some]
  split <;> rfl
