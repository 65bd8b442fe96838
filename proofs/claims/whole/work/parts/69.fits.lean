/-! sets of drafts: they fit -/
def ftB (dr : Nat → Nat → Int32) (x p : Int32) (i : Nat) : Bool := tb x i && (decide (dr i 0 = p) || decide (dr i 1 = p))
def ftS (nd : Nat) (dr : Nat → Nat → Int32) (x p : Int32) : Int32 := fo (fun i (s : Int32) => if ftB dr x p i = true then s + dr i 3 else s) nd 0 0
theorem fitsIn_M {F : Nat} (hF : FB ≤ F) {M : Mem} {np nd : Nat} {kn : Nat → Int32} {dr : Nat → Nat → Int32} (h : VM M np nd kn dr) (x1 x p : Int32) : L_M_fits_24 F M x1 x p F 0 0 = some (ftS nd dr x p) := by
  have hF' := FBL hF
  have hnd := h.2.2.2.1
  exact lpF (fun m i (s : Int32) => L_M_fits_24 F M x1 x p m s (nI i)) (fun i s => if ftB dr x p i = true then s + dr i 3 else s) (fun s => some s) nd
    (fun m i s hi => by
      show B_M_fits_24 F M x1 x p _ s (nI i) = _
      unfold B_M_fits_24
      have hc : (nI nd ≤ nI i) = False := by rw [nI_leI (by omega) (by omega)]; simp; omega
      have q0 : M_of F M (nI i) 0 = some (dr i 0) := M_of_eq h hi (j := 0) (by omega)
      have q1 : M_of F M (nI i) 1 = some (dr i 1) := M_of_eq h hi (j := 1) (by omega)
      have q3 : M_of F M (nI i) 3 = some (dr i 3) := M_of_eq h hi (j := 3) (by omega)
      simp only [h.2.1, hc, ↓reduceIte, M_has_eq (show i < 31 by omega), ob_some, i01, q0, q1, q3, nI_1, Int32.add_zero]
      rcases hb : tb x i with _ | _ <;> rcases Classical.propComplete (dr i 0 = p) with C0 | C0 <;> rcases Classical.propComplete (dr i 1 = p) with C1 | C1 <;> simp [ftB, hb, C0, C1])
    (fun m s => by
      show B_M_fits_24 F M x1 x p _ s (nI nd) = _
      unfold B_M_fits_24
      rw [h.2.1, if_pos (by rw [nI_leI (by omega) (by omega)]; omega)])
    nd 0 F 0 (by omega) (by omega)
def fitB (nd : Nat) (dr : Nat → Nat → Int32) (row : Nat → Int32) (x : Int32) (p : Nat) : Bool := decide (ftS nd dr x (nI p) = row p)
theorem fitsL_M {F : Nat} (hF : FB ≤ F) {M : Mem} {np nd r : Nat} {kn : Nat → Int32} {dr : Nat → Nat → Int32} (h : VM M np nd kn dr) (hr : r < 6) (x : Int32) : ∀ (c p m : Nat), p + c = np → c + 1 < m → L_M_fits_5 F M (nI r) x m 1 (nI p) = some (if allF (fitB nd dr (fun p => M 104 (40 * r + p)) x) c p = true then 1 else 0) := by
  have hnp := h.2.2.1
  intro c
  induction c with
  | zero =>
    intro p m hp hm
    obtain ⟨m, rfl⟩ : ∃ k, m = k + 1 := ⟨m - 1, by omega⟩
    show B_M_fits_5 F M (nI r) x _ 1 (nI p) = _
    unfold B_M_fits_5
    rw [h.1, if_pos (by rw [nI_leI (by omega) (by omega)]; omega)]
    rfl
  | succ c ih =>
    intro p m hp hm
    obtain ⟨m, rfl⟩ : ∃ k, m = k + 2 := ⟨m - 2, by omega⟩
    have h10 : ((1 : Int32) = 0) = False := by decide
    have hc : (nI np ≤ nI p) = False := by rw [nI_leI (by omega) (by omega)]; simp; omega
    have z : ∀ y, L_M_fits_5 F M (nI r) x (m + 1) 0 y = some 0 := fun y => by
      show B_M_fits_5 F M (nI r) x _ 0 y = _
      unfold B_M_fits_5
      simp
    show B_M_fits_5 F M (nI r) x _ 1 (nI p) = _
    unfold B_M_fits_5
    simp only [h.1, hc, h10, ↓reduceIte, fitsIn_M hF h, ob_some, ix40, ard_nI (M := M) (a := 104) (k := 40 * r + p) (by show _ < 240; omega), nI_1, ih (p + 1) (m + 1) (by omega) (by omega), z, allF]
    by_cases q : ftS nd dr x (nI p) = M 104 (40 * r + p)
    · simp [fitB, q]
    · simp [fitB, q]
theorem fits_M {F : Nat} (hF : FB ≤ F) {M : Mem} {np nd r : Nat} {kn : Nat → Int32} {dr : Nat → Nat → Int32} (h : VM M np nd kn dr) (hr : r < 6) (x : Int32) : M_fits F M (nI r) x = some (if allF (fitB nd dr (fun p => M 104 (40 * r + p)) x) np 0 = true then 1 else 0) := by
  have hF' := FBL hF
  have hnp := h.2.2.1
  unfold M_fits
  have key := fitsL_M hF h hr x np 0 F (by omega) (by omega)
  rw [nI_0] at key
  rw [key, ob_some]
  split <;> rfl
