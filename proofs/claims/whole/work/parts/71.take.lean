/-! blushes: the class takes a set -/
def zB (M : Mem) (p : Nat) : Bool := decide (M 75 p = 0)
def tkX (M : Mem) (x : Int32) : Mem := up (up (up M 74 1 (if M 74 0 = 0 then x else M 74 1)) 74 2 (if M 74 0 = 0 then x else M 74 2 &&& x)) 74 0 (M 74 0 + 1)
theorem takeL {F : Nat} {M : Mem} {np : Nat} (hnp : np ≤ 6) (h : M 23 0 = nI np) (x : Int32) : ∀ (c p m : Nat), p + c = np → c < m → L_B_takeIfFitting_2 F M 23 x m (nI p) = some (if allF (zB M) c p = true then .inr () else .inl M) := by
  intro c
  induction c with
  | zero =>
    intro p m hp hm
    obtain ⟨m, rfl⟩ : ∃ k, m = k + 1 := ⟨m - 1, by omega⟩
    show B_B_takeIfFitting_2 F M 23 x _ (nI p) = _
    unfold B_B_takeIfFitting_2
    rw [h, if_pos (by rw [nI_leI (by omega) (by omega)]; omega)]
    rfl
  | succ c ih =>
    intro p m hp hm
    obtain ⟨m, rfl⟩ : ∃ k, m = k + 1 := ⟨m - 1, by omega⟩
    show B_B_takeIfFitting_2 F M 23 x _ (nI p) = _
    unfold B_B_takeIfFitting_2
    have hc : (nI np ≤ nI p) = False := by rw [nI_leI (by omega) (by omega)]; simp; omega
    simp only [h, hc, ↓reduceIte, ard_nI (M := M) (a := 75) (k := p) (by show p < 6; omega), ob_some, nI_1, ih (p + 1) m (by omega) (by omega), allF]
    by_cases q : M 75 p = 0
    · simp [zB, q]
    · simp [zB, q]
theorem take_X {F : Nat} (hF : FB ≤ F) {M : Mem} {np : Nat} (hnp : np ≤ 6) (h : M 23 0 = nI np) (x : Int32) : B_takeIfFitting F M 23 x = some (if allF (zB M) np 0 = true then tkX M x else M) := by
  have hF' := FBL hF
  have key := takeL (F := F) hnp h x np 0 F (by omega) (by omega)
  rw [nI_0] at key
  unfold B_takeIfFitting
  rw [key, ob_some]
  by_cases q : allF (zB M) np 0 = true
  · have u0 : ∀ v, up M 74 1 v 74 0 = M 74 0 := fun v => up_ne (by omega)
    have u1 : ∀ v, up M 74 1 v 74 2 = M 74 2 := fun v => up_ne (by omega)
    have u2 : ∀ v w, up (up M 74 1 v) 74 2 w 74 0 = M 74 0 := fun v w => by rw [up_ne (by omega), u0]
    simp only [q, ↓reduceIte, Sum.elim_inr, u0, u1, u2]
    by_cases c : M 74 0 = 0
    · simp only [c, ↓reduceIte, ob_some, u0, u1, u2, tkX]
    · simp only [c, ↓reduceIte, ob_some, u0, u1, u2, tkX]
  · simp only [q, ↓reduceIte, Sum.elim_inl, Bool.false_eq_true]
