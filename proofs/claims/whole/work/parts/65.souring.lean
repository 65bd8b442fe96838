/-! mark: what sours -/
def sourB (dr : Nat → Nat → Int32) (p : Int32) (i : Nat) : Bool := !(decide (dr i 3 ≤ 0)) && decide (dr i 1 = p) && !(decide (dr i 2 = 2)) && !(decide (dr i 4 + 1 ≤ 3))
def sourS (nd : Nat) (dr : Nat → Nat → Int32) (p : Int32) : Int32 := fo (fun i (s : Int32) => if sourB dr p i = true then s + 1 else s) nd 0 0
theorem souring_X {F : Nat} (hF : FB ≤ F) {M : Mem} {v np nd : Nat} {kn : Nat → Int32} {dr : Nat → Nat → Int32} (h : VX M v np nd kn dr) (p : Int32) : V_souringFor F M v p = some (sourS nd dr p) := by
  have hF' := FBL hF
  have hnd := h.2.2.2.2.2.1
  unfold V_souringFor
  have key : L_V_souringFor_4 F M v p F 0 0 = _ := lpF (fun m i (s : Int32) => L_V_souringFor_4 F M v p m s (nI i)) (fun i s => if sourB dr p i = true then s + 1 else s) (fun s => some s) nd
    (fun m i s hi => by
      show B_V_souringFor_4 F M v p _ s (nI i) = _
      unfold B_V_souringFor_4
      have hc : (nI nd ≤ nI i) = False := by rw [nI_leI (by omega) (by omega)]; simp; omega
      have e := fun j hj => h.2.2.2.2.2.2.2 i hi j hj
      have x : idx (nI i) (ln (v + 2)) = some i := by rw [h.2.1]; exact idx_nI (by omega) (by omega)
      simp only [h.2.2.2.1, hc, ↓reduceIte, x, ob_some, D_isOpen_eq, e 1 (by omega), e 2 (by omega), e 3 (by omega), e 4 (by omega), i01, lt4, nI_1]
      rcases Classical.propComplete (dr i 3 ≤ 0) with C0 | C0 <;> rcases Classical.propComplete (dr i 1 = p) with C1 | C1 <;> rcases Classical.propComplete (dr i 2 = 2) with C2 | C2 <;> rcases Classical.propComplete (dr i 4 + 1 ≤ 3) with C3 | C3 <;> simp [sourB, C0, C1, C2, C3])
    (fun m s => by
      show B_V_souringFor_4 F M v p _ s (nI nd) = _
      unfold B_V_souringFor_4
      rw [h.2.2.2.1, if_pos (by rw [nI_leI (by omega) (by omega)]; omega)])
    nd 0 F 0 (by omega) (by omega)
  rw [key, ob_some]
  rfl
theorem souring_M {F : Nat} (hF : FB ≤ F) {M : Mem} {np nd w : Nat} {kn : Nat → Int32} {dr : Nat → Nat → Int32} (h : VM M np nd kn dr) (hg : GV np nd w kn dr) (hw : w ≤ 40) (p : Int32) : M_souring F M p = some (sourS nd dr p) := by
  have hF' := FBL hF
  have hnd := h.2.2.2.1
  unfold M_souring
  have key : L_M_souring_4 F M p F 0 0 = _ := lpF (fun m i (s : Int32) => L_M_souring_4 F M p m s (nI i)) (fun i s => if sourB dr p i = true then s + 1 else s) (fun s => some s) nd
    (fun m i s hi => by
      show B_M_souring_4 F M p _ s (nI i) = _
      unfold B_M_souring_4
      have hc : (nI nd ≤ nI i) = False := by rw [nI_leI (by omega) (by omega)]; simp; omega
      obtain ⟨a, b, c, k, v, t, g0, g1, g2, g3, g4, g5, ha, hb, hab, hcc, hkk, hv, ht⟩ := hg.2.2.2.1 i hi
      have q1 : M_of F M (nI i) 1 = some (dr i 1) := M_of_eq h hi (j := 1) (by omega)
      have q2 : M_of F M (nI i) 2 = some (dr i 2) := M_of_eq h hi (j := 2) (by omega)
      have q4 : M_of F M (nI i) 4 = some (dr i 4) := M_of_eq h hi (j := 4) (by omega)
      have e3 : (dr i 4 ≤ 2) = (dr i 4 + 1 ≤ 3) := by
        rw [g4, nI_1, lit 2, lit 3, nI_leI (by omega) (by omega), nI_leI (by omega) (by omega)]
        simp only [eq_iff_iff]
        omega
      simp only [h.2.1, hc, ↓reduceIte, q1, q2, q4, ob_some, M_isOpen_eq h hi, i01, e3, nI_1, Int32.add_zero]
      rcases Classical.propComplete (dr i 3 ≤ 0) with C0 | C0 <;> rcases Classical.propComplete (dr i 1 = p) with C1 | C1 <;> rcases Classical.propComplete (dr i 2 = 2) with C2 | C2 <;> rcases Classical.propComplete (dr i 4 + 1 ≤ 3) with C3 | C3 <;> simp [sourB, C0, C1, C2, C3])
    (fun m s => by
      show B_M_souring_4 F M p _ s (nI nd) = _
      unfold B_M_souring_4
      rw [h.2.1, if_pos (by rw [nI_leI (by omega) (by omega)]; omega)])
    nd 0 F 0 (by omega) (by omega)
  rw [key, ob_some]
  rfl
