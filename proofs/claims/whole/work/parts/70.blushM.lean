/-! blushes: the reference's search -/
def goodB (np nd : Nat) (dr : Nat → Nat → Int32) (row : Nat → Int32) (x : Int32) : Bool := allF (opnB dr x) nd 0 && allF (fitB nd dr row x) np 0
def takeB (s : Int32 × Int32 × Int32) (x : Int32) : Int32 × Int32 × Int32 := (s.1 + 1, if s.1 = 0 then x else s.2.1, if s.1 = 0 then x else s.2.2 &&& x)
def blushF (np nd : Nat) (dr : Nat → Nat → Int32) (row : Nat → Int32) (t : Nat) (s : Int32 × Int32 × Int32) : Int32 × Int32 × Int32 := if goodB np nd dr row (nI t) = true then takeB s (nI t) else s
theorem pow_key : ∀ d : Fin 13, ((1 : Int32) <<< (nI d.val &&& 31)) = nI (2 ^ d.val) ∧ 2 ^ d.val ≤ 4096 := by decide +kernel
theorem blush_M {F : Nat} (hF : FB ≤ F) {M : Mem} {np nd r : Nat} {kn : Nat → Int32} {dr : Nat → Nat → Int32} (h : VM M np nd kn dr) (hr : r < 6) : ∃ N, L_M_layBlushes_71 F (nI r) F M 0 = some N ∧ (N 100 28, N 100 29, N 100 30) = fo (blushF np nd dr (fun p => M 104 (40 * r + p))) (2 ^ nd) 0 (M 100 28, M 100 29, M 100 30) ∧ (∀ a, a ≠ 100 → N a = M a) ∧ ∀ b, b < 28 → N 100 b = M 100 b := by
  have hF' := FBL hF
  have hnd := h.2.2.2.1
  obtain ⟨p1, p2⟩ := pow_key ⟨nd, by omega⟩
  simp only at p1 p2
  obtain ⟨N, n1, n2, n3, n4⟩ := lpE (fun m t (N : Mem) => L_M_layBlushes_71 F (nI r) m N (nI t)) (fun t N => (N 100 28, N 100 29, N 100 30) = fo (blushF np nd dr (fun p => M 104 (40 * r + p))) t 0 (M 100 28, M 100 29, M 100 30) ∧ (∀ a, a ≠ 100 → N a = M a) ∧ ∀ b, b < 28 → N 100 b = M 100 b) (fun N => some N) (2 ^ nd)
    (fun m t N ht hI => by
      obtain ⟨i1, i2, i3⟩ := hI
      have hx := VM_of h (N := N) (i3 1 (by omega)) (i2 _ (by omega)) (i2 _ (by omega))
      have hc : (nI (2 ^ nd) ≤ nI t) = False := by rw [nI_leI (by omega) (by omega)]; simp; omega
      have fs : fo (blushF np nd dr (fun p => M 104 (40 * r + p))) (t + 1) 0 (M 100 28, M 100 29, M 100 30) = blushF np nd dr (fun p => M 104 (40 * r + p)) t (N 100 28, N 100 29, N 100 30) := by rw [fo_succ, Nat.zero_add, ← i1]
      have ft := fits_M hF hx hr (nI t)
      rw [i2 104 (by omega)] at ft
      have b1 : N 101 1 = nI nd := hx.2.1
      by_cases g : goodB np nd dr (fun p => M 104 (40 * r + p)) (nI t) = true
      · have g' : allF (opnB dr (nI t)) nd 0 = true ∧ allF (fitB nd dr (fun p => M 104 (40 * r + p)) (nI t)) np 0 = true := by
          simpa [goodB] using g
        have z10 : ((1 : Int32) = 0) = False := by decide
        have u0 : ∀ v, up N 100 29 v 100 28 = N 100 28 := fun v => up_ne (by omega)
        have u1 : ∀ v, up N 100 29 v 100 30 = N 100 30 := fun v => up_ne (by omega)
        have u2 : ∀ v w, up (up N 100 29 v) 100 30 w 100 28 = N 100 28 := fun v w => by rw [up_ne (by omega), u0]
        refine ⟨up (up (up N 100 29 (if N 100 28 = 0 then nI t else N 100 29)) 100 30 (if N 100 28 = 0 then nI t else N 100 30 &&& nI t)) 100 28 (N 100 28 + 1), ?_, ?_, fun a ha => by rw [up_cell ha, up_cell ha, up_cell ha, i2 a ha], fun b hb => by rw [up_ne (by omega), up_ne (by omega), up_ne (by omega), i3 b hb]⟩
        · show B_M_layBlushes_71 F (nI r) _ N (nI t) = _
          unfold B_M_layBlushes_71
          simp only [b1, p1, hc, ↓reduceIte, areOpen_M hF hx, ft, g'.1, g'.2, ob_some, z10, u0, u1, u2, nI_1]
          by_cases q : N 100 28 = 0
          · simp only [q, ↓reduceIte, ob_some, u0, u1, u2]
          · simp only [q, ↓reduceIte, ob_some, u0, u1, u2]
        · rw [fs]
          unfold blushF takeB
          rw [if_pos g]
          simp [up_eqn]
      · refine ⟨N, ?_, ?_, i2, i3⟩
        · show B_M_layBlushes_71 F (nI r) _ N (nI t) = _
          unfold B_M_layBlushes_71
          simp only [b1, p1, hc, ↓reduceIte, areOpen_M hF hx, ft, ob_some, i10c, nI_1]
          by_cases q1 : allF (opnB dr (nI t)) nd 0 = true
          · have q2 : ¬ allF (fitB nd dr (fun p => M 104 (40 * r + p)) (nI t)) np 0 = true := fun e => g (by simp [goodB, q1, e])
            simp only [q1, q2, not_true_eq_false, not_false_eq_true, ↓reduceIte, Bool.false_eq_true]
          · simp only [q1, not_false_eq_true, ↓reduceIte, Bool.false_eq_true]
        · rw [fs]
          unfold blushF
          rw [if_neg g])
    (fun m N hI => by
      show B_M_layBlushes_71 F (nI r) _ N (nI (2 ^ nd)) = _
      unfold B_M_layBlushes_71
      rw [hI.2.1 101 (by omega), h.2.1, p1, if_pos (by rw [nI_leI (by omega) (by omega)]; omega)])
    (2 ^ nd) 0 F M (by omega) (by omega) ⟨rfl, fun _ _ => rfl, fun _ _ => rfl⟩
  rw [nI_0] at n1
  exact ⟨N, n1, n2, n3, n4⟩
