/-! all -/
theorem ringSort {F : Nat} {M1 M2 : Mem} (x : Int32) : (K_isRingSort F M1 x = some 0 ∧ M_in F M2 x.toInt64 0 1 = some 0) ∨ ((x = 0 ∨ x = 1) ∧ K_isRingSort F M1 x = some 1 ∧ M_in F M2 x.toInt64 0 1 = some 1) := by
  unfold K_isRingSort
  rw [in32 _ _ _ _ _ (by decide)]
  have e1 : (0 : Int64).toInt = 0 := rfl
  have e9 : (1 : Int64).toInt = 1 := rfl
  rw [e1, e9]
  by_cases c0 : x = 0
  · subst c0
    exact Or.inr ⟨Or.inl rfl, rfl, rfl⟩
  by_cases c1 : x = 1
  · subst c1
    exact Or.inr ⟨Or.inr rfl, rfl, rfl⟩
  refine Or.inl ⟨by simp only [c0, c1, ↓reduceIte], ?_⟩
  have n0 : x.toInt ≠ 0 := fun h => c0 (Int32.toInt_inj.mp h)
  have n1 : x.toInt ≠ 1 := fun h => c1 (Int32.toInt_inj.mp h)
  by_cases q : x.toInt < 0
  · rw [if_pos q]
  · rw [if_neg q, if_pos (by omega)]
theorem bst_len {g : Nat → Nat → Nat} {b c : List Nat} (hb : b.length ≤ 6) (hc : c.length ≤ 6) : (bsS g b c).length ≤ 6 := by
  unfold bsS
  split <;> assumption
theorem gn_le {g : Nat → Nat → Nat} {b : List Nat} (hb : b.length ≤ 6) : gnR g b ≤ 99 * 6 := Nat.mul_le_mul (lst_le g b) hb
theorem allL_M {F np nd : Nat} (hF : FB ≤ F) {kn : Nat → Int32} {dr : Nat → Nat → Int32} {g : Nat → Nat → Nat} (lk : LK0 nd dr g) (hg : Gd g nd np) : ∀ (R : List (List Nat)) (n : Nat) (M : Mem) (x2 : Int32) (b : List Nat), SR g np nd kn dr M R → R.length < n → b.length ≤ 6 → M 100 7 = nI (gnR g b) → ∃ N, L_M_all_24 F n M x2 = some (x2 + nI R.length, N) ∧ N 100 7 = nI (gnR g (R.foldl (bsS g) b)) ∧ (∀ a, a ≠ 100 → a ≠ 111 → N a = M a) ∧ ∀ b, b ≠ 7 → b ≠ 21 → N 100 b = M 100 b := by
  intro R
  induction R with
  | nil =>
    intro n M x2 b hs hn hb h7
    obtain ⟨n, rfl⟩ : ∃ j, n = j + 1 := ⟨n - 1, by omega⟩
    obtain ⟨ok, N, n1, n2, n3, ⟨-, h2, h3⟩ | ⟨c, R', -, h2, -⟩⟩ := nextRing_M hF lk hg hs
    · refine ⟨N, ?_, by rw [n3 7 (by omega), h7]; rfl, n2, fun b _ h => n3 b h⟩
      show B_M_all_24 F _ M x2 = _
      unfold B_M_all_24
      simp only [n1, ob_some, h2, ↓reduceIte]
      show some (x2, N) = some (x2 + 0, N)
      rw [Int32.add_zero]
    · exact absurd h2 (by simp)
  | cons c0 R ih =>
    intro n M x2 b hs hn hb h7
    obtain ⟨n, rfl⟩ : ∃ j, n = j + 1 := ⟨n - 1, by omega⟩
    rw [List.length_cons] at hn
    obtain ⟨ok, N, n1, n2, n3, ⟨h1, -⟩ | ⟨c, R', h1, h2, h3, h4, h5, h6⟩⟩ := nextRing_M hF lk hg hs
    · exact absurd h1 (by simp)
    obtain ⟨rfl, rfl⟩ := List.cons.inj h2
    have hl := len_C hg h4
    have em : nI (lst g c0) * N 100 21 = nI (gnR g c0) := by rw [h3.2.2.1]; exact pk_mul _ _
    have h7' : N 100 7 = nI (gnR g b) := by rw [n3 7 (by omega), h7]
    have gb := gn_le (g := g) hb
    have gc := gn_le (g := g) hl
    have j7 : (if nI (gnR g c0) ≤ nI (gnR g b) then some (nI (gnR g b)) else some (nI (gnR g c0))) = some (nI (gnR g (bsS g b c0))) := by
      simp only [nI_leI (show gnR g c0 < 2 ^ 31 by omega) (show gnR g b < 2 ^ 31 by omega)]
      unfold bsS
      by_cases q : gnR g c0 ≤ gnR g b
      · rw [if_pos q, if_pos q]
      · rw [if_neg q, if_neg q]
    obtain ⟨N', m1, m2, m3, m4⟩ := ih n (up N 100 7 (nI (gnR g (bsS g b c0)))) (x2 + 1) (bsS g b c0) (SR_of h6 (fun a h _ => up_cell h) (fun b hb => up_ne (by omega))) (by omega) (bst_len hb hl) (up_same ..)
    refine ⟨N', ?_, m2, fun a h h' => by rw [m3 a h h', up_cell h, n2 a h h'], fun b h h' => by rw [m4 b h h', up_ne (by omega), n3 b h']⟩
    show B_M_all_24 F _ M x2 = _
    unfold B_M_all_24
    have z10 : ((1 : Int32) = 0) = False := by decide
    simp only [n1, ob_some, h1, z10, ↓reduceIte, least_M hF hg h3 h4, em, h7', j7, m1]
    rw [List.length_cons, ← nI_1, Int32.add_assoc, Int32.add_comm 1]
theorem LK0_of {s : Int32} {nd : Nat} {dr : Nat → Nat → Int32} {g : Nat → Nat → Nat} (h : LK s nd dr g) : LK0 nd dr g := fun i hi => ⟨(h i hi).1, (h i hi).2.1⟩
theorem op_all {F : Nat} (hF : FB ≤ F) (M1 M2 : Mem) (a0 : Int32) (hR : Rel M1 M2) : ∃ (r : Int32) (M1' : Mem) (M2' : Mem), K_all F M1 a0 = some (r, M1') ∧ M_all F M2 a0 = some (r, M2') ∧ Rel M1' M2' := by
  obtain ⟨np, nd, D, hc⟩ := hR.2.2.2
  obtain ⟨kn, dr, hx, hm, hg, -, -⟩ := hc.views
  rcases ringSort (F := F) (M1 := M1) (M2 := M2) a0 with ⟨e1, e2⟩ | ⟨-, e1, e2⟩
  · exact ⟨-1, M1, M2, by simp only [K_all, e1, ob_some, ↓reduceIte], by simp only [M_all, e2, ob_some, ↓reduceIte], hR⟩
  have lk := LK_of a0 hg.2.1 hg.2.2.2.1
  have gd := Gd_of a0 hg.2.1 hg.2.2.1 hg.2.2.2.1
  have hlen := rest_len (g := gOf a0 dr) (n := nd) hg.2.2.1
  have hF2 : (12 : Nat) ^ 9 < F := by
    have : (12 : Nat) ^ 9 < FB := by unfold FB; decide
    omega
  obtain ⟨N1, n1, n2, n3⟩ := rings_X hF (Or.inl rfl) hx lk gd
  have hm7 : VM (up M2 100 7 0) np nd kn dr := VM_of hm (up_ne (by omega)) (up_cell (by omega)) (up_cell (by omega))
  obtain ⟨B, b1, b2, -, b3, b4⟩ := begin_M hF a0 hm7 hg
  obtain ⟨N2, m1, m2, m3, m4⟩ := allL_M hF (LK0_of lk) gd (rest (gOf a0 dr) nd [] 0) F B 0 [] (Or.inl ⟨b2, rfl⟩) (by omega) (by simp) (by rw [b4 7 (by omega), up_same]; rfl)
  have z10 : ((1 : Int32) = 0) = False := by decide
  refine ⟨nI (rest (gOf a0 dr) nd [] 0).length, up N1 0 11 (N1 66 1), N2, ?_, ?_, ?_⟩
  · simp only [K_all, e1, ob_some, z10, ↓reduceIte, n1]
    rw [up_ne (by omega), n2.1]
  · simp only [M_all, e2, ob_some, z10, ↓reduceIte, b1, m1]
    rw [Int32.zero_add]
  · refine Rel_scr hR (fun a h0 h => by rw [up_cell h0, n3 a (by omega)]) (fun b hb => by rw [up_ne (by omega), n3 0 (by omega)]) (fun a h h' => by rw [m3 a (by omega) (by omega), b3 a (by omega) (by omega), up_cell (by omega)]) (fun b hb => by rw [m4 b (by omega) (by omega), b4 b (by omega), up_ne (by omega)]) ?_
    rw [up_same, n2.2.1, m2]
    rfl
