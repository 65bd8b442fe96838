/-! rows and texts -/
theorem RelR_of {M1 M2 N1 N2 : Mem} (h : RelR M1 M2) (h1 : ∀ k, 2 ≤ k → k ≤ 13 → N1 k = M1 k) (h2 : N2 103 = M2 103) (h3 : N2 104 = M2 104) : RelR N1 N2 := by
  intro r hr
  have e1 := h1 (1 + 1 + 2 * r) (by omega) (by omega)
  have e2 := h1 (1 + 1 + 2 * r + 1) (by omega) (by omega)
  have := h r hr
  unfold StripRel at this ⊢
  rw [e1, e2, h2, h3]
  exact this
theorem RelT_of {M1 M2 N1 N2 : Mem} (h : RelT M1 M2) (h1 : ∀ k, 15 ≤ k → k ≤ 22 → N1 k = M1 k) (h2 : N2 105 = M2 105) (h3 : N2 106 = M2 106) : RelT N1 N2 := by
  intro r hr
  have e1 := h1 (14 + 1 + 2 * r) (by omega) (by omega)
  have e2 := h1 (14 + 1 + 2 * r + 1) (by omega) (by omega)
  have := h r hr
  unfold StripRel at this ⊢
  rw [e1, e2, h2, h3]
  exact this
theorem drM_of {M2 N2 : Mem} (h : N2 101 = M2 101) (o i : Nat) : drM N2 o i = drM M2 o i := by
  unfold drM
  rw [h]
theorem PageRel_of {M1 M2 N1 N2 : Mem} {np h n o w : Nat} (hp : PageRel M1 M2 np h n o w) (h1 : N1 (h + 1) = M1 (h + 1)) (h2 : N1 (h + 2) = M1 (h + 2)) (h3 : N2 101 = M2 101) : PageRel N1 N2 np h n o w := by
  unfold PageRel at hp ⊢
  simp only [drM_of h3, h1, h2, h3]
  exact hp
theorem RelC_of {M1 M2 N1 N2 : Mem} {np nd D : Nat} (h : RelC M1 M2 np nd D) (h1 : ∀ k, (23 ≤ k ∧ k ≤ 37) ∨ (53 ≤ k ∧ k ≤ 65) → N1 k = M1 k) (h2 : N2 100 1 = M2 100 1) (h3 : N2 101 = M2 101) (h4 : N2 102 = M2 102) : RelC N1 N2 np nd D := by
  obtain ⟨hp, hn, hh, hk⟩ := h
  have e23 := h1 23 (by omega)
  have e24 := h1 24 (by omega)
  have e53 := h1 53 (by omega)
  refine ⟨?_, ?_, ?_, ?_⟩
  · unfold RelP at hp ⊢
    rw [e23, e24, h2, h4]
    exact hp
  · unfold RelN at hn ⊢
    obtain ⟨a, b, c, d⟩ := hn
    refine ⟨a, by rw [e23]; exact b, by rw [h3]; exact c, fun i hi => ?_⟩
    rw [drM_of h3, h1 (23 + 2 + 1 + i) (by omega)]
    exact d i hi
  · obtain ⟨a, b, c, d⟩ := hh
    exact ⟨a, by rw [e53]; exact b, by rw [h3]; exact c, fun n hn => PageRel_of (d n hn) (h1 _ (by omega)) (h1 _ (by omega)) h3⟩
  · intro k hk3
    rcases hk k hk3 with ⟨a, b⟩ | ⟨D', ⟨a, b, c, d⟩, g⟩
    · exact Or.inl ⟨by rw [h1 _ (by omega)]; exact a, by rw [h3]; exact b⟩
    · exact Or.inr ⟨D', ⟨a, by rw [h1 _ (by omega)]; exact b, by rw [h3]; exact c, fun n hn => PageRel_of (d n hn) (h1 _ (by omega)) (h1 _ (by omega)) h3⟩, PageRel_of g (h1 _ (by omega)) (h1 _ (by omega)) h3⟩
theorem nI_lit_add (a b : Nat) : nI a + nI b = nI (a + b) := nI_add a b
/-- what is refused: both sides alike -/
theorem refuse_eq {F : Nat} {M1 : Mem} {f : Nat} (h1 : 1 ≤ f) (h5 : f ≤ 5) : K_refuse F M1 (nI f) = some (-3, up (up M1 0 10 (nI f)) 76 f (M1 76 f + 1)) := by
  unfold K_refuse
  have a1 : ¬ nI f < 1 := by rw [lit 1, nI_ltI (by omega) (by omega)]; omega
  have a2 : ¬ 5 < nI f := by rw [lit 5, nI_ltI (by omega) (by omega)]; omega
  have hl : f < ln 76 := by show f < 6; omega
  rw [if_neg a1, if_neg a2, ard_nI hl]
  simp only [Option.bind_some]
  rw [awr_nI hl, up_cell (a := 76) (k := 0) (by decide)]
  rfl
theorem find_eq {F : Nat} {M2 : Mem} {f : Nat} (h1 : 1 ≤ f) (h5 : f ≤ 5) : M_find F M2 (nI f) = some (-3, up (up M2 100 10 (nI f)) 107 f (M2 107 f + 1)) := by
  unfold M_find
  have hl : f < ln 107 := by show f < 6; omega
  rw [ard_nI hl]
  simp only [Option.bind_some]
  rw [awr_nI hl, up_cell (a := 107) (k := 100) (by decide)]
  rfl
theorem refuse_rel {M1 M2 : Mem} (hR : Rel M1 M2) {f : Nat} (h1 : 1 ≤ f) (h5 : f ≤ 5) : Rel (up (up M1 0 10 (nI f)) 76 f (M1 76 f + 1)) (up (up M2 100 10 (nI f)) 107 f (M2 107 f + 1)) := by
  obtain ⟨⟨a1, a2, a3, a4, a5⟩, hr, ht, np, nd, D, hc⟩ := hR
  refine ⟨⟨?_, ?_, ?_, ?_, ?_⟩, RelR_of hr (fun k h h' => by rw [up_cell (by omega), up_cell (by omega)]) (by rw [up_cell (by decide), up_cell (by decide)]) (by rw [up_cell (by decide), up_cell (by decide)]), RelT_of ht (fun k h h' => by rw [up_cell (by omega), up_cell (by omega)]) (by rw [up_cell (by decide), up_cell (by decide)]) (by rw [up_cell (by decide), up_cell (by decide)]), np, nd, D, RelC_of hc (fun k h => by rw [up_cell (by omega), up_cell (by omega)]) (by rw [up_cell (by decide), up_ne (by simp)]) (by rw [up_cell (by decide), up_cell (by decide)]) (by rw [up_cell (by decide), up_cell (by decide)])⟩
  · simp [up_eqn]
  · simp [up_eqn, a2]
  · simp [up_eqn, a3]
  · simp [up_eqn, a4]
  · intro g hg1 hg5
    simp only [up_eqn]
    by_cases hgf : g = f
    · subst hgf
      simp [a5 g hg1 hg5]
    · simp [hgf, a5 g hg1 hg5]
theorem tell_rel {M1 M2 : Mem} (hR : Rel M1 M2) (v : Int32) : Rel (up M1 0 11 v) (up M2 100 7 v) := by
  obtain ⟨⟨a1, a2, a3, a4, a5⟩, hr, ht, np, nd, D, hc⟩ := hR
  refine ⟨⟨?_, ?_, ?_, ?_, ?_⟩, RelR_of hr (fun k h h' => by rw [up_cell (by omega)]) (by rw [up_cell (by decide)]) (by rw [up_cell (by decide)]), RelT_of ht (fun k h h' => by rw [up_cell (by omega)]) (by rw [up_cell (by decide)]) (by rw [up_cell (by decide)]), np, nd, D, RelC_of hc (fun k h => by rw [up_cell (by omega)]) (by rw [up_ne (by simp)]) (by rw [up_cell (by decide)]) (by rw [up_cell (by decide)])⟩
  · simp [up_eqn, a1]
  · simp [up_eqn]
  · simp [up_eqn, a3]
  · simp [up_eqn, a4]
  · intro g hg1 hg5
    simp [up_eqn, a5 g hg1 hg5]
theorem isRow_no {F : Nat} {M1 M2 : Mem} {x : Int32} (h : x < 0 ∨ (0 ≤ x ∧ nI 6 ≤ x)) : K_isRow F M1 x = some 0 ∧ M_isRow F M2 x = some 0 := by
  have hx : x.toInt < 0 ∨ 6 ≤ x.toInt := by
    rcases h with h | ⟨-, h⟩
    · rw [i32_lt] at h; exact Or.inl h
    · rw [i32_le] at h; exact Or.inr h
  have e0 : (0 : Int64).toInt = 0 := rfl
  have e5 : (5 : Int64).toInt = 5 := rfl
  refine ⟨?_, ?_⟩
  · unfold K_isRow
    by_cases h0 : x < 0
    · rw [if_pos h0]
    · rw [if_neg h0, if_pos]
      rw [i32_lt] at h0
      rw [i32_le]
      have : (0 : Int32).toInt = 0 := rfl
      have : (6 : Int32).toInt = 6 := rfl
      omega
  · unfold M_isRow
    rw [in32 _ _ _ _ _ (by rw [e0]; decide), e0, e5]
    simp only [Option.bind_some]
    by_cases h0 : x.toInt < 0
    · simp [h0, rb_0]
    · rw [if_neg h0, if_pos (by omega)]
      rfl
theorem isRow_yes {F : Nat} {M1 M2 : Mem} {r : Nat} (h : r < 6) : K_isRow F M1 (nI r) = some 1 ∧ M_isRow F M2 (nI r) = some 1 := by
  have e0 : (0 : Int64).toInt = 0 := rfl
  have e5 : (5 : Int64).toInt = 5 := rfl
  have er : (nI r).toInt = (r : Int) := tI (by omega)
  refine ⟨?_, ?_⟩
  · unfold K_isRow
    rw [if_neg (nI_nlt0 (by omega)), if_neg]
    rw [lit 6, nI_leI (by omega) (by omega)]
    omega
  · unfold M_isRow
    rw [in32 _ _ _ _ _ (by rw [e0]; decide), e0, e5, er, if_neg (by omega), if_neg (by omega)]
    rfl
theorem isText_no {F : Nat} {M1 M2 : Mem} {x : Int32} (h : x < 0 ∨ (0 ≤ x ∧ nI 4 ≤ x)) : K_isText F M1 x = some 0 ∧ M_isText F M2 x = some 0 := by
  have hx : x.toInt < 0 ∨ 4 ≤ x.toInt := by
    rcases h with h | ⟨-, h⟩
    · rw [i32_lt] at h; exact Or.inl h
    · rw [i32_le] at h; exact Or.inr h
  have e0 : (0 : Int64).toInt = 0 := rfl
  have e5 : (3 : Int64).toInt = 3 := rfl
  refine ⟨?_, ?_⟩
  · unfold K_isText
    by_cases h0 : x < 0
    · rw [if_pos h0]
    · rw [if_neg h0, if_pos]
      rw [i32_lt] at h0
      rw [i32_le]
      have : (0 : Int32).toInt = 0 := rfl
      have : (4 : Int32).toInt = 4 := rfl
      omega
  · unfold M_isText
    rw [in32 _ _ _ _ _ (by rw [e0]; decide), e0, e5]
    simp only [Option.bind_some]
    by_cases h0 : x.toInt < 0
    · simp [h0, rb_0]
    · rw [if_neg h0, if_pos (by omega)]
      rfl
theorem isText_yes {F : Nat} {M1 M2 : Mem} {r : Nat} (h : r < 4) : K_isText F M1 (nI r) = some 1 ∧ M_isText F M2 (nI r) = some 1 := by
  have e0 : (0 : Int64).toInt = 0 := rfl
  have e5 : (3 : Int64).toInt = 3 := rfl
  have er : (nI r).toInt = (r : Int) := tI (by omega)
  refine ⟨?_, ?_⟩
  · unfold K_isText
    rw [if_neg (nI_nlt0 (by omega)), if_neg]
    rw [lit 4, nI_leI (by omega) (by omega)]
    omega
  · unfold M_isText
    rw [in32 _ _ _ _ _ (by rw [e0]; decide), e0, e5, er, if_neg (by omega), if_neg (by omega)]
    rfl
/-- a stretch of places gets one value -/
def fillR (M : Mem) (a o n : Nat) (v : Int32) : Mem := fun k j => if k = a ∧ o ≤ j ∧ j < o + n then v else M k j
theorem fillR_0 (M : Mem) (a o : Nat) (v : Int32) : fillR M a o 0 v = M := by
  funext k j
  unfold fillR
  rw [if_neg (by omega)]
theorem fillR_s (M : Mem) (a o n : Nat) (v : Int32) : up (fillR M a o n v) a (o + n) v = fillR M a o (n + 1) v := by
  funext k j
  simp only [up_eqn, fillR]
  by_cases h1 : k = a <;> by_cases h2 : j = o + n
  · simp [h1, h2]
  · have : (o ≤ j ∧ j < o + n) ↔ (o ≤ j ∧ j < o + (n + 1)) := by omega
    simp [h1, h2, this]
  · simp [h1]
  · simp [h1]
theorem fillR_cell {M : Mem} {a o n k : Nat} {v : Int32} (h : k ≠ a) : fillR M a o n v k = M k := by
  funext j
  simp [fillR, h]
theorem fo_fill (a o : Nat) (v : Int32) (M : Mem) : ∀ c : Nat, fo (fun k M => up M a (o + k) v) c 0 M = fillR M a o c v := by
  intro c
  induction c with
  | zero => rw [fillR_0]; rfl
  | succ c ih => rw [fo_succ, ih, Nat.zero_add, fillR_s]
theorem renew_eq {F : Nat} (hF : FB ≤ F) {M : Mem} {k n most : Nat} {v : Int32} (hm : ln (k + 1) = most) (hn : n ≤ most) (hmm : most ≤ 80) : S_renew F M k (nI n) v = some (fillR (up M k 1 (nI n)) (k + 1) 0 n v) := by
  have hF' := FBL hF
  unfold S_renew
  have key := lpF (fun m i (M : Mem) => L_S_renew_7 F k (nI n) v m M (nI i)) (fun i M => up M (k + 1) (0 + i) v) (fun M => some M) n
    (fun m i M hi => by
      show B_S_renew_7 F k (nI n) v _ M (nI i) = _
      unfold B_S_renew_7
      have a2 : ¬ Int32.ofNat (ln (k + 1)) ≤ nI i := by
        show ¬ nI (ln (k + 1)) ≤ nI i
        rw [hm, nI_leI (by omega) (by omega)]; omega
      rw [if_neg (by rw [nI_leI (by omega) (by omega)]; omega), if_neg a2, awr_nI (by omega), Nat.zero_add]
      simp only [Option.bind_some]
      rw [nI_1])
    (fun m M => by
      show B_S_renew_7 F k (nI n) v _ M (nI n) = _
      unfold B_S_renew_7
      rw [if_pos (by rw [nI_leI (by omega) (by omega)]; omega)])
    n 0 F (up M k 1 (nI n)) (by omega) (by omega)
  show ((L_S_renew_7 F k (nI n) v F (up M k 1 (nI n)) (nI 0)).bind fun u4 => some u4) = _
  rw [key, fo_fill]
  rfl
