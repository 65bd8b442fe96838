/-! texts are read: the small pieces -/
theorem addDraft_S {F : Nat} {M : Mem} {np nd : Nat} {kn : Nat → Int32} {dr : Nat → Nat → Int32} (h : VX M 38 np nd kn dr) (hn : nd < 12) (a b c k : Int32) : ∃ M', V_addDraft F M 38 a b c k = some M' ∧ VX M' 38 np (nd + 1) kn (addD dr nd (newD a b c k)) ∧ ∀ p, p ≠ 38 → ¬ (41 ≤ p ∧ p ≤ 52) → M' p = M p := by
  obtain ⟨h1, h2, h3, h4, h5, h6, h7, h8⟩ := h
  unfold V_addDraft D_become
  have hc : (12 ≤ nI nd) = False := by rw [lit 12, nI_leI (by omega) (by omega)]; simp; omega
  simp only [h4, hc, ↓reduceIte, h2, idx_nI (k := nd) (n := 12) hn (by omega), Option.bind_some]
  refine ⟨_, rfl, ⟨h1, h2, ?_, ?_, h5, by omega, fun p hp => ?_, fun i hi j hj => ?_⟩, fun p hp hq => ?_⟩
  · rw [up_ne (by omega)]
    simp only [up_cell (show 38 ≠ 38 + 2 + 1 + nd by omega)]
    exact h3
  · rw [up_same]
    simp only [up_cell (show 38 ≠ 38 + 2 + 1 + nd by omega)]
    rw [h4, nI_1]
  · rw [up_cell (by omega)]
    simp only [up_cell (show 38 + 1 ≠ 38 + 2 + 1 + nd by omega)]
    exact h7 p hp
  · rw [up_cell (by omega)]
    by_cases e : i = nd
    · subst e
      rw [addD_at]
      unfold newD
      rcases (show j = 0 ∨ j = 1 ∨ j = 2 ∨ j = 3 ∨ j = 4 ∨ j = 5 by omega) with rfl | rfl | rfl | rfl | rfl | rfl <;> simp [up_eqn]
    · rw [addD_ne e]
      simp only [up_cell (show 38 + 2 + 1 + i ≠ 38 + 2 + 1 + nd by omega)]
      exact h8 i (by omega) j hj
  · rw [up_cell hp]
    simp only [up_cell (show p ≠ 38 + 2 + 1 + nd by omega)]
theorem likeB_eq {F : Nat} (hF : FB ≤ F) {M : Mem} {np nd : Nat} {kn : Nat → Int32} {dr : Nat → Nat → Int32} (h : VX M 38 np nd kn dr) : ∃ N, V_becomeLike F M 23 38 = some N ∧ VX N 23 np nd kn dr ∧ ∀ a, ¬ (23 ≤ a ∧ a ≤ 37) → N a = M a := by
  have hF' := FBL hF
  obtain ⟨h1, h2, h3, h4, h5, h6, h7, h8⟩ := h
  unfold V_becomeLike
  have e1 : up M 23 0 (M 38 0) 38 1 = M 38 1 := by rw [up_cell (by omega)]
  rw [e1, h3, h4]
  obtain ⟨A, a1, a2, a3, a4, a5⟩ := lpE (fun m i (N : Mem) => L_V_becomeLike_18 F 23 38 m N (nI i)) (fun i N => (∀ a, ¬ (23 ≤ a ∧ a ≤ 37) → N a = M a) ∧ N 23 0 = nI np ∧ N 23 1 = nI nd ∧ ∀ p, p < i → N 24 p = kn p) (fun N => some N) np
    (fun m i N hi hI => by
      obtain ⟨i1, i2, i3, i4⟩ := hI
      have hc : (nI np ≤ nI i) = False := by rw [nI_leI (by omega) (by omega)]; simp; omega
      have l1 : ard N (38 + 1) (nI i) = some (kn i) := by rw [ard_nI (by show i < 6; omega), i1 _ (by omega), h7 i hi]
      have l2 : awr N (23 + 1) (nI i) (kn i) = some (up N 24 i (kn i)) := awr_nI (by show i < 6; omega)
      refine ⟨up N 24 i (kn i), ?_, fun a ha => by rw [up_cell (by omega), i1 a ha], by rw [up_cell (by omega), i2], by rw [up_cell (by omega), i3], fun p hp => ?_⟩
      · show B_V_becomeLike_18 F 23 38 _ N (nI i) = _
        unfold B_V_becomeLike_18
        simp only [i2, hc, ↓reduceIte, l1, l2, ob_some, nI_1]
      · by_cases e : p = i
        · subst e; exact up_same _ _ _ _
        · rw [up_ne (by omega)]; exact i4 p (by omega))
    (fun m N hI => by
      show B_V_becomeLike_18 F 23 38 _ N (nI np) = _
      unfold B_V_becomeLike_18
      rw [hI.2.1, if_pos (by rw [nI_leI (by omega) (by omega)]; omega)])
    np 0 F (up (up M 23 0 (nI np)) 23 1 (nI nd)) (by omega) (by omega)
    ⟨fun a ha => by rw [up_cell (by omega), up_cell (by omega)], by rw [up_ne (by omega), up_same], up_same _ _ _ _, fun p hp => absurd hp (by omega)⟩
  obtain ⟨B, b1, b2, b3, b4, b5, b6⟩ := lpE (fun m i (N : Mem) => L_V_becomeLike_46 F 23 38 m N (nI i)) (fun i N => (∀ a, ¬ (23 ≤ a ∧ a ≤ 37) → N a = M a) ∧ N 23 0 = nI np ∧ N 23 1 = nI nd ∧ (∀ p, p < np → N 24 p = kn p) ∧ ∀ d, d < i → ∀ j, j < 6 → N (23 + 2 + 1 + d) j = dr d j) (fun N => some N) nd
    (fun m i N hi hI => by
      obtain ⟨i1, i2, i3, i4, i5⟩ := hI
      have hc : (nI nd ≤ nI i) = False := by rw [nI_leI (by omega) (by omega)]; simp; omega
      have x1 : idx (nI i) (ln (23 + 2)) = some i := idx_nI (k := i) (n := 12) (by omega) (by omega)
      have x2 : idx (nI i) (ln (38 + 2)) = some i := idx_nI (k := i) (n := 12) (by omega) (by omega)
      obtain ⟨P, p1, p2, p3⟩ := likeD_eq (F := F) (M := N) (a := 23 + 2 + 1 + i) (b := 38 + 2 + 1 + i) (by omega)
      refine ⟨P, ?_, fun a ha => by rw [p2 a (by omega), i1 a ha], by rw [p2 23 (by omega), i2], by rw [p2 23 (by omega), i3], fun p hp => by rw [p2 24 (by omega), i4 p hp], fun d hd j hj => ?_⟩
      · show B_V_becomeLike_46 F 23 38 _ N (nI i) = _
        unfold B_V_becomeLike_46
        simp only [i3, hc, ↓reduceIte, x1, x2, p1, ob_some, nI_1]
      · by_cases e : d = i
        · subst e; rw [p3 j hj, i1 _ (by omega), h8 d hi j hj]
        · rw [p2 _ (by omega)]; exact i5 d (by omega) j hj)
    (fun m N hI => by
      show B_V_becomeLike_46 F 23 38 _ N (nI nd) = _
      unfold B_V_becomeLike_46
      rw [hI.2.2.1, if_pos (by rw [nI_leI (by omega) (by omega)]; omega)])
    nd 0 F A (by omega) (by omega) ⟨a2, a3, a4, a5, fun d hd => absurd hd (by omega)⟩
  rw [nI_0] at a1 b1
  refine ⟨B, by rw [a1, ob_some, b1, ob_some], ⟨by decide, by decide, b3, b4, h5, h6, b5, b6⟩, b2⟩
/-- a text: the class's strip and the reference's bytes -/
def TX (M : Mem) (k n : Nat) (by' : Nat → Int32) : Prop := n ≤ 80 ∧ ln (k + 1) = 80 ∧ M k 1 = nI n ∧ ∀ i, i < n → M (k + 1) i = by' i
def TM (N : Mem) (t n : Nat) (by' : Nat → Int32) : Prop := n ≤ 80 ∧ t < 4 ∧ N 100 12 = nI (80 * t) ∧ N 100 14 = nI n ∧ ∀ i, i < n → N 106 (80 * t + i) = by' i
theorem sign_X {F k n x : Nat} {M : Mem} {by' : Nat → Int32} (h : TX M k n by') (hx : x ≤ 100) : R_signAt F M k (nI x) = some (if x < n then by' x else -1000) := by
  obtain ⟨h1, h2, h3, h4⟩ := h
  unfold R_signAt S_hasPlace
  have c0 : (nI x < (0 : Int32)) = False := eq_false (nI_nlt0 (by omega))
  have c1 : (nI n ≤ nI x) = (n ≤ x) := by rw [nI_leI (by omega) (by omega)]
  simp only [c0, h3, c1, ↓reduceIte]
  by_cases q : n ≤ x
  · have q' : ¬ x < n := by omega
    simp only [q, q', ↓reduceIte, ob_some]
  · have q' : x < n := by omega
    have z10 : ((1 : Int32) = 0) = False := by decide
    simp only [q, q', ↓reduceIte, ob_some, z10, ard_nI (M := M) (a := k + 1) (k := x) (by rw [h2]; omega), h4 x q']
theorem here_M {F t n x : Nat} {N : Mem} {by' : Nat → Int32} (h : TM N t n by') (hp : N 100 13 = nI x) (hx : x < n) : M_here F N = some (by' x) := by
  obtain ⟨h1, h2, h3, h4, h5⟩ := h
  unfold M_here
  rw [h3, hp, nI_add, ard_nI (by show _ < 320; omega), ob_some, h5 x hx]
theorem num_step {F : Nat} {M : Mem} {b v : Int32} {k j m : Nat} (hk : k = 80 ∨ k = 81) (hj : j < ln k) (hv : rov k j = v) : L_R_numberOf_2 F M b k (m + 1) (nI j) = if v = b then some (.inl (nI j)) else L_R_numberOf_2 F M b k m (nI (j + 1)) := by
  have hl : ln k ≤ 6 := by rcases hk with rfl | rfl <;> decide
  show B_R_numberOf_2 F M b k _ (nI j) = _
  unfold B_R_numberOf_2
  have c1 : (Int32.ofNat (ln k) ≤ nI j) = False := by
    show (nI (ln k) ≤ nI j) = False
    rw [nI_leI (by omega) (by omega)]; simp; omega
  have c2 : rod k (nI j) = some v := by
    unfold rod
    rw [if_pos (inb_nI hj (by omega)), nI_clamp (by omega), hv]
  simp only [c1, ↓reduceIte, c2, ob_some, nI_1]
theorem num_end {F : Nat} {M : Mem} {b : Int32} {k m : Nat} (hk : k = 80 ∨ k = 81) : L_R_numberOf_2 F M b k (m + 1) (nI (ln k)) = some (.inr ()) := by
  have hl : ln k ≤ 6 := by rcases hk with rfl | rfl <;> decide
  show B_R_numberOf_2 F M b k _ (nI (ln k)) = _
  unfold B_R_numberOf_2
  rw [if_pos (by show nI (ln k) ≤ nI (ln k); rw [nI_leI (by omega) (by omega)]; omega)]
/-- letters of kinds: both sides -/
theorem kind_both {F : Nat} (hF : FB ≤ F) {M N : Mem} (b : Int32) : (R_numberOf F M b 81 = some (-1) ∧ M_kindOfLetter F N b = some (-9)) ∨ ∃ k, k < 6 ∧ R_numberOf F M b 81 = some (nI k) ∧ M_kindOfLetter F N b = some (nI k) := by
  have hF' := FBL hF
  obtain ⟨f, rfl⟩ : ∃ f, F = f + 7 := ⟨F - 7, by omega⟩
  unfold R_numberOf M_kindOfLetter
  have s0 := num_step (F := f + 7) (M := M) (b := b) (k := 81) (j := 0) (v := 112) (m := f + 6) (Or.inr rfl) (by decide) (by decide)
  have s1 := num_step (F := f + 7) (M := M) (b := b) (k := 81) (j := 1) (v := 97) (m := f + 5) (Or.inr rfl) (by decide) (by decide)
  have s2 := num_step (F := f + 7) (M := M) (b := b) (k := 81) (j := 2) (v := 115) (m := f + 4) (Or.inr rfl) (by decide) (by decide)
  have s3 := num_step (F := f + 7) (M := M) (b := b) (k := 81) (j := 3) (v := 98) (m := f + 3) (Or.inr rfl) (by decide) (by decide)
  have s4 := num_step (F := f + 7) (M := M) (b := b) (k := 81) (j := 4) (v := 103) (m := f + 2) (Or.inr rfl) (by decide) (by decide)
  have s5 := num_step (F := f + 7) (M := M) (b := b) (k := 81) (j := 5) (v := 105) (m := f + 1) (Or.inr rfl) (by decide) (by decide)
  have s6 : L_R_numberOf_2 (f + 7) M b 81 (f + 1) (nI 6) = some (.inr ()) := num_end (k := 81) (Or.inr rfl)
  rw [nI_0] at s0
  rw [s0]
  by_cases q0 : (112 : Int32) = b
  · exact Or.inr ⟨0, by omega, by rw [if_pos q0]; rfl, by rw [if_pos q0.symm]; rfl⟩
  rw [if_neg q0, if_neg (Ne.symm q0), s1]
  by_cases q1 : (97 : Int32) = b
  · exact Or.inr ⟨1, by omega, by rw [if_pos q1]; rfl, by rw [if_pos q1.symm]; rfl⟩
  rw [if_neg q1, if_neg (Ne.symm q1), s2]
  by_cases q2 : (115 : Int32) = b
  · exact Or.inr ⟨2, by omega, by rw [if_pos q2]; rfl, by rw [if_pos q2.symm]; rfl⟩
  rw [if_neg q2, if_neg (Ne.symm q2), s3]
  by_cases q3 : (98 : Int32) = b
  · exact Or.inr ⟨3, by omega, by rw [if_pos q3]; rfl, by rw [if_pos q3.symm]; rfl⟩
  rw [if_neg q3, if_neg (Ne.symm q3), s4]
  by_cases q4 : (103 : Int32) = b
  · exact Or.inr ⟨4, by omega, by rw [if_pos q4]; rfl, by rw [if_pos q4.symm]; rfl⟩
  rw [if_neg q4, if_neg (Ne.symm q4), s5]
  by_cases q5 : (105 : Int32) = b
  · exact Or.inr ⟨5, by omega, by rw [if_pos q5]; rfl, by rw [if_pos q5.symm]; rfl⟩
  rw [if_neg q5, if_neg (Ne.symm q5), s6]
  exact Or.inl ⟨rfl, rfl⟩
/-- letters of sorts: the class -/
theorem sort_X {F : Nat} (hF : FB ≤ F) {M : Mem} (b : Int32) : R_numberOf F M b 80 = some (if b = 104 then 0 else if b = 99 then 1 else if b = 116 then 2 else -1) := by
  have hF' := FBL hF
  obtain ⟨f, rfl⟩ : ∃ f, F = f + 7 := ⟨F - 7, by omega⟩
  unfold R_numberOf
  have s0 := num_step (F := f + 7) (M := M) (b := b) (k := 80) (j := 0) (v := 104) (m := f + 6) (Or.inl rfl) (by decide) (by decide)
  have s1 := num_step (F := f + 7) (M := M) (b := b) (k := 80) (j := 1) (v := 99) (m := f + 5) (Or.inl rfl) (by decide) (by decide)
  have s2 := num_step (F := f + 7) (M := M) (b := b) (k := 80) (j := 2) (v := 116) (m := f + 4) (Or.inl rfl) (by decide) (by decide)
  have s3 : L_R_numberOf_2 (f + 7) M b 80 (f + 4) (nI 3) = some (.inr ()) := num_end (k := 80) (Or.inl rfl)
  rw [nI_0] at s0
  rw [s0]
  by_cases q0 : (104 : Int32) = b
  · rw [if_pos q0, if_pos q0.symm]; rfl
  rw [if_neg q0, if_neg (Ne.symm q0), s1]
  by_cases q1 : (99 : Int32) = b
  · rw [if_pos q1, if_pos q1.symm]; rfl
  rw [if_neg q1, if_neg (Ne.symm q1), s2]
  by_cases q2 : (116 : Int32) = b
  · rw [if_pos q2, if_pos q2.symm]; rfl
  rw [if_neg q2, if_neg (Ne.symm q2), s3]
  rfl
/-- figures -/
def dgt (lo hi : Nat) (b : Int32) : Prop := ∃ e, lo ≤ e ∧ e ≤ hi ∧ b = nI (48 + e)
theorem sub48 {e : Nat} : nI (48 + e) - 48 = nI e := by
  rw [show (48 : Int32) = nI 48 from rfl, pk_sub (by omega), show 48 + e - 48 = e by omega]
theorem in_dgt {F : Nat} {N : Mem} {b : Int32} {lo hi : Nat} (hlo : lo ≤ 9) (hhi : hi ≤ 9) : (dgt lo hi b ∧ M_in F N b.toInt64 (nI (48 + lo)).toInt64 (nI (48 + hi)).toInt64 = some 1) ∨ (¬ dgt lo hi b ∧ M_in F N b.toInt64 (nI (48 + lo)).toInt64 (nI (48 + hi)).toInt64 = some 0) := by
  have e1 : (nI (48 + lo)).toInt64.toInt = ((48 + lo : Nat) : Int) := by rw [Int32.toInt_toInt64, nI_toInt (by omega)]
  have e2 : (nI (48 + hi)).toInt64.toInt = ((48 + hi : Nat) : Int) := by rw [Int32.toInt_toInt64, nI_toInt (by omega)]
  rw [in32 _ _ _ _ _ (by rw [e1]; omega), e1, e2]
  by_cases q1 : b.toInt < ((48 + lo : Nat) : Int)
  · refine Or.inr ⟨?_, by rw [if_pos q1]⟩
    rintro ⟨e, h1, h2, rfl⟩
    rw [nI_toInt (by omega)] at q1
    omega
  rw [if_neg q1]
  by_cases q2 : ((48 + hi : Nat) : Int) < b.toInt
  · refine Or.inr ⟨?_, by rw [if_pos q2]⟩
    rintro ⟨e, h1, h2, rfl⟩
    rw [nI_toInt (by omega)] at q2
    omega
  rw [if_neg q2]
  refine Or.inl ⟨?_, rfl⟩
  have hn : ¬ b < 0 := by
    rw [i32_lt]
    have : (0 : Int32).toInt = 0 := rfl
    omega
  obtain ⟨j, hj, rfl⟩ := nI_of hn
  rw [nI_toInt hj] at q1 q2
  exact ⟨j - 48, by omega, by omega, by rw [show 48 + (j - 48) = j by omega]⟩
theorem dgt_X {b : Int32} {np : Nat} (h0 : 0 < np) (h6 : np ≤ 6) : (b - 48 < 0 ∨ nI np ≤ b - 48) ↔ ¬ dgt 0 (np - 1) b := by
  rcases ixc (b - 48) (n := np) (by omega) with h | ⟨h, h'⟩ | ⟨k, hk, he⟩
  · refine ⟨fun _ => ?_, fun _ => Or.inl h⟩
    rintro ⟨e, -, h2, rfl⟩
    rw [sub48] at h
    exact nI_nlt0 (by omega) h
  · refine ⟨fun _ => ?_, fun _ => Or.inr h'⟩
    rintro ⟨e, -, h2, rfl⟩
    rw [sub48, nI_leI (by omega) (by omega)] at h'
    omega
  · rw [he]
    constructor
    · rintro (h | h)
      · exact absurd h (nI_nlt0 (by omega))
      · rw [nI_leI (by omega) (by omega)] at h
        omega
    · intro h
      refine absurd ⟨k, by omega, by omega, ?_⟩ h
      rw [← nI_add, ← he]
      show b = (48 : Int32) + (b - 48)
      grind
theorem n9_nI {e : Nat} (h : e < 1000) : ¬ nI e = (-9 : Int32) := by
  rw [i32_eq, nI_toInt (by omega)]
  simp
theorem fig_M {F t n x lo hi : Nat} {N : Mem} {by' : Nat → Int32} (u : Int32) (h : TM N t n by') (hp : N 100 13 = nI x) (hx : x ≤ n) (hlo : lo ≤ 9) (hhi : hi ≤ 9) : (∃ e, x < n ∧ lo ≤ e ∧ e ≤ hi ∧ by' x = nI (48 + e) ∧ ¬ nI e = u ∧ M_figure F N (nI lo) (nI hi) u = some (nI e, up N 100 13 (nI (x + 1)))) ∨ ((x = n ∨ ¬ dgt lo hi (by' x) ∨ by' x - 48 = u) ∧ M_figure F N (nI lo) (nI hi) u = some (-9, N)) := by
  have hn := h.1
  have ht := h.2.1
  unfold M_figure
  have c1 : (nI x = nI n) = (x = n) := by rw [nI_eq (by omega) (by omega)]
  have a1 : (48 : Int32) + nI lo = nI (48 + lo) := by rw [show (48 : Int32) = nI 48 from rfl, nI_add]
  have a2 : (48 : Int32) + nI hi = nI (48 + hi) := by rw [show (48 : Int32) = nI 48 from rfl, nI_add]
  rw [hp, h.2.2.2.1]
  simp only [c1]
  by_cases q : x = n
  · rw [if_pos q]
    exact Or.inr ⟨Or.inl q, rfl⟩
  rw [if_neg q, here_M h hp (by omega), ob_some, a1, a2]
  have z10 : ((1 : Int32) = 0) = False := by decide
  rcases in_dgt (F := F) (N := N) (b := by' x) hlo hhi with ⟨⟨e, d1, d2, d3⟩, e1⟩ | ⟨d, e1⟩
  · rw [e1, ob_some]
    have hb : by' x - 48 = nI e := by rw [d3, sub48]
    simp only [z10, ↓reduceIte, ob_some, hb]
    by_cases q2 : nI e = u
    · rw [if_pos q2]
      exact Or.inr ⟨Or.inr (Or.inr q2), rfl⟩
    · rw [if_neg q2]
      refine Or.inl ⟨e, by omega, d1, d2, d3, q2, ?_⟩
      have f1 : up N 100 13 (nI x + 1) 100 12 + up N 100 13 (nI x + 1) 100 13 - 1 = nI (80 * t + x) := by
        rw [up_ne (by omega), up_same, h.2.2.1, nI_1, nI_add, show 80 * t + (x + 1) = (80 * t + x) + 1 by omega, nI_pred]
      rw [f1, ard_nI (by show _ < 320; omega), ob_some, up_cell (by omega), h.2.2.2.2 x (by omega), hb, nI_1]
  · rw [e1, ob_some, if_pos rfl]
    exact Or.inr ⟨Or.inr (Or.inl d), rfl⟩
theorem TM_of {N N' : Mem} {t n : Nat} {by' : Nat → Int32} (h : TM N t n by') (e1 : N' 106 = N 106) (e2 : N' 100 12 = N 100 12) (e3 : N' 100 14 = N 100 14) : TM N' t n by' := ⟨h.1, h.2.1, by rw [e2]; exact h.2.2.1, by rw [e3]; exact h.2.2.2.1, fun i hi => by rw [e1]; exact h.2.2.2.2 i hi⟩
theorem TX_of {M M' : Mem} {k n : Nat} {by' : Nat → Int32} (h : TX M k n by') (e1 : M' k = M k) (e2 : M' (k + 1) = M (k + 1)) : TX M' k n by' := ⟨h.1, h.2.1, by rw [e1]; exact h.2.2.1, fun i hi => by rw [e2]; exact h.2.2.2 i hi⟩
