/-! rings given by a row -/
def seenS (dr : Nat → Nat → Int32) (z : Nat → Nat) (n : Nat) : Int32 := fo (fun i (s : Int32) => s ||| (1 <<< (dr (z i) 0 &&& 31))) n 0 0
theorem seenS_succ (dr : Nat → Nat → Int32) (z : Nat → Nat) (n : Nat) : seenS dr z (n + 1) = seenS dr z n ||| (1 <<< (dr (z n) 0 &&& 31)) := by
  unfold seenS
  rw [fo_succ, Nat.zero_add]
def nx (n i : Nat) : Nat := if n ≤ i + 1 then 0 else i + 1
def cA (dr : Nat → Nat → Int32) (z : Nat → Nat) (n i : Nat) : Bool := !(decide (dr (z i) 3 ≤ 0)) && decide (dr (z i) 1 = dr (z (nx n i)) 0) && !(tb (seenS dr z i) (whoN dr (z i)))
def PK (dr : Nat → Nat → Int32) (z : Nat → Nat) (n i : Nat) : Bool := cA dr z n i && decide (dr (z i) 2 = dr (z 0) 2)
def PM (dr : Nat → Nat → Int32) (z : Nat → Nat) (n i : Nat) : Bool := cA dr z n i && !(decide (dr (z i) 2 = 2)) && decide (dr (z i) 2 = dr (z (nx n i)) 2)
def allF (P : Nat → Bool) : Nat → Nat → Bool
  | 0, _ => true
  | c + 1, k => P k && allF P c (k + 1)
theorem allF_iff {P : Nat → Bool} : ∀ (c k : Nat), allF P c k = true ↔ ∀ i, k ≤ i → i < k + c → P i = true := by
  intro c
  induction c with
  | zero => intro k; exact ⟨fun _ i h1 h2 => absurd h1 (by omega), fun _ => rfl⟩
  | succ c ih =>
    intro k
    simp only [allF, Bool.and_eq_true, ih (k + 1)]
    constructor
    · rintro ⟨h1, h2⟩ i hi hi2
      by_cases e : i = k
      · rw [e]; exact h1
      · exact h2 i (by omega) (by omega)
    · intro h
      exact ⟨h k (by omega) (by omega), fun i h1 h2 => h i (by omega) (by omega)⟩
theorem ring_eq {dr : Nat → Nat → Int32} {z : Nat → Nat} {n : Nat} (hn : 0 < n) : (allF (PK dr z n) n 0 = true ∧ ¬ dr (z 0) 2 = 2) ↔ allF (PM dr z n) n 0 = true := by
  rw [allF_iff, allF_iff]
  have hx : ∀ i, i < n → nx n i < n := fun i hi => by unfold nx; split <;> omega
  constructor
  · rintro ⟨h, h2⟩ i _ hi
    have hi' : i < n := by omega
    have a := h i (by omega) (by omega)
    have b := h (nx n i) (by omega) (by have := hx i hi'; omega)
    simp only [PK, Bool.and_eq_true, decide_eq_true_eq] at a b
    simp only [PM, Bool.and_eq_true, decide_eq_true_eq, Bool.not_eq_true', decide_eq_false_iff_not]
    exact ⟨⟨a.1, by rw [a.2]; exact h2⟩, by rw [a.2, b.2]⟩
  · intro h
    have key : ∀ i, i < n → dr (z i) 2 = dr (z 0) 2 := by
      intro i
      induction i with
      | zero => intro _; rfl
      | succ i ih =>
        intro hi
        have a := h i (by omega) (by omega)
        simp only [PM, Bool.and_eq_true, decide_eq_true_eq] at a
        have e : nx n i = i + 1 := by unfold nx; rw [if_neg (by omega)]
        rw [e] at a
        rw [← a.2]
        exact ih (by omega)
    refine ⟨fun i _ hi => ?_, ?_⟩
    · have a := h i (by omega) (by omega)
      simp only [PM, Bool.and_eq_true] at a
      simp only [PK, Bool.and_eq_true, decide_eq_true_eq]
      exact ⟨a.1.1, key i (by omega)⟩
    · have a := h 0 (by omega) (by omega)
      simp only [PM, Bool.and_eq_true, decide_eq_true_eq, Bool.not_eq_true', decide_eq_false_iff_not] at a
      exact a.1.2
theorem draft_in {nd z : Nat} (h : z < nd) (hn : nd ≤ 12) : (nI z < 0 ∨ nI nd ≤ nI z) = False := by
  have e1 : (nI z < 0) = False := by simp [nI_nlt0 (n := z) (by omega)]
  have e2 : (nI nd ≤ nI z) = False := by rw [nI_leI (by omega) (by omega)]; simp; omega
  rw [e1, e2, or_self]
theorem isRingL_X {F : Nat} {M : Mem} {np nd k1 n : Nat} {kn : Nat → Int32} {dr : Nat → Nat → Int32} {z : Nat → Nat} (h : VX M 23 np nd kn dr) (hb : BN nd dr) (hl : ln k1 = 40) (hn : n ≤ 40) (hz : ∀ i, i < n → M k1 i = nI (z i) ∧ z i < nd) : ∀ (c i m : Nat), i + c = n → c < m → L_V_isRing_47 F M 23 k1 (nI n) (dr (z 0) 2) m (seenS dr z i) (nI i) = some (if allF (PK dr z n) c i = true then .inr () else .inl 0) := by
  have hnd := h.2.2.2.2.2.1
  intro c
  induction c with
  | zero =>
    intro i m hi hm
    obtain ⟨m, rfl⟩ : ∃ k, m = k + 1 := ⟨m - 1, by omega⟩
    show B_V_isRing_47 F M 23 k1 (nI n) (dr (z 0) 2) _ (seenS dr z i) (nI i) = _
    unfold B_V_isRing_47
    rw [if_pos (by rw [nI_leI (by omega) (by omega)]; omega)]
    rfl
  | succ c ih =>
    intro i m hi hm
    obtain ⟨m, rfl⟩ : ∃ k, m = k + 1 := ⟨m - 1, by omega⟩
    have hc : (nI n ≤ nI i) = False := by rw [nI_leI (by omega) (by omega)]; simp; omega
    have hj : (if nI n ≤ nI (i + 1) then some (0 : Int32) else some (nI (i + 1))) = some (nI (nx n i)) := by
      have : (nI n ≤ nI (i + 1)) = (n ≤ i + 1) := by rw [nI_leI (by omega) (by omega)]
      simp only [this]
      unfold nx
      split <;> rfl
    have hnx : nx n i < n := by unfold nx; split <;> omega
    obtain ⟨z1, z2⟩ := hz i (by omega)
    obtain ⟨y1, y2⟩ := hz (nx n i) hnx
    have r1 : ard M k1 (nI i) = some (nI (z i)) := by rw [ard_nI (by rw [hl]; omega), z1]
    have r2 : ard M k1 (nI (nx n i)) = some (nI (z (nx n i))) := by rw [ard_nI (by rw [hl]; omega), y1]
    have x1 : idx (nI (z i)) (ln (23 + 2)) = some (z i) := idx_nI (n := 12) (by omega) (by omega)
    have x2 : idx (nI (z (nx n i))) (ln (23 + 2)) = some (z (nx n i)) := idx_nI (n := 12) (by omega) (by omega)
    obtain ⟨a, b, ha, hbb, ea, eb, wa, wb⟩ := hb (z i) z2
    have e := fun j hj => h.2.2.2.2.2.2.2 (z i) z2 j hj
    have e' := fun j hj => h.2.2.2.2.2.2.2 (z (nx n i)) y2 j hj
    have bt : (seenS dr z i &&& (1 <<< (dr (z i) 0 &&& 31)) = 0) = (tb (seenS dr z i) (whoN dr (z i)) = false) := by
      rw [ea, wa]; exact and_bit' (by omega)
    have ih' := ih (i + 1) m (by omega) (by omega)
    rw [seenS_succ] at ih'
    show B_V_isRing_47 F M 23 k1 (nI n) (dr (z 0) 2) _ (seenS dr z i) (nI i) = _
    unfold B_V_isRing_47
    simp only [hc, ↓reduceIte, hj, ob_some, r1, r2, hasDraft_eq h, draft_in z2 hnd, draft_in y2 hnd, i10, x1, x2, D_isOpenOf_eq, e 0 (by omega), e 1 (by omega), e 2 (by omega), e 3 (by omega), e' 0 (by omega), i01, bt, nI_1, ih', allF]
    by_cases c1 : dr (z i) 3 ≤ 0
    · simp [PK, cA, c1]
    by_cases c2 : dr (z i) 2 = dr (z 0) 2
    · by_cases c3 : dr (z i) 1 = dr (z (nx n i)) 0
      · by_cases c4 : tb (seenS dr z i) (whoN dr (z i)) = false
        · simp [PK, cA, c1, c2, c3, c4]
        · have c4' : tb (seenS dr z i) (whoN dr (z i)) = true := by simpa using c4
          simp [PK, cA, c1, c2, c3, c4']
      · simp [PK, cA, c1, c2, c3]
    · simp [PK, cA, c1, c2]
theorem isRing_X {F : Nat} (hF : FB ≤ F) {M : Mem} {np nd k1 n : Nat} {kn : Nat → Int32} {dr : Nat → Nat → Int32} {z : Nat → Nat} (h : VX M 23 np nd kn dr) (hb : BN nd dr) (hl : ln k1 = 40) (hn : n ≤ 40) (hz : ∀ i, i < n → M k1 i = nI (z i) ∧ z i < nd) : V_isRing F M 23 k1 (nI n) = some (if (3 ≤ n ∧ n ≤ 6) ∧ allF (PM dr z n) n 0 = true then 1 else 0) := by
  have hF' := FBL hF
  have hnd := h.2.2.2.2.2.1
  unfold V_isRing
  have c3 : (nI n < 3) = (n < 3) := by rw [lit 3, nI_ltI (by omega) (by omega)]
  have c6 : (6 < nI n) = (6 < n) := by rw [lit 6, nI_ltI (by omega) (by omega)]
  have c40 : (Int32.ofNat (ln k1) < nI n) = False := by
    rw [hl]
    show (nI 40 < nI n) = False
    rw [nI_ltI (by omega) (by omega)]; simp; omega
  simp only [c3, c6, c40, ↓reduceIte]
  by_cases k3 : n < 3
  · rw [if_pos k3, if_neg (by omega)]
  by_cases k6 : 6 < n
  · rw [if_neg k3, if_pos k6, if_neg (by omega)]
  obtain ⟨z1, z2⟩ := hz 0 (by omega)
  have r1 : ard M k1 0 = some (nI (z 0)) := by
    have := ard_nI (M := M) (a := k1) (k := 0) (by rw [hl]; omega)
    rw [z1] at this
    exact this
  have x1 : idx (nI (z 0)) (ln (23 + 2)) = some (z 0) := idx_nI (n := 12) (by omega) (by omega)
  have e2 := h.2.2.2.2.2.2.2 (z 0) z2 2 (by omega)
  have key := isRingL_X (F := F) h hb hl hn hz n 0 F (by omega) (by omega)
  have e0 : seenS dr z 0 = 0 := rfl
  rw [e0, nI_0] at key
  simp only [k3, k6, ↓reduceIte, r1, ob_some, hasDraft_eq h, draft_in z2 hnd, i10, x1, e2, key]
  have re := ring_eq (dr := dr) (z := z) (n := n) (by omega)
  by_cases q1 : allF (PK dr z n) n 0 = true
  · by_cases q2 : dr (z 0) 2 = 2
    · have : ¬ allF (PM dr z n) n 0 = true := fun x => (re.mpr x).2 q2
      simp [q1, q2, this]
    · have : allF (PM dr z n) n 0 = true := re.mp ⟨q1, q2⟩
      simp only [q1, q2, this, ↓reduceIte, Sum.elim_inr, and_true]
      rw [if_pos (by omega)]
  · have : ¬ allF (PM dr z n) n 0 = true := fun x => q1 (re.mpr x).1
    simp [q1, this]
