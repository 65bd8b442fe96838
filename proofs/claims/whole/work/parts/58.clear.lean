/-! clear -/
theorem isRing0_M {F : Nat} {M : Mem} {x1 x2 s : Int32} {m : Nat} {x5 : Int32} : L_M_isRing_30 F M x1 x2 (m + 1) s 0 x5 = some 0 := by
  show B_M_isRing_30 F M x1 x2 _ s 0 x5 = _
  unfold B_M_isRing_30
  simp
theorem isRingL_M {F : Nat} {M : Mem} {np nd r n : Nat} {kn : Nat → Int32} {dr : Nat → Nat → Int32} {z : Nat → Nat} (h : VM M np nd kn dr) (hb : BN nd dr) (hr : r < 6) (hn : n ≤ 6) (hz : ∀ i, i < n → M 104 (40 * r + i) = nI (z i) ∧ z i < nd) : ∀ (c i m : Nat), i + c = n → c + 1 < m → L_M_isRing_30 F M (nI r) (nI n) m (seenS dr z i) 1 (nI i) = some (if allF (PM dr z n) c i = true then 1 else 0) := by
  have hnd := h.2.2.2.1
  intro c
  induction c with
  | zero =>
    intro i m hi hm
    obtain ⟨m, rfl⟩ : ∃ k, m = k + 1 := ⟨m - 1, by omega⟩
    show B_M_isRing_30 F M (nI r) (nI n) _ (seenS dr z i) 1 (nI i) = _
    unfold B_M_isRing_30
    rw [if_pos (by rw [nI_leI (by omega) (by omega)]; omega)]
    rfl
  | succ c ih =>
    intro i m hi hm
    obtain ⟨m, rfl⟩ : ∃ k, m = k + 2 := ⟨m - 2, by omega⟩
    have hc : (nI n ≤ nI i) = False := by rw [nI_leI (by omega) (by omega)]; simp; omega
    have h10 : ((1 : Int32) = 0) = False := by decide
    have hnx : nx n i < n := by unfold nx; split <;> omega
    have hm1 : (i + 1) % n = nx n i := by
      unfold nx
      by_cases e : n ≤ i + 1
      · rw [if_pos e, show i + 1 = n by omega, Nat.mod_self]
      · rw [if_neg e, Nat.mod_eq_of_lt (by omega)]
    have rm : rmi (nI (i + 1)) (nI n) = some (nI (nx n i)) := by rw [rmi_nI (by omega) (by omega) (by omega), hm1]
    obtain ⟨z1, z2⟩ := hz i (by omega)
    obtain ⟨y1, y2⟩ := hz (nx n i) hnx
    have r1 : ard M 104 (40 * nI r + nI i) = some (nI (z i)) := by rw [ix40, ard_nI (by show _ < 240; omega), z1]
    have r2 : ard M 104 (40 * nI r + nI (nx n i)) = some (nI (z (nx n i))) := by rw [ix40, ard_nI (by show _ < 240; omega), y1]
    obtain ⟨a, b, ha, hbb, ea, eb, wa, wb⟩ := hb (z i) z2
    have q0 : M_of F M (nI (z i)) 0 = some (dr (z i) 0) := M_of_eq h z2 (j := 0) (by omega)
    have q1 : M_of F M (nI (z i)) 1 = some (dr (z i) 1) := M_of_eq h z2 (j := 1) (by omega)
    have q2 : M_of F M (nI (z i)) 2 = some (dr (z i) 2) := M_of_eq h z2 (j := 2) (by omega)
    have p0 : M_of F M (nI (z (nx n i))) 0 = some (dr (z (nx n i)) 0) := M_of_eq h y2 (j := 0) (by omega)
    have p2 : M_of F M (nI (z (nx n i))) 2 = some (dr (z (nx n i)) 2) := M_of_eq h y2 (j := 2) (by omega)
    have bt : M_has F M (seenS dr z i) (dr (z i) 0) = some (if tb (seenS dr z i) (whoN dr (z i)) = false then 0 else 1) := by
      rw [ea, wa]; exact M_has_eq (by omega)
    have ih' := ih (i + 1) (m + 1) (by omega) (by omega)
    rw [seenS_succ] at ih'
    show B_M_isRing_30 F M (nI r) (nI n) _ (seenS dr z i) 1 (nI i) = _
    unfold B_M_isRing_30
    simp only [hc, h10, ↓reduceIte, nI_1, ob_some, r1, rm, r2, M_isOpen_eq h z2, i01, q0, q1, q2, p0, p2, bt, allF]
    by_cases c1 : dr (z i) 3 ≤ 0
    · simp [PM, cA, c1, isRing0_M]
    by_cases c2 : dr (z i) 2 = 2
    · simp [PM, cA, c1, c2, isRing0_M]
    by_cases c3 : dr (z i) 2 = dr (z (nx n i)) 2
    · by_cases c4 : dr (z i) 1 = dr (z (nx n i)) 0
      · by_cases c5 : tb (seenS dr z i) (whoN dr (z i)) = false
        · have C3 := eq_true c3
          have C4 := eq_true c4
          have pm : PM dr z n i = true := by simp only [PM, cA, c1, c2, c5, C3, C4, decide_true, decide_false, Bool.not_false, Bool.and_self]
          simp only [pm, Bool.true_and, c1, c2, C3, C4, c5, ↓reduceIte, ob_some]
          exact ih'
        · have c5' : tb (seenS dr z i) (whoN dr (z i)) = true := by simpa using c5
          simp [PM, cA, c1, c4, c5', isRing0_M]
      · simp [PM, cA, c1, c4, isRing0_M]
    · simp [PM, cA, c1, c2, c3, isRing0_M]
theorem isRing_M {F : Nat} (hF : FB ≤ F) {M : Mem} {np nd r n : Nat} {kn : Nat → Int32} {dr : Nat → Nat → Int32} {z : Nat → Nat} (h : VM M np nd kn dr) (hb : BN nd dr) (hr : r < 6) (hn : n ≤ 40) (h103 : M 103 r = nI n) (hz : ∀ i, i < n → M 104 (40 * r + i) = nI (z i) ∧ z i < nd) : M_isRing F M (nI r) = some (if (3 ≤ n ∧ n ≤ 6) ∧ allF (PM dr z n) n 0 = true then 1 else 0) := by
  have hF' := FBL hF
  have hl : r < ln 103 := hr
  unfold M_isRing
  rw [ard_nI hl, h103]
  have c2 : (nI n ≤ 2) = (n ≤ 2) := by rw [lit 2, nI_leI (by omega) (by omega)]
  have c7 : (7 ≤ nI n) = (7 ≤ n) := by rw [lit 7, nI_leI (by omega) (by omega)]
  simp only [ob_some, c2, c7]
  obtain ⟨m, hm⟩ : ∃ m, F = m + 1 := ⟨F - 1, by omega⟩
  have h0 : L_M_isRing_30 F M (nI r) (nI n) F 0 0 0 = some 0 := by
    have := isRing0_M (F := F) (M := M) (x1 := nI r) (x2 := nI n) (s := 0) (m := m) (x5 := 0)
    rw [← hm] at this
    exact this
  by_cases k2 : n ≤ 2
  · simp only [k2, ↓reduceIte, ob_some, h0, rb_0]
    rw [if_neg (by omega)]
  by_cases k7 : 7 ≤ n
  · simp only [k2, k7, ↓reduceIte, ob_some, h0, rb_0]
    rw [if_neg (by omega)]
  have key := isRingL_M (F := F) h hb hr (by omega) hz n 0 F (by omega) (by omega)
  have e0 : seenS dr z 0 = 0 := rfl
  rw [e0, nI_0] at key
  simp only [k2, k7, ↓reduceIte, ob_some, key]
  by_cases q : allF (PM dr z n) n 0 = true
  · simp only [q, ↓reduceIte, rb_1, ob_some, and_true]
    rw [if_pos (by omega)]
  · simp only [q, ↓reduceIte, rb_0, ob_some, and_false, Bool.false_eq_true]
def okD (nd : Nat) (v : Nat → Int32) (i : Nat) : Bool := !(decide (v i < 0 ∨ nI nd ≤ v i))
theorem kclearL {F : Nat} {M : Mem} {np nd k n : Nat} {kn : Nat → Int32} {dr : Nat → Nat → Int32} (h : VX M 23 np nd kn dr) (hl : ln (k + 1) = 40) (hn : n ≤ 40) (hk : M k 1 = nI n) : ∀ (c i m : Nat), i + c = n → c < m → L_K_clear_31 F k m M (nI i) = some (if allF (okD nd (M (k + 1))) c i = true then .inr M else .inl (-3, up (up M 0 10 (nI 3)) 76 3 (M 76 3 + 1))) := by
  intro c
  induction c with
  | zero =>
    intro i m hi hm
    obtain ⟨m, rfl⟩ : ∃ k, m = k + 1 := ⟨m - 1, by omega⟩
    show B_K_clear_31 F k _ M (nI i) = _
    unfold B_K_clear_31
    rw [hk, if_pos (by rw [nI_leI (by omega) (by omega)]; omega)]
    rfl
  | succ c ih =>
    intro i m hi hm
    obtain ⟨m, rfl⟩ : ∃ k, m = k + 1 := ⟨m - 1, by omega⟩
    show B_K_clear_31 F k _ M (nI i) = _
    unfold B_K_clear_31
    have hc : (nI n ≤ nI i) = False := by rw [nI_leI (by omega) (by omega)]; simp; omega
    have r3 := refuse_eq (F := F) (M1 := M) (f := 3) (by omega) (by omega)
    rw [show nI 3 = 3 from rfl] at r3
    simp only [hk, hc, ↓reduceIte, ard_nI (M := M) (a := k + 1) (k := i) (by rw [hl]; omega), ob_some, hasDraft_eq h, i01, nI_1, ih (i + 1) m (by omega) (by omega), r3, allF]
    by_cases q : M (k + 1) i < 0 ∨ nI nd ≤ M (k + 1) i
    · simp [okD, q]
      rfl
    · simp [okD, q]
theorem mdrafts0 {F : Nat} {M : Mem} {r n : Nat} (hr : r < 6) (hn : n ≤ 40) (h103 : M 103 r = nI n) : ∀ (c i m : Nat), i + c = n → c < m → L_M_areDrafts_4 F M (nI r) m 0 (nI i) = some 0 := by
  have hl : r < ln 103 := hr
  intro c
  induction c with
  | zero =>
    intro i m hi hm
    obtain ⟨m, rfl⟩ : ∃ k, m = k + 1 := ⟨m - 1, by omega⟩
    show B_M_areDrafts_4 F M (nI r) _ 0 (nI i) = _
    unfold B_M_areDrafts_4
    rw [ard_nI hl, ob_some, h103, if_pos (by rw [nI_leI (by omega) (by omega)]; omega)]
  | succ c ih =>
    intro i m hi hm
    obtain ⟨m, rfl⟩ : ∃ k, m = k + 1 := ⟨m - 1, by omega⟩
    show B_M_areDrafts_4 F M (nI r) _ 0 (nI i) = _
    unfold B_M_areDrafts_4
    rw [ard_nI hl, ob_some, h103, if_neg (by rw [nI_leI (by omega) (by omega)]; omega), if_pos rfl, nI_1]
    exact ih (i + 1) m (by omega) (by omega)
theorem mdraftsL {F : Nat} {M : Mem} {np nd r n : Nat} {kn : Nat → Int32} {dr : Nat → Nat → Int32} (h : VM M np nd kn dr) (hr : r < 6) (hn : n ≤ 40) (h103 : M 103 r = nI n) : ∀ (c i m : Nat), i + c = n → c < m → L_M_areDrafts_4 F M (nI r) m 1 (nI i) = some (if allF (okD nd (fun i => M 104 (40 * r + i))) c i = true then 1 else 0) := by
  have hl : r < ln 103 := hr
  intro c
  induction c with
  | zero =>
    intro i m hi hm
    obtain ⟨m, rfl⟩ : ∃ k, m = k + 1 := ⟨m - 1, by omega⟩
    show B_M_areDrafts_4 F M (nI r) _ 1 (nI i) = _
    unfold B_M_areDrafts_4
    rw [ard_nI hl, ob_some, h103, if_pos (by rw [nI_leI (by omega) (by omega)]; omega)]
    rfl
  | succ c ih =>
    intro i m hi hm
    obtain ⟨m, rfl⟩ : ∃ k, m = k + 1 := ⟨m - 1, by omega⟩
    show B_M_areDrafts_4 F M (nI r) _ 1 (nI i) = _
    unfold B_M_areDrafts_4
    have h10 : ((1 : Int32) = 0) = False := by decide
    have hc : (nI n ≤ nI i) = False := by rw [nI_leI (by omega) (by omega)]; simp; omega
    simp only [ard_nI hl, ob_some, h103, hc, h10, ↓reduceIte, ix40, ard_nI (M := M) (a := 104) (k := 40 * r + i) (by show _ < 240; omega), isDraft_eq h, i01, nI_1, ih (i + 1) m (by omega) (by omega), mdrafts0 (F := F) hr hn h103 c (i + 1) m (by omega) (by omega), allF]
    by_cases q : M 104 (40 * r + i) < 0 ∨ nI nd ≤ M 104 (40 * r + i)
    · simp [okD, q]
    · simp [okD, q]

def mnN (dr : Nat → Nat → Int32) (z : Nat → Nat) : Nat → Nat
  | 0 => 99
  | i + 1 => if mnN dr z i ≤ kN dr (z i) then mnN dr z i else kN dr (z i)
theorem mnN_le (dr : Nat → Nat → Int32) (z : Nat → Nat) : ∀ i, mnN dr z i ≤ 99 := by
  intro i
  induction i with
  | zero => exact Nat.le_refl _
  | succ i ih => unfold mnN; split <;> omega
theorem mnN_min (dr : Nat → Nat → Int32) (z : Nat → Nat) : ∀ n i, i < n → mnN dr z n ≤ kN dr (z i) := by
  intro n
  induction n with
  | zero => intro i hi; omega
  | succ n ih =>
    intro i hi
    unfold mnN
    by_cases e : i = n
    · subst e; split <;> omega
    · have := ih i (by omega)
      split <;> omega
def clS (dr : Nat → Nat → Int32) (z : Nat → Nat) (m : Nat) : Nat → Nat → Nat → Int32
  | 0 => dr
  | i + 1 => sd (clS dr z m i) (z i) 3 (clS dr z m i (z i) 3 - nI m)
theorem clearMin_X {F : Nat} {M : Mem} {np nd k1 n : Nat} {kn : Nat → Int32} {dr : Nat → Nat → Int32} {z : Nat → Nat} (h : VX M 23 np nd kn dr) (hk : KN nd dr) (hl : ln k1 = 40) (hn : n ≤ 6) (hz : ∀ i, i < n → M k1 i = nI (z i) ∧ z i < nd) : ∀ (c i m : Nat), i + c = n → c < m → L_V_clearRing_26 F M 23 k1 (nI n) m (nI (mnN dr z i)) (nI i) = some (nI (mnN dr z n)) := by
  have hnd := h.2.2.2.2.2.1
  intro c
  induction c with
  | zero =>
    intro i m hi hm
    obtain ⟨m, rfl⟩ : ∃ k, m = k + 1 := ⟨m - 1, by omega⟩
    show B_V_clearRing_26 F M 23 k1 (nI n) _ (nI (mnN dr z i)) (nI i) = _
    unfold B_V_clearRing_26
    rw [if_pos (by rw [nI_leI (by omega) (by omega)]; omega), show i = n by omega]
  | succ c ih =>
    intro i m hi hm
    obtain ⟨m, rfl⟩ : ∃ k, m = k + 1 := ⟨m - 1, by omega⟩
    show B_V_clearRing_26 F M 23 k1 (nI n) _ (nI (mnN dr z i)) (nI i) = _
    unfold B_V_clearRing_26
    have hc : (nI n ≤ nI i) = False := by rw [nI_leI (by omega) (by omega)]; simp; omega
    obtain ⟨z1, z2⟩ := hz i (by omega)
    have x1 : idx (nI (z i)) (ln (23 + 2)) = some (z i) := idx_nI (n := 12) (by omega) (by omega)
    have e3 := h.2.2.2.2.2.2.2 (z i) z2 3 (by omega)
    have hki := hk (z i) z2
    have hml := mnN_le dr z i
    have em : (if nI (kN dr (z i)) < nI (mnN dr z i) then nI (kN dr (z i)) else nI (mnN dr z i)) = nI (mnN dr z (i + 1)) := by
      have : (nI (kN dr (z i)) < nI (mnN dr z i)) = (kN dr (z i) < mnN dr z i) := by rw [nI_ltI (by omega) (by omega)]
      simp only [this]
      show _ = nI (if mnN dr z i ≤ kN dr (z i) then mnN dr z i else kN dr (z i))
      by_cases q : kN dr (z i) < mnN dr z i
      · rw [if_pos q, if_neg (by omega)]
      · rw [if_neg q, if_pos (by omega)]
    simp only [hc, ↓reduceIte, ard_nI (M := M) (a := k1) (k := i) (by rw [hl]; omega), z1, ob_some, x1, e3, hki.1, em, nI_1]
    exact ih (i + 1) m (by omega) (by omega)
theorem clearMin_M {F : Nat} {M : Mem} {np nd r n : Nat} {kn : Nat → Int32} {dr : Nat → Nat → Int32} {z : Nat → Nat} (h : VM M np nd kn dr) (hk : KN nd dr) (hr : r < 6) (hn : n ≤ 6) (h103 : M 103 r = nI n) (hz : ∀ i, i < n → M 104 (40 * r + i) = nI (z i) ∧ z i < nd) : ∀ (c i m : Nat), i + c = n → c < m → L_M_clear_68 F M (nI r) m (nI (mnN dr z i)) (nI i) = some (nI (mnN dr z n)) := by
  have hl : r < ln 103 := hr
  intro c
  induction c with
  | zero =>
    intro i m hi hm
    obtain ⟨m, rfl⟩ : ∃ k, m = k + 1 := ⟨m - 1, by omega⟩
    show B_M_clear_68 F M (nI r) _ (nI (mnN dr z i)) (nI i) = _
    unfold B_M_clear_68
    rw [ard_nI hl, ob_some, h103, if_pos (by rw [nI_leI (by omega) (by omega)]; omega), show i = n by omega]
  | succ c ih =>
    intro i m hi hm
    obtain ⟨m, rfl⟩ : ∃ k, m = k + 1 := ⟨m - 1, by omega⟩
    show B_M_clear_68 F M (nI r) _ (nI (mnN dr z i)) (nI i) = _
    unfold B_M_clear_68
    have hc : (nI n ≤ nI i) = False := by rw [nI_leI (by omega) (by omega)]; simp; omega
    obtain ⟨z1, z2⟩ := hz i (by omega)
    have q3 : M_of F M (nI (z i)) 3 = some (dr (z i) 3) := M_of_eq h z2 (j := 3) (by omega)
    have hki := hk (z i) z2
    have hml := mnN_le dr z i
    have ih' := ih (i + 1) m (by omega) (by omega)
    have e : mnN dr z (i + 1) = if mnN dr z i ≤ kN dr (z i) then mnN dr z i else kN dr (z i) := rfl
    rw [e] at ih'
    have c1 : (nI (mnN dr z i) ≤ nI (kN dr (z i))) = (mnN dr z i ≤ kN dr (z i)) := by rw [nI_leI (by omega) (by omega)]
    simp only [ard_nI hl, ob_some, h103, hc, ↓reduceIte, ix40, ard_nI (M := M) (a := 104) (k := 40 * r + i) (by show _ < 240; omega), z1, q3, hki.1, c1, nI_1]
    by_cases q : mnN dr z i ≤ kN dr (z i)
    · rw [if_pos q] at ih'; rw [if_pos q]; exact ih'
    · rw [if_neg q] at ih'; rw [if_neg q]; exact ih'
theorem clearSub_X {F : Nat} (hF : FB ≤ F) {M : Mem} {np nd k1 n m : Nat} {kn : Nat → Int32} {dr : Nat → Nat → Int32} {z : Nat → Nat} (h : VX M 23 np nd kn dr) (hl : ln k1 = 40) (hk1 : k1 < 23) (hn : n ≤ 6) (hz : ∀ i, i < n → M k1 i = nI (z i) ∧ z i < nd) : ∃ M', L_V_clearRing_58 F 23 k1 (nI n) (nI m) F M 0 = some M' ∧ VX M' 23 np nd kn (clS dr z m n) ∧ ∀ a, ¬ (26 ≤ a ∧ a ≤ 37) → M' a = M a := by
  have hF' := FBL hF
  have hnd := h.2.2.2.2.2.1
  obtain ⟨s', h1, h3, h4⟩ := lpE (fun f i (s : Mem) => L_V_clearRing_58 F 23 k1 (nI n) (nI m) f s (nI i)) (fun i s => VX s 23 np nd kn (clS dr z m i) ∧ ∀ a, ¬ (26 ≤ a ∧ a ≤ 37) → s a = M a) (fun s => some s) n
    (fun f i N hi hI => by
      obtain ⟨i2, i3⟩ := hI
      have hc : (nI n ≤ nI i) = False := by rw [nI_leI (by omega) (by omega)]; simp; omega
      obtain ⟨z1, z2⟩ := hz i hi
      have x1 : idx (nI (z i)) (ln (23 + 2)) = some (z i) := idx_nI (n := 12) (by omega) (by omega)
      have e3 := i2.2.2.2.2.2.2.2 (z i) z2 3 (by omega)
      refine ⟨up N (23 + 2 + 1 + z i) 3 (clS dr z m i (z i) 3 - nI m), ?_, VX_set i2 (z i) 3 _, fun a ha => by rw [up_cell (by omega), i3 a ha]⟩
      show B_V_clearRing_58 F 23 k1 (nI n) (nI m) _ N (nI i) = _
      unfold B_V_clearRing_58
      simp only [hc, ↓reduceIte, ard_nI (M := N) (a := k1) (k := i) (by rw [hl]; omega), i3 k1 (by omega), z1, ob_some, x1, e3, nI_1])
    (fun f s hI => by
      show B_V_clearRing_58 F 23 k1 (nI n) (nI m) _ s (nI n) = _
      unfold B_V_clearRing_58
      rw [if_pos (by rw [nI_leI (by omega) (by omega)]; omega)])
    n 0 F M (by omega) (by omega) ⟨h, fun _ _ => rfl⟩
  rw [nI_0] at h1
  exact ⟨s', h1, h3, h4⟩
theorem clearSub_M {F : Nat} (hF : FB ≤ F) {M : Mem} {np nd r n m : Nat} {kn : Nat → Int32} {dr : Nat → Nat → Int32} {z : Nat → Nat} (h : VM M np nd kn dr) (hr : r < 6) (hn : n ≤ 6) (h103 : M 103 r = nI n) (hz : ∀ i, i < n → M 104 (40 * r + i) = nI (z i) ∧ z i < nd) : ∃ M', L_M_clear_117 F (nI r) (nI m) F M 0 = some M' ∧ VM M' np nd kn (clS dr z m n) ∧ (∀ a, a ≠ 101 → M' a = M a) ∧ ∀ b, b < 2 ∨ 74 ≤ b → M' 101 b = M 101 b := by
  have hF' := FBL hF
  have hnd := h.2.2.2.1
  have hl : r < ln 103 := hr
  have hl1 : ln 101 = 11976 := by decide
  obtain ⟨s', h1, h3, h4, h5⟩ := lpE (fun f i (s : Mem) => L_M_clear_117 F (nI r) (nI m) f s (nI i)) (fun i s => VM s np nd kn (clS dr z m i) ∧ (∀ a, a ≠ 101 → s a = M a) ∧ ∀ b, b < 2 ∨ 74 ≤ b → s 101 b = M 101 b) (fun s => some s) n
    (fun f i N hi hI => by
      obtain ⟨i2, i3, i4⟩ := hI
      have hc : (nI n ≤ nI i) = False := by rw [nI_leI (by omega) (by omega)]; simp; omega
      obtain ⟨z1, z2⟩ := hz i hi
      have q3 : M_of F N (nI (z i)) 3 = some (clS dr z m i (z i) 3) := M_of_eq i2 z2 (j := 3) (by omega)
      have lv : ∀ x, M_leave F N (nI (z i)) x = some (up N 101 (2 + 6 * z i + 3) x) := fun x => by
        unfold M_leave
        rw [show (3 : Int32) = nI 3 from rfl, ix6, awr_nI (by rw [hl1]; omega), ob_some]
      refine ⟨up N 101 (2 + 6 * z i + 3) (clS dr z m i (z i) 3 - nI m), ?_, VM_set i2 (z i) (by omega) _, fun a ha => by rw [up_cell ha, i3 a ha], fun b hb => by rw [up_ne (by omega), i4 b hb]⟩
      show B_M_clear_117 F (nI r) (nI m) _ N (nI i) = _
      unfold B_M_clear_117
      simp only [ard_nI hl, ob_some, i3 103 (by omega), h103, hc, ↓reduceIte, ix40, ard_nI (M := N) (a := 104) (k := 40 * r + i) (by show _ < 240; omega), i3 104 (by omega), z1, q3, lv, nI_1])
    (fun f s hI => by
      show B_M_clear_117 F (nI r) (nI m) _ s (nI n) = _
      unfold B_M_clear_117
      rw [ard_nI hl, ob_some, hI.2.1 103 (by omega), h103, if_pos (by rw [nI_leI (by omega) (by omega)]; omega)])
    n 0 F M (by omega) (by omega) ⟨h, fun _ _ => rfl, fun _ _ => rfl⟩
  rw [nI_0] at h1
  exact ⟨s', h1, h3, h4, h5⟩
