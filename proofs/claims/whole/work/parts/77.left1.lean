/-! left: rings of the sketch are cleared (the texts of 57 and 58, for the sketch) -/
theorem isRingL_S {F : Nat} {M : Mem} {np nd k1 n : Nat} {kn : Nat → Int32} {dr : Nat → Nat → Int32} {z : Nat → Nat} (h : VX M 38 np nd kn dr) (hb : BN nd dr) (hl : ln k1 = 6) (hn : n ≤ 6) (hz : ∀ i, i < n → M k1 i = nI (z i) ∧ z i < nd) : ∀ (c i m : Nat), i + c = n → c < m → L_V_isRing_47 F M 38 k1 (nI n) (dr (z 0) 2) m (seenS dr z i) (nI i) = some (if allF (PK dr z n) c i = true then .inr () else .inl 0) := by
  have hnd := h.2.2.2.2.2.1
  intro c
  induction c with
  | zero =>
    intro i m hi hm
    obtain ⟨m, rfl⟩ : ∃ k, m = k + 1 := ⟨m - 1, by omega⟩
    show B_V_isRing_47 F M 38 k1 (nI n) (dr (z 0) 2) _ (seenS dr z i) (nI i) = _
    unfold B_V_isRing_47
    rw [if_pos (by rw [nI_leI (by omega) (by omega)]; omega)]
    rfl
  | succ c ih =>
    intro i m hi hm
    obtain ⟨m, rfl⟩ : ∃ k, m = k + 1 := ⟨m - 1, by omega⟩
    have hc : (nI n ≤ nI i) = False := by rw [nI_leI (by omega) (by omega)]; simp; omega
    have hj : (if nI n ≤ nI (i + 1) then some (0 : Int32) else some (nI (i + 1))) = some (nI (nx n i)) := by
      have : (nI n ≤ nI (i + 1)) = (n ≤ i + 1) := by rw [nI_leI (by omega) (by omega)]
      simp only [this]
      unfold nx
      split <;> rfl
    have hnx : nx n i < n := by unfold nx; split <;> omega
    obtain ⟨z1, z2⟩ := hz i (by omega)
    obtain ⟨y1, y2⟩ := hz (nx n i) hnx
    have r1 : ard M k1 (nI i) = some (nI (z i)) := by rw [ard_nI (by rw [hl]; omega), z1]
    have r2 : ard M k1 (nI (nx n i)) = some (nI (z (nx n i))) := by rw [ard_nI (by rw [hl]; omega), y1]
    have x1 : idx (nI (z i)) (ln (38 + 2)) = some (z i) := idx_nI (n := 12) (by omega) (by omega)
    have x2 : idx (nI (z (nx n i))) (ln (38 + 2)) = some (z (nx n i)) := idx_nI (n := 12) (by omega) (by omega)
    obtain ⟨a, b, ha, hbb, ea, eb, wa, wb⟩ := hb (z i) z2
    have e := fun j hj => h.2.2.2.2.2.2.2 (z i) z2 j hj
    have e' := fun j hj => h.2.2.2.2.2.2.2 (z (nx n i)) y2 j hj
    have bt : (seenS dr z i &&& (1 <<< (dr (z i) 0 &&& 31)) = 0) = (tb (seenS dr z i) (whoN dr (z i)) = false) := by
      rw [ea, wa]; exact and_bit' (by omega)
    have ih' := ih (i + 1) m (by omega) (by omega)
    rw [seenS_succ] at ih'
    show B_V_isRing_47 F M 38 k1 (nI n) (dr (z 0) 2) _ (seenS dr z i) (nI i) = _
    unfold B_V_isRing_47
    simp only [hc, ↓reduceIte, hj, ob_some, r1, r2, hasDraft_eq h, draft_in z2 hnd, draft_in y2 hnd, i10, x1, x2, D_isOpenOf_eq, e 0 (by omega), e 1 (by omega), e 2 (by omega), e 3 (by omega), e' 0 (by omega), i01, bt, nI_1, ih', allF]
    by_cases c1 : dr (z i) 3 ≤ 0
    · simp [PK, cA, c1]
    by_cases c2 : dr (z i) 2 = dr (z 0) 2
    · by_cases c3 : dr (z i) 1 = dr (z (nx n i)) 0
      · by_cases c4 : tb (seenS dr z i) (whoN dr (z i)) = false
        · simp [PK, cA, c1, c2, c3, c4]
        · have c4' : tb (seenS dr z i) (whoN dr (z i)) = true := by simpa using c4
          simp [PK, cA, c1, c2, c3, c4']
      · simp [PK, cA, c1, c2, c3]
    · simp [PK, cA, c1, c2]
theorem isRing_S {F : Nat} (hF : FB ≤ F) {M : Mem} {np nd k1 n : Nat} {kn : Nat → Int32} {dr : Nat → Nat → Int32} {z : Nat → Nat} (h : VX M 38 np nd kn dr) (hb : BN nd dr) (hl : ln k1 = 6) (hn : n ≤ 6) (hz : ∀ i, i < n → M k1 i = nI (z i) ∧ z i < nd) : V_isRing F M 38 k1 (nI n) = some (if (3 ≤ n ∧ n ≤ 6) ∧ allF (PM dr z n) n 0 = true then 1 else 0) := by
  have hF' := FBL hF
  have hnd := h.2.2.2.2.2.1
  unfold V_isRing
  have c3 : (nI n < 3) = (n < 3) := by rw [lit 3, nI_ltI (by omega) (by omega)]
  have c6 : (6 < nI n) = (6 < n) := by rw [lit 6, nI_ltI (by omega) (by omega)]
  have c40 : (Int32.ofNat (ln k1) < nI n) = False := by
    rw [hl]
    show (nI 6 < nI n) = False
    rw [nI_ltI (by omega) (by omega)]; simp; omega
  simp only [c3, c6, c40, ↓reduceIte]
  by_cases k3 : n < 3
  · rw [if_pos k3, if_neg (by omega)]
  by_cases k6 : 6 < n
  · rw [if_neg k3, if_pos k6, if_neg (by omega)]
  obtain ⟨z1, z2⟩ := hz 0 (by omega)
  have r1 : ard M k1 0 = some (nI (z 0)) := by
    have := ard_nI (M := M) (a := k1) (k := 0) (by rw [hl]; omega)
    rw [z1] at this
    exact this
  have x1 : idx (nI (z 0)) (ln (38 + 2)) = some (z 0) := idx_nI (n := 12) (by omega) (by omega)
  have e2 := h.2.2.2.2.2.2.2 (z 0) z2 2 (by omega)
  have key := isRingL_S (F := F) h hb hl hn hz n 0 F (by omega) (by omega)
  have e0 : seenS dr z 0 = 0 := rfl
  rw [e0, nI_0] at key
  simp only [k3, k6, ↓reduceIte, r1, ob_some, hasDraft_eq h, draft_in z2 hnd, i10, x1, e2, key]
  have re := ring_eq (dr := dr) (z := z) (n := n) (by omega)
  by_cases q1 : allF (PK dr z n) n 0 = true
  · by_cases q2 : dr (z 0) 2 = 2
    · have : ¬ allF (PM dr z n) n 0 = true := fun x => (re.mpr x).2 q2
      simp [q1, q2, this]
    · have : allF (PM dr z n) n 0 = true := re.mp ⟨q1, q2⟩
      simp only [q1, q2, this, ↓reduceIte, Sum.elim_inr, and_true]
      rw [if_pos (by omega)]
  · have : ¬ allF (PM dr z n) n 0 = true := fun x => q1 (re.mpr x).1
    simp [q1, this]
theorem clearMin_S {F : Nat} {M : Mem} {np nd k1 n : Nat} {kn : Nat → Int32} {dr : Nat → Nat → Int32} {z : Nat → Nat} (h : VX M 38 np nd kn dr) (hk : KN nd dr) (hl : ln k1 = 6) (hn : n ≤ 6) (hz : ∀ i, i < n → M k1 i = nI (z i) ∧ z i < nd) : ∀ (c i m : Nat), i + c = n → c < m → L_V_clearRing_26 F M 38 k1 (nI n) m (nI (mnN dr z i)) (nI i) = some (nI (mnN dr z n)) := by
  have hnd := h.2.2.2.2.2.1
  intro c
  induction c with
  | zero =>
    intro i m hi hm
    obtain ⟨m, rfl⟩ : ∃ k, m = k + 1 := ⟨m - 1, by omega⟩
    show B_V_clearRing_26 F M 38 k1 (nI n) _ (nI (mnN dr z i)) (nI i) = _
    unfold B_V_clearRing_26
    rw [if_pos (by rw [nI_leI (by omega) (by omega)]; omega), show i = n by omega]
  | succ c ih =>
    intro i m hi hm
    obtain ⟨m, rfl⟩ : ∃ k, m = k + 1 := ⟨m - 1, by omega⟩
    show B_V_clearRing_26 F M 38 k1 (nI n) _ (nI (mnN dr z i)) (nI i) = _
    unfold B_V_clearRing_26
    have hc : (nI n ≤ nI i) = False := by rw [nI_leI (by omega) (by omega)]; simp; omega
    obtain ⟨z1, z2⟩ := hz i (by omega)
    have x1 : idx (nI (z i)) (ln (38 + 2)) = some (z i) := idx_nI (n := 12) (by omega) (by omega)
    have e3 := h.2.2.2.2.2.2.2 (z i) z2 3 (by omega)
    have hki := hk (z i) z2
    have hml := mnN_le dr z i
    have em : (if nI (kN dr (z i)) < nI (mnN dr z i) then nI (kN dr (z i)) else nI (mnN dr z i)) = nI (mnN dr z (i + 1)) := by
      have : (nI (kN dr (z i)) < nI (mnN dr z i)) = (kN dr (z i) < mnN dr z i) := by rw [nI_ltI (by omega) (by omega)]
      simp only [this]
      show _ = nI (if mnN dr z i ≤ kN dr (z i) then mnN dr z i else kN dr (z i))
      by_cases q : kN dr (z i) < mnN dr z i
      · rw [if_pos q, if_neg (by omega)]
      · rw [if_neg q, if_pos (by omega)]
    simp only [hc, ↓reduceIte, ard_nI (M := M) (a := k1) (k := i) (by rw [hl]; omega), z1, ob_some, x1, e3, hki.1, em, nI_1]
    exact ih (i + 1) m (by omega) (by omega)
theorem clearSub_S {F : Nat} (hF : FB ≤ F) {M : Mem} {np nd k1 n m : Nat} {kn : Nat → Int32} {dr : Nat → Nat → Int32} {z : Nat → Nat} (h : VX M 38 np nd kn dr) (hl : ln k1 = 6) (hk1 : k1 = 67) (hn : n ≤ 6) (hz : ∀ i, i < n → M k1 i = nI (z i) ∧ z i < nd) : ∃ M', L_V_clearRing_58 F 38 k1 (nI n) (nI m) F M 0 = some M' ∧ VX M' 38 np nd kn (clS dr z m n) ∧ ∀ a, ¬ (41 ≤ a ∧ a ≤ 52) → M' a = M a := by
  have hF' := FBL hF
  have hnd := h.2.2.2.2.2.1
  obtain ⟨s', h1, h3, h4⟩ := lpE (fun f i (s : Mem) => L_V_clearRing_58 F 38 k1 (nI n) (nI m) f s (nI i)) (fun i s => VX s 38 np nd kn (clS dr z m i) ∧ ∀ a, ¬ (41 ≤ a ∧ a ≤ 52) → s a = M a) (fun s => some s) n
    (fun f i N hi hI => by
      obtain ⟨i2, i3⟩ := hI
      have hc : (nI n ≤ nI i) = False := by rw [nI_leI (by omega) (by omega)]; simp; omega
      obtain ⟨z1, z2⟩ := hz i hi
      have x1 : idx (nI (z i)) (ln (38 + 2)) = some (z i) := idx_nI (n := 12) (by omega) (by omega)
      have e3 := i2.2.2.2.2.2.2.2 (z i) z2 3 (by omega)
      refine ⟨up N (38 + 2 + 1 + z i) 3 (clS dr z m i (z i) 3 - nI m), ?_, VX_set i2 (z i) 3 _, fun a ha => by rw [up_cell (by omega), i3 a ha]⟩
      show B_V_clearRing_58 F 38 k1 (nI n) (nI m) _ N (nI i) = _
      unfold B_V_clearRing_58
      simp only [hc, ↓reduceIte, ard_nI (M := N) (a := k1) (k := i) (by rw [hl]; omega), i3 k1 (by omega), z1, ob_some, x1, e3, nI_1])
    (fun f s hI => by
      show B_V_clearRing_58 F 38 k1 (nI n) (nI m) _ s (nI n) = _
      unfold B_V_clearRing_58
      rw [if_pos (by rw [nI_leI (by omega) (by omega)]; omega)])
    n 0 F M (by omega) (by omega) ⟨h, fun _ _ => rfl⟩
  rw [nI_0] at h1
  exact ⟨s', h1, h3, h4⟩
theorem seen_no {nd : Nat} {dr : Nat → Nat → Int32} {z : Nat → Nat} (hb : BN nd dr) {q : Nat} : ∀ n, (∀ i, i < n → z i < nd) → (∀ a, a < n → whoN dr (z a) ≠ q) → tb (seenS dr z n) q = false := by
  intro n
  induction n with
  | zero => intro _ _; exact tb_0 q
  | succ n ih =>
    intro hz h
    obtain ⟨a, b, ha, -, ea, -, wa, -⟩ := hb (z n) (hz n (by omega))
    have := h n (by omega)
    rw [seenS_succ, tb_or, ih (fun i hi => hz i (by omega)) (fun a ha => h a (by omega)), ea, tb_1 (by omega)]
    rw [wa] at this
    simp [this]
/-- the chain of a ring -/
def chn (g : Nat → Nat → Nat) (c : List Nat) : Prop := ∀ k, k + 1 < c.length → g 0 (el c (k + 1)) = g 1 (el c k)
theorem chn_push {g : Nat → Nat → Nat} {c : List Nat} {i : Nat} (h : chn g c) (ho : okB g c i = true) : chn g (i :: c) := by
  intro k hk
  rw [List.length_cons] at hk
  cases c with
  | nil => exact absurd hk (by simp)
  | cons x c =>
    by_cases e : k + 1 = (x :: c).length
    · have e' : k = c.length := by rw [List.length_cons] at e; omega
      rw [e, el_top, el_low (by omega), e', el_top]
      exact (ok_cons.mp ho).2.2
    · rw [el_low (x := i) (c := x :: c) (k := k + 1) (by omega), el_low (x := i) (c := x :: c) (k := k) (by omega)]
      exact h k (by omega)
theorem kids_mem {f : Nat → List (List Nat)} {r : List Nat} : ∀ (c k : Nat), r ∈ kids f c k → ∃ i, k ≤ i ∧ i < k + c ∧ r ∈ f i := by
  intro c
  induction c with
  | zero => intro k h; exact absurd h (by simp [kids])
  | succ c ih =>
    intro k h
    have h : r ∈ f k ++ kids f c (k + 1) := h
    rcases List.mem_append.mp h with h | h
    · exact ⟨k, by omega, by omega, h⟩
    · obtain ⟨i, h1, h2, h3⟩ := ih (k + 1) h
      exact ⟨i, by omega, by omega, h3⟩
theorem bel_mem {g : Nat → Nat → Nat} {n np : Nat} (hg : Gd g n np) : ∀ (k : Nat) (c : List Nat), c.length + k = 6 → gdC g n c → chn g c → ∀ r, r ∈ bel g n c → gdC g n r ∧ chn g r ∧ clB g r = true ∧ 3 ≤ r.length := by
  intro k
  induction k with
  | zero =>
    intro c hl hc hn r hr
    rw [bel_eq (by omega)] at hr
    by_cases q1 : clB g c = true
    · rw [if_pos q1] at hr
      by_cases q3 : 3 ≤ c.length
      · rw [if_pos q3] at hr
        rw [List.mem_singleton.mp hr]
        exact ⟨hc, hn, q1, q3⟩
      · omega
    · rw [if_neg q1] at hr
      by_cases q2 : snB g c = true
      · rw [if_pos q2] at hr
        exact absurd hr (by simp)
      · have := len_S hg hc (by simpa using q2)
        omega
  | succ k ih =>
    intro c hl hc hn r hr
    rw [bel_eq (by omega)] at hr
    by_cases q1 : clB g c = true
    · rw [if_pos q1] at hr
      by_cases q3 : 3 ≤ c.length
      · rw [if_pos q3] at hr
        rw [List.mem_singleton.mp hr]
        exact ⟨hc, hn, q1, q3⟩
      · rw [if_neg q3] at hr
        exact absurd hr (by simp)
    · rw [if_neg q1] at hr
      by_cases q2 : snB g c = true
      · rw [if_pos q2] at hr
        exact absurd hr (by simp)
      · rw [if_neg q2] at hr
        obtain ⟨i, -, h2, h3⟩ := kids_mem _ _ hr
        unfold kid at h3
        by_cases ho : okB g c i = true
        · rw [if_pos ho] at h3
          exact ih (i :: c) (by rw [List.length_cons]; omega) (gd_push hc (by simpa using q2) (by omega) ho) (chn_push hn ho) r h3
        · rw [if_neg ho] at h3
          exact absurd h3 (by simp)
theorem rest_mem {g : Nat → Nat → Nat} {n np : Nat} (hg : Gd g n np) {r : List Nat} (hr : r ∈ rest g n [] 0) : gdC g n r ∧ chn g r ∧ clB g r = true ∧ 3 ≤ r.length := by
  have hr : r ∈ kids (kid g n []) (n - 0) 0 := hr
  obtain ⟨i, -, h2, h3⟩ := kids_mem _ _ hr
  unfold kid at h3
  by_cases ho : okB g [] i = true
  · rw [if_pos ho] at h3
    exact bel_mem hg 5 [i] rfl (gd_push (c := []) ⟨fun x hx => absurd hx (by simp), List.nodup_nil⟩ rfl (by omega) ho) (fun k hk => absurd hk (by simp)) r h3
  · rw [if_neg ho] at h3
    exact absurd h3 (by simp)
theorem fold_mem {g : Nat → Nat → Nat} : ∀ (R : List (List Nat)) (b : List Nat), R.foldl (bsS g) b = b ∨ R.foldl (bsS g) b ∈ R := by
  intro R
  induction R with
  | nil => intro b; exact Or.inl rfl
  | cons c R ih =>
    intro b
    rw [List.foldl_cons]
    rcases ih (bsS g b c) with h | h
    · rw [h]
      unfold bsS
      split
      · exact Or.inl rfl
      · exact Or.inr (List.mem_cons_self ..)
    · exact Or.inr (List.mem_cons_of_mem _ h)
