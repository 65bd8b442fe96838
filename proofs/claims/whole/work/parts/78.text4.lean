/-! texts are read: persons, blanks, the whole -/
def frR (N N' : Mem) : Prop := (∀ a, a ≠ 100 → a ≠ 108 → a ≠ 109 → N' a = N a) ∧ ∀ b, b ≠ 13 → b ≠ 16 → b ≠ 18 → N' 100 b = N 100 b
theorem frR_tr {N P Q : Mem} (h1 : frR N P) (h2 : frR P Q) : frR N Q := ⟨fun a h h' h'' => by rw [h2.1 a h h' h'', h1.1 a h h' h''], fun b h h' h'' => by rw [h2.2 b h h' h'', h1.2 b h h' h'']⟩
theorem frR_N {N N' : Mem} (h : frN N N') : frR N N' := ⟨fun a h1 _ h3 => h.1 a h1 h3, fun b h1 _ h3 => h.2 b h1 h3⟩
theorem frR_p {N : Mem} {v : Int32} : frR N (up N 100 13 v) := ⟨fun a h _ _ => up_cell h, fun b h _ _ => up_ne (by omega)⟩
theorem TM_frR {N N' : Mem} {t n : Nat} {by' : Nat → Int32} (h : TM N t n by') (f : frR N N') : TM N' t n by' := TM_of h (f.1 106 (by omega) (by omega) (by omega)) (f.2 12 (by omega) (by omega) (by omega)) (f.2 14 (by omega) (by omega) (by omega))
def frX (M M' : Mem) : Prop := ∀ a, ¬ (38 ≤ a ∧ a ≤ 52) → M' a = M a
def PS (k t n : Nat) (by' : Nat → Int32) (M N : Mem) (np nd : Nat) (kn : Nat → Int32) (dr : Nat → Nat → Int32) : Prop := VX M 38 np nd kn dr ∧ TX M k n by' ∧ TM N t n by' ∧ N 100 16 = nI np ∧ N 100 18 = nI nd ∧ (∀ p, p < np → N 108 p = kn p ∧ ∃ q : Nat, q < 6 ∧ kn p = nI q) ∧ ∀ i, i < nd → GoodD np 0 (dr i) ∧ dr i 4 = 0 ∧ dr i 5 = 0 ∧ ∀ j, j < 4 → N 109 (4 * i + j) = dr i j
theorem PS_p {k t n : Nat} {by' : Nat → Int32} {M N : Mem} {np nd : Nat} {kn : Nat → Int32} {dr : Nat → Nat → Int32} {v : Int32} (h : PS k t n by' M N np nd kn dr) : PS k t n by' M (up N 100 13 v) np nd kn dr := by
  obtain ⟨h1, h2, h3, h4, h5, h6, h7⟩ := h
  exact ⟨h1, h2, TM_frR h3 frR_p, by rw [up_ne (by omega)]; exact h4, by rw [up_ne (by omega)]; exact h5, fun p hp => by rw [up_cell (by omega)]; exact h6 p hp, fun i hi => by rw [up_cell (by omega)]; exact h7 i hi⟩
theorem person_both {F k t n x : Nat} (hF : FB ≤ F) (hk : k ≤ 21) {by' : Nat → Int32} {M N : Mem} {np nd : Nat} {kn : Nat → Int32} {dr : Nat → Nat → Int32} (h : PS k t n by' M N np nd kn dr) (hp : N 100 13 = nI x) (hx : x < n) : (R_readPerson F M (by' x) 38 = some (0, M) ∧ M_readsPerson F N = some (0, N)) ∨ ∃ (M' N' : Mem) (kn' : Nat → Int32), R_readPerson F M (by' x) 38 = some (1, M') ∧ M_readsPerson F N = some (1, N') ∧ PS k t n by' M' N' (np + 1) 0 kn' dr ∧ N' 100 13 = nI (x + 1) ∧ frX M M' ∧ frR N N' := by
  obtain ⟨h1, h2, h3, h4, h5, h6, h7⟩ := h
  have hnp := h1.2.2.2.2.1
  have hnd := h1.2.2.2.2.2.1
  unfold R_readPerson M_readsPerson
  rw [here_M h3 hp hx, ob_some]
  rcases kind_both hF (M := M) (N := N) (by' x) with ⟨e1, e2⟩ | ⟨q, hq, e1, e2⟩
  · rw [e1, e2, ob_some, ob_some, if_pos (by decide), if_pos rfl]
    exact Or.inl (by constructor <;> first | rfl | trivial)
  have c1 : (nI q < (0 : Int32)) = False := eq_false (nI_nlt0 (by omega))
  have c2 : (nI q = (-9 : Int32)) = False := eq_false (n9_nI (by omega))
  have c3 : ((0 : Int32) < nI nd) = (0 < nd) := by rw [← nI_0, nI_ltI (by omega) (by omega)]
  have c4 : (nI np < (6 : Int32)) = (np < 6) := by rw [show (6 : Int32) = nI 6 from rfl, nI_ltI (by omega) (by omega)]
  have c5 : (nI np = (6 : Int32)) = (np = 6) := by rw [show (6 : Int32) = nI 6 from rfl, nI_eq (by omega) (by omega)]
  have c6 : (nI nd ≤ (0 : Int32)) = (nd ≤ 0) := by rw [← nI_0, nI_leI (by omega) (by omega)]
  simp only [e1, e2, ob_some, c1, c2, ↓reduceIte, h1.2.2.1, h1.2.2.2.1, c3, c4, h4, h5, c5, c6]
  by_cases q1 : 0 < nd
  · by_cases q2 : np = 6
    · simp only [q1, q2, ↓reduceIte]
      exact Or.inl (by constructor <;> first | rfl | trivial)
    · have q3 : ¬ nd ≤ 0 := by omega
      simp only [q1, q2, q3, ↓reduceIte]
      exact Or.inl (by constructor <;> first | rfl | trivial)
  by_cases q2 : np = 6
  · have q3 : ¬ np < 6 := by omega
    simp only [q1, q2, ↓reduceIte, show ¬ (6 < 6) by omega]
    exact Or.inl (by constructor <;> first | rfl | trivial)
  have q3 : np < 6 := by omega
  have q4 : nd ≤ 0 := by omega
  have q5 : nd = 0 := by omega
  refine Or.inr ⟨up (up M 39 np (nI q)) 38 0 (nI (np + 1)), up (up (up N 108 np (nI q)) 100 16 (nI (np + 1))) 100 13 (nI (x + 1)), fun p => if p = np then nI q else kn p, ?_, ?_, ⟨⟨rfl, rfl, up_same .., ?_, by omega, by omega, fun p hp => ?_, fun i hi => absurd hi (by omega)⟩, ?_, ?_, ?_, ?_, fun p hp => ?_, fun i hi => absurd hi (by omega)⟩, up_same .., fun a ha => ?_, fun a ha hb hc => ?_, fun b hb hc hd => ?_⟩
  · simp only [q1, q3, ↓reduceIte]
    unfold V_addPerson
    have d1 : ((6 : Int32) ≤ nI np) = False := by rw [show (6 : Int32) = nI 6 from rfl, nI_leI (by omega) (by omega)]; simp; omega
    simp only [h1.2.2.1, d1, ↓reduceIte, awr_nI (M := M) (a := 38 + 1) (k := np) (by show np < 6; omega), ob_some]
    rw [up_cell (by omega), h1.2.2.1, nI_1]
  · simp only [q2, q4, ↓reduceIte, awr_nI (M := N) (a := 108) (k := np) (by show np < 6; omega), ob_some]
    have d1 : up N 108 np (nI q) 100 16 + 1 = nI (np + 1) := by rw [up_cell (by omega), h4, nI_1]
    rw [d1]
    have d2 : up (up N 108 np (nI q)) 100 16 (nI (np + 1)) 100 13 + 1 = nI (x + 1) := by rw [up_ne (by omega), up_cell (by omega), hp, nI_1]
    rw [d2]
  · rw [up_ne (by omega), up_cell (by omega), h1.2.2.2.1, q5]
  · rw [up_cell (by omega)]
    by_cases e : p = np
    · subst e
      show up M 39 p (nI q) 39 p = if p = p then nI q else kn p
      rw [up_same, if_pos rfl]
    · show up M 39 np (nI q) 39 p = if p = np then nI q else kn p
      rw [up_ne (by omega), if_neg e]
      exact h1.2.2.2.2.2.2.1 p (by omega)
  · exact TX_of h2 (by rw [up_cell (by omega), up_cell (by omega)]) (by rw [up_cell (by omega), up_cell (by omega)])
  · exact TM_of h3 (by rw [up_cell (by omega), up_cell (by omega), up_cell (by omega)]) (by rw [up_ne (by omega), up_ne (by omega), up_cell (by omega)]) (by rw [up_ne (by omega), up_ne (by omega), up_cell (by omega)])
  · rw [up_ne (by omega), up_same]
  · rw [up_ne (by omega), up_ne (by omega), up_cell (by omega), h5, q5]
  · rw [up_cell (by omega), up_cell (by omega)]
    by_cases e : p = np
    · subst e
      show up N 108 p (nI q) 108 p = (if p = p then nI q else kn p) ∧ ∃ q', q' < 6 ∧ (if p = p then nI q else kn p) = nI q'
      rw [up_same, if_pos rfl]
      exact ⟨rfl, q, hq, rfl⟩
    · show up N 108 np (nI q) 108 p = (if p = np then nI q else kn p) ∧ ∃ q', q' < 6 ∧ (if p = np then nI q else kn p) = nI q'
      rw [up_ne (by omega), if_neg e]
      exact h6 p (by omega)
  · rw [up_cell (by omega), up_cell (by omega)]
  · rw [up_cell (by omega), up_cell (by omega), up_cell (by omega)]
  · rw [up_ne (by omega), up_ne (by omega), up_cell (by omega)]
def skN (by' : Nat → Int32) : Nat → Nat → Nat
  | 0, x => x
  | c + 1, x => if by' x = 32 then skN by' c (x + 1) else x
theorem up_id {M : Mem} {a b : Nat} {v : Int32} (h : M a b = v) : up M a b v = M := by
  funext x y
  simp only [up_eqn]
  by_cases e : x = a ∧ y = b
  · rw [if_pos e, e.1, e.2, h]
  · rw [if_neg e]
theorem up_up {M : Mem} {a b : Nat} {v w : Int32} : up (up M a b v) a b w = up M a b w := by
  funext x y
  simp only [up_eqn]
  by_cases e : x = a ∧ y = b
  · rw [if_pos e, if_pos e]
  · rw [if_neg e, if_neg e, if_neg e]
theorem skipL_M {F t n : Nat} {by' : Nat → Int32} : ∀ (c x m : Nat) (N : Mem), TM N t n by' → N 100 13 = nI x → x + c = n → c < m → L_M_skip_0 F m N = some (up N 100 13 (nI (skN by' c x))) := by
  intro c
  induction c with
  | zero =>
    intro x m N h hp hx hm
    have hn := h.1
    obtain ⟨m, rfl⟩ : ∃ j, m = j + 1 := ⟨m - 1, by omega⟩
    show B_M_skip_0 F _ N = _
    unfold B_M_skip_0
    rw [h.2.2.2.1, hp, if_pos (by rw [nI_leI (by omega) (by omega)]; omega)]
    show some N = some (up N 100 13 (nI x))
    rw [up_id hp]
  | succ c ih =>
    intro x m N h hp hx hm
    have hn := h.1
    obtain ⟨m, rfl⟩ : ∃ j, m = j + 1 := ⟨m - 1, by omega⟩
    show B_M_skip_0 F _ N = _
    unfold B_M_skip_0
    have c1 : (nI n ≤ nI x) = False := by rw [nI_leI (by omega) (by omega)]; simp; omega
    simp only [h.2.2.2.1, hp, c1, ↓reduceIte, here_M h hp (show x < n by omega), ob_some, nI_1, skN]
    by_cases q : by' x = 32
    · rw [if_pos q, if_pos q, ih (x + 1) m _ (TM_frR h frR_p) (up_same ..) (by omega) (by omega), up_up]
    · rw [if_neg q, if_neg q, up_id hp]
theorem skip_M {F t n x : Nat} (hF : FB ≤ F) {by' : Nat → Int32} {N : Mem} (h : TM N t n by') (hp : N 100 13 = nI x) (hx : x ≤ n) : M_skip F N = some (up N 100 13 (nI (skN by' (n - x) x))) := by
  have hF' := FBL hF
  have hn := h.1
  unfold M_skip
  rw [skipL_M (n - x) x F N h hp (by omega) (by omega), ob_some]
theorem read_both {F k t n : Nat} (hF : FB ≤ F) (hk : k ≤ 21) {by' : Nat → Int32} : ∀ (r x m m' : Nat) (M N : Mem) (np nd : Nat) (kn : Nat → Int32) (dr : Nat → Nat → Int32), x ≤ n → n - x ≤ r → r < m → r + 1 < m' → PS k t n by' M N np nd kn dr → N 100 13 = nI x → (∃ (f : Nat) (M' N' : Mem), f ≤ n ∧ L_R_faultOf_6 F k 38 m M (nI x) = some (.inl (nI f, M')) ∧ ((M_skip F N).bind fun c => L_M_faultOf_39 F m' c 1) = some (0, N') ∧ N' 100 13 = nI f ∧ frX M M' ∧ frR N N') ∨ ∃ (M' N' : Mem) (np' nd' : Nat) (kn' : Nat → Int32) (dr' : Nat → Nat → Int32), L_R_faultOf_6 F k 38 m M (nI x) = some (.inr M') ∧ ((M_skip F N).bind fun c => L_M_faultOf_39 F m' c 1) = some (1, N') ∧ N' 100 13 = nI n ∧ PS k t n by' M' N' np' nd' kn' dr' ∧ frX M M' ∧ frR N N' := by
  intro r
  induction r with
  | zero =>
    intro x m m' M N np nd kn dr hx hr hm hm' h hp
    have hn := h.2.1.1
    obtain ⟨m, rfl⟩ : ∃ j, m = j + 1 := ⟨m - 1, by omega⟩
    obtain ⟨m', rfl⟩ : ∃ j, m' = j + 1 := ⟨m' - 1, by omega⟩
    obtain rfl : x = n := by omega
    have h3 := h.2.2.1
    refine Or.inr ⟨M, up N 100 13 (nI x), np, nd, kn, dr, ?_, ?_, up_same .., PS_p h, fun _ _ => rfl, frR_p⟩
    · show B_R_faultOf_6 F k 38 _ M (nI x) = _
      unfold B_R_faultOf_6
      rw [h.2.1.2.2.1, if_pos (by rw [nI_leI (by omega) (by omega)]; omega)]
    · rw [skip_M hF h3 hp (Nat.le_refl _), ob_some, Nat.sub_self]
      show B_M_faultOf_39 F _ (up N 100 13 (nI x)) 1 = _
      unfold B_M_faultOf_39
      have z10 : ((1 : Int32) = 0) = False := by decide
      have d1 : (up N 100 13 (nI x) 100 14 ≤ up N 100 13 (nI x) 100 13) = True := by
        rw [up_ne (by omega), up_same, h3.2.2.2.1, nI_leI (by omega) (by omega)]; simp
      simp only [z10, ↓reduceIte, d1]
  | succ r ih =>
    intro x m m' M N np nd kn dr hx hr hm hm' h hp
    by_cases hxn : x = n
    · have hn := h.2.1.1
      obtain ⟨m, rfl⟩ : ∃ j, m = j + 1 := ⟨m - 1, by omega⟩
      obtain ⟨m', rfl⟩ : ∃ j, m' = j + 1 := ⟨m' - 1, by omega⟩
      subst hxn
      have h3 := h.2.2.1
      refine Or.inr ⟨M, up N 100 13 (nI x), np, nd, kn, dr, ?_, ?_, up_same .., PS_p h, fun _ _ => rfl, frR_p⟩
      · show B_R_faultOf_6 F k 38 _ M (nI x) = _
        unfold B_R_faultOf_6
        rw [h.2.1.2.2.1, if_pos (by rw [nI_leI (by omega) (by omega)]; omega)]
      · rw [skip_M hF h3 hp (Nat.le_refl _), ob_some, Nat.sub_self]
        show B_M_faultOf_39 F _ (up N 100 13 (nI x)) 1 = _
        unfold B_M_faultOf_39
        have z10 : ((1 : Int32) = 0) = False := by decide
        have d1 : (up N 100 13 (nI x) 100 14 ≤ up N 100 13 (nI x) 100 13) = True := by
          rw [up_ne (by omega), up_same, h3.2.2.2.1, nI_leI (by omega) (by omega)]; simp
        simp only [z10, ↓reduceIte, d1]
    have hlt : x < n := by omega
    obtain ⟨h1, h2, h3, h4, h5, h6, h7⟩ := h
    have hn := h2.1
    have hnp := h1.2.2.2.2.1
    have hnd := h1.2.2.2.2.2.1
    have hS : PS k t n by' M N np nd kn dr := ⟨h1, h2, h3, h4, h5, h6, h7⟩
    obtain ⟨m, rfl⟩ : ∃ j, m = j + 1 := ⟨m - 1, by omega⟩
    have c1 : (nI n ≤ nI x) = False := by rw [nI_leI (by omega) (by omega)]; simp; omega
    have cls : L_R_faultOf_6 F k 38 (m + 1) M (nI x) = if by' x = 32 then L_R_faultOf_6 F k 38 m M (nI (x + 1)) else if by' x = 120 then (R_readDraft F M k (nI x) 38).bind fun c8 => (if c8.1 = (-9) then L_R_faultOf_6 F k 38 m c8.2 (nI (x + 5)) else some (.inl (c8.1, c8.2))) else (R_readPerson F M (by' x) 38).bind fun c6 => (if c6.1 = 0 then some (.inl (nI x, c6.2)) else L_R_faultOf_6 F k 38 m c6.2 (nI (x + 1))) := by
      show B_R_faultOf_6 F k 38 _ M (nI x) = _
      unfold B_R_faultOf_6
      simp only [h2.2.2.1, c1, ↓reduceIte, sign_X h2 (show x ≤ 100 by omega), hlt, ob_some, nI_1, p5]
    rw [cls]
    by_cases q32 : by' x = 32
    · rw [if_pos q32]
      have e : M_skip F N = M_skip F (up N 100 13 (nI (x + 1))) := by
        rw [skip_M hF h3 hp hx, skip_M hF (TM_frR h3 frR_p) (up_same ..) (show x + 1 ≤ n by omega), up_up]
        have : skN by' (n - x) x = skN by' (n - (x + 1)) (x + 1) := by
          rw [show n - x = (n - (x + 1)) + 1 by omega]
          show (if by' x = 32 then _ else _) = _
          rw [if_pos q32]
        rw [this]
      rw [e]
      rcases ih (x + 1) m m' M (up N 100 13 (nI (x + 1))) np nd kn dr (by omega) (by omega) (by omega) (by omega) (PS_p hS) (up_same ..) with ⟨f, M', N', g1, g2, g3, g4, g5, g6⟩ | ⟨M', N', np', nd', kn', dr', g2, g3, g4, g5, g6, g7⟩
      · exact Or.inl ⟨f, M', N', g1, g2, g3, g4, g5, frR_tr frR_p g6⟩
      · exact Or.inr ⟨M', N', np', nd', kn', dr', g2, g3, g4, g5, g6, frR_tr frR_p g7⟩
    rw [if_neg q32]
    have esk : M_skip F N = some N := by
      rw [skip_M hF h3 hp hx, show n - x = (n - (x + 1)) + 1 by omega]
      show some (up N 100 13 (nI (if by' x = 32 then _ else x))) = _
      rw [if_neg q32, up_id hp]
    rw [esk, ob_some]
    obtain ⟨m', rfl⟩ : ∃ j, m' = j + 2 := ⟨m' - 2, by omega⟩
    have z10 : ((1 : Int32) = 0) = False := by decide
    have ref : L_M_faultOf_39 F (m' + 2) N 1 = (if by' x = 120 then (M_readsDraft F N).bind fun c11 => some (c11.1, c11.2) else (M_readsPerson F N).bind fun c10 => some (c10.1, c10.2)).bind fun (j6 : Int32 × Mem) => (if j6.1 = 0 then L_M_faultOf_39 F (m' + 1) j6.2 j6.1 else (M_skip F j6.2).bind fun c8 => L_M_faultOf_39 F (m' + 1) c8 j6.1) := by
      show B_M_faultOf_39 F _ N 1 = _
      unfold B_M_faultOf_39
      simp only [z10, ↓reduceIte, h3.2.2.2.1, hp, c1, here_M h3 hp hlt, ob_some]
    have stop : ∀ P : Mem, L_M_faultOf_39 F (m' + 1) P 0 = some (0, P) := fun P => by
      show B_M_faultOf_39 F _ P 0 = _
      unfold B_M_faultOf_39
      rw [if_pos rfl]
    rw [ref]
    by_cases q120 : by' x = 120
    · rw [if_pos q120, if_pos q120]
      by_cases k2 : np < 2
      · have a1 : R_readDraft F M k (nI x) 38 = some (nI x, M) := by
          unfold R_readDraft
          rw [h1.2.2.1, if_pos (by rw [show (2 : Int32) = nI 2 from rfl, nI_ltI (by omega) (by omega)]; exact k2)]
        have a2 : M_readsDraft F N = some (0, N) := by
          unfold M_readsDraft
          rw [h4, if_pos (by rw [show (2 : Int32) = nI 2 from rfl, nI_ltI (by omega) (by omega)]; exact k2)]
        have n9 : (nI x = (-9 : Int32)) = False := eq_false (n9_nI (by omega))
        simp only [a1, a2, ob_some, n9, ↓reduceIte, stop]
        exact Or.inl ⟨x, M, N, by omega, rfl, rfl, hp, fun _ _ => rfl, fun _ _ _ _ => rfl, fun _ _ _ _ => rfl⟩
      by_cases k12 : nd = 12
      · have d2 : (nI np < (2 : Int32)) = False := by rw [show (2 : Int32) = nI 2 from rfl, nI_ltI (by omega) (by omega)]; simp; omega
        have a1 : R_readDraft F M k (nI x) 38 = some (nI x, M) := by
          unfold R_readDraft
          have d12 : (nI nd < (12 : Int32)) = False := by rw [show (12 : Int32) = nI 12 from rfl, nI_ltI (by omega) (by omega)]; simp; omega
          simp only [h1.2.2.1, h1.2.2.2.1, d2, d12, ↓reduceIte]
        have a2 : M_readsDraft F N = some (0, N) := by
          unfold M_readsDraft
          have d12 : (nI nd = (12 : Int32)) = True := by rw [show (12 : Int32) = nI 12 from rfl, nI_eq (by omega) (by omega)]; simp; omega
          simp only [h4, h5, d2, d12, ↓reduceIte]
        have n9 : (nI x = (-9 : Int32)) = False := eq_false (n9_nI (by omega))
        simp only [a1, a2, ob_some, n9, ↓reduceIte, stop]
        exact Or.inl ⟨x, M, N, by omega, rfl, rfl, hp, fun _ _ => rfl, fun _ _ _ _ => rfl, fun _ _ _ _ => rfl⟩
      have dX := draft_X (F := F) hF h1 h2 hlt (by omega) hnp (show nd < 12 by omega)
      rcases draft_M (F := F) h3 hp hlt h4 h5 (by omega) hnp (show nd < 12 by omega) with ⟨f, N', f1, f2, f3, f4, f5⟩ | ⟨a, b, c, e, N', f1, f2, f3, f4, f5, f6, f7, f8, f9, f10⟩
      · have n9 : (nI f = (-9 : Int32)) = False := eq_false (n9_nI (by omega))
        simp only [dX.1 f f2, f3, ob_some, n9, ↓reduceIte, stop]
        exact Or.inl ⟨f, M, N', f1, rfl, rfl, f4, fun _ _ => rfl, frR_N f5⟩
      · obtain ⟨P, p1, p2, p3⟩ := addDraft_S (F := F) h1 (show nd < 12 by omega) (nI a) (nI b) (nI c) (nI e)
        have hx5 := f1.1
        have e9 : ((-9 : Int32) = -9) = True := by decide
        simp only [dX.2 a b c e f1, p1, f2, ob_some, ↓reduceIte, z10]
        have hS' : PS k t n by' P N' np (nd + 1) kn (addD dr nd (newD (nI a) (nI b) (nI c) (nI e))) := by
          refine ⟨p2, TX_of h2 (p3 k (by omega) (by omega)) (p3 (k + 1) (by omega) (by omega)), TM_fr h3 f10, by rw [f10.2 16 (by omega) (by omega)]; exact h4, f4, fun p hp => by rw [f10.1 108 (by omega) (by omega)]; exact h6 p hp, fun i hi => ?_⟩
          by_cases ei : i = nd
          · subst ei
            rw [addD_at]
            obtain ⟨-, g1, g2, g3, g4, g5, g6, -⟩ := f1
            refine ⟨⟨a, b, c, e, 0, 0, rfl, rfl, rfl, rfl, rfl, rfl, g1, g2, g3, g4, by omega, by omega, by omega⟩, rfl, rfl, fun j hj => ?_⟩
            rcases (show j = 0 ∨ j = 1 ∨ j = 2 ∨ j = 3 by omega) with rfl | rfl | rfl | rfl
            · exact f6
            · exact f7
            · exact f8
            · exact f9
          · rw [addD_ne ei]
            obtain ⟨g1, g2, g3, g4⟩ := h7 i (by omega)
            exact ⟨g1, g2, g3, fun j hj => by rw [f5 _ (by omega)]; exact g4 j hj⟩
        rcases ih (x + 5) m (m' + 1) P N' np (nd + 1) kn _ (by omega) (by omega) (by omega) (by omega) hS' f3 with ⟨f, M', N'', g1, g2, g3, g4, g5, g6⟩ | ⟨M', N'', np', nd', kn', dr', g2, g3, g4, g5, g6, g7⟩
        · exact Or.inl ⟨f, M', N'', g1, g2, g3, g4, fun y hy => by rw [g5 y hy, p3 y (by omega) (by omega)], frR_tr (frR_N f10) g6⟩
        · exact Or.inr ⟨M', N'', np', nd', kn', dr', g2, g3, g4, g5, fun y hy => by rw [g6 y hy, p3 y (by omega) (by omega)], frR_tr (frR_N f10) g7⟩
    · rw [if_neg q120, if_neg q120]
      rcases person_both hF hk hS hp hlt with ⟨a1, a2⟩ | ⟨P, N', kn', a1, a2, a3, a4, a5, a6⟩
      · simp only [a1, a2, ob_some, ↓reduceIte, stop]
        exact Or.inl ⟨x, M, N, by omega, rfl, rfl, hp, fun _ _ => rfl, fun _ _ _ _ => rfl, fun _ _ _ _ => rfl⟩
      · simp only [a1, a2, ob_some, z10, ↓reduceIte]
        rcases ih (x + 1) m (m' + 1) P N' (np + 1) 0 kn' dr (by omega) (by omega) (by omega) (by omega) a3 a4 with ⟨f, M', N'', g1, g2, g3, g4, g5, g6⟩ | ⟨M', N'', np', nd', kn'', dr', g2, g3, g4, g5, g6, g7⟩
        · exact Or.inl ⟨f, M', N'', g1, g2, g3, g4, fun y hy => by rw [g5 y hy, a5 y hy], frR_tr a6 g6⟩
        · exact Or.inr ⟨M', N'', np', nd', kn'', dr', g2, g3, g4, g5, fun y hy => by rw [g6 y hy, a5 y hy], frR_tr a6 g7⟩
