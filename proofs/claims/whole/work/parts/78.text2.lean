/-! texts are read: a draft -/
theorem ix4 (j : Nat) : 4 * nI j = nI (4 * j) := by rw [show (4 : Int32) = nI 4 from rfl, pk_mul]
theorem p2 (j : Nat) : nI j + 2 = nI (j + 2) := by rw [show (2 : Int32) = nI 2 from rfl, nI_add]
theorem p3 (j : Nat) : nI j + 3 = nI (j + 3) := by rw [show (3 : Int32) = nI 3 from rfl, nI_add]
theorem p4 (j : Nat) : nI j + 4 = nI (j + 4) := by rw [show (4 : Int32) = nI 4 from rfl, nI_add]
theorem p5 (j : Nat) : nI j + 5 = nI (j + 5) := by rw [show (5 : Int32) = nI 5 from rfl, nI_add]
def frN (N N' : Mem) : Prop := (∀ a, a ≠ 100 → a ≠ 109 → N' a = N a) ∧ ∀ b, b ≠ 13 → b ≠ 18 → N' 100 b = N 100 b
theorem frN_p {N N' : Mem} {v : Int32} (h : frN N N') : frN N (up N' 100 13 v) := ⟨fun a h1 h2 => by rw [up_cell h1, h.1 a h1 h2], fun b h1 h2 => by rw [up_ne (by omega), h.2 b h1 h2]⟩
theorem frN_d {N N' : Mem} {j : Nat} {v : Int32} (h : frN N N') : frN N (up N' 109 j v) := ⟨fun a h1 h2 => by rw [up_cell h2, h.1 a h1 h2], fun b h1 h2 => by rw [up_cell (by omega), h.2 b h1 h2]⟩
theorem frN_m {N N' : Mem} {v : Int32} (h : frN N N') : frN N (up N' 100 18 v) := ⟨fun a h1 h2 => by rw [up_cell h1, h.1 a h1 h2], fun b h1 h2 => by rw [up_ne (by omega), h.2 b h1 h2]⟩
theorem TM_fr {N N' : Mem} {t n : Nat} {by' : Nat → Int32} (h : TM N t n by') (f : frN N N') : TM N' t n by' := TM_of h (f.1 106 (by omega) (by omega)) (f.2 12 (by omega) (by omega)) (f.2 14 (by omega) (by omega))
def DrM (by' : Nat → Int32) (x n np : Nat) (a b c k : Nat) : Prop := x + 5 ≤ n ∧ a < np ∧ b < np ∧ a ≠ b ∧ c < 3 ∧ 1 ≤ k ∧ k ≤ 9 ∧ by' (x + 1) = nI (48 + a) ∧ by' (x + 2) = nI (48 + b) ∧ (by' (x + 3) = if c = 0 then 104 else if c = 1 then 99 else 116) ∧ by' (x + 4) = nI (48 + k)
/-- where a draft's fault is: 1 to 4 places on -/
def DrF (by' : Nat → Int32) (x n np f : Nat) : Prop := (f = x + 1 ∧ (x + 1 = n ∨ ¬ dgt 0 (np - 1) (by' (x + 1)))) ∨ (f = x + 2 ∧ ∃ a, a < np ∧ x + 1 < n ∧ by' (x + 1) = nI (48 + a) ∧ (x + 2 = n ∨ ¬ dgt 0 (np - 1) (by' (x + 2)) ∨ by' (x + 2) - 48 = nI a)) ∨ (f = x + 3 ∧ ∃ a b, a < np ∧ b < np ∧ a ≠ b ∧ x + 2 < n ∧ by' (x + 1) = nI (48 + a) ∧ by' (x + 2) = nI (48 + b) ∧ (x + 3 = n ∨ (¬ by' (x + 3) = 104 ∧ ¬ by' (x + 3) = 99 ∧ ¬ by' (x + 3) = 116))) ∨ (f = x + 4 ∧ ∃ a b c, a < np ∧ b < np ∧ a ≠ b ∧ c < 3 ∧ x + 3 < n ∧ by' (x + 1) = nI (48 + a) ∧ by' (x + 2) = nI (48 + b) ∧ (by' (x + 3) = if c = 0 then 104 else if c = 1 then 99 else 116) ∧ (x + 4 = n ∨ ¬ dgt 1 9 (by' (x + 4))))
theorem draft_M {F t n x np nd : Nat} {N : Mem} {by' : Nat → Int32} (h : TM N t n by') (hp : N 100 13 = nI x) (hx : x < n) (h16 : N 100 16 = nI np) (h18 : N 100 18 = nI nd) (hnp2 : 2 ≤ np) (hnp6 : np ≤ 6) (hnd : nd < 12) : (∃ f N', f ≤ n ∧ DrF by' x n np f ∧ M_readsDraft F N = some (0, N') ∧ N' 100 13 = nI f ∧ frN N N') ∨ ∃ a b c k N', DrM by' x n np a b c k ∧ M_readsDraft F N = some (1, N') ∧ N' 100 13 = nI (x + 5) ∧ N' 100 18 = nI (nd + 1) ∧ (∀ j, j < 4 * nd → N' 109 j = N 109 j) ∧ N' 109 (4 * nd) = nI a ∧ N' 109 (4 * nd + 1) = nI b ∧ N' 109 (4 * nd + 2) = nI c ∧ N' 109 (4 * nd + 3) = nI k ∧ frN N N' := by
  have hn := h.1
  have c2 : (nI np < (2 : Int32)) = False := by rw [show (2 : Int32) = nI 2 from rfl, nI_ltI (by omega) (by omega)]; simp; omega
  have c12 : (nI nd = (12 : Int32)) = False := by rw [show (12 : Int32) = nI 12 from rfl, nI_eq (by omega) (by omega)]; simp; omega
  have l109 : ln 109 = 48 := by decide
  have fA : frN N (up N 100 13 (nI (x + 1))) := frN_p ⟨fun _ _ _ => rfl, fun _ _ _ => rfl⟩
  have a18 : up N 100 13 (nI (x + 1)) 100 18 = nI nd := by rw [up_ne (by omega), h18]
  have a16 : up N 100 13 (nI (x + 1)) 100 16 = nI np := by rw [up_ne (by omega), h16]
  have a13 : up N 100 13 (nI (x + 1)) 100 13 = nI (x + 1) := up_same ..
  have a109 : up N 100 13 (nI (x + 1)) 109 = N 109 := up_cell (by omega)
  have s1 : nI np - 1 = nI (np - 1) := by rw [show (1 : Int32) = nI 1 from rfl, pk_sub (by omega)]
  unfold M_readsDraft
  simp only [h16, c2, h18, c12, ↓reduceIte, hp, nI_1, a18, a16, ix4, s1, p2, p3]
  generalize up N 100 13 (nI (x + 1)) = A at *
  have z0 : (0 : Int32) = nI 0 := rfl
  have w : ∀ (P : Mem) (j : Nat) (v : Int32), j < 48 → awr P 109 (nI j) v = some (up P 109 j v) := fun P j v hj => awr_nI (by rw [l109]; exact hj)
  have r : ∀ (P : Mem) (j : Nat) (v : Int32), j < 48 → ard (up P 109 j v) 109 (nI j) = some v := fun P j v hj => by rw [ard_nI (by rw [l109]; exact hj), up_same]
  have e99 : ((-9 : Int32) = -9) = True := by decide
  rw [z0]
  rcases fig_M (F := F) (lo := 0) (hi := np - 1) (-9) (TM_fr h fA) a13 (by omega) (by omega) (by omega) with ⟨a, k1, -, k2, k3, -, k4⟩ | ⟨k1, k4⟩
  · have na : (nI a = (-9 : Int32)) = False := eq_false (n9_nI (by omega))
    simp only [k4, ob_some, w _ (4 * nd) _ (by omega), r _ (4 * nd) _ (by omega), na, ↓reduceIte]
    have fC : frN N (up (up A 100 13 (nI (x + 1 + 1))) 109 (4 * nd) (nI a)) := frN_d (frN_p fA)
    have c16 : up (up A 100 13 (nI (x + 1 + 1))) 109 (4 * nd) (nI a) 100 16 = nI np := by rw [up_cell (by omega), up_ne (by omega), a16]
    have c13 : up (up A 100 13 (nI (x + 1 + 1))) 109 (4 * nd) (nI a) 100 13 = nI (x + 2) := by rw [up_cell (by omega), up_same]
    have cd : ∀ j, j < 4 * nd → up (up A 100 13 (nI (x + 1 + 1))) 109 (4 * nd) (nI a) 109 j = N 109 j := fun j hj => by rw [up_ne (by omega), up_cell (by omega), a109]
    have ca : up (up A 100 13 (nI (x + 1 + 1))) 109 (4 * nd) (nI a) 109 (4 * nd) = nI a := up_same ..
    have c18 : up (up A 100 13 (nI (x + 1 + 1))) 109 (4 * nd) (nI a) 100 18 = nI nd := by rw [up_cell (by omega), up_ne (by omega), a18]
    generalize up (up A 100 13 (nI (x + 1 + 1))) 109 (4 * nd) (nI a) = C at *
    simp only [c16, s1]
    rcases fig_M (F := F) (lo := 0) (hi := np - 1) (nI a) (TM_fr h fC) c13 (by omega) (by omega) (by omega) with ⟨b, m1, -, m2, m3, m5, m4⟩ | ⟨m1, m4⟩
    · have nb : (nI b = (-9 : Int32)) = False := eq_false (n9_nI (by omega))
      have hab : a ≠ b := fun e => m5 (by rw [e])
      simp only [m4, ob_some, w _ (4 * nd + 1) _ (by omega), r _ (4 * nd + 1) _ (by omega), nb, ↓reduceIte]
      have fE : frN N (up (up C 100 13 (nI (x + 2 + 1))) 109 (4 * nd + 1) (nI b)) := frN_d (frN_p fC)
      have e13 : up (up C 100 13 (nI (x + 2 + 1))) 109 (4 * nd + 1) (nI b) 100 13 = nI (x + 3) := by rw [up_cell (by omega), up_same]
      have e14 : up (up C 100 13 (nI (x + 2 + 1))) 109 (4 * nd + 1) (nI b) 100 14 = nI n := (TM_fr h fE).2.2.2.1
      have ed : ∀ j, j < 4 * nd → up (up C 100 13 (nI (x + 2 + 1))) 109 (4 * nd + 1) (nI b) 109 j = N 109 j := fun j hj => by rw [up_ne (by omega), up_cell (by omega), cd j hj]
      have ea : up (up C 100 13 (nI (x + 2 + 1))) 109 (4 * nd + 1) (nI b) 109 (4 * nd) = nI a := by rw [up_ne (by omega), up_cell (by omega), ca]
      have eb : up (up C 100 13 (nI (x + 2 + 1))) 109 (4 * nd + 1) (nI b) 109 (4 * nd + 1) = nI b := up_same ..
      have e18 : up (up C 100 13 (nI (x + 2 + 1))) 109 (4 * nd + 1) (nI b) 100 18 = nI nd := by rw [up_cell (by omega), up_ne (by omega), c18]
      generalize up (up C 100 13 (nI (x + 2 + 1))) 109 (4 * nd + 1) (nI b) = E at *
      have c3 : (nI (x + 3) = nI n) = (x + 3 = n) := by rw [nI_eq (by omega) (by omega)]
      simp only [e13, e14, c3]
      by_cases q3 : x + 3 = n
      · rw [if_pos q3]
        exact Or.inl ⟨x + 3, E, by omega, Or.inr (Or.inr (Or.inl ⟨rfl, a, b, by omega, by omega, hab, by omega, k3, m3, Or.inl q3⟩)), rfl, e13, fE⟩
      rw [if_neg q3, here_M (TM_fr h fE) e13 (by omega), ob_some]
      have tail : ∀ c, c < 3 → (by' (x + 3) = if c = 0 then 104 else if c = 1 then 99 else 116) → ∀ X : Option (Int32 × Mem), (X = (awr E 109 (nI (4 * nd + 2)) (nI c)).bind fun M16 => (M_figure F (up M16 100 13 ((M16 100 13) + 1)) 1 9 (-9)).bind fun c17 => (awr c17.2 109 (nI (4 * nd + 3)) c17.1).bind fun M18 => (ard M18 109 (nI (4 * nd + 3))).bind fun t19 => (if t19 = (-9) then some (0, M18) else some (1, (up M18 100 18 ((M18 100 18) + 1))))) → (∃ f N', f ≤ n ∧ DrF by' x n np f ∧ X = some (0, N') ∧ N' 100 13 = nI f ∧ frN N N') ∨ ∃ a b c k N', DrM by' x n np a b c k ∧ X = some (1, N') ∧ N' 100 13 = nI (x + 5) ∧ N' 100 18 = nI (nd + 1) ∧ (∀ j, j < 4 * nd → N' 109 j = N 109 j) ∧ N' 109 (4 * nd) = nI a ∧ N' 109 (4 * nd + 1) = nI b ∧ N' 109 (4 * nd + 2) = nI c ∧ N' 109 (4 * nd + 3) = nI k ∧ frN N N' := by
        intro c hc3 hby X hX
        have g13 : up E 109 (4 * nd + 2) (nI c) 100 13 + 1 = nI (x + 4) := by rw [up_cell (by omega), e13, nI_1]
        rw [w _ (4 * nd + 2) _ (by omega), ob_some, g13] at hX
        have fH : frN N (up (up E 109 (4 * nd + 2) (nI c)) 100 13 (nI (x + 4))) := frN_p (frN_d fE)
        have h13 : up (up E 109 (4 * nd + 2) (nI c)) 100 13 (nI (x + 4)) 100 13 = nI (x + 4) := up_same ..
        have h18' : up (up E 109 (4 * nd + 2) (nI c)) 100 13 (nI (x + 4)) 109 (4 * nd + 2) = nI c := by rw [up_cell (by omega), up_same]
        have hd : ∀ j, j < 4 * nd → up (up E 109 (4 * nd + 2) (nI c)) 100 13 (nI (x + 4)) 109 j = N 109 j := fun j hj => by rw [up_cell (by omega), up_ne (by omega), ed j hj]
        have ha' : up (up E 109 (4 * nd + 2) (nI c)) 100 13 (nI (x + 4)) 109 (4 * nd) = nI a := by rw [up_cell (by omega), up_ne (by omega), ea]
        have hb' : up (up E 109 (4 * nd + 2) (nI c)) 100 13 (nI (x + 4)) 109 (4 * nd + 1) = nI b := by rw [up_cell (by omega), up_ne (by omega), eb]
        have hm : up (up E 109 (4 * nd + 2) (nI c)) 100 13 (nI (x + 4)) 100 18 = E 100 18 := by rw [up_ne (by omega), up_cell (by omega)]
        generalize up (up E 109 (4 * nd + 2) (nI c)) 100 13 (nI (x + 4)) = H at *
        rcases fig_M (F := F) (lo := 1) (hi := 9) (-9) (TM_fr h fH) h13 (by omega) (by omega) (by omega) with ⟨k, q1, q2, q4, q5, -, q6⟩ | ⟨q1, q6⟩
        · have nk : (nI k = (-9 : Int32)) = False := eq_false (n9_nI (by omega))
          have q6' : M_figure F H 1 9 (-9) = some (nI k, up H 100 13 (nI (x + 5))) := q6
          rw [q6', ob_some] at hX
          simp only [w _ (4 * nd + 3) _ (show 4 * nd + 3 < 48 by omega), ob_some, r _ (4 * nd + 3) _ (show 4 * nd + 3 < 48 by omega), nk, ↓reduceIte] at hX
          have k18 : up (up H 100 13 (nI (x + 5))) 109 (4 * nd + 3) (nI k) 100 18 + 1 = nI (nd + 1) := by rw [up_cell (by omega), up_ne (by omega), hm, e18, nI_1]
          rw [k18] at hX
          refine Or.inr ⟨a, b, c, k, up (up (up H 100 13 (nI (x + 5))) 109 (4 * nd + 3) (nI k)) 100 18 (nI (nd + 1)), ⟨by omega, by omega, by omega, hab, hc3, q2, q4, k3, m3, hby, q5⟩, hX, ?_, up_same .., fun j hj => ?_, ?_, ?_, ?_, ?_, frN_m (frN_d (frN_p fH))⟩
          · rw [up_ne (by omega), up_cell (by omega), up_same]
          · rw [up_cell (by omega), up_ne (by omega), up_cell (by omega), hd j hj]
          · rw [up_cell (by omega), up_ne (by omega), up_cell (by omega), ha']
          · rw [up_cell (by omega), up_ne (by omega), up_cell (by omega), hb']
          · rw [up_cell (by omega), up_ne (by omega), up_cell (by omega), h18']
          · rw [up_cell (by omega), up_same]
        · have q6' : M_figure F H 1 9 (-9) = some (-9, H) := q6
          rw [q6', ob_some] at hX
          rw [w _ (4 * nd + 3) _ (by omega), ob_some, r _ (4 * nd + 3) _ (by omega), ob_some, if_pos rfl] at hX
          refine Or.inl ⟨x + 4, up H 109 (4 * nd + 3) (-9), by omega, Or.inr (Or.inr (Or.inr ⟨rfl, a, b, c, by omega, by omega, hab, hc3, by omega, k3, m3, hby, ?_⟩)), hX, by rw [up_cell (by omega), h13], frN_d fH⟩
          rcases q1 with q1 | q1 | q1
          · exact Or.inl q1
          · exact Or.inr q1
          · refine Or.inr ?_
            rintro ⟨e, -, d2, d3⟩
            rw [d3, sub48] at q1
            exact n9_nI (by omega) q1
      by_cases s0 : by' (x + 3) = 104
      · simp only [s0, ↓reduceIte, ob_some]
        exact tail 0 (by omega) (by rw [s0]; rfl) _ rfl
      by_cases s1' : by' (x + 3) = 99
      · have t0 : ((99 : Int32) = 104) = False := by decide
        simp only [s1', t0, ↓reduceIte, ob_some]
        exact tail 1 (by omega) (by rw [s1']; rfl) _ rfl
      by_cases s2' : by' (x + 3) = 116
      · have t0 : ((116 : Int32) = 104) = False := by decide
        have t1 : ((116 : Int32) = 99) = False := by decide
        simp only [s2', t0, t1, ↓reduceIte, ob_some]
        exact tail 2 (by omega) (by rw [s2']; rfl) _ rfl
      simp only [s0, s1', s2', ↓reduceIte]
      exact Or.inl ⟨x + 3, E, by omega, Or.inr (Or.inr (Or.inl ⟨rfl, a, b, by omega, by omega, hab, by omega, k3, m3, Or.inr ⟨s0, s1', s2'⟩⟩)), rfl, e13, fE⟩
    · simp only [m4, ob_some, w _ (4 * nd + 1) _ (by omega), r _ (4 * nd + 1) _ (by omega), ↓reduceIte]
      exact Or.inl ⟨x + 2, _, by omega, Or.inr (Or.inl ⟨rfl, a, by omega, k1, k3, m1⟩), rfl, by rw [up_cell (by omega), c13], frN_d fC⟩
  · simp only [k4, ob_some, w _ (4 * nd) _ (by omega), r _ (4 * nd) _ (by omega), ↓reduceIte]
    refine Or.inl ⟨x + 1, _, by omega, Or.inl ⟨rfl, ?_⟩, rfl, by rw [up_cell (by omega), a13], frN_d fA⟩
    rcases k1 with k1 | k1 | k1
    · exact Or.inl k1
    · exact Or.inr k1
    · refine Or.inr ?_
      rintro ⟨e, -, d2, d3⟩
      rw [d3, sub48] at k1
      exact n9_nI (by omega) k1
