/-! blushes: the class's search, its recursion -/
def lkI (np nd : Nat) (dr : Nat → Nat → Int32) (row : Nat → Int32) (M : Mem) (X : Nat) : Prop := (∀ i, i < nd → tb (nI X) i = true → ¬ dr i 3 ≤ 0) ∧ ∀ p, p < np → M 75 p = row p - ftS nd dr (nI X) (nI p)
theorem lk_leaf {np nd X : Nat} {dr : Nat → Nat → Int32} {row : Nat → Int32} {M : Mem} (h : lkI np nd dr row M X) : goodB np nd dr row (nI X) = allF (zB M) np 0 := by
  have e : allF (opnB dr (nI X)) nd 0 = true := by
    rw [allF_iff]
    intro i _ hi
    unfold opnB
    rcases hb : tb (nI X) i with _ | _
    · rfl
    · simp [h.1 i (by omega) hb]
  unfold goodB
  rw [e, Bool.true_and, Bool.eq_iff_iff, allF_iff, allF_iff]
  constructor
  · intro g i h1 h2
    have := g i h1 h2
    unfold fitB at this
    unfold zB
    rw [decide_eq_true_eq] at this ⊢
    rw [h.2 i (by omega), this]
    grind
  · intro g i h1 h2
    have := g i h1 h2
    unfold zB at this
    unfold fitB
    rw [decide_eq_true_eq] at this ⊢
    rw [h.2 i (by omega)] at this
    grind
theorem choose_X {F np nd w : Nat} (hF : FB ≤ F) {kn : Nat → Int32} {dr : Nat → Nat → Int32} {row : Nat → Int32} (hg : GV np nd w kn dr) : ∀ (m dl : Nat) (M : Mem) (q : Nat), m ≤ nd → m < dl → VX M 23 np nd kn dr → lkI np nd dr row M (2 ^ m * q) → ∃ N, B_choose F dl M 23 (nI m - 1) (nI (2 ^ m * q)) = some N ∧ (N 74 0, N 74 1, N 74 2) = fo (blushF np nd dr row) (2 ^ m) (2 ^ m * q) (M 74 0, M 74 1, M 74 2) ∧ ∀ a, a ≠ 74 → N a = M a := by
  have hnp := hg.2.1
  have hnd := hg.2.2.1
  intro m
  induction m with
  | zero =>
    intro dl M q _ hdl hx hl
    obtain ⟨dl, rfl⟩ : ∃ k, dl = k + 1 := ⟨dl - 1, by omega⟩
    have c : ((nI 0 - 1 : Int32) < 0) = True := by decide
    have lf := lk_leaf hl
    refine ⟨if allF (zB M) np 0 = true then tkX M (nI (2 ^ 0 * q)) else M, ?_, ?_, ?_⟩
    · show Bd_B_choose F _ M 23 (nI 0 - 1) (nI (2 ^ 0 * q)) = _
      unfold Bd_B_choose
      simp only [c, ↓reduceIte, take_X hF hnp hx.2.2.1, ob_some]
    · show _ = blushF np nd dr row (2 ^ 0 * q) _
      unfold blushF
      rw [lf]
      by_cases g : allF (zB M) np 0 = true
      · simp [g, tkX, takeB, up_eqn]
      · simp [g]
    · intro a ha
      split
      · unfold tkX
        rw [up_cell ha, up_cell ha, up_cell ha]
      · rfl
  | succ m ih =>
    intro dl M q hm hdl hx hl
    obtain ⟨dl, rfl⟩ : ∃ k, dl = k + 1 := ⟨dl - 1, by omega⟩
    have e0 := dbl1 m q
    obtain ⟨N1, n1, n2, n3⟩ := ih dl M (2 * q) (by omega) (by omega) hx (by rw [← e0]; exact hl)
    rw [← e0] at n1 n2
    have hx1 : VX N1 23 np nd kn dr := VX_of hx (fun a h1 h2 => n3 a (by omega))
    have hl1 : lkI np nd dr row N1 (2 ^ (m + 1) * q) := ⟨hl.1, fun p hp => by rw [n3 75 (by omega)]; exact hl.2 p hp⟩
    have c1 : (nI m < (0 : Int32)) = False := eq_false (nI_nlt0 (by omega))
    have c2 : (nI m < (12 : Int32)) = True := by
      rw [show (12 : Int32) = nI 12 from rfl, nI_ltI (by omega) (by omega)]; simp; omega
    have x2 : nI (m + 1) - 1 = nI m := by rw [← nI_1]; grind
    have hm' : m < nd := by omega
    have fsp : fo (blushF np nd dr row) (2 ^ (m + 1)) (2 ^ (m + 1) * q) (M 74 0, M 74 1, M 74 2) = fo (blushF np nd dr row) (2 ^ m) (2 ^ m * (2 * q + 1)) (N1 74 0, N1 74 1, N1 74 2) := by
      rw [n2, show 2 ^ (m + 1) = 2 ^ m + 2 ^ m by rw [Nat.pow_succ]; omega, fo_add]
      congr 1
      rw [show 2 ^ m + 2 ^ m = 2 ^ (m + 1) by rw [Nat.pow_succ]; omega, e0, Nat.mul_add, Nat.mul_one]
    have none_ok : (∀ v, v < 2 ^ m → goodB np nd dr row (nI (2 ^ m * (2 * q + 1) + v)) = false) → (N1 74 0, N1 74 1, N1 74 2) = fo (blushF np nd dr row) (2 ^ (m + 1)) (2 ^ (m + 1) * q) (M 74 0, M 74 1, M 74 2) := by
      intro h
      rw [fsp, fo_id]
      intro k h1 h2
      unfold blushF
      have := h (k - 2 ^ m * (2 * q + 1)) (by omega)
      rw [show 2 ^ m * (2 * q + 1) + (k - 2 ^ m * (2 * q + 1)) = k by omega] at this
      rw [this]
      simp
    obtain ⟨a, b, c, k, v, t, d0, d1, -, d3, -, -, ha, hb, hab, -, hk, -⟩ := hg.2.2.2.1 m hm'
    have z : idx (nI m) (ln (23 + 2)) = some m := idx_nI (show m < 12 by omega) (by decide)
    have y0 : N1 (23 + 2 + 1 + m) 0 = nI a := by rw [hx1.2.2.2.2.2.2.2 m hm' 0 (by omega), d0]
    have y1 : N1 (23 + 2 + 1 + m) 1 = nI b := by rw [hx1.2.2.2.2.2.2.2 m hm' 1 (by omega), d1]
    have y3 : N1 (23 + 2 + 1 + m) 3 = dr m 3 := hx1.2.2.2.2.2.2.2 m hm' 3 (by omega)
    have la : a < ln 75 := by show a < 6; omega
    have lb : b < ln 75 := by show b < 6; omega
    have key : B_choose F (dl + 1) M 23 (nI (m + 1) - 1) (nI (2 ^ (m + 1) * q)) = Bd_B_choose F (B_choose F dl) M 23 (nI m) (nI (2 ^ (m + 1) * q)) := by
      rw [x2]
      rfl
    rw [key]
    unfold Bd_B_choose
    simp only [c1, c2, ↓reduceIte, n1, ob_some, z, D_isOpen_eq, i01, y0, y1, y3, ard_nI la, ard_nI lb, awr_nI la, or_two (show m < 31 by omega)]
    by_cases o1 : dr m 3 ≤ 0
    · simp only [o1, ↓reduceIte]
      exact ⟨N1, rfl, none_ok (fun v hv => good_open hnd hm' hv o1), n3⟩
    by_cases o2 : N1 75 a < dr m 3
    · simp only [o1, o2, ↓reduceIte]
      exact ⟨N1, rfl, none_ok (fun v hv => good_lack hg hm' hv ha (Or.inl d0) (by rw [← hl1.2 a ha]; exact o2)), n3⟩
    by_cases o3 : N1 75 b < dr m 3
    · simp only [o1, o2, o3, ↓reduceIte]
      exact ⟨N1, rfl, none_ok (fun v hv => good_lack hg hm' hv hb (Or.inr d1) (by rw [← hl1.2 b hb]; exact o3)), n3⟩
    have w1 : ∀ j v, up N1 75 a v (23 + 2 + 1 + m) j = N1 (23 + 2 + 1 + m) j := fun j v => up_ne (by omega)
    simp only [o1, o2, o3, ↓reduceIte, w1, y0, y1, y3, ard_nI lb, ob_some, awr_nI lb]
    have w2 : ∀ v, up N1 75 a v 75 b = N1 75 b := fun v => up_ne (by omega)
    simp only [w2]
    have hx2 : VX (up (up N1 75 a (N1 75 a - dr m 3)) 75 b (N1 75 b - dr m 3)) 23 np nd kn dr := VX_of hx1 (fun c h1 h2 => by rw [up_cell (by omega), up_cell (by omega)])
    have hl2 : lkI np nd dr row (up (up N1 75 a (N1 75 a - dr m 3)) 75 b (N1 75 b - dr m 3)) (2 ^ m * (2 * q + 1)) := by
      have ft := fun p => ft_over (nd := nd) (dr := dr) (q := q) hnd hm' (Nat.two_pow_pos m) p
      simp only [Nat.add_zero] at ft
      have s0 : ∀ p, sumI (ftV dr (nI (2 ^ m * (2 * q + 1))) p) m = 0 := fun p => sumI_0s (fun i hi => by
        have := tb_two (m := m) (q := 2 * q + 1) (v := 0) (i := i) (Nat.two_pow_pos _) (by omega)
        rw [Nat.add_zero, if_pos hi, Nat.zero_testBit] at this
        unfold ftV ftB
        rw [this]
        simp)
      refine ⟨fun i hi hb => ?_, fun p hp => ?_⟩
      · rw [← or_two (show m < 31 by omega), tb_or, tb_1 (by omega)] at hb
        by_cases e : m = i
        · rw [← e]; exact o1
        · simp [e] at hb
          exact hl.1 i hi hb
      · rw [ft, s0, Int32.zero_add, d0, d1]
        by_cases ea : a = p
        · subst ea
          rw [up_ne (by omega), up_same, hl1.2 _ ha, if_pos (Or.inl rfl)]
          grind
        · by_cases eb : b = p
          · subst eb
            rw [up_same, hl1.2 _ hb, if_pos (Or.inr rfl)]
            grind
          · rw [up_ne (by omega), up_ne (by omega), hl1.2 _ hp, if_neg (by rw [nI_eq (by omega) (by omega), nI_eq (by omega) (by omega)]; omega), Int32.add_zero]
    obtain ⟨N2, m1, m2, m3⟩ := ih dl _ (2 * q + 1) (by omega) (by omega) hx2 hl2
    have hx3 : VX N2 23 np nd kn dr := VX_of hx2 (fun a h1 h2 => m3 a (by omega))
    have v0 : N2 (23 + 2 + 1 + m) 0 = nI a := by rw [hx3.2.2.2.2.2.2.2 m hm' 0 (by omega), d0]
    have v1 : N2 (23 + 2 + 1 + m) 1 = nI b := by rw [hx3.2.2.2.2.2.2.2 m hm' 1 (by omega), d1]
    have r1 : ∀ j v, up N2 75 a v (23 + 2 + 1 + m) j = N2 (23 + 2 + 1 + m) j := fun j v => up_ne (by omega)
    have r2 : ∀ v, up N2 75 a v 75 b = N2 75 b := fun v => up_ne (by omega)
    simp only [m1, ob_some, v0, v1, r1, r2, ard_nI la, ard_nI lb, awr_nI la, awr_nI lb]
    refine ⟨_, rfl, ?_, ?_⟩
    · rw [fsp, up_cell (by omega), up_cell (by omega), m2, up_cell (by omega), up_cell (by omega)]
    · intro c hc
      by_cases e : c = 75
      · subst e
        rw [← n3 75 (by omega), m3 75 (by omega)]
        funext y
        simp only [up_eqn]
        by_cases e1 : y = b
        · subst e1
          have : ¬ y = a := by omega
          simp [this]
        · by_cases e2 : y = a
          · subst e2
            simp [e1]
          · simp [e1, e2, m3 75 (by omega), up_eqn]
      · rw [up_cell e, up_cell e, m3 c hc, up_cell e, up_cell e, n3 c hc]
