/-! blushes: the class's search -/
def ftV (dr : Nat → Nat → Int32) (x p : Int32) (i : Nat) : Int32 := if ftB dr x p i = true then dr i 3 else 0
theorem ftS_sum (nd : Nat) (dr : Nat → Nat → Int32) (x p : Int32) : ftS nd dr x p = sumI (ftV dr x p) nd := by
  unfold ftS sumI
  exact fo_congr (e := nd) (fun k s _ => by by_cases h : ftB dr x p k = true <;> simp [ftV, h]) nd 0 0 (by omega)
theorem sumI_0s {f : Nat → Int32} {n : Nat} (h : ∀ i, i < n → f i = 0) : sumI f n = 0 := by
  rw [sumI_congr (g := fun _ => 0) h, sumI_zero]
theorem sumI_over {f g : Nat → Int32} {m : Nat} (h0 : ∀ i, i < m → g i = 0) : ∀ n, m ≤ n → (∀ i, m ≤ i → i < n → f i = g i) → sumI f n = sumI g n + sumI f m := by
  intro n
  induction n with
  | zero =>
    intro hm _
    obtain rfl : m = 0 := by omega
    exact (Int32.add_zero _).symm
  | succ n ih =>
    intro hm hf
    by_cases e : m = n + 1
    · subst e
      rw [sumI_0s h0, Int32.zero_add]
    · rw [sumI_succ, sumI_succ, ih (by omega) (fun i h1 h2 => hf i h1 (by omega)), hf n (by omega) (by omega)]
      grind
theorem tb_nat {k a : Nat} (ha : a < 32) : tb (nI k) a = k.testBit a := by
  unfold tb
  rw [nI_bv, BitVec.getLsbD_ofNat]
  simp [ha]
theorem tb_two {m q v i : Nat} (hv : v < 2 ^ m) (hi : i < 32) : tb (nI (2 ^ m * q + v)) i = if i < m then v.testBit i else q.testBit (i - m) := by
  rw [tb_nat hi, Nat.testBit_two_pow_mul_add _ hv]
theorem dbl1 (m q : Nat) : 2 ^ (m + 1) * q = 2 ^ m * (2 * q) := by rw [Nat.pow_succ, Nat.mul_assoc]
theorem or_two {m q : Nat} (hm : m < 31) : nI (2 ^ (m + 1) * q) ||| (1 <<< (nI m &&& 31)) = nI (2 ^ m * (2 * q + 1)) := by
  refine tb_ext fun a ha => ?_
  rw [tb_or, tb_1 (by omega)]
  have e1 := tb_two (m := m + 1) (q := q) (v := 0) (i := a) (Nat.two_pow_pos _) ha
  have e2 := tb_two (m := m) (q := 2 * q + 1) (v := 0) (i := a) (Nat.two_pow_pos _) ha
  rw [Nat.add_zero] at e1 e2
  rw [e1, e2]
  by_cases c1 : a < m
  · simp [c1, show a < m + 1 by omega, show ¬ m = a by omega]
  · by_cases c2 : a = m
    · subst c2
      simp
    · have : a - m = (a - (m + 1)) + 1 := by omega
      rw [if_neg (by omega), if_neg c1, this, Nat.testBit_succ, show (2 * q + 1) / 2 = q by omega]
      simp [show ¬ m = a by omega]
theorem fo_id {σ : Type} {f : Nat → σ → σ} : ∀ (c a : Nat) (s : σ), (∀ k, a ≤ k → k < a + c → f k s = s) → fo f c a s = s := by
  intro c
  induction c with
  | zero => intro a s _; rfl
  | succ c ih =>
    intro a s h
    show fo f c (a + 1) (f a s) = s
    rw [h a (by omega) (by omega)]
    exact ih (a + 1) s (fun k h1 h2 => h k (by omega) (by omega))
/-- the sum of the drafts of a set in which all are open -/
theorem sum_open {np nd w : Nat} {kn : Nat → Int32} {dr : Nat → Nat → Int32} (hg : GV np nd w kn dr) (x p : Int32) : ∀ m, m ≤ nd → ∃ R : Nat, R ≤ 99 * m ∧ sumI (ftV dr x p) m = nI R := by
  intro m
  induction m with
  | zero => intro _; exact ⟨0, by omega, rfl⟩
  | succ m ih =>
    intro hm
    obtain ⟨R, h1, h2⟩ := ih (by omega)
    obtain ⟨a, b, c, k, v, t, -, -, -, e3, -, -, -, -, -, -, hk, -⟩ := hg.2.2.2.1 m (by omega)
    rw [sumI_succ, h2]
    unfold ftV
    by_cases h : ftB dr x p m = true
    · rw [if_pos h, e3]
      exact ⟨R + k, by omega, nI_add R k⟩
    · rw [if_neg h, Int32.add_zero]
      exact ⟨R, by omega, rfl⟩
theorem ft_over {nd m q v : Nat} {dr : Nat → Nat → Int32} (hnd : nd ≤ 12) (hm : m < nd) (hv : v < 2 ^ m) (p : Int32) : ftS nd dr (nI (2 ^ m * (2 * q + 1) + v)) p = ftS nd dr (nI (2 ^ (m + 1) * q)) p + (sumI (ftV dr (nI (2 ^ m * (2 * q + 1) + v)) p) m + (if dr m 0 = p ∨ dr m 1 = p then dr m 3 else 0)) := by
  have e1 : ∀ i, i < 32 → tb (nI (2 ^ (m + 1) * q)) i = if i < m + 1 then false else q.testBit (i - (m + 1)) := fun i hi => by
    have := tb_two (m := m + 1) (q := q) (v := 0) (i := i) (Nat.two_pow_pos _) hi
    rw [Nat.add_zero, Nat.zero_testBit] at this
    exact this
  rw [ftS_sum, ftS_sum, sumI_over (g := ftV dr (nI (2 ^ (m + 1) * q)) p) (m := m + 1) _ nd (by omega) _, sumI_succ]
  · congr 2
    unfold ftV ftB
    rw [tb_two hv (by omega)]
    rcases Classical.propComplete (dr m 0 = p) with C0 | C0 <;> rcases Classical.propComplete (dr m 1 = p) with C1 | C1 <;> simp [C0, C1]
  · intro i hi
    unfold ftV ftB
    rw [e1 i (by omega), if_pos hi]
    simp
  · intro i h1 h2
    have et : tb (nI (2 ^ m * (2 * q + 1) + v)) i = tb (nI (2 ^ (m + 1) * q)) i := by
      rw [e1 i (by omega), if_neg (by omega), tb_two hv (by omega), if_neg (by omega), show i - m = (i - (m + 1)) + 1 by omega, Nat.testBit_succ, show (2 * q + 1) / 2 = q by omega]
    unfold ftV ftB
    rw [et]
theorem good_lack {np nd w m q v p : Nat} {kn : Nat → Int32} {dr : Nat → Nat → Int32} {row : Nat → Int32} (hg : GV np nd w kn dr) (hm : m < nd) (hv : v < 2 ^ m) (hp : p < np) (ht : dr m 0 = nI p ∨ dr m 1 = nI p) (hl : row p - ftS nd dr (nI (2 ^ (m + 1) * q)) (nI p) < dr m 3) : goodB np nd dr row (nI (2 ^ m * (2 * q + 1) + v)) = false := by
  have hnd := hg.2.2.1
  rcases h : goodB np nd dr row (nI (2 ^ m * (2 * q + 1) + v)) with _ | _
  · rfl
  exfalso
  unfold goodB at h
  simp only [Bool.and_eq_true, allF_iff] at h
  have h2 := h.2 p (by omega) (by omega)
  unfold fitB at h2
  rw [decide_eq_true_eq, ft_over hnd hm hv, if_pos ht] at h2
  obtain ⟨R, r1, r2⟩ := sum_open hg (nI (2 ^ m * (2 * q + 1) + v)) (nI p) m (by omega)
  obtain ⟨a, b, c, k, v, t, -, -, -, e3, -, -, -, -, -, -, hk, -⟩ := hg.2.2.2.1 m hm
  rw [← h2, r2, e3, nI_add] at hl
  rw [show ftS nd dr (nI (2 ^ (m + 1) * q)) (nI p) + nI (R + k) - ftS nd dr (nI (2 ^ (m + 1) * q)) (nI p) = nI (R + k) by grind, nI_ltI (by omega) (by omega)] at hl
  omega
theorem good_open {np nd m q v : Nat} {dr : Nat → Nat → Int32} {row : Nat → Int32} (hnd : nd ≤ 12) (hm : m < nd) (hv : v < 2 ^ m) (ho : dr m 3 ≤ 0) : goodB np nd dr row (nI (2 ^ m * (2 * q + 1) + v)) = false := by
  rcases h : goodB np nd dr row (nI (2 ^ m * (2 * q + 1) + v)) with _ | _
  · rfl
  exfalso
  unfold goodB at h
  simp only [Bool.and_eq_true, allF_iff] at h
  have h2 := h.1 m (by omega) (by omega)
  unfold opnB at h2
  rw [tb_two hv (by omega), if_neg (by omega)] at h2
  simp [ho] at h2
