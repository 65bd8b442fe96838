/-! pure rows: numbers, places, stores, loops -/
theorem lit (n : Nat) : (OfNat.ofNat n : Int32) = nI n := rfl
theorem cl {k : Nat} (h : k < 2 ^ 31) : (nI k).toNatClampNeg = k := nI_clamp h
theorem inb_nI {k n : Nat} (h : k < n) (hn : n ≤ 1000000) : inb (nI k) n = true := by
  have h1 : k < 2 ^ 31 := by omega
  simp only [inb, Bool.and_eq_true, decide_eq_true_eq]
  exact ⟨nI_pos' h1, by rw [nI_clamp h1]; exact h⟩
theorem idx_nI {k n : Nat} (h : k < n) (hn : n ≤ 1000000) : idx (nI k) n = some k := by
  unfold idx
  rw [if_pos (inb_nI h hn), nI_clamp (by omega)]
theorem ln_le (a : Nat) : ln a ≤ 1000000 := by
  by_cases h : a < 115
  · have key : ∀ a, a < 115 → ln a ≤ 1000000 := by decide +kernel
    exact key a h
  · have e1 : ln a = 0 := by simp [ln, List.getD_eq_getElem?_getD, List.getElem?_eq_none (l := lnL) (by simpa [lnL] using Nat.le_of_not_lt h)]
    omega
theorem ard_nI {M : Mem} {a k : Nat} (h : k < ln a) : ard M a (nI k) = some (M a k) := by
  have h1 := ln_le a
  unfold ard
  rw [if_pos (inb_nI h h1), nI_clamp (by omega)]
theorem awr_nI {M : Mem} {a k : Nat} {v : Int32} (h : k < ln a) : awr M a (nI k) v = some (up M a k v) := by
  have h1 := ln_le a
  unfold awr
  rw [if_pos (inb_nI h h1), nI_clamp (by omega)]
theorem rod_nI {a k : Nat} (h : k < ln a) : rod a (nI k) = some (rov a k) := by
  have h1 := ln_le a
  unfold rod
  rw [if_pos (inb_nI h h1), nI_clamp (by omega)]
theorem rb_0 : rb 0 = some 0 := rfl
theorem rb_1 : rb 1 = some 1 := rfl
theorem up_same (M : Mem) (k j : Nat) (v : Int32) : up M k j v k j = v := by simp [up]
theorem up_cell {M : Mem} {k j a : Nat} {v : Int32} (h : a ≠ k) : up M k j v a = M a := by funext b; simp [up, h]
theorem up_ne {M : Mem} {k j a b : Nat} {v : Int32} (h : a ≠ k ∨ b ≠ j) : up M k j v a b = M a b := by
  unfold up
  rw [if_neg]
  rintro ⟨h1, h2⟩
  rcases h with h | h
  · exact h h1
  · exact h h2
theorem up_eqn (M : Mem) (k j a b : Nat) (v : Int32) : up M k j v a b = if a = k ∧ b = j then v else M a b := rfl
theorem i32_lt (a b : Int32) : a < b ↔ a.toInt < b.toInt := Int32.lt_iff_toInt_lt
theorem i32_le (a b : Int32) : a ≤ b ↔ a.toInt ≤ b.toInt := Int32.le_iff_toInt_le
theorem i32_eq (a b : Int32) : a = b ↔ a.toInt = b.toInt := Int32.toInt_inj.symm
theorem i32_lo (a : Int32) : -2147483648 ≤ a.toInt := Int32.le_toInt a
theorem i32_hi (a : Int32) : a.toInt < 2147483648 := Int32.toInt_lt a
theorem tI {n : Nat} (h : n < 2147483648) : (nI n).toInt = (n : Int) := nI_toInt h
theorem nI_inj {a b : Nat} (ha : a < 2147483648) (hb : b < 2147483648) (h : nI a = nI b) : a = b := (nI_eq ha hb).mp h
theorem lg_lt (x y : Int64) : lg_cmp x y < 0 ↔ x < y := by
  unfold lg_cmp
  by_cases h1 : y < x
  · simp [h1]
    exact Int64.le_of_lt h1
  · by_cases h2 : x = y
    · simp [h2]
    · simp [h1, h2]
      rcases Int64.lt_or_eq_of_le (Int64.not_lt.mp h1) with h | h
      · exact h
      · exact absurd h h2
theorem lg_gt (x y : Int64) : 0 < lg_cmp x y ↔ y < x := by
  unfold lg_cmp
  by_cases h1 : y < x
  · simp [h1]
  · by_cases h2 : x = y
    · simp [h2]
    · simp [h1, h2]
theorem i64_lt (a b : Int64) : a < b ↔ a.toInt < b.toInt := Int64.lt_iff_toInt_lt
theorem i64_wide (a : Int32) : a.toInt64.toInt = a.toInt := Int32.toInt_toInt64 a
theorem M_in_eq (F : Nat) (M : Mem) (a b c : Int64) : M_in F M a b c = some (if a < b then 0 else if c < a then 0 else 1) := by
  unfold M_in
  simp only [lg_lt, lg_gt]
  split
  · rfl
  · split <;> rfl
theorem in32 (F : Nat) (M : Mem) (x : Int32) (lo hi : Int64) (h1 : -2147483648 ≤ lo.toInt) : M_in F M x.toInt64 lo hi = some (if x.toInt < lo.toInt then 0 else if hi.toInt < x.toInt then 0 else 1) := by
  rw [M_in_eq]
  simp only [i64_lt, i64_wide]
/-- a loop that counts up: k .. e, each step changes the state -/
def fo {σ : Type} (f : Nat → σ → σ) : Nat → Nat → σ → σ
  | 0, _, s => s
  | c + 1, k, s => fo f c (k + 1) (f k s)
theorem fo_succ {σ : Type} (f : Nat → σ → σ) : ∀ (c k : Nat) (s : σ), fo f (c + 1) k s = f (k + c) (fo f c k s) := by
  intro c
  induction c with
  | zero => intro k s; rfl
  | succ c ih =>
    intro k s
    show fo f (c + 1) (k + 1) (f k s) = _
    rw [ih]
    show f (k + 1 + c) _ = f (k + (c + 1)) (fo f c (k + 1) (f k s))
    rw [show k + 1 + c = k + (c + 1) by omega]
theorem lpF {σ τ : Type} (Wf : Nat → Nat → σ → Option τ) (f : Nat → σ → σ) (g : σ → Option τ) (e : Nat) (hs : ∀ n k s, k < e → Wf (n + 1) k s = Wf n (k + 1) (f k s)) (hx : ∀ n s, Wf (n + 1) e s = g s) : ∀ (c k n : Nat) (s : σ), k + c = e → c < n → Wf n k s = g (fo f c k s) := by
  intro c
  induction c with
  | zero =>
    intro k n s hk hn
    obtain ⟨n, rfl⟩ : ∃ m, n = m + 1 := ⟨n - 1, by omega⟩
    rw [show k = e by omega]
    exact hx n s
  | succ c ih =>
    intro k n s hk hn
    obtain ⟨n, rfl⟩ : ∃ m, n = m + 1 := ⟨n - 1, by omega⟩
    rw [hs n k s (by omega)]
    exact ih (k + 1) n (f k s) (by omega) (by omega)
/-- the same with something that holds all the way -/
theorem lpI {σ τ : Type} (Wf : Nat → Nat → σ → Option τ) (I : Nat → σ → Prop) (f : Nat → σ → σ) (g : σ → Option τ) (e : Nat) (hs : ∀ n k s, k < e → I k s → Wf (n + 1) k s = Wf n (k + 1) (f k s) ∧ I (k + 1) (f k s)) (hx : ∀ n s, I e s → Wf (n + 1) e s = g s) : ∀ (c k n : Nat) (s : σ), k + c = e → c < n → I k s → Wf n k s = g (fo f c k s) ∧ I e (fo f c k s) := by
  intro c
  induction c with
  | zero =>
    intro k n s hk hn hI
    obtain ⟨n, rfl⟩ : ∃ m, n = m + 1 := ⟨n - 1, by omega⟩
    have hke : k = e := by omega
    subst hke
    exact ⟨hx n s hI, hI⟩
  | succ c ih =>
    intro k n s hk hn hI
    obtain ⟨n, rfl⟩ : ∃ m, n = m + 1 := ⟨n - 1, by omega⟩
    obtain ⟨h1, h2⟩ := hs n k s (by omega) hI
    rw [h1]
    exact ih (k + 1) n (f k s) (by omega) (by omega) h2
/-- what a fold keeps -/
theorem fo_inv {σ : Type} (f : Nat → σ → σ) (I : Nat → σ → Prop) (e : Nat) (hs : ∀ k s, k < e → I k s → I (k + 1) (f k s)) : ∀ (c k : Nat) (s : σ), k + c = e → I k s → I e (fo f c k s) := by
  intro c
  induction c with
  | zero => intro k s hk hI; rw [show e = k by omega]; exact hI
  | succ c ih => intro k s hk hI; exact ih (k + 1) (f k s) (by omega) (hs k s (by omega) hI)
theorem fo_congr {σ : Type} {f g : Nat → σ → σ} {e : Nat} (h : ∀ k s, k < e → f k s = g k s) : ∀ (c k : Nat) (s : σ), k + c ≤ e → fo f c k s = fo g c k s := by
  intro c
  induction c with
  | zero => intro k s _; rfl
  | succ c ih =>
    intro k s hk
    show fo f c (k + 1) (f k s) = fo g c (k + 1) (g k s)
    rw [h k s (by omega)]
    exact ih (k + 1) (g k s) (by omega)
/-- the fuel: more than any loop here needs -/
def FB : Nat := 1000000000000000000000000000000
theorem FBL {F : Nat} (h : FB ≤ F) : 1000000 ≤ F := by unfold FB at h; omega
theorem nI_m1 {n : Nat} (h : n < 2147483648) : ¬ nI n = -1 := by
  rw [i32_eq, tI h]
  have : (-1 : Int32).toInt = -1 := rfl
  omega
theorem nI_ge0 {n : Nat} (h : n < 2147483648) : (0 : Int32) ≤ nI n := nI_pos' h
theorem nI_nlt0 {n : Nat} (h : n < 2147483648) : ¬ nI n < 0 := nI_pos h
/-- an int as an index into n places -/
theorem ixc (x : Int32) {n : Nat} (hn : n < 2147483648) : x < 0 ∨ (0 ≤ x ∧ nI n ≤ x) ∨ ∃ j : Nat, j < n ∧ x = nI j := by
  rcases pk_ix x (n := n) (by omega) with h | h | h
  · exact Or.inl h
  · refine Or.inr (Or.inl ⟨?_, h⟩)
    rw [i32_le] at h ⊢
    rw [tI hn] at h
    have : (0 : Int32).toInt = 0 := rfl
    omega
  · exact Or.inr (Or.inr h)
