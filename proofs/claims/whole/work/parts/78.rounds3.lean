/-! rounds: the class's answer -/
theorem dgN_le (a : Nat → Nat → Nat) (p : Nat) : ∀ k, dgN a p k ≤ k := by
  intro k
  induction k with
  | zero => exact Nat.le_refl _
  | succ k ih => unfold dgN; split <;> omega
theorem deg_X {F S p : Nat} (hF : FB ≤ F) {a : Nat → Nat → Nat} (ha : GA a S) {M : Mem} (hg : GXa a S M) (hp : p < 6) (x1 : Int32) : L_O_mostOfOne_15 F M x1 (nI p) F 0 0 = some (nI (dgN a p S)) := by
  have hF' := FBL hF
  have hS := ha.1
  obtain ⟨s', n1, n2⟩ := lpE (fun m k (s : Int32) => L_O_mostOfOne_15 F M x1 (nI p) m s (nI k)) (fun k s => s = nI (dgN a p k)) (fun s => some s) S
    (fun m k s hk hI => by
      subst hI
      refine ⟨nI (dgN a p (k + 1)), ?_, rfl⟩
      show B_O_mostOfOne_15 F M x1 (nI p) _ _ (nI k) = _
      unfold B_O_mostOfOne_15
      obtain ⟨h0, h1, -⟩ := ha.2 k hk
      obtain ⟨g1, g2⟩ := hg.2 k hk
      have c1 : (nI S ≤ nI k) = False := by rw [nI_leI (by omega) (by omega)]; simp; omega
      simp only [hg.1, c1, ↓reduceIte, ard_nI (M := M) (a := 71) (k := k) (by show _ < 15; omega), ard_nI (M := M) (a := 72) (k := k) (by show _ < 15; omega), g1, g2, ob_some, nI_eq (show a 0 k < 2 ^ 31 by omega) (show p < 2 ^ 31 by omega), nI_eq (show a 1 k < 2 ^ 31 by omega) (show p < 2 ^ 31 by omega), nI_1, Int32.add_zero, dgN, inPr]
      by_cases q0 : a 0 k = p
      · simp [q0]
      · by_cases q1 : a 1 k = p
        · simp [q0, q1]
        · simp [q0, q1])
    (fun m s hI => by
      show B_O_mostOfOne_15 F M x1 (nI p) _ s (nI S) = _
      unfold B_O_mostOfOne_15
      rw [hg.1, if_pos (by rw [nI_leI (by omega) (by omega)]; omega)])
    S 0 F 0 (by omega) (by omega) rfl
  rw [nI_0] at n1
  rw [n1, n2]
def mxN (a : Nat → Nat → Nat) (S : Nat) : Nat → Nat
  | 0 => 0
  | p + 1 => if mxN a S p < dgN a p S then dgN a p S else mxN a S p
theorem mxN_le {a : Nat → Nat → Nat} {S L : Nat} (h : ∀ p, dgN a p S ≤ L) : ∀ p, mxN a S p ≤ L := by
  intro p
  induction p with
  | zero => exact Nat.zero_le _
  | succ p ih =>
    have := h p
    unfold mxN
    split <;> omega
theorem most_X {F S : Nat} (hF : FB ≤ F) {a : Nat → Nat → Nat} (ha : GA a S) {M : Mem} (hg : GXa a S M) : O_mostOfOne F M = some (nI (mxN a S 6)) := by
  have hF' := FBL hF
  have hS := ha.1
  obtain ⟨s', n1, n2⟩ := lpE (fun m p (s : Int32) => L_O_mostOfOne_4 F M m s (nI p)) (fun p s => s = nI (mxN a S p)) (fun s => some s) 6
    (fun m p s hp hI => by
      subst hI
      refine ⟨nI (mxN a S (p + 1)), ?_, rfl⟩
      show B_O_mostOfOne_4 F M _ _ (nI p) = _
      unfold B_O_mostOfOne_4
      have c1 : ((6 : Int32) ≤ nI p) = False := by rw [show (6 : Int32) = nI 6 from rfl, nI_leI (by omega) (by omega)]; simp; omega
      have b1 := dgN_le a p S
      have b2 := mxN_le (a := a) (S := S) (L := S) (fun p => dgN_le a p S) p
      simp only [c1, ↓reduceIte, deg_X hF ha hg hp, ob_some, nI_1, nI_ltI (show mxN a S p < 2 ^ 31 by omega) (show dgN a p S < 2 ^ 31 by omega), mxN]
      by_cases q : mxN a S p < dgN a p S
      · rw [if_pos q, if_pos q]
      · rw [if_neg q, if_neg q])
    (fun m s hI => by
      show B_O_mostOfOne_4 F M _ s (nI 6) = _
      unfold B_O_mostOfOne_4
      rw [if_pos (by decide)])
    6 0 F 0 (by omega) (by omega) rfl
  rw [nI_0] at n1
  unfold O_mostOfOne
  rw [n1, ob_some, n2]
theorem free_X {F : Nat} (hF : FB ≤ F) (x : Int32) (M : Mem) : ∃ N, L_O_fewest_15 F x F M 0 = some N ∧ (∀ a, a ≠ 73 → N a = M a) ∧ ∀ p, p < 6 → N 73 p = 0 := by
  have hF' := FBL hF
  obtain ⟨N, n1, n2, n3⟩ := lpE (fun m k (N : Mem) => L_O_fewest_15 F x m N (nI k)) (fun k N => (∀ a, a ≠ 73 → N a = M a) ∧ ∀ p, p < k → N 73 p = 0) (fun N => some N) 6
    (fun m k N hk hI => by
      obtain ⟨i1, i2⟩ := hI
      refine ⟨up N 73 k 0, ?_, fun a ha => by rw [up_cell ha, i1 a ha], fun p hp => ?_⟩
      · show B_O_fewest_15 F x _ N (nI k) = _
        unfold B_O_fewest_15
        have c1 : ((6 : Int32) ≤ nI k) = False := by rw [show (6 : Int32) = nI 6 from rfl, nI_leI (by omega) (by omega)]; simp; omega
        simp only [c1, ↓reduceIte, awr_nI (M := N) (a := 73) (k := k) (by show k < 6; omega), ob_some, nI_1]
      · by_cases e : p = k
        · subst e
          rw [up_same]
        · rw [up_ne (by omega), i2 p (by omega)])
    (fun m N hI => by
      show B_O_fewest_15 F x _ N (nI 6) = _
      unfold B_O_fewest_15
      rw [if_pos (by decide)])
    6 0 F M (by omega) (by omega) ⟨fun _ _ => rfl, fun p hp => absurd hp (by omega)⟩
  rw [nI_0] at n1
  exact ⟨N, n1, n2, n3⟩
theorem fewL_X {F S m : Nat} (hF : FB ≤ F) {a : Nat → Nat → Nat} (ha : GA a S) (hm : m ≤ S) (h1 : ext m a S [] = true) (h0 : ∀ j, j < m → ext j a S [] = false) : ∀ (j x n : Nat) (M : Mem), x + j = m → j < n → GXa a S M → ∃ N, ((L_O_fewest_5 F n M (nI x)).bind fun u8 => Sum.elim (fun r9 => some r9) (fun w10 => some ((w10 70 0), w10)) u8) = some (nI m, N) ∧ ∀ b, b ≠ 73 → N b = M b := by
  have hF' := FBL hF
  have hS := ha.1
  have try1 : ∀ (x : Nat) (M : Mem), x < S → GXa a S M → ∃ U N, L_O_fewest_15 F (nI x) F M 0 = some U ∧ O_fit F 17 U 0 (nI x) 0 = some (if ext x a S [] = true then 1 else 0, N) ∧ (∀ b, b ≠ 73 → N b = M b) := by
    intro x M hx hg
    obtain ⟨U, u1, u2, u3⟩ := free_X hF (nI x) M
    have hz : BZ a U [] := fun p hp r hr => by rw [u3 p hp]; exact tb_0 r
    obtain ⟨N, n1, n2, -⟩ := fit_X hF (show x ≤ 15 by omega) ha S 17 0 [] U (by simp) (by omega) (by omega) (GXa_of hg u2) hz
    rw [fit_ext S [] 0 (fun z hz => absurd hz (by simp))] at n1
    exact ⟨U, N, u1, n1, fun b hb => by rw [n2 b hb, u2 b hb]⟩
  intro j
  induction j with
  | zero =>
    intro x n M hx hn hg
    obtain ⟨n, rfl⟩ : ∃ j, n = j + 1 := ⟨n - 1, by omega⟩
    obtain rfl : x = m := by omega
    show ∃ N, ((B_O_fewest_5 F _ M (nI x)).bind _) = _ ∧ _
    unfold B_O_fewest_5
    by_cases q : S ≤ x
    · have c1 : (nI S ≤ nI x) = True := by rw [nI_leI (by omega) (by omega)]; simp; omega
      simp only [hg.1, c1, ↓reduceIte, ob_some, Sum.elim_inr]
      exact ⟨M, by rw [show S = x by omega], fun _ _ => rfl⟩
    · have c1 : (nI S ≤ nI x) = False := by rw [nI_leI (by omega) (by omega)]; simp; omega
      obtain ⟨U, N, t1, t2, t3⟩ := try1 x M (by omega) hg
      have z10 : ((1 : Int32) = 0) = False := by decide
      simp only [hg.1, c1, ↓reduceIte, t1, t2, h1, ob_some, z10, Sum.elim_inl]
      exact ⟨N, rfl, t3⟩
  | succ j ih =>
    intro x n M hx hn hg
    obtain ⟨n, rfl⟩ : ∃ j, n = j + 1 := ⟨n - 1, by omega⟩
    have c1 : (nI S ≤ nI x) = False := by rw [nI_leI (by omega) (by omega)]; simp; omega
    obtain ⟨U, N, t1, t2, t3⟩ := try1 x M (by omega) hg
    obtain ⟨P, p1, p2⟩ := ih (x + 1) n N (by omega) (by omega) (GXa_of hg t3)
    refine ⟨P, ?_, fun b hb => by rw [p2 b hb, t3 b hb]⟩
    rw [← p1]
    show ((B_O_fewest_5 F _ M (nI x)).bind _) = _
    unfold B_O_fewest_5
    simp only [hg.1, c1, ↓reduceIte, t1, t2, h0 x (by omega), ob_some, nI_1, Bool.false_eq_true]
theorem fewest_X {F S m : Nat} (hF : FB ≤ F) {a : Nat → Nat → Nat} (ha : GA a S) (hm : m ≤ S) (h1 : ext m a S [] = true) (h0 : ∀ j, j < m → ext j a S [] = false) {M : Mem} (hg : GXa a S M) : ∃ N, O_fewest F M = some (nI m, N) ∧ ∀ b, b ≠ 73 → N b = M b := by
  have hF' := FBL hF
  have hS := ha.1
  have hd := mxN_le (a := a) (S := S) (L := m) (fun p => deg_le h1 p) 6
  obtain ⟨N, n1, n2⟩ := fewL_X hF ha hm h1 h0 (m - mxN a S 6) (mxN a S 6) F M (by omega) (by omega) hg
  refine ⟨N, ?_, n2⟩
  unfold O_fewest
  rw [most_X hF ha hg, ob_some]
  exact n1
