/-! rounds: the class -/
def GA (a : Nat → Nat → Nat) (S : Nat) : Prop := S ≤ 15 ∧ ∀ k, k < S → a 0 k < 6 ∧ a 1 k < 6 ∧ a 0 k ≠ a 1 k
def GXa (a : Nat → Nat → Nat) (S : Nat) (M : Mem) : Prop := M 70 0 = nI S ∧ ∀ k, k < S → M 71 k = nI (a 0 k) ∧ M 72 k = nI (a 1 k)
theorem GXa_of {a : Nat → Nat → Nat} {S : Nat} {M N : Mem} (h : GXa a S M) (e : ∀ b, b ≠ 73 → N b = M b) : GXa a S N := ⟨by rw [e 70 (by omega)]; exact h.1, fun k hk => by rw [e 71 (by omega), e 72 (by omega)]; exact h.2 k hk⟩
def BZ (a : Nat → Nat → Nat) (M : Mem) (c : List Nat) : Prop := ∀ p, p < 6 → ∀ r, r < 31 → tb (M 73 p) r = usd a c p r
theorem or_back {x : Int32} {r : Nat} (hr : r < 31) (h : tb x r = false) : (x ||| (1 <<< (nI r &&& 31))) &&& ((1 <<< (nI r &&& 31)) ^^^ (-1)) = x := by
  refine tb_ext fun b hb => ?_
  rw [tb_and, tb_or, tb_xor, tb_1 hr, tb_m1 hb]
  by_cases e : r = b
  · subst e
    simp [h]
  · simp [e]
theorem fit_X {F L S : Nat} (hF : FB ≤ F) (hL : L ≤ 15) {a : Nat → Nat → Nat} (ha : GA a S) : ∀ (n dl u : Nat) (c : List Nat) (M : Mem), n + c.length = S → n < dl → u ≤ 15 → GXa a S M → BZ a M c → ∃ N, O_fit F dl M (nI c.length) (nI L) (nI u) = some (if fitS L a n c u = true then 1 else 0, N) ∧ (∀ b, b ≠ 73 → N b = M b) ∧ (fitS L a n c u = false → N = M) := by
  have hF' := FBL hF
  have hS := ha.1
  intro n
  induction n with
  | zero =>
    intro dl u c M hn hd hu hg hz
    obtain ⟨dl, rfl⟩ : ∃ j, dl = j + 1 := ⟨dl - 1, by omega⟩
    refine ⟨M, ?_, fun _ _ => rfl, fun _ => rfl⟩
    show Bd_O_fit F _ M (nI c.length) (nI L) (nI u) = _
    unfold Bd_O_fit
    have c1 : (nI c.length < (0 : Int32)) = False := eq_false (nI_nlt0 (by omega))
    have c2 : (nI c.length < nI S) = False := by rw [nI_ltI (by omega) (by omega)]; simp; omega
    simp only [c1, c2, hg.1, ↓reduceIte, fitS]
  | succ n ih =>
    intro dl u c M hn hd hu hg hz
    obtain ⟨dl, rfl⟩ : ∃ j, dl = j + 1 := ⟨dl - 1, by omega⟩
    have hk : c.length < S := by omega
    obtain ⟨hp, hq, hpq⟩ := ha.2 _ hk
    obtain ⟨g1, g2⟩ := hg.2 _ hk
    generalize hP : (fun r => decide (r ≤ u) && (okc a c r && fitS L a n (r :: c) (if u < r + 1 then r + 1 else u))) = P
    have loop : ∀ (j r m : Nat), r + j = L → j < m → ∃ N, L_O_fit_33 F (O_fit F dl) (nI c.length) (nI L) (nI u) (nI (a 0 c.length)) (nI (a 1 c.length)) m M (nI r) = some (if anyN P (L - r) r = true then .inl (1, N) else .inr M) ∧ ∀ b, b ≠ 73 → N b = M b := by
      intro j
      induction j with
      | zero =>
        intro r m hr hm
        obtain ⟨m, rfl⟩ : ∃ j, m = j + 1 := ⟨m - 1, by omega⟩
        refine ⟨M, ?_, fun _ _ => rfl⟩
        show B_O_fit_33 F (O_fit F dl) _ _ _ _ _ _ M (nI r) = _
        unfold B_O_fit_33
        rw [if_pos (by rw [nI_leI (by omega) (by omega)]; omega), anyN_end (by omega)]
        rfl
      | succ j ihj =>
        intro r m hr hm
        obtain ⟨m, rfl⟩ : ∃ j, m = j + 1 := ⟨m - 1, by omega⟩
        have c1 : (nI L ≤ nI r) = False := by rw [nI_leI (by omega) (by omega)]; simp; omega
        have c2 : (nI u < nI r) = (u < r) := by rw [nI_ltI (by omega) (by omega)]
        have bt : ((M 73 (a 0 c.length) ||| M 73 (a 1 c.length)) &&& (1 <<< (nI r &&& 31)) = 0) = (okc a c r = true) := by
          rw [and_bit' (show r < 31 by omega), tb_or, hz _ hp r (by omega), hz _ hq r (by omega)]
          unfold okc
          rw [Bool.not_eq_true']
        have lp : ard M 73 (nI (a 0 c.length)) = some (M 73 (a 0 c.length)) := ard_nI hp
        have lq : ard M 73 (nI (a 1 c.length)) = some (M 73 (a 1 c.length)) := ard_nI hq
        obtain ⟨N, i1, i2⟩ := ihj (r + 1) m (by omega) (by omega)
        rw [anyN_step (by omega)]
        show ∃ N, B_O_fit_33 F (O_fit F dl) _ _ _ _ _ _ M (nI r) = _ ∧ _
        unfold B_O_fit_33
        simp only [c1, c2, ↓reduceIte, lp, lq, ob_some, bt]
        by_cases q1 : u < r
        · have : (P r || anyN P (L - (r + 1)) (r + 1)) = false := by
            rcases hb : (P r || anyN P (L - (r + 1)) (r + 1)) with _ | _
            · rfl
            · exfalso
              rw [← anyN_step (by omega), anyN_iff] at hb
              obtain ⟨i, h1, h2, h3⟩ := hb
              rw [← hP, Bool.and_eq_true, decide_eq_true_eq] at h3
              omega
          rw [if_pos q1, this]
          exact ⟨M, rfl, fun _ _ => rfl⟩
        by_cases q2 : okc a c r = true
        · have hor := fun x (h : tb x r = false) => or_back (x := x) (show r < 31 by omega) h
          have hok := q2
          unfold okc at hok
          rw [Bool.not_eq_true', Bool.or_eq_false_iff, ← hz _ hp r (by omega), ← hz _ hq r (by omega)] at hok
          generalize hB : ((1 : Int32) <<< (nI r &&& 31)) = bit at *
          generalize hW : up (up M 73 (a 0 c.length) (M 73 (a 0 c.length) ||| bit)) 73 (a 1 c.length) (M 73 (a 1 c.length) ||| bit) = W
          have w1 : ∀ v, up M 73 (a 0 c.length) v 73 (a 1 c.length) = M 73 (a 1 c.length) := fun v => up_ne (by omega)
          have lp1 : awr M 73 (nI (a 0 c.length)) (M 73 (a 0 c.length) ||| bit) = some (up M 73 (a 0 c.length) (M 73 (a 0 c.length) ||| bit)) := awr_nI hp
          have lq1 : ard (up M 73 (a 0 c.length) (M 73 (a 0 c.length) ||| bit)) 73 (nI (a 1 c.length)) = some (M 73 (a 1 c.length)) := by rw [ard_nI hq, w1]
          have lq2 : awr (up M 73 (a 0 c.length) (M 73 (a 0 c.length) ||| bit)) 73 (nI (a 1 c.length)) (M 73 (a 1 c.length) ||| bit) = some W := by rw [awr_nI hq, hW]
          have eu : (if nI u < nI (r + 1) then nI (r + 1) else nI u) = nI (if u < r + 1 then r + 1 else u) := by
            simp only [nI_ltI (show u < 2 ^ 31 by omega) (show r + 1 < 2 ^ 31 by omega)]
            split <;> rfl
          have wf : ∀ b, b ≠ 73 → W b = M b := fun b hb => by rw [← hW, up_cell hb, up_cell hb]
          have wp : W 73 (a 0 c.length) = M 73 (a 0 c.length) ||| bit := by rw [← hW, up_ne (by omega), up_same]
          have wq : W 73 (a 1 c.length) = M 73 (a 1 c.length) ||| bit := by rw [← hW, up_same]
          have wo : ∀ p, p ≠ a 0 c.length → p ≠ a 1 c.length → W 73 p = M 73 p := fun p h1 h2 => by rw [← hW, up_ne (by omega), up_ne (by omega)]
          have hzW : BZ a W (r :: c) := by
            intro p hp6 r' hr'
            show _ = ((decide (r = r') && inPr a c.length p) || usd a c p r')
            have tbit : tb bit r' = decide (r = r') := by rw [← hB]; exact tb_1 (by omega)
            by_cases e0 : p = a 0 c.length
            · have : inPr a c.length p = true := by unfold inPr; simp [e0]
              rw [this, e0, wp, tb_or, hz _ hp r' hr', tbit, Bool.and_true, Bool.or_comm]
            · by_cases e1 : p = a 1 c.length
              · have : inPr a c.length p = true := by unfold inPr; simp [e1]
                rw [this, e1, wq, tb_or, hz _ hq r' hr', tbit, Bool.and_true, Bool.or_comm]
              · have : inPr a c.length p = false := by unfold inPr; simp [Ne.symm e0, Ne.symm e1]
                rw [this, wo p e0 e1, hz _ hp6 r' hr', Bool.and_false, Bool.false_or]
          obtain ⟨N1, n1, n2, n3⟩ := ih dl (if u < r + 1 then r + 1 else u) (r :: c) W (by rw [List.length_cons]; omega) (by omega) (by split <;> omega) (GXa_of hg wf) hzW
          rw [List.length_cons] at n1
          simp only [q1, q2, ↓reduceIte, lp1, lq1, lq2, ob_some, nI_1, eu, n1, i10c]
          have hPr : P r = fitS L a n (r :: c) (if u < r + 1 then r + 1 else u) := by
            rw [← hP]
            simp [show r ≤ u by omega, q2]
          rw [hPr]
          rcases hf : fitS L a n (r :: c) (if u < r + 1 then r + 1 else u) with _ | _
          · have eN := n3 hf
            subst eN
            have b1 : ard N1 73 (nI (a 0 c.length)) = some (M 73 (a 0 c.length) ||| bit) := by rw [ard_nI hp, wp]
            have b2 : awr N1 73 (nI (a 0 c.length)) (M 73 (a 0 c.length)) = some (up N1 73 (a 0 c.length) (M 73 (a 0 c.length))) := awr_nI hp
            have b3 : ard (up N1 73 (a 0 c.length) (M 73 (a 0 c.length))) 73 (nI (a 1 c.length)) = some (M 73 (a 1 c.length) ||| bit) := by rw [ard_nI hq, up_ne (by omega), wq]
            have b4 : awr (up N1 73 (a 0 c.length) (M 73 (a 0 c.length))) 73 (nI (a 1 c.length)) (M 73 (a 1 c.length)) = some M := by
              rw [awr_nI hq]
              congr 1
              funext x y
              simp only [up_eqn]
              by_cases e : x = 73
              · subst e
                by_cases e1 : y = a 1 c.length
                · subst e1; simp
                · by_cases e0 : y = a 0 c.length
                  · subst e0; simp [e1]
                  · simp [e0, e1, wo y e0 e1]
              · simp [e, wf x e]
            simp only [↓reduceIte, Bool.false_eq_true, not_false_eq_true, b1, b2, b3, b4, ob_some, hor _ hok.1, hor _ hok.2, Bool.false_or]
            exact ⟨N, i1, i2⟩
          · refine ⟨N1, ?_, fun b hb => by rw [n2 b hb, wf b hb]⟩
            simp only [↓reduceIte, not_true_eq_false, Bool.true_or]
        · have hPr : P r = false := by
            rw [← hP]
            have : okc a c r = false := by simpa using q2
            simp [this]
          simp only [q1, q2, ↓reduceIte, nI_1, hPr, Bool.false_or]
          exact ⟨N, i1, i2⟩
    obtain ⟨N, l1, l2⟩ := loop L 0 F (by omega) (by omega)
    rw [nI_0, Nat.sub_zero] at l1
    have hf : fitS L a (n + 1) c u = anyN P L 0 := by rw [← hP]; rfl
    have c1 : (nI c.length < (0 : Int32)) = False := eq_false (nI_nlt0 (by omega))
    have c2 : (nI c.length < nI S) = True := by rw [nI_ltI (by omega) (by omega)]; simp; omega
    rw [hf]
    show ∃ N, Bd_O_fit F _ M (nI c.length) (nI L) (nI u) = _ ∧ _
    unfold Bd_O_fit
    simp only [c1, c2, hg.1, ↓reduceIte, ard_nI (M := M) (a := 71) (k := c.length) (by show _ < 15; omega), ard_nI (M := M) (a := 72) (k := c.length) (by show _ < 15; omega), g1, g2, ob_some, l1]
    rcases hb : anyN P L 0 with _ | _
    · exact ⟨M, rfl, fun _ _ => rfl, fun _ => rfl⟩
    · exact ⟨N, rfl, l2, fun h => absurd h (by decide)⟩
