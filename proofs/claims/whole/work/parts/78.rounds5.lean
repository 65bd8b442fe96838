/-! rounds -/
theorem rr_0 : rrN [] 0 + 1 < FB := by decide
theorem can_M {F L S : Nat} (hF : FB ≤ F) (hL : L ≤ 15) {a : Nat → Nat → Nat} (ha : GA a S) {M : Mem} (hg : GMa a S M) : ∃ N, M_canMeet F M (nI L) = some (if ext L a S [] = true then 1 else 0, N) ∧ ∀ b, b ≠ 114 → N b = M b := by
  have hF' := FBL hF
  have hS := ha.1
  have hF2 : rrN [] 0 + 1 < F := Nat.lt_of_lt_of_le rr_0 hF
  obtain ⟨U, u1, u2, u3⟩ := lpE (fun m k (N : Mem) => L_M_canMeet_4 F (nI L) m N (nI k)) (fun k N => (∀ b, b ≠ 114 → N b = M b) ∧ ∀ j, j < k → N 114 j = -1) (fun N => some N) 16
    (fun m k N hk hI => by
      obtain ⟨i1, i2⟩ := hI
      refine ⟨up N 114 k (-1), ?_, fun b hb => by rw [up_cell hb, i1 b hb], fun j hj => ?_⟩
      · show B_M_canMeet_4 F (nI L) _ N (nI k) = _
        unfold B_M_canMeet_4
        have c1 : ((16 : Int32) ≤ nI k) = False := by rw [show (16 : Int32) = nI 16 from rfl, nI_leI (by omega) (by omega)]; simp; omega
        simp only [c1, ↓reduceIte, awr_nI (M := N) (a := 114) (k := k) (by show k < 16; omega), ob_some, nI_1]
      · by_cases e : j = k
        · subst e
          rw [up_same]
        · rw [up_ne (by omega), i2 j (by omega)])
    (fun m N hI => by
      show B_M_canMeet_4 F (nI L) _ N (nI 16) = _
      unfold B_M_canMeet_4
      rw [if_pos (by decide)])
    16 0 F M (by omega) (by omega) ⟨fun _ _ => rfl, fun j hj => absurd hj (by omega)⟩
  rw [nI_0] at u1
  have gU : GMa a S U := GMa_of hg u2
  by_cases q : S = 0
  · subst q
    refine ⟨U, ?_, u2⟩
    obtain ⟨F, rfl⟩ : ∃ j, F = j + 1 := ⟨F - 1, by omega⟩
    have e : L_M_canMeet_23 (F + 1) (nI L) (F + 1) U 0 = some (0, U) := by
      show B_M_canMeet_23 (F + 1) (nI L) _ U 0 = _
      unfold B_M_canMeet_23
      have d1 : (nI 0 ≤ (0 : Int32)) = True := by decide
      have d0 : ((0 : Int32) < 0) = False := by decide
      simp only [gU.1, d0, d1, ↓reduceIte]
    unfold M_canMeet
    rw [u1, ob_some, e, ob_some]
    show (if (0 : Int32) = U 100 26 then some ((1 : Int32), U) else some (0, U)) = some (if ext L a 0 [] = true then 1 else 0, U)
    rw [gU.1]
    rfl
  · obtain ⟨N, n1, n2⟩ := canL_M hF hL ha (rrN [] 0) F 0 [] U (Nat.le_refl _) hF2 (by omega) (by show 0 < S; omega) (fun x hx => absurd hx (by simp)) ⟨gU, fun k hk => absurd hk (by simp), by show U 114 0 = _; rw [u3 0 (by omega)]; decide, fun j _ hj => u3 j hj⟩
    have er : rst L a S [] 0 = ext L a S [] := by
      show anyN (kdR L a S []) (L - 0) 0 = _
      rw [show S = (S - 1) + 1 by omega]
      rfl
    have n1' : L_M_canMeet_23 F (nI L) F U 0 = some (if ext L a S [] = true then nI S else -1, N) := by rw [← er]; exact n1
    refine ⟨N, ?_, fun b hb => by rw [n2 b hb, u2 b hb]⟩
    unfold M_canMeet
    rw [u1, ob_some, n1', ob_some]
    show (if (if ext L a S [] = true then nI S else -1) = N 100 26 then some ((1 : Int32), N) else some (0, N)) = _
    rw [n2 100 (by omega), gU.1]
    rcases ext L a S [] with _ | _
    · have : ¬ (-1 : Int32) = nI S := fun h => nI_m1 (show S < 2147483648 by omega) h.symm
      simp [this]
    · simp
theorem roundsL_M {F S m : Nat} (hF : FB ≤ F) {a : Nat → Nat → Nat} (ha : GA a S) (hm : m ≤ S) (h1 : ext m a S [] = true) (h0 : ∀ j, j < m → ext j a S [] = false) : ∀ (j x n : Nat) (M : Mem), x + j = m → j < n → GMa a S M → ∃ N, L_M_rounds_6 F n M (nI x) = some (nI m, N) ∧ ∀ b, b ≠ 114 → N b = M b := by
  have hS := ha.1
  intro j
  induction j with
  | zero =>
    intro x n M hx hn hg
    obtain ⟨n, rfl⟩ : ∃ j, n = j + 1 := ⟨n - 1, by omega⟩
    obtain rfl : x = m := by omega
    obtain ⟨N, n1, n2⟩ := can_M hF (show x ≤ 15 by omega) ha hg
    refine ⟨N, ?_, n2⟩
    show B_M_rounds_6 F _ M (nI x) = _
    unfold B_M_rounds_6
    have z10 : ((1 : Int32) = 0) = False := by decide
    simp only [n1, h1, ob_some, ↓reduceIte, z10]
  | succ j ih =>
    intro x n M hx hn hg
    obtain ⟨n, rfl⟩ : ∃ j, n = j + 1 := ⟨n - 1, by omega⟩
    obtain ⟨N, n1, n2⟩ := can_M hF (show x ≤ 15 by omega) ha hg
    obtain ⟨P, p1, p2⟩ := ih (x + 1) n N (by omega) (by omega) (GMa_of hg n2)
    refine ⟨P, ?_, fun b hb => by rw [p2 b hb, n2 b hb]⟩
    show B_M_rounds_6 F _ M (nI x) = _
    unfold B_M_rounds_6
    simp only [n1, h0 x (by omega), ob_some, ↓reduceIte, Bool.false_eq_true, nI_1, p1]
def aOf (l : List (Nat × Nat)) (j k : Nat) : Nat := if j = 0 then (l.getD k (0, 0)).1 else (l.getD k (0, 0)).2
theorem aOf_get {l : List (Nat × Nat)} {k : Nat} (hk : k < l.length) : l[k]? = some (aOf l 0 k, aOf l 1 k) := by
  unfold aOf
  rw [List.getD_eq_getElem?_getD, List.getElem?_eq_getElem hk]
  rfl
theorem op_rounds {F : Nat} (hF : FB ≤ F) (M1 M2 : Mem) (hR : Rel M1 M2) : ∃ (r : Int32) (M1' : Mem) (M2' : Mem), K_rounds F M1 = some (r, M1') ∧ M_rounds F M2 = some (r, M2') ∧ Rel M1' M2' := by
  have hF' := FBL hF
  obtain ⟨np, nd, D, hc⟩ := hR.2.2.2
  obtain ⟨kn, dr, hx, hm, hg, -, -⟩ := hc.views
  obtain ⟨N1, a1, a2, a3, a4⟩ := gather_X hF hx hg.bn
  obtain ⟨N2, b1, b2, b3, b4⟩ := gather_M hF hm hg.bn
  have hi := plist_inv (opB nd dr) np
  have hnp := hg.2.1
  generalize plist (opB nd dr) np = l at a2 a3 b2 hi
  have ha : GA (aOf l) l.length := ⟨a3, fun k hk => by
    have := hi.1 k _ _ (aOf_get hk)
    omega⟩
  have gx : GXa (aOf l) l.length N1 := ⟨a2.1, fun k hk => a2.2 k _ _ (aOf_get hk)⟩
  have gm : GMa (aOf l) l.length N2 := ⟨b2.1, fun k hk => b2.2 k _ _ (aOf_get hk)⟩
  obtain ⟨m, m1, m2, m3⟩ := least_of (P := fun L => ext L (aOf l) l.length []) l.length (ext_all l.length [] (fun z hz => absurd hz (by simp)) (by simp))
  obtain ⟨P1, p1, p2⟩ := fewest_X hF ha m1 m2 m3 gx
  obtain ⟨P2, q1, q2⟩ := roundsL_M hF ha m1 m2 m3 m 0 F N2 (by omega) (by omega) gm
  rw [nI_0] at q1
  refine ⟨nI m, P1, P2, ?_, ?_, ?_⟩
  · simp only [K_rounds, a1, ob_some, p1]
  · simp only [M_rounds, b1, ob_some, q1]
  · refine Rel_scr hR (fun a h0 h => by rw [p2 a (by omega), a4 a (by omega)]) (fun b hb => by rw [p2 0 (by omega), a4 0 (by omega)]) (fun a h h' => by rw [q2 a (by omega), b3 a (by omega) (by omega)]) (fun b hb => by rw [q2 100 (by omega), b4 b (by omega)]) ?_
    rw [p2 0 (by omega), a4 0 (by omega), q2 100 (by omega), b4 7 (by omega)]
    exact hR.1.2.1
