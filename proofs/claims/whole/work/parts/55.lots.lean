/-! lots -/
def nL (n : Nat) : Int64 := Int64.ofNat n
theorem nL_toInt {n : Nat} (h : n < 2 ^ 63) : (nL n).toInt = (n : Int) := Int64.toInt_ofNat_of_lt h
theorem nL_mul (a b : Nat) : nL a * nL b = nL (a * b) := (Int64.ofNat_mul a b).symm
theorem nL_add (a b : Nat) : nL a + nL b = nL (a + b) := (Int64.ofNat_add a b).symm
theorem nL_div {a d : Nat} (ha : a < 2 ^ 63) (hd : d < 2 ^ 63) : nL a / nL d = nL (a / d) := by
  apply Int64.toInt_inj.mp
  have h1 : a / d ≤ a := Nat.div_le_self a d
  have e : ((a : Int).tdiv (d : Int)) = ((a / d : Nat) : Int) := rfl
  rw [Int64.toInt_div, nL_toInt ha, nL_toInt hd, nL_toInt (by omega), e]
  have h0 : (0 : Int) ≤ ((a / d : Nat) : Int) := Int.natCast_nonneg _
  have h2 : ((a / d : Nat) : Int) ≤ (a : Int) := Int.ofNat_le.mpr h1
  generalize ((a / d : Nat) : Int) = z at h0 h2 ⊢
  exact nI_bmod (by omega) (by omega)
theorem nL_sub {a b : Nat} (h : b ≤ a) : nL a - nL b = nL (a - b) := by
  have e : nL (a - b) + nL b = nL a := by rw [nL_add]; congr 1; omega
  rw [← e]
  grind
theorem nL_ne0 {d : Nat} (h0 : 0 < d) (hd : d < 2 ^ 63) : ¬ nL d = 0 := fun e => by
  have := congrArg Int64.toInt e
  rw [nL_toInt hd] at this
  have z : (0 : Int64).toInt = 0 := rfl
  omega
theorem rml_nL {a d : Nat} (ha : a < 2 ^ 63) (h0 : 0 < d) (hd : d < 2 ^ 63) : rml (nL a) (nL d) = some (nL (a % d)) := by
  unfold rml
  rw [if_neg (nL_ne0 h0 hd), nL_div ha hd, nL_mul, nL_sub (Nat.div_mul_le_self a d)]
  have := Nat.div_add_mod' a d
  congr 2
  omega
theorem dvl_nL {a d : Nat} (ha : a < 2 ^ 63) (h0 : 0 < d) (hd : d < 2 ^ 63) : dvl (nL a) (nL d) = some (nL (a / d)) := by
  unfold dvl
  rw [if_neg (nL_ne0 h0 hd), nL_div ha hd]
theorem nI_64 {n : Nat} (h : n < 2 ^ 31) : (nI n).toInt64 = nL n := by
  apply Int64.toInt_inj.mp
  rw [i64_wide, tI (by omega), nL_toInt (by omega)]
theorem nL_32 {n : Nat} (h : n < 2 ^ 31) : (nL n).toInt32 = nI n := by
  rw [← nI_64 h]
  exact Int32.toInt32_toInt64 _
theorem rmi_nI {a d : Nat} (ha : a < 2 ^ 31) (h0 : 0 < d) (hd : d < 2 ^ 31) : rmi (nI a) (nI d) = some (nI (a % d)) := by
  unfold rmi
  rw [if_neg (fun e => by have := nI_inj (a := d) (b := 0) (by omega) (by omega) e; omega), pk_rem ha h0 hd]
theorem other_ne {p r n : Nat} (hp : p < n) (hr : r < n - 1) : (p + 1 + r) % n ≠ p := by
  rcases Nat.lt_or_ge (p + 1 + r) n with h | h
  · rw [Nat.mod_eq_of_lt h]; omega
  · rw [Nat.mod_eq_sub_mod h, Nat.mod_eq_of_lt (by omega)]; omega
theorem lots_loop {F : Nat} (hF : FB ≤ F) {np nd n : Nat} (h2 : 2 ≤ np) (hnp : np ≤ 6) (hn : n ≤ 20) : ∀ (c j f D s : Nat) (x : Int32) (M1 M2 : Mem), j + c = n → c < f → D + c ≤ 40 → s < 2147483647 → RelC M1 M2 np nd D → ∃ r P1 P2, L_K_lots_67 F (nI n) (nI np) f M1 (nL s) x (nI j) = some (r, P1) ∧ L_M_lots_61 F (nI n) f M2 (nL s) x (nI j) = some (r, P2) ∧ RelC P1 P2 np nd (D + c) ∧ (∀ a, a < 23 ∨ 65 < a → P1 a = M1 a) ∧ ∀ a, a ≠ 101 → P2 a = M2 a := by
  intro c
  induction c with
  | zero =>
    intro j f D s x M1 M2 hj hf hD hs hc
    obtain ⟨f, rfl⟩ : ∃ m, f = m + 1 := ⟨f - 1, by omega⟩
    refine ⟨x, M1, M2, ?_, ?_, hc, fun _ _ => rfl, fun _ _ => rfl⟩
    · show B_K_lots_67 F (nI n) (nI np) _ M1 (nL s) x (nI j) = _
      unfold B_K_lots_67
      rw [if_pos (by rw [nI_leI (by omega) (by omega)]; omega)]
    · show B_M_lots_61 F (nI n) _ M2 (nL s) x (nI j) = _
      unfold B_M_lots_61
      rw [if_pos (by rw [nI_leI (by omega) (by omega)]; omega)]
  | succ c ih =>
    intro j f D s x M1 M2 hj hf hD hs hc
    obtain ⟨f, rfl⟩ : ∃ m, f = m + 1 := ⟨f - 1, by omega⟩
    have hs' : s * 48271 % 2147483647 < 2147483647 := Nat.mod_lt _ (by omega)
    obtain ⟨t, ht⟩ : ∃ t, t = s * 48271 % 2147483647 := ⟨_, rfl⟩
    rw [← ht] at hs'
    have hp : t % np < np := Nat.mod_lt _ (by omega)
    have hr : t / 32 % (np - 1) < np - 1 := Nat.mod_lt _ (by omega)
    have hq : (t % np + 1 + t / 32 % (np - 1)) % np < np := Nat.mod_lt _ (by omega)
    have hpq := other_ne hp hr
    obtain ⟨N1, Q1, r, P2, x0, b1, q1, d1, -, -, g1, g2, core⟩ := meet_core hF hc (by omega) hp hq (fun e => hpq e.symm)
    obtain ⟨P1, r1, r2, r3⟩ := core Q1 (fun _ _ _ => rfl)
    obtain ⟨r', P1', P2', k1, k2, k3, k4, k5⟩ := ih (j + 1) f (D + 1) t (x + r) P1 P2 (by omega) (by omega) (by omega) hs' r3
    have hcj : (nI n ≤ nI j) = False := by rw [nI_leI (by omega) (by omega)]; simp; omega
    have e1 : rml (48271 * nL s) 2147483647 = some (nL t) := by
      have := rml_nL (a := 48271 * s) (d := 2147483647) (by omega) (by omega) (by omega)
      rw [Nat.mul_comm 48271 s, ← ht, Nat.mul_comm s 48271, ← nL_mul] at this
      exact this
    have e1' : rml (nL s * 48271) 2147483647 = some (nL t) := by
      have := rml_nL (a := s * 48271) (d := 2147483647) (by omega) (by omega) (by omega)
      rw [← ht, ← nL_mul] at this
      exact this
    have e2 : rml (nL t) (nI np).toInt64 = some (nL (t % np)) := by rw [nI_64 (by omega), rml_nL (by omega) (by omega) (by omega)]
    have e3 : dvl (nL t) 32 = some (nL (t / 32)) := dvl_nL (d := 32) (by omega) (by omega) (by omega)
    have e4 : rml (nL (t / 32)) (nI np - 1).toInt64 = some (nL (t / 32 % (np - 1))) := by
      rw [show (1 : Int32) = nI 1 from rfl, pk_sub (by omega), nI_64 (by omega), rml_nL (by omega) (by omega) (by omega)]
    have e5 : (nL (t % np)).toInt32 = nI (t % np) := nL_32 (by omega)
    have e6 : rml ((nI (t % np + 1)).toInt64 + nL (t / 32 % (np - 1))) (nI np).toInt64 = some (nL ((t % np + 1 + t / 32 % (np - 1)) % np)) := by
      rw [nI_64 (by omega), nI_64 (by omega), nL_add, rml_nL (by omega) (by omega) (by omega)]
    have e7 : (nL ((t % np + 1 + t / 32 % (np - 1)) % np)).toInt32 = nI ((t % np + 1 + t / 32 % (np - 1)) % np) := nL_32 (by omega)
    have e8 : (nL (t / 32 % (np - 1))).toInt32 = nI (t / 32 % (np - 1)) := nL_32 (by omega)
    have e9 : rmi (nI (t % np) + (1 + nI (t / 32 % (np - 1)))) (nI np) = some (nI ((t % np + 1 + t / 32 % (np - 1)) % np)) := by
      rw [show (1 : Int32) = nI 1 from rfl, nI_add, nI_add, rmi_nI (by omega) (by omega) (by omega), Nat.add_assoc]
    refine ⟨r', P1', P2', ?_, ?_, ?_, fun a ha => by rw [k4 a ha, r2 a ha, g1 a ha], fun a ha => by rw [k5 a ha, g2 a ha]⟩
    · show B_K_lots_67 F (nI n) (nI np) _ M1 (nL s) x (nI j) = _
      unfold B_K_lots_67
      simp only [hcj, ↓reduceIte, e1, ob_some, e2, e3, e4, e5, e6, e7, b1, q1, r1, nI_1]
      exact k1
    · show B_M_lots_61 F (nI n) _ M2 (nL s) x (nI j) = _
      unfold B_M_lots_61
      simp only [hcj, ↓reduceIte, e1', ob_some, hc.1.2.2.2.1, e2, e3, e4, e5, e8, e9, d1, nI_1]
      exact k2
    · rw [show D + (c + 1) = D + 1 + c by omega]; exact k3
theorem op_lots {F : Nat} (hF : FB ≤ F) (M1 M2 : Mem) (a0 : Int32) (a1 : Int32) (hR : Rel M1 M2) : ∃ (r : Int32) (M1' : Mem) (M2' : Mem), K_lots F M1 a0 a1 = some (r, M1') ∧ M_lots F M2 a0 a1 = some (r, M2') ∧ Rel M1' M2' := by
  have hF' := FBL hF
  obtain ⟨np, nd, D, hc⟩ := hR.2.2.2
  obtain ⟨kn, dr, hx, hm, hg, -, -⟩ := hc.views
  have hnp := hg.2.1
  have f1 : (1 : Int32).toInt = 1 := rfl
  have f20 : (20 : Int32).toInt = 20 := rfl
  have g1 : (1 : Int64).toInt = 1 := rfl
  have g20 : (20 : Int64).toInt = 20 := rfl
  have gm : (2147483646 : Int64).toInt = 2147483646 := rfl
  have gM : (2147483647 : Int64).toInt = 2147483647 := rfl
  unfold K_lots M_lots
  rw [in32 _ _ _ _ _ (by decide), in32 _ _ _ _ _ (by decide), g1, g20, gm]
  simp only [lg_lt]
  simp only [i32_lt, i64_lt, i64_wide, f1, f20, gM, ob_some]
  by_cases c1 : a0.toInt < 1
  · simp only [c1, ↓reduceIte]; exact ⟨_, _, _, rfl, rfl, hR⟩
  by_cases c2 : 20 < a0.toInt
  · simp only [c1, c2, ↓reduceIte]; exact ⟨_, _, _, rfl, rfl, hR⟩
  by_cases c3 : a1.toInt < 1
  · simp only [c1, c2, c3, ↓reduceIte, i10]; exact ⟨_, _, _, rfl, rfl, hR⟩
  by_cases c4 : a1.toInt < 2147483647
  · have c4' : ¬ (2147483646 : Int) < a1.toInt := by omega
    simp only [c1, c2, c3, c4, c4', ↓reduceIte, i10]
    obtain ⟨n, hn, rfl⟩ := nn_nI (x := a0) (by rw [i32_lt]; have : (0 : Int32).toInt = 0 := rfl; omega)
    obtain ⟨s, hs, rfl⟩ := nn_nI (x := a1) (by rw [i32_lt]; have : (0 : Int32).toInt = 0 := rfl; omega)
    rw [tI (by omega)] at c1 c2 c3 c4
    rw [hx.2.2.1, hm.1]
    simp only [np_zero hnp]
    have k1 : (2 ≤ nI np) = ¬ np = 0 := by
      rw [lit 2, nI_leI (by omega) (by omega)]
      have := hg.1
      simp only [eq_iff_iff]
      omega
    simp only [k1]
    by_cases h0 : np = 0
    · simp only [h0, not_true_eq_false, ↓reduceIte]; exact ⟨_, _, _, rfl, rfl, hR⟩
    have hD := hc.2.2.1.1
    have d1 := hc.2.2.1.2.1
    have d2 := hc.2.2.1.2.2.1
    have k2 : H_isFullFor F M1 53 (nI n) = some (if D + n ≤ 40 then 0 else 1) := by
      unfold H_isFullFor
      rw [d1, nI_add, lit 40]
      have : (nI (D + n) ≤ nI 40) = (D + n ≤ 40) := by rw [nI_leI (by omega) (by omega)]
      simp only [this]
      split <;> rfl
    have k3 : (nI D + nI n ≤ 40) = (D + n ≤ 40) := by rw [nI_add, lit 40, nI_leI (by omega) (by omega)]
    simp only [h0, not_false_eq_true, ↓reduceIte, k2, ob_some, i01, d2, k3]
    by_cases c5 : D + n ≤ 40
    · obtain ⟨r, P1, P2, e1, e2, e3, e4, e5⟩ := lots_loop hF (n := n) (nd := nd) (by have := hg.1; omega) hnp (by omega) n 0 F D s 0 M1 M2 (by omega) (by omega) c5 (by omega) hc
      rw [nI_0] at e1 e2
      rw [nI_64 hs]
      simp only [c5, ↓reduceIte, e1, e2, ob_some]
      exact ⟨_, _, _, rfl, rfl, Rel_of_C hR e4 e5 e3⟩
    · simp only [c5, ↓reduceIte]; exact ⟨_, _, _, rfl, rfl, hR⟩
  · have c4' : (2147483646 : Int) < a1.toInt := by omega
    simp only [c1, c2, c3, c4, c4', ↓reduceIte, i10]
    exact ⟨_, _, _, rfl, rfl, hR⟩
