/-! gain, trust, mistletoe -/
def okv (v : Int32) : Bool := decide (¬ v < 1) && decide (v ≤ 9999)
def okA (v : Nat → Int32) : Nat → Nat → Bool
  | 0, _ => true
  | c + 1, k => okv (v k) && okA v c (k + 1)
theorem okA_congr {v w : Nat → Int32} : ∀ (c k : Nat), (∀ i, k ≤ i → i < k + c → v i = w i) → okA v c k = okA w c k := by
  intro c
  induction c with
  | zero => intro k _; rfl
  | succ c ih =>
    intro k h
    show (okv (v k) && okA v c (k + 1)) = (okv (w k) && okA w c (k + 1))
    rw [h k (by omega) (by omega), ih (k + 1) (fun i h1 h2 => h i (by omega) (by omega))]
theorem in_rate {F : Nat} {M : Mem} (v : Int32) : M_in F M v.toInt64 1 9999 = some (if okv v = true then 1 else 0) := by
  have e1 : (1 : Int64).toInt = 1 := rfl
  have e2 : (9999 : Int64).toInt = 9999 := rfl
  have f1 : (1 : Int32).toInt = 1 := rfl
  have f2 : (9999 : Int32).toInt = 9999 := rfl
  rw [in32 _ _ _ _ _ (by decide), e1, e2]
  unfold okv
  simp only [Bool.and_eq_true, decide_eq_true_eq, i32_lt, i32_le, f1, f2]
  by_cases h1 : v.toInt < 1
  · simp [h1]
  · by_cases h2 : (9999 : Int) < v.toInt
    · have : ¬ v.toInt ≤ 9999 := by omega
      simp [h1, h2, this]
    · have : v.toInt ≤ 9999 := by omega
      simp [h1, h2, this]
theorem kgainL {F : Nat} {M : Mem} {k : Nat} (hl : ln (k + 1) = 40) : ∀ (c j n : Nat), j + c = 6 → c < n → L_K_gain_46 F k n M (nI j) = some (if okA (M (k + 1)) c j = true then .inr M else .inl (-3, up (up M 0 10 (nI 3)) 76 3 (M 76 3 + 1))) := by
  intro c
  induction c with
  | zero =>
    intro j n hj hn
    obtain ⟨n, rfl⟩ : ∃ m, n = m + 1 := ⟨n - 1, by omega⟩
    rw [show j = 6 by omega]
    show B_K_gain_46 F k _ M (nI 6) = _
    unfold B_K_gain_46
    rw [if_pos (by decide)]
    rfl
  | succ c ih =>
    intro j n hj hn
    obtain ⟨n, rfl⟩ : ∃ m, n = m + 1 := ⟨n - 1, by omega⟩
    show B_K_gain_46 F k _ M (nI j) = _
    unfold B_K_gain_46
    have hc : (6 ≤ nI j) = False := by rw [lit 6, nI_leI (by omega) (by omega)]; simp; omega
    simp only [hc, ↓reduceIte, ard_nI (M := M) (a := k + 1) (k := j) (by omega), Option.bind_some, ref3, nI_1, ih (j + 1) n (by omega) (by omega), okA, okv]
    by_cases h1 : M (k + 1) j < 1 <;> by_cases h2 : M (k + 1) j ≤ 9999 <;> simp [h1, h2]
theorem mratesL {F : Nat} {M : Mem} {r : Nat} (hr : r < 6) : ∀ (c j n : Nat) (x : Int32), j + c = 6 → c < n → (x = 0 ∨ x = 1) → L_M_areRates_4 F M (nI r) n x (nI j) = some (if x = 1 ∧ okA (fun i => M 104 (40 * r + i)) c j = true then 1 else 0) := by
  intro c
  induction c with
  | zero =>
    intro j n x hj hn hx
    obtain ⟨n, rfl⟩ : ∃ m, n = m + 1 := ⟨n - 1, by omega⟩
    rw [show j = 6 by omega]
    show B_M_areRates_4 F M (nI r) _ x (nI 6) = _
    unfold B_M_areRates_4
    rw [if_pos (by decide)]
    rcases hx with rfl | rfl <;> rfl
  | succ c ih =>
    intro j n x hj hn hx
    obtain ⟨n, rfl⟩ : ∃ m, n = m + 1 := ⟨n - 1, by omega⟩
    show B_M_areRates_4 F M (nI r) _ x (nI j) = _
    unfold B_M_areRates_4
    have hc : (6 ≤ nI j) = False := by rw [lit 6, nI_leI (by omega) (by omega)]; simp; omega
    have i1 := ih (j + 1) n 1 (by omega) (by omega) (Or.inr rfl)
    have i0 := ih (j + 1) n 0 (by omega) (by omega) (Or.inl rfl)
    simp only [hc, ↓reduceIte, ix40, ard_nI (M := M) (a := 104) (k := 40 * r + j) (by show _ < 240; omega), Option.bind_some, in_rate, i10c, nI_1, i1, i0, okA]
    rcases hx with rfl | rfl
    · simp
    · by_cases h1 : okv (M 104 (40 * r + j)) = true <;> simp [h1]
theorem op_gain {F : Nat} (hF : FB ≤ F) (M1 M2 : Mem) (a0 : Int32) (hR : Rel M1 M2) : ∃ (r : Int32) (M1' : Mem) (M2' : Mem), K_gain F M1 a0 = some (r, M1') ∧ M_gain F M2 a0 = some (r, M2') ∧ Rel M1' M2' := by
  have hF' := FBL hF
  have hno : ∀ h : (a0 < 0 ∨ (0 ≤ a0 ∧ nI 6 ≤ a0)), ∃ (r : Int32) (M1' : Mem) (M2' : Mem), K_gain F M1 a0 = some (r, M1') ∧ M_gain F M2 a0 = some (r, M2') ∧ Rel M1' M2' := by
    intro h
    have e := isRow_no (M1 := M1) (M2 := M2) (F := F) h
    simp only [K_gain, M_gain, e.1, e.2, Option.bind_some, ↓reduceIte]
    exact ⟨_, _, _, rfl, rfl, hR⟩
  rcases ixc a0 (n := 6) (by omega) with h | h | ⟨r, hr, rfl⟩
  · exact hno (Or.inl h)
  · exact hno (Or.inr h)
  · have e := isRow_yes (M1 := M1) (M2 := M2) (F := F) hr
    have hl : r < ln 103 := hr
    rcases hR.2.1 r hr with ⟨p1, p2⟩ | ⟨n, hn, p1, p2, p3⟩
    · simp only [K_gain, M_gain, e.1, e.2, miss_yes p1, ard_nI hl, p2, m1_lt, idx_nI hr (by omega : 6 ≤ 1000000), Option.bind_some, ↓reduceIte, i10, ref1, fin1]
      exact ⟨_, _, _, rfl, rfl, refuse_rel hR (by omega) (by omega)⟩
    · by_cases h6 : n = 6
      · subst h6
        have e6 : (nI 6 = 6) = True := by decide
        have kl : L_K_gain_46 F (1 + 1 + 2 * r) F M1 0 = _ := kgainL (F := F) (M := M1) (ln_row hr) 6 0 F (by omega) (by omega)
        have ml : L_M_areRates_4 F M2 (nI r) F 1 0 = _ := mratesL (F := F) (M := M2) hr 6 0 F 1 (by omega) (by omega) (Or.inr rfl)
        have hok : okA (M1 (1 + 1 + 2 * r + 1)) 6 0 = okA (fun i => M2 104 (40 * r + i)) 6 0 := okA_congr 6 0 (fun i _ h => p3 i (by omega))
        rw [hok] at kl
        by_cases hb : okA (fun i => M2 104 (40 * r + i)) 6 0 = true
        · have q : ∀ j, j < 6 → ard M1 (1 + 1 + 2 * r + 1) (nI j) = some (M2 104 (40 * r + j)) := fun j hj => by rw [ard_nI (by rw [ln_row hr]; omega), p3 j hj]
          have rt : ∀ j, j < 6 → M_rate F M2 (nI r) (nI j) = some (M2 104 (40 * r + j)).toInt64 := fun j hj => by
            unfold M_rate
            rw [ix40, ard_nI (by show _ < 240; omega)]
            rfl
          have q0 : ard M1 (1 + 1 + 2 * r + 1) 0 = _ := q 0 (by omega)
          have q1 : ard M1 (1 + 1 + 2 * r + 1) 1 = _ := q 1 (by omega)
          have q2 : ard M1 (1 + 1 + 2 * r + 1) 2 = _ := q 2 (by omega)
          have q3 : ard M1 (1 + 1 + 2 * r + 1) 3 = _ := q 3 (by omega)
          have q4 : ard M1 (1 + 1 + 2 * r + 1) 4 = _ := q 4 (by omega)
          have q5 : ard M1 (1 + 1 + 2 * r + 1) 5 = _ := q 5 (by omega)
          have r0 : M_rate F M2 (nI r) 0 = _ := rt 0 (by omega)
          have r1 : M_rate F M2 (nI r) 1 = _ := rt 1 (by omega)
          have r2 : M_rate F M2 (nI r) 2 = _ := rt 2 (by omega)
          have r3 : M_rate F M2 (nI r) 3 = _ := rt 3 (by omega)
          have r4 : M_rate F M2 (nI r) 4 = _ := rt 4 (by omega)
          have r5 : M_rate F M2 (nI r) 5 = _ := rt 5 (by omega)
          have ar : M_areRates F M2 (nI r) = some 1 := by
            unfold M_areRates
            rw [ml]
            simp [hb, rb]
          have hln : (6 ≤ Int32.ofNat (ln (1 + 1 + 2 * r + 1))) = True := by rw [ln_row hr]; decide
          simp only [K_gain, M_gain, e.1, e.2, miss_no (by omega : 6 ≤ 80) p1, ard_nI hl, p1, p2, e6, nI_ge0' (n := 6) (by omega), idx_nI hr (by omega : 6 ≤ 1000000), Option.bind_some, ↓reduceIte, i10, kl, hb, Sum.elim_inr, K_firstGain, hln, q0, q1, q2, q3, q4, q5, ar, r0, r1, r2, r3, r4, r5]
          generalize lg_cmp ((M2 104 (40 * r + 0)).toInt64 * (M2 104 (40 * r + 2)).toInt64) 10000 = g0
          generalize lg_cmp ((M2 104 (40 * r + 1)).toInt64 * (M2 104 (40 * r + 4)).toInt64) 10000 = g1
          generalize lg_cmp ((M2 104 (40 * r + 3)).toInt64 * (M2 104 (40 * r + 5)).toInt64) 10000 = g2
          generalize lg_cmp ((M2 104 (40 * r + 0)).toInt64 * (M2 104 (40 * r + 3)).toInt64 * (M2 104 (40 * r + 4)).toInt64) 1000000 = g3
          generalize lg_cmp ((M2 104 (40 * r + 1)).toInt64 * (M2 104 (40 * r + 5)).toInt64 * (M2 104 (40 * r + 2)).toInt64) 1000000 = g4
          by_cases c0 : g0 ≤ 0 <;> by_cases c1 : g1 ≤ 0 <;> by_cases c2 : g2 ≤ 0 <;> by_cases c3 : g3 ≤ 0 <;> by_cases c4 : g4 ≤ 0 <;> simp only [c0, c1, c2, c3, c4, ↓reduceIte, Option.bind_some, i10] <;> exact ⟨_, _, _, rfl, rfl, hR⟩
        · have ar : M_areRates F M2 (nI r) = some 0 := by
            unfold M_areRates
            rw [ml]
            simp [hb, rb]
          simp only [K_gain, M_gain, e.1, e.2, miss_no (by omega : 6 ≤ 80) p1, ard_nI hl, p1, p2, e6, nI_ge0' (n := 6) (by omega), idx_nI hr (by omega : 6 ≤ 1000000), Option.bind_some, ↓reduceIte, i10, kl, hb, Sum.elim_inl, ar, fin3]
          exact ⟨_, _, _, rfl, rfl, refuse_rel hR (by omega) (by omega)⟩
      · have e6 : (nI n = 6) = False := by
          simp only [eq_iff_iff, iff_false]
          intro g
          exact h6 (nI_inj (by omega) (by omega) g)
        simp only [K_gain, M_gain, e.1, e.2, miss_no (by omega : n ≤ 80) p1, ard_nI hl, p1, p2, e6, nI_ge0' (n := n) (by omega), idx_nI hr (by omega : 6 ≤ 1000000), Option.bind_some, ↓reduceIte, i10, ref5, fin5]
        exact ⟨_, _, _, rfl, rfl, refuse_rel hR (by omega) (by omega)⟩
/-- whom a set of persons owes, bit by bit -/
theorem reach_tb {nd : Nat} {dr : Nat → Nat → Int32} (hb : BN nd dr) (g : Int32) (b : Nat) : tb (reachS nd dr g) b = true ↔ ∃ i, i < nd ∧ ¬ dr i 3 ≤ 0 ∧ tb g (whoN dr i) = true ∧ whomN dr i = b := by
  have key : ∀ n, n ≤ nd → (tb (fo (fun i (s : Int32) => if ¬ dr i 3 ≤ 0 ∧ tb g (whoN dr i) = true then s ||| (1 <<< (dr i 1 &&& 31)) else s) n 0 0) b = true ↔ ∃ i, i < n ∧ ¬ dr i 3 ≤ 0 ∧ tb g (whoN dr i) = true ∧ whomN dr i = b) := by
    intro n
    induction n with
    | zero =>
      intro _
      show tb 0 b = true ↔ _
      rw [tb_0]
      simp
    | succ n ih =>
      intro hn
      have ih := ih (by omega)
      obtain ⟨a', b', ha, hbb, ea, eb, wa, wb⟩ := hb n (by omega)
      rw [fo_succ, Nat.zero_add]
      by_cases hc : ¬ dr n 3 ≤ 0 ∧ tb g (whoN dr n) = true
      · rw [if_pos hc, tb_or, Bool.or_eq_true, ih, eb, tb_1 (by omega), decide_eq_true_eq]
        constructor
        · rintro (⟨i, hi, h1, h2, h3⟩ | h)
          · exact ⟨i, by omega, h1, h2, h3⟩
          · exact ⟨n, by omega, hc.1, hc.2, by rw [wb, h]⟩
        · rintro ⟨i, hi, h1, h2, h3⟩
          by_cases hin : i = n
          · subst hin; right; rw [← h3, wb]
          · left; exact ⟨i, by omega, h1, h2, h3⟩
      · rw [if_neg hc, ih]
        constructor
        · rintro ⟨i, hi, h1, h2, h3⟩
          exact ⟨i, by omega, h1, h2, h3⟩
        · rintro ⟨i, hi, h1, h2, h3⟩
          by_cases hin : i = n
          · subst hin; exact absurd ⟨h1, h2⟩ hc
          · exact ⟨i, by omega, h1, h2, h3⟩
  exact key nd (by omega)
theorem reach_or {nd : Nat} {dr : Nat → Nat → Int32} (hb : BN nd dr) (g h : Int32) : reachS nd dr (g ||| h) = reachS nd dr g ||| reachS nd dr h := by
  apply tb_ext
  intro b _
  rw [tb_or, Bool.eq_iff_iff, Bool.or_eq_true, reach_tb hb, reach_tb hb, reach_tb hb]
  constructor
  · rintro ⟨i, h1, h2, h3, h4⟩
    rw [tb_or, Bool.or_eq_true] at h3
    rcases h3 with h3 | h3
    · exact Or.inl ⟨i, h1, h2, h3, h4⟩
    · exact Or.inr ⟨i, h1, h2, h3, h4⟩
  · rintro (⟨i, h1, h2, h3, h4⟩ | ⟨i, h1, h2, h3, h4⟩)
    · exact ⟨i, h1, h2, by rw [tb_or, h3]; rfl, h4⟩
    · exact ⟨i, h1, h2, by rw [tb_or, h3, Bool.or_true], h4⟩
theorem mtrustL {F : Nat} (hF : FB ≤ F) {M : Mem} {np nd : Nat} {kn : Nat → Int32} {dr : Nat → Nat → Int32} (h : VM M np nd kn dr) (hb : BN nd dr) (x2 g x4 : Int32) : L_M_trust_30 F M x2 g x4 F 0 0 = some (reachS nd dr g) := by
  have hF' := FBL hF
  have hnd : nd ≤ 12 := h.2.2.2.1
  have hn0 : M 101 1 = nI nd := h.2.1
  have key := lpF (fun m i (s : Int32) => L_M_trust_30 F M x2 g x4 m s (nI i)) (fun i s => if ¬ dr i 3 ≤ 0 ∧ tb g (whoN dr i) = true then s ||| (1 <<< (dr i 1 &&& 31)) else s) (fun s => some s) nd
    (fun m i s hi => by
      show B_M_trust_30 F M x2 g x4 _ s (nI i) = _
      unfold B_M_trust_30
      have hc : (nI nd ≤ nI i) = False := by rw [nI_leI (by omega) (by omega)]; simp; omega
      have e0 : M_of F M (nI i) 0 = some (dr i 0) := M_of_eq h hi (j := 0) (by decide)
      have e1 : M_of F M (nI i) 1 = some (dr i 1) := M_of_eq h hi (j := 1) (by decide)
      obtain ⟨a, b, ha, hbb, ea, eb, wa, wb⟩ := hb i hi
      simp only [hn0, hc, ↓reduceIte, Option.bind_some, e0, e1, M_isOpen_eq h hi, i01, nI_1, Int32.or_zero, ea, eb, wa, M_has_eq (show a < 31 by omega)]
      by_cases c0 : dr i 3 ≤ 0 <;> by_cases c1 : tb g a = false <;> simp [c0, c1])
    (fun m s => by
      show B_M_trust_30 F M x2 g x4 _ s (nI nd) = _
      unfold B_M_trust_30
      rw [hn0, if_pos (by rw [nI_leI (by omega) (by omega)]; omega)])
    nd 0 F 0 (by omega) (by omega)
  exact key
theorem op_trust {F : Nat} (hF : FB ≤ F) (M1 M2 : Mem) (a0 : Int32) (a1 : Int32) (hR : Rel M1 M2) : ∃ (r : Int32), K_trust F M1 a0 a1 = some r ∧ M_trust F M2 a0 a1 = some r := by
  have hF' := FBL hF
  obtain ⟨np, nd, D, hc⟩ := hR.2.2.2
  obtain ⟨kn, dr, hx, hm, hg, -, -⟩ := hc.views
  have hnp := hg.2.1
  have hb := hg.bn
  unfold K_trust M_trust
  rw [hasTwo_eq hx, areTwo_eq hm]
  rcases two_cases a0 a1 hnp with h | ⟨h, p, q, hp, hq, hpq, rfl, rfl⟩
  · simp only [h, Option.bind_some, ↓reduceIte]
    exact ⟨_, rfl, rfl⟩
  · simp only [h, Option.bind_some, ↓reduceIte, i10]
    obtain ⟨m, hm4⟩ : ∃ m, F = m + 4 := ⟨F - 4, by omega⟩
    have stepK : ∀ (n : Nat) (s : Int32) (k : Nat), 1 ≤ k → k ≤ 3 → L_K_trust_21 F M1 (nI q) (n + 1) s (nI k) = (if tb (s ||| reachS nd dr s) q = false then L_K_trust_21 F M1 (nI q) n (s ||| reachS nd dr s) (nI (k + 1)) else some (.inl (nI k))) := by
      intro n s k h1 h3
      show B_K_trust_21 F M1 (nI q) _ s (nI k) = _
      unfold B_K_trust_21
      have hc : (3 < nI k) = False := by rw [lit 3, nI_ltI (by omega) (by omega)]; simp; omega
      simp only [hc, ↓reduceIte, V_owedByAny_eq hF hx hb, Option.bind_some, and_bit' (show q < 31 by omega), nI_1]
    have stepM : ∀ (n : Nat) (s : Int32) (k : Nat), 1 ≤ k → k ≤ 3 → L_M_trust_18 F M2 (nI q) (n + 1) s (nI k) = (if tb (reachS nd dr s) q = false then L_M_trust_18 F M2 (nI q) n (reachS nd dr s) (nI (k + 1)) else some (.inl (nI k))) := by
      intro n s k h1 h3
      show B_M_trust_18 F M2 (nI q) _ s (nI k) = _
      unfold B_M_trust_18
      have hc : (4 ≤ nI k) = False := by rw [lit 4, nI_leI (by omega) (by omega)]; simp; omega
      simp only [hc, ↓reduceIte, mtrustL hF hm hb, Option.bind_some, M_has_eq (show q < 31 by omega), i01, nI_1]
    have endK : ∀ (n : Nat) (s : Int32), L_K_trust_21 F M1 (nI q) (n + 1) s (nI 4) = some (.inr ()) := by
      intro n s
      show B_K_trust_21 F M1 (nI q) _ s (nI 4) = _
      unfold B_K_trust_21
      rw [if_pos (by decide)]
    have endM : ∀ (n : Nat) (s : Int32), L_M_trust_18 F M2 (nI q) (n + 1) s (nI 4) = some (.inr ()) := by
      intro n s
      show B_M_trust_18 F M2 (nI q) _ s (nI 4) = _
      unfold B_M_trust_18
      rw [if_pos (by decide)]
    generalize hs0 : (1 : Int32) <<< (nI p &&& 31) = s0
    have hq0 : tb s0 q = false := by rw [← hs0, tb_1 (by omega)]; simp [hpq]
    generalize hs1 : reachS nd dr s0 = s1
    generalize hs2 : reachS nd dr s1 = s2
    generalize hs3 : reachS nd dr s2 = s3
    have d1 : reachS nd dr (s0 ||| s1) = s1 ||| s2 := by rw [reach_or hb, hs1, hs2]
    have d2 : reachS nd dr ((s0 ||| s1) ||| (s1 ||| s2)) = (s1 ||| s2) ||| (s2 ||| s3) := by rw [reach_or hb, reach_or hb, reach_or hb, hs1, hs2, hs3]
    have K : L_K_trust_21 F M1 (nI q) F s0 1 = if tb s1 q = true then some (.inl (nI 1)) else if tb s2 q = true then some (.inl (nI 2)) else if tb s3 q = true then some (.inl (nI 3)) else some (.inr ()) := by
      have e1 := stepK (m + 3) s0 1 (by omega) (by omega)
      have e2 := stepK (m + 2) (s0 ||| s1) 2 (by omega) (by omega)
      have e3 := stepK (m + 1) ((s0 ||| s1) ||| (s1 ||| s2)) 3 (by omega) (by omega)
      rw [hs1] at e1
      rw [d1] at e2
      rw [d2] at e3
      have e4 := endK m (((s0 ||| s1) ||| (s1 ||| s2)) ||| ((s1 ||| s2) ||| (s2 ||| s3)))
      have ee : L_K_trust_21 F M1 (nI q) F s0 1 = L_K_trust_21 F M1 (nI q) (m + 3 + 1) s0 (nI 1) := by rw [show m + 3 + 1 = F by omega]; rfl
      rw [ee, e1, e2, e3, e4]
      simp only [tb_or, hq0, Bool.false_or]
      cases tb s1 q <;> cases tb s2 q <;> cases tb s3 q <;> rfl
    have Mm : L_M_trust_18 F M2 (nI q) F s0 1 = if tb s1 q = true then some (.inl (nI 1)) else if tb s2 q = true then some (.inl (nI 2)) else if tb s3 q = true then some (.inl (nI 3)) else some (.inr ()) := by
      have e1 := stepM (m + 3) s0 1 (by omega) (by omega)
      have e2 := stepM (m + 2) s1 2 (by omega) (by omega)
      have e3 := stepM (m + 1) s2 3 (by omega) (by omega)
      rw [hs1] at e1
      rw [hs2] at e2
      rw [hs3] at e3
      have e4 := endM m s3
      have ee : L_M_trust_18 F M2 (nI q) F s0 1 = L_M_trust_18 F M2 (nI q) (m + 3 + 1) s0 (nI 1) := by rw [show m + 3 + 1 = F by omega]; rfl
      rw [ee, e1, e2, e3, e4]
      cases tb s1 q <;> cases tb s2 q <;> cases tb s3 q <;> rfl
    rw [K, Mm]
    cases tb s1 q <;> cases tb s2 q <;> cases tb s3 q <;> exact ⟨_, rfl, rfl⟩
theorem mmistL {F : Nat} (hF : FB ≤ F) {M : Mem} {np nd : Nat} {kn : Nat → Int32} {dr : Nat → Nat → Int32} (h : VM M np nd kn dr) (x1 x2 p : Int32) : L_M_mistletoe_30 F M x1 x2 p F 0 0 = some (halfS nd dr p) := by
  have hF' := FBL hF
  have hnd : nd ≤ 12 := h.2.2.2.1
  have hn0 : M 101 1 = nI nd := h.2.1
  have key := lpF (fun m i (s : Int32) => L_M_mistletoe_30 F M x1 x2 p m s (nI i)) (fun i s => if dr i 0 = p ∨ dr i 1 = p then s + (dr i 3 - dr i 3 / 2) else s) (fun s => some s) nd
    (fun m i s hi => by
      show B_M_mistletoe_30 F M x1 x2 p _ s (nI i) = _
      unfold B_M_mistletoe_30
      have hc : (nI nd ≤ nI i) = False := by rw [nI_leI (by omega) (by omega)]; simp; omega
      have e0 : M_of F M (nI i) 0 = some (dr i 0) := M_of_eq h hi (j := 0) (by decide)
      have e1 : M_of F M (nI i) 1 = some (dr i 1) := M_of_eq h hi (j := 1) (by decide)
      have e3 : M_of F M (nI i) 3 = some (dr i 3) := M_of_eq h hi (j := 3) (by decide)
      simp only [hn0, hc, ↓reduceIte, Option.bind_some, e0, e1, e3, dvi2, nI_1, Int32.add_zero]
      by_cases c0 : dr i 0 = p <;> by_cases c1 : dr i 1 = p <;> simp [c0, c1])
    (fun m s => by
      show B_M_mistletoe_30 F M x1 x2 p _ s (nI nd) = _
      unfold B_M_mistletoe_30
      rw [hn0, if_pos (by rw [nI_leI (by omega) (by omega)]; omega)])
    nd 0 F 0 (by omega) (by omega)
  exact key
theorem isEmpty_eq {F : Nat} {M : Mem} {v np nd : Nat} {kn : Nat → Int32} {dr : Nat → Nat → Int32} (h : VX M v np nd kn dr) : V_isEmpty F M v = some (if np = 0 then 1 else 0) := by
  unfold V_isEmpty
  rw [h.2.2.1]
  have hnp := h.2.2.2.2.1
  by_cases h0 : np = 0
  · subst h0; rfl
  · have : ¬ nI np = 0 := nI_ne0 (by omega) (by omega)
    rw [if_neg this, if_neg h0]
theorem np_zero {np : Nat} (h : np ≤ 6) : (nI np = 0) = (np = 0) := by
  simp only [eq_iff_iff]
  constructor
  · intro g; exact nI_inj (by omega) (by omega) g
  · rintro rfl; rfl
theorem op_mistletoe {F : Nat} (hF : FB ≤ F) (M1 M2 : Mem) (hR : Rel M1 M2) : ∃ (r : Int32) (M1' : Mem) (M2' : Mem), K_mistletoe F M1 = some (r, M1') ∧ M_mistletoe F M2 = some (r, M2') ∧ Rel M1' M2' := by
  have hF' := FBL hF
  obtain ⟨np, nd, D, hc⟩ := hR.2.2.2
  obtain ⟨kn, dr, hx, hm, hg, -, -⟩ := hc.views
  have hnp := hg.2.1
  unfold K_mistletoe M_mistletoe
  rw [isEmpty_eq hx, hm.1]
  simp only [np_zero hnp, Option.bind_some, i10c]
  by_cases h0 : np = 0
  · simp only [h0, ↓reduceIte, not_true_eq_false]
    exact ⟨_, _, _, rfl, rfl, hR⟩
  · simp only [h0, ↓reduceIte, not_false_eq_true]
    have K : L_K_mistletoe_19 F M1 F 0 (-1) 0 = _ := lpF (fun m p (s : Int32 × Int32) => L_K_mistletoe_19 F M1 m s.1 s.2 (nI p)) (fun p s => if halfS nd dr (nI p) ≤ s.2 then s else (nI p, halfS nd dr (nI p))) (fun s => some s) np
      (fun m p s hp => by
        show B_K_mistletoe_19 F M1 _ s.1 s.2 (nI p) = _
        unfold B_K_mistletoe_19
        have hc : (nI np ≤ nI p) = False := by rw [nI_leI (by omega) (by omega)]; simp; omega
        simp only [hx.2.2.1, hc, ↓reduceIte, V_clearedByHalving_eq hF hx, Option.bind_some, nI_1]
        by_cases c0 : halfS nd dr (nI p) ≤ s.2 <;> simp [c0])
      (fun m s => by
        show B_K_mistletoe_19 F M1 _ s.1 s.2 (nI np) = _
        unfold B_K_mistletoe_19
        rw [hx.2.2.1, if_pos (by rw [nI_leI (by omega) (by omega)]; omega)])
      np 0 F (0, -1) (by omega) (by omega)
    have Mm : L_M_mistletoe_16 F M2 F 0 (-1) 0 = _ := lpF (fun m p (s : Int32 × Int32) => L_M_mistletoe_16 F M2 m s.1 s.2 (nI p)) (fun p s => if halfS nd dr (nI p) ≤ s.2 then s else (nI p, halfS nd dr (nI p))) (fun s => some s) np
      (fun m p s hp => by
        show B_M_mistletoe_16 F M2 _ s.1 s.2 (nI p) = _
        unfold B_M_mistletoe_16
        have hc : (nI np ≤ nI p) = False := by rw [nI_leI (by omega) (by omega)]; simp; omega
        simp only [hm.1, hc, ↓reduceIte, mmistL hF hm, Option.bind_some, nI_1]
        by_cases c0 : halfS nd dr (nI p) ≤ s.2 <;> simp [c0])
      (fun m s => by
        show B_M_mistletoe_16 F M2 _ s.1 s.2 (nI np) = _
        unfold B_M_mistletoe_16
        rw [hm.1, if_pos (by rw [nI_leI (by omega) (by omega)]; omega)])
      np 0 F (0, -1) (by omega) (by omega)
    rw [K, Mm]
    exact ⟨_, _, _, rfl, rfl, tell_rel hR _⟩
