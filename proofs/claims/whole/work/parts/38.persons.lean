/-! persons: kinds, reserves, sets of persons as bits; person, draft, between, told numbers -/
theorem op_asked {F : Nat} (hF : FB ≤ F) (M1 M2 : Mem) (hR : Rel M1 M2) : ∃ (r : Int32), K_asked F M1 = some r ∧ M_asked F M2 = some r := ⟨_, rfl, by rw [hR.1.2.1]; rfl⟩
theorem op_upper {F : Nat} (hF : FB ≤ F) (M1 M2 : Mem) (hR : Rel M1 M2) : ∃ (r : Int64), K_upper F M1 = some r ∧ M_upper F M2 = some r := ⟨_, rfl, by rw [hR.1.2.2.1]; rfl⟩
theorem op_lower {F : Nat} (hF : FB ≤ F) (M1 M2 : Mem) (hR : Rel M1 M2) : ∃ (r : Int64), K_lower F M1 = some r ∧ M_lower F M2 = some r := ⟨_, rfl, by rw [hR.1.2.2.2.1]; rfl⟩
theorem op_finding {F : Nat} (hF : FB ≤ F) (M1 M2 : Mem) (hR : Rel M1 M2) : ∃ (r : Int32), K_finding F M1 = some r ∧ M_finding F M2 = some r := ⟨_, rfl, by rw [hR.1.1]; rfl⟩
theorem op_findings {F : Nat} (hF : FB ≤ F) (M1 M2 : Mem) (a0 : Int32) (hR : Rel M1 M2) : ∃ (r : Int32), K_findings F M1 a0 = some r ∧ M_findings F M2 a0 = some r := by
  unfold K_findings M_findings
  have e1 : (1 : Int64).toInt = 1 := rfl
  have e5 : (5 : Int64).toInt = 5 := rfl
  have f1 : (1 : Int32).toInt = 1 := rfl
  have f5 : (5 : Int32).toInt = 5 := rfl
  rw [in32 _ _ _ _ _ (by decide), e1, e5]
  by_cases h1 : a0.toInt < 1
  · have h1' : (a0 < 1) = True := by rw [i32_lt, f1]; simp [h1]
    simp only [h1, h1', ↓reduceIte, Option.bind_some]
    exact ⟨_, rfl, rfl⟩
  · have h1' : (a0 < 1) = False := by rw [i32_lt, f1]; simp only [h1]
    by_cases h2 : (5 : Int) < a0.toInt
    · have h2' : (a0 ≤ 5) = False := by rw [i32_le, f5]; simp; omega
      simp only [h1, h1', h2, h2', ↓reduceIte, Option.bind_some]
      exact ⟨_, rfl, rfl⟩
    · have h2' : (a0 ≤ 5) = True := by rw [i32_le, f5]; simp; omega
      obtain ⟨f, hf, rfl⟩ : ∃ f : Nat, f < 6 ∧ a0 = nI f := by
        rcases ixc a0 (n := 6) (by omega) with g | ⟨-, g⟩ | ⟨j, hj, e⟩
        · rw [i32_lt] at g; have : (0 : Int32).toInt = 0 := rfl; omega
        · rw [i32_le, tI (by omega)] at g; omega
        · exact ⟨j, hj, e⟩
      rw [tI (by omega)] at h1 h2
      simp only [h1', h2', h2, tI (n := f) (by omega), h1, ↓reduceIte, Option.bind_some, i10, ard_nI (M := M1) (a := 76) (k := f) hf, ard_nI (M := M2) (a := 107) (k := f) hf]
      exact ⟨_, rfl, by rw [hR.1.2.2.2.2 f (by omega) (by omega)]⟩
theorem kindOf_eq {F : Nat} {M : Mem} {v np nd : Nat} {kn : Nat → Int32} {dr : Nat → Nat → Int32} (h : VX M v np nd kn dr) {p : Nat} (hp : p < np) : V_kindOf F M v (nI p) = some (kn p) := by
  unfold V_kindOf
  rw [hasPerson_eq h]
  obtain ⟨hl1, hl2, hp0, hn0, hnp, hnd, hk, hd⟩ := h
  have h1 : (nI p < 0 ∨ nI np ≤ nI p) = False := by
    rw [nI_leI (by omega) (by omega)]
    simp [nI_nlt0 (n := p) (by omega)]
    omega
  simp only [Option.bind_some, i01, i10, h1, ↓reduceIte, ard_nI (M := M) (a := v + 1) (k := p) (by omega), hk p hp]
theorem kind_ard {M : Mem} {np nd : Nat} {kn : Nat → Int32} {dr : Nat → Nat → Int32} (h : VM M np nd kn dr) {p : Nat} (hp : p < np) : ard M 102 (nI p) = some (kn p) := by
  obtain ⟨h1, h2, h3, h4, h5, h6⟩ := h
  rw [ard_nI (by show p < 6; omega), h5 p hp]
def resK (k : Nat) : Int32 := rov 83 k
def groK (k : Nat) : Int32 := rov 84 k
theorem kdom (P : Nat → Prop) (h0 : P 0) (h1 : P 1) (h2 : P 2) (h3 : P 3) (h4 : P 4) (h5 : P 5) {k : Nat} (hk : k < 6) : P k := by
  match k, hk with
  | 0, _ => exact h0
  | 1, _ => exact h1
  | 2, _ => exact h2
  | 3, _ => exact h3
  | 4, _ => exact h4
  | 5, _ => exact h5
  | k + 6, hk => omega
theorem reserve_X {F : Nat} {M : Mem} {v np nd k : Nat} {kn : Nat → Int32} {dr : Nat → Nat → Int32} (h : VX M v np nd kn dr) {p : Nat} (hp : p < np) (hk : k < 6) (e : kn p = nI k) : V_reserve F M v (nI p) = some (resK k) := by
  unfold V_reserve
  rw [kindOf_eq h hp, e]
  simp only [Option.bind_some, rod_nI (a := 83) (k := k) hk]
  rfl
theorem reserve_M {F : Nat} {M : Mem} {np nd k : Nat} {kn : Nat → Int32} {dr : Nat → Nat → Int32} (h : VM M np nd kn dr) {p : Nat} (hp : p < np) (hk : k < 6) (e : kn p = nI k) : M_reserve F M (nI p) = some (resK k) := by
  unfold M_reserve
  rw [kind_ard h hp, e]
  simp only [Option.bind_some]
  exact kdom (fun k => (if nI k = 2 then some 0 else if nI k = 3 then some 6 else if nI k = 5 then some 12 else some 1) = some (resK k)) rfl rfl rfl rfl rfl rfl hk
theorem growth_X {F : Nat} {M : Mem} {v np nd k : Nat} {kn : Nat → Int32} {dr : Nat → Nat → Int32} (h : VX M v np nd kn dr) {p : Nat} (hp : p < np) (hk : k < 6) (e : kn p = nI k) : V_growthFor F M v (nI p) = some (groK k) := by
  unfold V_growthFor
  rw [kindOf_eq h hp, e]
  simp only [Option.bind_some, rod_nI (a := 84) (k := k) hk]
  rfl
theorem growth_M {F : Nat} {M : Mem} {np nd k : Nat} {kn : Nat → Int32} {dr : Nat → Nat → Int32} (h : VM M np nd kn dr) {p : Nat} (hp : p < np) (hk : k < 6) (e : kn p = nI k) : M_growth F M (nI p) = some (groK k) := by
  unfold M_growth
  rw [kind_ard h hp, e]
  simp only [Option.bind_some]
  exact kdom (fun k => (if nI k = 4 then some 2 else if nI k = 1 then some 1 else some 0) = some (groK k)) rfl rfl rfl rfl rfl rfl hk
/-- whether a kind is of a kind -/
def isK (k q : Nat) : Bool := k == q || (q == 1 && k == 4) || (q == 3 && k == 5) || q == 0
theorem isOfL {F : Nat} {M : Mem} {n k q : Nat} (hk : k < 6) (hq : q < 6) : (L_V_isOfKind_9 F M (nI q) (n + 10) (nI k) 0).bind (fun u7 => if u7 = nI q then some (1 : Int32) else some 0) = some (if isK k q = true then 1 else 0) := by
  match k, q, hk, hq with
  | 0, 0, _, _ => rfl
  | 0, 1, _, _ => rfl
  | 0, 2, _, _ => rfl
  | 0, 3, _, _ => rfl
  | 0, 4, _, _ => rfl
  | 0, 5, _, _ => rfl
  | 1, 0, _, _ => rfl
  | 1, 1, _, _ => rfl
  | 1, 2, _, _ => rfl
  | 1, 3, _, _ => rfl
  | 1, 4, _, _ => rfl
  | 1, 5, _, _ => rfl
  | 2, 0, _, _ => rfl
  | 2, 1, _, _ => rfl
  | 2, 2, _, _ => rfl
  | 2, 3, _, _ => rfl
  | 2, 4, _, _ => rfl
  | 2, 5, _, _ => rfl
  | 3, 0, _, _ => rfl
  | 3, 1, _, _ => rfl
  | 3, 2, _, _ => rfl
  | 3, 3, _, _ => rfl
  | 3, 4, _, _ => rfl
  | 3, 5, _, _ => rfl
  | 4, 0, _, _ => rfl
  | 4, 1, _, _ => rfl
  | 4, 2, _, _ => rfl
  | 4, 3, _, _ => rfl
  | 4, 4, _, _ => rfl
  | 4, 5, _, _ => rfl
  | 5, 0, _, _ => rfl
  | 5, 1, _, _ => rfl
  | 5, 2, _, _ => rfl
  | 5, 3, _, _ => rfl
  | 5, 4, _, _ => rfl
  | 5, 5, _, _ => rfl
  | k + 6, _, hk, _ => omega
  | _, q + 6, _, hq => omega
theorem isOfKind_X {F : Nat} (hF : FB ≤ F) {M : Mem} {v np nd k q : Nat} {kn : Nat → Int32} {dr : Nat → Nat → Int32} (h : VX M v np nd kn dr) {p : Nat} (hp : p < np) (hk : k < 6) (hq : q < 6) (e : kn p = nI k) : V_isOfKind F M v (nI p) (nI q) = some (if isK k q = true then 1 else 0) := by
  have hF' := FBL hF
  unfold V_isOfKind
  rw [kindOf_eq h hp, e]
  simp only [Option.bind_some]
  obtain ⟨n, hn⟩ : ∃ n, F = n + 10 := ⟨F - 10, by omega⟩
  have := isOfL (F := F) (M := M) (n := n) hk hq
  rw [← hn] at this
  exact this
theorem isOf_t : ∀ k q : Nat, k < 6 → 1 ≤ q → q < 6 → (if nI k = nI q then some (1 : Int32) else if nI q = 1 then (if nI k = 4 then some 1 else if nI q = 3 then (if nI k = 5 then some 1 else some 0) else some 0) else (if nI q = 3 then (if nI k = 5 then some 1 else some 0) else some 0)) = some (if isK k q = true then 1 else 0) := by
  intro k q hk h1 hq
  match k, q, hk, h1, hq with
  | 0, 1, _, _, _ => rfl
  | 0, 2, _, _, _ => rfl
  | 0, 3, _, _, _ => rfl
  | 0, 4, _, _, _ => rfl
  | 0, 5, _, _, _ => rfl
  | 1, 1, _, _, _ => rfl
  | 1, 2, _, _, _ => rfl
  | 1, 3, _, _, _ => rfl
  | 1, 4, _, _, _ => rfl
  | 1, 5, _, _, _ => rfl
  | 2, 1, _, _, _ => rfl
  | 2, 2, _, _, _ => rfl
  | 2, 3, _, _, _ => rfl
  | 2, 4, _, _, _ => rfl
  | 2, 5, _, _, _ => rfl
  | 3, 1, _, _, _ => rfl
  | 3, 2, _, _, _ => rfl
  | 3, 3, _, _, _ => rfl
  | 3, 4, _, _, _ => rfl
  | 3, 5, _, _, _ => rfl
  | 4, 1, _, _, _ => rfl
  | 4, 2, _, _, _ => rfl
  | 4, 3, _, _, _ => rfl
  | 4, 4, _, _, _ => rfl
  | 4, 5, _, _, _ => rfl
  | 5, 1, _, _, _ => rfl
  | 5, 2, _, _, _ => rfl
  | 5, 3, _, _, _ => rfl
  | 5, 4, _, _, _ => rfl
  | 5, 5, _, _, _ => rfl
  | _, 0, _, h1, _ => omega
  | k + 6, _, hk, _, _ => omega
  | _, q + 6, _, _, hq => omega
theorem isOf_M {F : Nat} {M : Mem} {np nd k q : Nat} {kn : Nat → Int32} {dr : Nat → Nat → Int32} (h : VM M np nd kn dr) {p : Nat} (hp : p < np) (hk : k < 6) (h1 : 1 ≤ q) (hq : q < 6) (e : kn p = nI k) : M_isOf F M (nI p) (nI q) = some (if isK k q = true then 1 else 0) := by
  unfold M_isOf
  rw [kind_ard h hp, e]
  simp only [Option.bind_some]
  exact isOf_t k q hk h1 hq
/-- sets of persons: six bits -/
def S64 (s : Int32) : Prop := ∃ k : Nat, k < 64 ∧ s = nI k
theorem s64_key : ∀ k : Fin 64, ∀ b : Fin 6, (nI k.val ||| ((1 : Int32) <<< (nI b.val &&& 31))) = nI (k.val ||| 2 ^ b.val) ∧ (k.val ||| 2 ^ b.val) < 64 := by decide +kernel
theorem S64.or {s : Int32} {b : Nat} (h : S64 s) (hb : b < 6) : S64 (s ||| (1 <<< (nI b &&& 31))) := by
  obtain ⟨k, hk, rfl⟩ := h
  have := s64_key ⟨k, hk⟩ ⟨b, hb⟩
  exact ⟨_, this.2, this.1⟩
theorem S64.zero : S64 0 := ⟨0, by omega, rfl⟩
theorem S64.one {b : Nat} (hb : b < 6) : S64 (1 <<< (nI b &&& 31)) := by
  have := S64.or S64.zero hb
  rwa [Int32.zero_or] at this
theorem reach_64 {nd : Nat} {dr : Nat → Nat → Int32} (hb : BN nd dr) (g : Int32) : S64 (reachS nd dr g) := by
  unfold reachS
  refine fo_inv _ (fun _ s => S64 s) nd (fun i s hi hs => ?_) nd 0 0 (by omega) S64.zero
  obtain ⟨a, b, ha, hbb, ea, eb, wa, wb⟩ := hb i hi
  split
  · rw [eb]; exact hs.or hbb
  · exact hs
def pcN (k : Nat) : Nat := (List.range 6).foldl (fun s i => s + (if k.testBit i then 1 else 0)) 0
theorem bc_key : ∀ k : Fin 64, J_bitCount 0 (fun _ _ => 0) (nI k.val) = some (nI (pcN k.val)) := by decide +kernel
theorem bitCount_eq {F : Nat} {M : Mem} {k : Nat} (hk : k < 64) : J_bitCount F M (nI k) = some (nI (pcN k)) := bc_key ⟨k, hk⟩
theorem bits_key : ∀ k : Fin 64, fo (fun i (s : Int32) => s + ((nI k.val >>> (nI i &&& 31)) &&& 1)) 12 0 0 = nI (pcN k.val) := by decide +kernel
theorem bits_eq {F : Nat} (hF : FB ≤ F) {M : Mem} {k : Nat} (hk : k < 64) : M_bits F M (nI k) = some (nI (pcN k)) := by
  have hF' := FBL hF
  unfold M_bits
  have key := lpF (fun m i (s : Int32) => L_M_bits_4 F M (nI k) m s (nI i)) (fun i s => s + ((nI k >>> (nI i &&& 31)) &&& 1)) (fun s => some s) 12
    (fun m i s hi => by
      show B_M_bits_4 F M (nI k) _ s (nI i) = _
      unfold B_M_bits_4
      have hc : (12 ≤ nI i) = False := by rw [lit 12, nI_leI (by omega) (by omega)]; simp; omega
      simp only [hc, ↓reduceIte, nI_1])
    (fun m s => by
      show B_M_bits_4 F M (nI k) _ s (nI 12) = _
      unfold B_M_bits_4
      rw [if_pos (by decide)])
    12 0 F 0 (by omega) (by omega)
  show ((L_M_bits_4 F M (nI k) F 0 (nI 0)).bind fun u => some u) = _
  rw [key, bits_key ⟨k, hk⟩]
  rfl
theorem owes_reach {nd p : Nat} {dr : Nat → Nat → Int32} (hb : BN nd dr) (hp : p < 6) : owesS nd dr (nI p) = reachS nd dr (1 <<< (nI p &&& 31)) := by
  unfold owesS reachS
  refine fo_congr (e := nd) (fun i s hi => ?_) nd 0 0 (by omega)
  obtain ⟨a, b, ha, hbb, ea, eb, wa, wb⟩ := hb i hi
  rw [wa, tb_1 (by omega), ea]
  have : (nI a = nI p) = (decide (p = a) = true) := by rw [nI_eq (by omega) (by omega)]; simp; exact eq_comm
  simp only [this]
/-- what is told of a person -/
def toldS (np nd k p : Nat) (dr : Nat → Nat → Int32) (x : Int32) : Int32 := if x = 0 then nI k else if x = 1 then owingS nd dr (nI p) else if x = 2 then owedS nd dr (nI p) 0 else if x = 3 then resK k else nI (pcN (reachS nd dr (1 <<< (nI p &&& 31))).toNatClampNeg)
theorem told_X {F : Nat} (hF : FB ≤ F) {M : Mem} {np nd k : Nat} {kn : Nat → Int32} {dr : Nat → Nat → Int32} (h : VX M 23 np nd kn dr) (hb : BN nd dr) {p : Nat} (hp : p < np) (hk : k < 6) (e : kn p = nI k) (x : Int32) : K_ofPerson F M (nI p) x = some (toldS np nd k p dr x) := by
  have hnp := h.2.2.2.2.1
  unfold K_ofPerson toldS
  obtain ⟨m, hm, hm2⟩ := reach_64 hb (1 <<< (nI p &&& 31))
  rw [kindOf_eq h hp, V_owing_eq hF h, V_owed_eq hF h hb, reserve_X h hp hk e, V_owedByAny_eq hF h hb]
  simp only [Option.bind_some]
  rw [hm2, bitCount_eq hm, cl (by omega), e]
  simp only [Option.bind_some]
  split
  · rfl
  · split
    · rfl
    · split
      · rfl
      · split <;> rfl
theorem told_M {F : Nat} (hF : FB ≤ F) {M : Mem} {np nd k : Nat} {kn : Nat → Int32} {dr : Nat → Nat → Int32} (h : VM M np nd kn dr) (hb : BN nd dr) {p : Nat} (hp : p < np) (hk : k < 6) (e : kn p = nI k) (x : Int32) : M_toldOf F M (nI p) x = some (toldS np nd k p dr x) := by
  have hnp := h.2.2.1
  unfold M_toldOf toldS M_owesTo
  obtain ⟨m, hm, hm2⟩ := reach_64 hb (1 <<< (nI p &&& 31))
  rw [kind_ard h hp, M_owing_eq hF h, M_owed_eq hF h hb, reserve_M h hp hk e, M_owesToL_eq hF h, owes_reach hb (by omega)]
  simp only [Option.bind_some]
  rw [hm2, bits_eq hF hm, cl (by omega), e]
  simp only [Option.bind_some]
  split
  · rfl
  · split
    · rfl
    · split
      · rfl
      · split <;> rfl
theorem in_lo {F : Nat} {M : Mem} {x : Int32} {hi : Int64} (h : x < 0) : M_in F M x.toInt64 0 hi = some 0 := by
  have e0 : (0 : Int64).toInt = 0 := rfl
  have e1 : (0 : Int32).toInt = 0 := rfl
  rw [i32_lt, e1] at h
  rw [in32 _ _ _ _ _ (by decide), e0, if_pos h]
theorem in_n {F : Nat} {M : Mem} {x : Int32} {n : Nat} {hi : Int64} (hh : hi.toInt = (n : Int)) (hn : n ≤ 1000) (h : ¬ x < 0) : M_in F M x.toInt64 0 hi = some (if x < nI (n + 1) then 1 else 0) := by
  have e0 : (0 : Int64).toInt = 0 := rfl
  have e1 : (0 : Int32).toInt = 0 := rfl
  rw [i32_lt, e1] at h
  rw [in32 _ _ _ _ _ (by decide), e0, if_neg h, hh]
  have : (x < nI (n + 1)) = ¬ ((n : Int) < x.toInt) := by
    rw [i32_lt, tI (by omega)]
    simp only [eq_iff_iff]
    omega
  simp only [this]
  by_cases g : (n : Int) < x.toInt <;> simp [g]
theorem op_person {F : Nat} (hF : FB ≤ F) (M1 M2 : Mem) (a0 : Int32) (a1 : Int32) (hR : Rel M1 M2) : ∃ (r : Int32) (M1' : Mem) (M2' : Mem), K_person F M1 a0 a1 = some (r, M1') ∧ M_person F M2 a0 a1 = some (r, M2') ∧ Rel M1' M2' := by
  obtain ⟨np, nd, D, hc⟩ := hR.2.2.2
  obtain ⟨kn, dr, hx, hm, hg, -, -⟩ := hc.views
  unfold K_person M_person
  rw [hasPerson_eq hx, isPerson_eq hm]
  rcases one_cases a0 (n := np) (by have := hg.2.1; omega) with h | ⟨h, p, hp, rfl⟩
  · simp only [h, Option.bind_some, ↓reduceIte]
    exact ⟨_, _, _, rfl, rfl, hR⟩
  · obtain ⟨k, hk, e⟩ := hg.2.2.2.2 p hp
    by_cases h0 : a1 < 0
    · simp only [h, h0, in_lo h0, Option.bind_some, ↓reduceIte, i10]
      exact ⟨_, _, _, rfl, rfl, hR⟩
    · rw [in_n (n := 4) rfl (by omega) h0]
      by_cases h5 : a1 < 5
      · have h5' : (a1 < nI (4 + 1)) = True := by simp only [eq_iff_iff, iff_true]; exact h5
        simp only [h, h0, h5, h5', Option.bind_some, ↓reduceIte, i10, told_X hF hx hg.bn hp hk e, told_M hF hm hg.bn hp hk e, K_tell, M_tell]
        exact ⟨_, _, _, rfl, rfl, tell_rel hR _⟩
      · have h5' : (a1 < nI (4 + 1)) = False := by simp only [eq_iff_iff, iff_false]; exact h5
        simp only [h, h0, h5, h5', Option.bind_some, ↓reduceIte, i10]
        exact ⟨_, _, _, rfl, rfl, hR⟩
def ofS (dr : Nat → Nat → Int32) (i : Nat) (x : Int32) : Int32 := if x = 0 then dr i 0 else if x = 1 then dr i 1 else if x = 2 then dr i 2 else if x = 3 then dr i 3 else if x = 4 then dr i 4 else dr i 5
theorem ofDraft_X {F : Nat} {M : Mem} {np nd : Nat} {kn : Nat → Int32} {dr : Nat → Nat → Int32} (h : VX M 23 np nd kn dr) {i : Nat} (hi : i < nd) (x : Int32) : K_ofDraft F M (nI i) x = some (ofS dr i x) := by
  obtain ⟨hl1, hl2, hp0, hn0, hnp, hnd, hk, hd⟩ := h
  unfold K_ofDraft ofS
  have e := hd i hi
  rw [idx_nI (by omega : i < 12) (by omega)]
  simp only [Option.bind_some]
  rw [show 25 + 1 + i = 23 + 2 + 1 + i from rfl, e 0 (by decide), e 1 (by decide), e 2 (by decide), e 3 (by decide), e 4 (by decide), e 5 (by decide)]
  split
  · rfl
  · split
    · rfl
    · split
      · rfl
      · split
        · rfl
        · split <;> rfl
theorem ofS_nI {dr : Nat → Nat → Int32} {i j : Nat} (hj : j < 6) : ofS dr i (nI j) = dr i j := kdom (fun j => ofS dr i (nI j) = dr i j) rfl rfl rfl rfl rfl rfl hj
theorem op_draft {F : Nat} (hF : FB ≤ F) (M1 M2 : Mem) (a0 : Int32) (a1 : Int32) (hR : Rel M1 M2) : ∃ (r : Int32) (M1' : Mem) (M2' : Mem), K_draft F M1 a0 a1 = some (r, M1') ∧ M_draft F M2 a0 a1 = some (r, M2') ∧ Rel M1' M2' := by
  obtain ⟨np, nd, D, hc⟩ := hR.2.2.2
  obtain ⟨kn, dr, hx, hm, hg, -, -⟩ := hc.views
  unfold K_draft M_draft
  rw [hasDraft_eq hx, isDraft_eq hm]
  rcases one_cases a0 (n := nd) (by have := hg.2.2.1; omega) with h | ⟨h, i, hi, rfl⟩
  · simp only [h, Option.bind_some, ↓reduceIte]
    exact ⟨_, _, _, rfl, rfl, hR⟩
  · by_cases h0 : a1 < 0
    · simp only [h, h0, in_lo h0, Option.bind_some, ↓reduceIte, i10]
      exact ⟨_, _, _, rfl, rfl, hR⟩
    · rw [in_n (n := 5) rfl (by omega) h0]
      by_cases h5 : a1 < 6
      · have h5' : (a1 < nI (5 + 1)) = True := by simp only [eq_iff_iff, iff_true]; exact h5
        obtain ⟨j, hj, rfl⟩ : ∃ j : Nat, j < 6 ∧ a1 = nI j := by
          rcases ixc a1 (n := 6) (by omega) with g | ⟨-, g⟩ | g
          · exact absurd g h0
          · exact absurd h5 (Int32.not_lt.mpr g)
          · exact g
        simp only [h, h0, h5, h5', Option.bind_some, ↓reduceIte, i10, ofDraft_X hx hi, ofS_nI hj, M_of_eq hm hi hj, K_tell, M_tell]
        exact ⟨_, _, _, rfl, rfl, tell_rel hR _⟩
      · have h5' : (a1 < nI (5 + 1)) = False := by simp only [eq_iff_iff, iff_false]; exact h5
        simp only [h, h0, h5, h5', Option.bind_some, ↓reduceIte, i10]
        exact ⟨_, _, _, rfl, rfl, hR⟩
theorem isSort_X {F : Nat} {M : Mem} {x : Int32} : K_isSort F M x = some (if x < 0 ∨ nI 3 ≤ x then 0 else 1) := by
  unfold K_isSort
  rw [show (3 : Int32) = nI 3 from rfl]
  by_cases h1 : x < 0 <;> by_cases h2 : nI 3 ≤ x <;> simp [h1, h2]
theorem in_02 {F : Nat} {M : Mem} {x : Int32} {n : Nat} {hi : Int64} (hh : hi.toInt = (n : Int)) (hn : n ≤ 1000) : M_in F M x.toInt64 0 hi = some (if x < 0 ∨ nI (n + 1) ≤ x then 0 else 1) := by
  by_cases h : x < 0
  · rw [in_lo h]; simp [h]
  · rw [in_n hh hn h]
    by_cases h2 : nI (n + 1) ≤ x
    · have : ¬ x < nI (n + 1) := Int32.not_lt.mpr h2
      simp [h, h2, this]
    · have : x < nI (n + 1) := Int32.not_le.mp h2
      simp [h, h2, this]
theorem op_between {F : Nat} (hF : FB ≤ F) (M1 M2 : Mem) (a0 : Int32) (a1 : Int32) (a2 : Int32) (hR : Rel M1 M2) : ∃ (r : Int32), K_between F M1 a0 a1 a2 = some r ∧ M_between F M2 a0 a1 a2 = some r := by
  obtain ⟨np, nd, D, hc⟩ := hR.2.2.2
  obtain ⟨kn, dr, hx, hm, hg, -, -⟩ := hc.views
  unfold K_between M_between
  rw [hasTwo_eq hx, areTwo_eq hm, isSort_X, in_02 (n := 2) rfl (by omega), V_kissesBetween_eq hF hx, M_sumOf_eq hF hm]
  simp only [Option.bind_some, i01]
  split
  · exact ⟨_, rfl, rfl⟩
  · split <;> exact ⟨_, rfl, rfl⟩
