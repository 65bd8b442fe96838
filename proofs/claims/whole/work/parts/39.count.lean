/-! count, digest -/
theorem fo_add {σ : Type} (f : Nat → σ → σ) : ∀ (a b k : Nat) (s : σ), fo f (a + b) k s = fo f b (k + a) (fo f a k s) := by
  intro a
  induction a with
  | zero => intro b k s; rw [Nat.zero_add]; rfl
  | succ a ih =>
    intro b k s
    rw [show a + 1 + b = (a + b) + 1 by omega]
    show fo f (a + b) (k + 1) (f k s) = _
    rw [ih b (k + 1) (f k s), show k + 1 + a = k + (a + 1) by omega]
    rfl
theorem fo_shift {σ : Type} (f : Nat → σ → σ) (a : Nat) : ∀ (c k : Nat) (s : σ), fo f c (k + a) s = fo (fun i => f (i + a)) c k s := by
  intro c
  induction c with
  | zero => intro k s; rfl
  | succ c ih =>
    intro k s
    show fo f c (k + a + 1) (f (k + a) s) = fo (fun i => f (i + a)) c (k + 1) (f (k + a) s)
    rw [show k + a + 1 = (k + 1) + a by omega, ih]
theorem fo_nest {σ : Type} (g : Nat → Nat → σ → σ) (m : Nat) (hm : 0 < m) (s : σ) : ∀ n : Nat, fo (fun k => g (k / m) (k % m)) (m * n) 0 s = fo (fun p s => fo (g p) m 0 s) n 0 s := by
  intro n
  induction n with
  | zero => rfl
  | succ n ih =>
    rw [Nat.mul_succ, fo_add, ih, fo_succ, Nat.zero_add, Nat.zero_add]
    have h := fo_shift (fun k => g (k / m) (k % m)) (m * n) m 0 (fo (fun p s => fo (g p) m 0 s) n 0 s)
    rw [Nat.zero_add] at h
    rw [h]
    refine fo_congr (e := m) (fun k s hk => ?_) m 0 _ (by omega)
    have h1 : (k + m * n) / m = n := by rw [Nat.add_mul_div_left _ _ hm, Nat.div_eq_of_lt hk, Nat.zero_add]
    have h2 : (k + m * n) % m = k := by rw [Nat.add_mul_mod_self_left, Nat.mod_eq_of_lt hk]
    rw [h1, h2]
theorem sum_sorts {nd : Nat} {dr : Nat → Nat → Int32} (h : ∀ i, i < nd → dr i 2 = 0 ∨ dr i 2 = 1 ∨ dr i 2 = 2) : (sortS nd dr 0 + sortS nd dr 1) + sortS nd dr 2 = allS nd dr := by
  have key : ∀ n, n ≤ nd → (fo (fun i (s : Int32) => if dr i 2 = 0 then s + dr i 3 else s) n 0 0 + fo (fun i (s : Int32) => if dr i 2 = 1 then s + dr i 3 else s) n 0 0) + fo (fun i (s : Int32) => if dr i 2 = 2 then s + dr i 3 else s) n 0 0 = fo (fun i (s : Int32) => s + dr i 3) n 0 0 := by
    intro n
    induction n with
    | zero => intro _; rfl
    | succ n ih =>
      intro hn
      have ih := ih (by omega)
      rw [fo_succ, fo_succ, fo_succ, fo_succ, Nat.zero_add, ← ih]
      rcases h n (by omega) with e | e | e
      · rw [e, if_pos rfl, if_neg (by decide), if_neg (by decide)]; ac_rfl
      · rw [e, if_neg (by decide), if_pos rfl, if_neg (by decide)]; ac_rfl
      · rw [e, if_neg (by decide), if_neg (by decide), if_pos rfl]; ac_rfl
  exact key nd (by omega)
theorem GV.sort {np nd w : Nat} {kn : Nat → Int32} {dr : Nat → Nat → Int32} (h : GV np nd w kn dr) : ∀ i, i < nd → dr i 2 = 0 ∨ dr i 2 = 1 ∨ dr i 2 = 2 := by
  intro i hi
  obtain ⟨a, b, c, k, v, t, h0, h1, h2, h3, h4, h5, ha, hb, hab, hc, -⟩ := h.2.2.2.1 i hi
  rw [h2]
  match c, hc with
  | 0, _ => exact Or.inl rfl
  | 1, _ => exact Or.inr (Or.inl rfl)
  | 2, _ => exact Or.inr (Or.inr rfl)
  | c + 3, hc => omega
def auntS (np : Nat) (kn : Nat → Int32) : Int32 := fo (fun p (s : Int32) => if kn p = 1 ∨ kn p = 4 then s + 1 else s) np 0 0
theorem isK_1 {k : Nat} (hk : k < 6) : (isK k 1 = true) = (nI k = 1 ∨ nI k = 4) := by
  refine kdom (fun k => (isK k 1 = true) = (nI k = 1 ∨ nI k = 4)) ?_ ?_ ?_ ?_ ?_ ?_ hk <;> decide
theorem aunts_X {F : Nat} (hF : FB ≤ F) {M : Mem} {v np nd w : Nat} {kn : Nat → Int32} {dr : Nat → Nat → Int32} (h : VX M v np nd kn dr) (hg : GV np nd w kn dr) : V_personsOfKind F M v 1 = some (auntS np kn) := by
  have hF' := FBL hF
  have hnp := hg.2.1
  have hp0 := h.2.2.1
  unfold V_personsOfKind
  have key := lpF (fun m p (s : Int32) => L_V_personsOfKind_4 F M v 1 m s (nI p)) (fun p s => if kn p = 1 ∨ kn p = 4 then s + 1 else s) (fun s => some s) np
    (fun m p s hp => by
      show B_V_personsOfKind_4 F M v 1 _ s (nI p) = _
      unfold B_V_personsOfKind_4
      have hc : (nI np ≤ nI p) = False := by rw [nI_leI (by omega) (by omega)]; simp; omega
      obtain ⟨k, hk, e⟩ := hg.2.2.2.2 p hp
      have e2 : V_isOfKind F M v (nI p) 1 = some (if isK k 1 = true then 1 else 0) := isOfKind_X hF h hp hk (q := 1) (by decide) e
      simp only [hp0, hc, ↓reduceIte, Option.bind_some, e2, i10c, isK_1 hk, e, nI_1]
      by_cases c0 : (nI k = 1 ∨ nI k = 4) <;> simp [c0])
    (fun m s => by
      show B_V_personsOfKind_4 F M v 1 _ s (nI np) = _
      unfold B_V_personsOfKind_4
      rw [hp0, if_pos (by rw [nI_leI (by omega) (by omega)]; omega)])
    np 0 F 0 (by omega) (by omega)
  show ((L_V_personsOfKind_4 F M v 1 F 0 (nI 0)).bind fun u => some u) = _
  rw [key]
  rfl
theorem aunts_M {F : Nat} (hF : FB ≤ F) {M : Mem} {np nd w : Nat} {kn : Nat → Int32} {dr : Nat → Nat → Int32} (h : VM M np nd kn dr) (hg : GV np nd w kn dr) : M_aunts F M = some (auntS np kn) := by
  have hF' := FBL hF
  have hnp := hg.2.1
  have hp0 := h.1
  unfold M_aunts
  have key := lpF (fun m p (s : Int32) => L_M_aunts_4 F M m s (nI p)) (fun p s => if kn p = 1 ∨ kn p = 4 then s + 1 else s) (fun s => some s) np
    (fun m p s hp => by
      show B_M_aunts_4 F M _ s (nI p) = _
      unfold B_M_aunts_4
      have hc : (nI np ≤ nI p) = False := by rw [nI_leI (by omega) (by omega)]; simp; omega
      simp only [hp0, hc, ↓reduceIte, Option.bind_some, kind_ard h hp, M_isAunt, nI_1, Int32.add_zero]
      by_cases c0 : kn p = 1 <;> by_cases c1 : kn p = 4 <;> simp [c0, c1])
    (fun m s => by
      show B_M_aunts_4 F M _ s (nI np) = _
      unfold B_M_aunts_4
      rw [hp0, if_pos (by rw [nI_leI (by omega) (by omega)]; omega)])
    np 0 F 0 (by omega) (by omega)
  show ((L_M_aunts_4 F M F 0 (nI 0)).bind fun u => some u) = _
  rw [key]
  rfl
/-- a strip is there, or not: both say so -/
theorem strip_there {M1 M2 : Mem} {most s c a r : Nat} (hm : most ≤ 80) (h : StripRel M1 M2 most s c a r) : (M1 s 1 = -1) = (M2 c r < 0) := by
  rcases h with ⟨h1, h2⟩ | ⟨n, hn, h1, h2, -⟩
  · rw [h1, h2]; decide
  · rw [h1, h2]
    have e1 : (nI n = -1) = False := by simp [nI_m1 (n := n) (by omega)]
    have e2 : (nI n < 0) = False := by simp [nI_nlt0 (n := n) (by omega)]
    rw [e1, e2]
theorem kept_there {M1 M2 : Mem} {np h b : Nat} (hr : RelK M1 M2 np h b) : (M1 h 0 = -1) = (M2 101 b < 0) := by
  rcases hr with ⟨h1, h2⟩ | ⟨D, ⟨hD, h1, h2, -⟩, -⟩
  · rw [h1, h2]; decide
  · rw [h1, h2]
    have e1 : (nI D = -1) = False := by simp [nI_m1 (n := D) (by omega)]
    have e2 : (nI D < 0) = False := by simp [nI_nlt0 (n := D) (by omega)]
    rw [e1, e2]
def thereS (P : Nat → Prop) [DecidablePred P] (n : Nat) : Int32 := fo (fun k (s : Int32) => if P k then s else s + 1) n 0 0
theorem those_X {F : Nat} (hF : FB ≤ F) {M : Mem} {b n : Nat} (hl : ln b = n) (hn : n ≤ 6) : K_thoseThere F M b = some (thereS (fun k => M (b + 1 + 2 * k) 1 = -1) n) := by
  have hF' := FBL hF
  unfold K_thoseThere
  have key := lpF (fun m k (s : Int32) => L_K_thoseThere_4 F M b m s (nI k)) (fun k s => if M (b + 1 + 2 * k) 1 = -1 then s else s + 1) (fun s => some s) n
    (fun m k s hk => by
      show B_K_thoseThere_4 F M b _ s (nI k) = _
      unfold B_K_thoseThere_4
      have hc : (Int32.ofNat n ≤ nI k) = False := by
        show (nI n ≤ nI k) = False
        rw [nI_leI (by omega) (by omega)]; simp; omega
      simp only [hl, hc, ↓reduceIte, idx_nI hk (by omega : n ≤ 1000000), Option.bind_some, S_isMissing, nI_1]
      by_cases c0 : M (b + 1 + 2 * k) 1 = -1 <;> simp [c0])
    (fun m s => by
      show B_K_thoseThere_4 F M b _ s (nI n) = _
      unfold B_K_thoseThere_4
      rw [if_pos (by show nI (ln b) ≤ nI n; rw [hl, nI_leI (by omega) (by omega)]; omega)])
    n 0 F 0 (by omega) (by omega)
  show ((L_K_thoseThere_4 F M b F 0 (nI 0)).bind fun u => some u) = _
  rw [key]
  rfl
theorem kept_X {F : Nat} (hF : FB ≤ F) {M : Mem} : K_keptVillages F M = some (thereS (fun k => M (56 + 1 + 3 * k) 0 = -1) 3) := by
  have hF' := FBL hF
  unfold K_keptVillages
  have key := lpF (fun m k (s : Int32) => L_K_keptVillages_4 F M m s (nI k)) (fun k s => if M (56 + 1 + 3 * k) 0 = -1 then s else s + 1) (fun s => some s) 3
    (fun m k s hk => by
      show B_K_keptVillages_4 F M _ s (nI k) = _
      unfold B_K_keptVillages_4
      have hc : (3 ≤ nI k) = False := by
        rw [lit 3, nI_leI (by omega) (by omega)]; simp; omega
      simp only [hc, ↓reduceIte, idx_nI hk (by omega : 3 ≤ 1000000), Option.bind_some, nI_1]
      by_cases c0 : M (56 + 1 + 3 * k) 0 = -1 <;> simp [c0])
    (fun m s => by
      show B_K_keptVillages_4 F M _ s (nI 3) = _
      unfold B_K_keptVillages_4
      rw [if_pos (by decide)])
    3 0 F 0 (by omega) (by omega)
  show ((L_K_keptVillages_4 F M F 0 (nI 0)).bind fun u => some u) = _
  rw [key]
  rfl
theorem there_M {F : Nat} (hF : FB ≤ F) {M : Mem} (x : Int32) : M_thereOf F M x = some (fo (fun k (s : Int32) => if (x = 6 ∧ ¬ M 103 k < 0) ∨ (¬ x = 6 ∧ x = 7 ∧ k < 4 ∧ ¬ M 105 k < 0) ∨ (¬ x = 6 ∧ ¬ x = 7 ∧ k < 3 ∧ ¬ M 101 (2994 * (k + 1)) < 0) then s + 1 else s) 6 0 0) := by
  have hF' := FBL hF
  unfold M_thereOf
  have key := lpF (fun m k (s : Int32) => L_M_thereOf_4 F M x m s (nI k)) (fun k s => if (x = 6 ∧ ¬ M 103 k < 0) ∨ (¬ x = 6 ∧ x = 7 ∧ k < 4 ∧ ¬ M 105 k < 0) ∨ (¬ x = 6 ∧ ¬ x = 7 ∧ k < 3 ∧ ¬ M 101 (2994 * (k + 1)) < 0) then s + 1 else s) (fun s => some s) 6
    (fun m k s hk => by
      show B_M_thereOf_4 F M x _ s (nI k) = _
      unfold B_M_thereOf_4
      have hc : (6 ≤ nI k) = False := by rw [lit 6, nI_leI (by omega) (by omega)]; simp; omega
      have h4 : (4 ≤ nI k) = (4 ≤ k) := by rw [lit 4, nI_leI (by omega) (by omega)]
      have h3 : (3 ≤ nI k) = (3 ≤ k) := by rw [lit 3, nI_leI (by omega) (by omega)]
      have e1 : ((2994 * (1 + nI k)) + 0) = nI (2994 * (k + 1)) := by rw [Int32.add_zero, lit 2994, lit 1, nI_add, pk_mul, Nat.add_comm 1 k]
      have e3 := ard_nI (M := M) (a := 103) (k := k) hk
      have e4 : ard M 101 (nI (2994 * (k + 1))) = some (M 101 (2994 * (k + 1))) ∨ 3 ≤ k := by
        by_cases g : 3 ≤ k
        · exact Or.inr g
        · exact Or.inl (ard_nI (by show _ < 11976; omega))
      have e5 : ard M 105 (nI k) = some (M 105 k) ∨ 4 ≤ k := by
        by_cases g : 4 ≤ k
        · exact Or.inr g
        · exact Or.inl (ard_nI (by show _ < 4; omega))
      simp only [hc, ↓reduceIte, e3, e1, h3, h4, Option.bind_some, nI_1, Int32.add_zero, ← Int32.not_lt]
      by_cases c0 : x = 6
      · by_cases c1 : M 103 k < 0 <;> simp [c0, c1]
      · by_cases c2 : x = 7
        · by_cases c3 : 4 ≤ k
          · have : ¬ k < 4 := by omega
            simp [c2, c3, this]
          · have c3' : k < 4 := by omega
            rcases e5 with e5 | e5
            · rw [e5]
              by_cases c4 : M 105 k < 0 <;> simp [c2, c3, c3', c4]
            · exact absurd e5 c3
        · by_cases c3 : 3 ≤ k
          · have : ¬ k < 3 := by omega
            simp [c0, c2, c3, this]
          · have c3' : k < 3 := by omega
            rcases e4 with e4 | e4
            · rw [e4]
              by_cases c4 : M 101 (2994 * (k + 1)) < 0 <;> simp [c0, c2, c3, c3', c4]
            · exact absurd e4 c3)
    (fun m s => by
      show B_M_thereOf_4 F M x _ s (nI 6) = _
      unfold B_M_thereOf_4
      rw [if_pos (by decide)])
    6 0 F 0 (by omega) (by omega)
  show ((L_M_thereOf_4 F M x F 0 (nI 0)).bind fun u => some u) = _
  rw [key]
  rfl
theorem there_cut {f g : Nat → Int32 → Int32} {n : Nat} (hn : n ≤ 6) (h1 : ∀ k s, k < n → f k s = g k s) (h2 : ∀ k s, n ≤ k → f k s = s) : fo f 6 0 0 = fo g n 0 0 := by
  obtain ⟨c, hc⟩ : ∃ c, 6 = n + c := ⟨6 - n, by omega⟩
  rw [hc, fo_add, fo_congr (e := n) h1 n 0 0 (by omega)]
  generalize fo g n 0 0 = s
  rw [Nat.zero_add]
  clear hc h1 hn
  have : ∀ (c k : Nat), n ≤ k → fo f c k s = s := by
    intro c
    induction c with
    | zero => intro k _; rfl
    | succ c ih =>
      intro k hk
      show fo f c (k + 1) (f k s) = s
      rw [h2 k s hk]
      exact ih (k + 1) (by omega)
  exact this c n (by omega)
def countS (M1 : Mem) (np nd D : Nat) (kn : Nat → Int32) (dr : Nat → Nat → Int32) (x : Int32) : Int32 := if x = 0 then nI np else if x = 1 then nI nd else if x = 2 then nI D else if x = 3 then openS nd dr else if x = 4 then allS nd dr else if x = 5 then auntS np kn else if x = 6 then thereS (fun k => M1 (1 + 1 + 2 * k) 1 = -1) 6 else if x = 7 then thereS (fun k => M1 (14 + 1 + 2 * k) 1 = -1) 4 else thereS (fun k => M1 (56 + 1 + 3 * k) 0 = -1) 3
theorem count_X {F : Nat} (hF : FB ≤ F) {M : Mem} {np nd D w : Nat} {kn : Nat → Int32} {dr : Nat → Nat → Int32} (h : VX M 23 np nd kn dr) (hg : GV np nd w kn dr) (hD : M 53 0 = nI D) (x : Int32) : K_howMany F M x = some (countS M np nd D kn dr x) := by
  unfold K_howMany countS
  rw [h.2.2.1, h.2.2.2.1, hD, V_openDrafts_eq hF h, V_kissesOfSort_eq hF h, V_kissesOfSort_eq hF h, V_kissesOfSort_eq hF h, aunts_X hF h hg, those_X hF (b := 1) (n := 6) rfl (by omega), those_X hF (b := 14) (n := 4) rfl (by omega), kept_X hF]
  simp only [Option.bind_some, sum_sorts hg.sort]
  repeat' split
  all_goals rfl
theorem count_M {F : Nat} (hF : FB ≤ F) {M1 M2 : Mem} (hR : Rel M1 M2) {np nd D w : Nat} {kn : Nat → Int32} {dr : Nat → Nat → Int32} (hc : RelC M1 M2 np nd D) (h : VM M2 np nd kn dr) (hg : GV np nd w kn dr) {x : Nat} (hx9 : x < 9) : M_countOf F M2 (nI x) = some (countS M1 np nd D kn dr (nI x)) := by
  unfold M_countOf countS
  rw [h.1, h.2.1, hc.2.2.1.2.2.1, M_openMany_eq hF h, M_openKisses_eq hF h, aunts_M hF h hg, there_M hF]
  simp only [Option.bind_some]
  have hs6 : ∀ k, k < 6 → (M1 (1 + 1 + 2 * k) 1 = -1) = (M2 103 k < 0) := fun k hk => strip_there (by omega) (hR.2.1 k hk)
  have hs7 : ∀ k, k < 4 → (M1 (14 + 1 + 2 * k) 1 = -1) = (M2 105 k < 0) := fun k hk => strip_there (by omega) (hR.2.2.1 k hk)
  have hs8 : ∀ k, k < 3 → (M1 (56 + 1 + 3 * k) 0 = -1) = (M2 101 (2994 * (k + 1)) < 0) := fun k hk => kept_there (hc.2.2.2 k hk)
  match x, hx9 with
  | 0, _ => rfl
  | 1, _ => rfl
  | 2, _ => rfl
  | 3, _ => rfl
  | 4, _ => rfl
  | 5, _ => rfl
  | 6, _ =>
    have e6 : (nI 6 = 6) = True := by decide
    show some _ = some (thereS (fun k => M1 (1 + 1 + 2 * k) 1 = -1) 6)
    unfold thereS
    congr 1
    refine fo_congr (e := 6) (fun k s hk => ?_) 6 0 0 (by omega)
    simp only [e6, hs6 k hk]
    by_cases c : M2 103 k < 0 <;> simp [c]
  | 7, _ =>
    have e6 : (nI 7 = 6) = False := by decide
    have e7 : (nI 7 = 7) = True := by decide
    show some _ = some (thereS (fun k => M1 (14 + 1 + 2 * k) 1 = -1) 4)
    unfold thereS
    congr 1
    refine there_cut (n := 4) (by omega) (fun k s hk => ?_) (fun k s hk => ?_)
    · simp only [e6, e7, hs7 k hk]
      by_cases c : M2 105 k < 0 <;> simp [c, hk]
    · have : ¬ k < 4 := by omega
      simp [e6, e7, this]
  | 8, _ =>
    have e6 : (nI 8 = 6) = False := by decide
    have e7 : (nI 8 = 7) = False := by decide
    show some _ = some (thereS (fun k => M1 (56 + 1 + 3 * k) 0 = -1) 3)
    unfold thereS
    congr 1
    refine there_cut (n := 3) (by omega) (fun k s hk => ?_) (fun k s hk => ?_)
    · simp only [e6, e7, hs8 k hk]
      by_cases c : M2 101 (2994 * (k + 1)) < 0 <;> simp [c, hk]
    · have : ¬ k < 3 := by omega
      simp [e6, e7, this]
  | x + 9, hx => omega
theorem op_count {F : Nat} (hF : FB ≤ F) (M1 M2 : Mem) (a0 : Int32) (hR : Rel M1 M2) : ∃ (r : Int32), K_count F M1 a0 = some r ∧ M_count F M2 a0 = some r := by
  obtain ⟨np, nd, D, hc⟩ := hR.2.2.2
  obtain ⟨kn, dr, hx, hm, hg, -, -⟩ := hc.views
  unfold K_count M_count
  rw [in_02 (n := 8) rfl (by omega)]
  rcases one_cases a0 (n := 9) (by omega) with h | ⟨h, x, hx9, rfl⟩
  · simp only [h, Option.bind_some, ↓reduceIte]
    by_cases h0 : a0 < 0
    · simp only [h0, ↓reduceIte]
      exact ⟨_, rfl, rfl⟩
    · have h9 : (a0 < 9) = False := by
        simp only [eq_iff_iff, iff_false]
        exact Int32.not_lt.mpr (h.resolve_left h0)
      simp only [h0, h9, ↓reduceIte]
      exact ⟨_, rfl, rfl⟩
  · have h0 : (nI x < 0) = False := by simp only [eq_iff_iff, iff_false]; exact fun g => h (Or.inl g)
    have h9 : (nI x < 9) = True := by
      simp only [eq_iff_iff, iff_true]
      exact Int32.not_le.mp (fun g => h (Or.inr g))
    have h8 : (nI (8 + 1) ≤ nI x) = False := by simp only [eq_iff_iff, iff_false]; exact fun g => h (Or.inr g)
    simp only [h0, h8, h9, or_self, Option.bind_some, ↓reduceIte, i10, count_X hF hx hg hc.2.2.1.2.1, count_M hF hR hc hm hg hx9]
    exact ⟨_, rfl, rfl⟩
