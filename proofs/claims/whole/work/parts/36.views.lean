/-! villages as both sides see them -/
def VX (M : Mem) (v np nd : Nat) (kn : Nat → Int32) (dr : Nat → Nat → Int32) : Prop := ln (v + 1) = 6 ∧ ln (v + 2) = 12 ∧ M v 0 = nI np ∧ M v 1 = nI nd ∧ np ≤ 6 ∧ nd ≤ 12 ∧ (∀ p, p < np → M (v + 1) p = kn p) ∧ ∀ i, i < nd → ∀ j, j < 6 → M (v + 2 + 1 + i) j = dr i j
def VM (M : Mem) (np nd : Nat) (kn : Nat → Int32) (dr : Nat → Nat → Int32) : Prop := M 100 1 = nI np ∧ M 101 1 = nI nd ∧ np ≤ 6 ∧ nd ≤ 12 ∧ (∀ p, p < np → M 102 p = kn p) ∧ ∀ i, i < nd → ∀ j, j < 6 → M 101 (2 + 6 * i + j) = dr i j
def GV (np nd w : Nat) (kn : Nat → Int32) (dr : Nat → Nat → Int32) : Prop := (np = 0 ∨ 2 ≤ np) ∧ np ≤ 6 ∧ nd ≤ 12 ∧ (∀ i, i < nd → GoodD np w (dr i)) ∧ ∀ p, p < np → ∃ k : Nat, k < 6 ∧ kn p = nI k
theorem RelC.views {M1 M2 : Mem} {np nd D : Nat} (h : RelC M1 M2 np nd D) : ∃ (kn : Nat → Int32) (dr : Nat → Nat → Int32), VX M1 23 np nd kn dr ∧ VM M2 np nd kn dr ∧ GV np nd D kn dr ∧ (∀ p, kn p = M2 102 p) ∧ (∀ i, dr i = drM M2 1 i) := by
  obtain ⟨⟨p1, p2, p3, p4, p5⟩, ⟨n1, n2, n3, n4⟩, hh, hk⟩ := h
  refine ⟨fun p => M2 102 p, fun i => drM M2 1 i, ⟨rfl, rfl, p3, n2, p2, n1, fun p hp => (p5 p hp).1, fun i hi j hj => (n4 i hi).2 j hj⟩, ⟨p4, n3, p2, n1, fun _ _ => rfl, fun i hi j hj => rfl⟩, ⟨p1, p2, n1, fun i hi => (n4 i hi).1, fun p hp => (p5 p hp).2⟩, fun _ => rfl, fun _ => rfl⟩
theorem i01 (c : Prop) [Decidable c] : ((if c then (0 : Int32) else 1) = 0) = c := by
  by_cases h : c <;> simp [h]
theorem i10c (c : Prop) [Decidable c] : ((if c then (1 : Int32) else 0) = 0) = ¬ c := by
  by_cases h : c <;> simp [h]
theorem rb01 (c : Prop) [Decidable c] : rb (if c then 0 else 1) = some (if c then 0 else 1) := by
  by_cases h : c <;> simp [h, rb]
theorem D_isOpen_eq (F : Nat) (M : Mem) (k : Nat) : D_isOpen F M k = some (if M k 3 ≤ 0 then 0 else 1) := by
  unfold D_isOpen
  split <;> rfl
theorem D_isOpenOf_eq (F : Nat) (M : Mem) (k : Nat) (x : Int32) : D_isOpenOf F M k x = some (if M k 3 ≤ 0 ∨ ¬ M k 2 = x then 0 else 1) := by
  unfold D_isOpenOf
  by_cases h1 : M k 3 ≤ 0 <;> by_cases h2 : M k 2 = x <;> simp [h1, h2]
theorem ix6 (i j : Nat) : (2 + (6 * nI i)) + nI j = nI (2 + 6 * i + j) := by rw [lit 2, lit 6, pk_mul, nI_add, nI_add]
theorem M_of_eq {F : Nat} {M : Mem} {np nd : Nat} {kn : Nat → Int32} {dr : Nat → Nat → Int32} (h : VM M np nd kn dr) {i j : Nat} (hi : i < nd) (hj : j < 6) : M_of F M (nI i) (nI j) = some (dr i j) := by
  obtain ⟨h1, h2, h3, h4, h5, h6⟩ := h
  unfold M_of
  rw [ix6, ard_nI (by show _ < 11976; omega), h6 i hi j hj]
  rfl
theorem M_isOpen_eq {F : Nat} {M : Mem} {np nd : Nat} {kn : Nat → Int32} {dr : Nat → Nat → Int32} (h : VM M np nd kn dr) {i : Nat} (hi : i < nd) : M_isOpen F M (nI i) = some (if dr i 3 ≤ 0 then 0 else 1) := by
  unfold M_isOpen
  rw [show (3 : Int32) = nI 3 from rfl, M_of_eq h hi (by decide)]
  simp only [Option.bind_some]
  split <;> rfl
theorem M_isOn_eq {F : Nat} {M : Mem} {np nd : Nat} {kn : Nat → Int32} {dr : Nat → Nat → Int32} (h : VM M np nd kn dr) {i : Nat} (hi : i < nd) (p q : Int32) : M_isOn F M (nI i) p q = some (if dr i 0 = p ∧ dr i 1 = q then 1 else 0) := by
  unfold M_isOn
  rw [show (0 : Int32) = nI 0 from rfl, show (1 : Int32) = nI 1 from rfl, M_of_eq h hi (by decide), M_of_eq h hi (by decide)]
  simp only [Option.bind_some]
  by_cases h1 : dr i 0 = p <;> by_cases h2 : dr i 1 = q <;> simp [h1, h2]
theorem M_worth_eq {F : Nat} {M : Mem} {np nd : Nat} {kn : Nat → Int32} {dr : Nat → Nat → Int32} (h : VM M np nd kn dr) {i : Nat} (hi : i < nd) : M_worth F M (nI i) = some (dr i 3 * (dr i 2 + 1)) := by
  unfold M_worth
  rw [show (3 : Int32) = nI 3 from rfl, show (2 : Int32) = nI 2 from rfl, M_of_eq h hi (by decide), M_of_eq h hi (by decide)]
  rfl
theorem isPerson_eq {F : Nat} {M : Mem} {np nd : Nat} {kn : Nat → Int32} {dr : Nat → Nat → Int32} (h : VM M np nd kn dr) (x : Int32) : M_isPerson F M x = some (if x < 0 ∨ nI np ≤ x then 0 else 1) := by
  obtain ⟨h1, h2, h3, h4, h5, h6⟩ := h
  unfold M_isPerson
  rw [h1, in32 _ _ _ _ _ (by decide), i64_wide, toInt_pred (by omega)]
  have e0 : (0 : Int64).toInt = 0 := rfl
  have e1 : (0 : Int32).toInt = 0 := rfl
  simp only [Option.bind_some, i32_lt, i32_le, e0, e1, tI (n := np) (by omega)]
  by_cases g1 : x.toInt < 0
  · simp [g1, rb]
  · by_cases g2 : (np : Int) ≤ x.toInt
    · rw [if_neg g1, if_pos (by omega), if_pos (Or.inr g2)]; rfl
    · rw [if_neg g1, if_neg (by omega), if_neg (by omega)]; rfl
theorem isDraft_eq {F : Nat} {M : Mem} {np nd : Nat} {kn : Nat → Int32} {dr : Nat → Nat → Int32} (h : VM M np nd kn dr) (x : Int32) : M_isDraft F M x = some (if x < 0 ∨ nI nd ≤ x then 0 else 1) := by
  obtain ⟨h1, h2, h3, h4, h5, h6⟩ := h
  unfold M_isDraft
  rw [h2, in32 _ _ _ _ _ (by decide), i64_wide, toInt_pred (by omega)]
  have e0 : (0 : Int64).toInt = 0 := rfl
  have e1 : (0 : Int32).toInt = 0 := rfl
  simp only [Option.bind_some, i32_lt, i32_le, e0, e1, tI (n := nd) (by omega)]
  by_cases g1 : x.toInt < 0
  · simp [g1, rb]
  · by_cases g2 : (nd : Int) ≤ x.toInt
    · rw [if_neg g1, if_pos (by omega), if_pos (Or.inr g2)]; rfl
    · rw [if_neg g1, if_neg (by omega), if_neg (by omega)]; rfl
theorem hasPerson_eq {F : Nat} {M : Mem} {v np nd : Nat} {kn : Nat → Int32} {dr : Nat → Nat → Int32} (h : VX M v np nd kn dr) (x : Int32) : V_hasPerson F M v x = some (if x < 0 ∨ nI np ≤ x then 0 else 1) := by
  obtain ⟨-, -, h1, -⟩ := h
  unfold V_hasPerson
  rw [h1]
  by_cases g1 : x < 0 <;> by_cases g2 : nI np ≤ x <;> simp [g1, g2]
theorem hasDraft_eq {F : Nat} {M : Mem} {v np nd : Nat} {kn : Nat → Int32} {dr : Nat → Nat → Int32} (h : VX M v np nd kn dr) (x : Int32) : V_hasDraft F M v x = some (if x < 0 ∨ nI nd ≤ x then 0 else 1) := by
  obtain ⟨-, -, -, h1, -⟩ := h
  unfold V_hasDraft
  rw [h1]
  by_cases g1 : x < 0 <;> by_cases g2 : nI nd ≤ x <;> simp [g1, g2]
theorem hasTwo_eq {F : Nat} {M : Mem} {v np nd : Nat} {kn : Nat → Int32} {dr : Nat → Nat → Int32} (h : VX M v np nd kn dr) (x y : Int32) : V_hasTwo F M v x y = some (if (x < 0 ∨ nI np ≤ x) ∨ (y < 0 ∨ nI np ≤ y) ∨ x = y then 0 else 1) := by
  unfold V_hasTwo
  rw [hasPerson_eq h, hasPerson_eq h]
  simp only [Option.bind_some, i01]
  by_cases g1 : (x < 0 ∨ nI np ≤ x) <;> by_cases g2 : (y < 0 ∨ nI np ≤ y) <;> by_cases g3 : x = y <;> simp only [g1, g2, g3, ↓reduceIte, true_or, or_true, or_self]
theorem areTwo_eq {F : Nat} {M : Mem} {np nd : Nat} {kn : Nat → Int32} {dr : Nat → Nat → Int32} (h : VM M np nd kn dr) (x y : Int32) : M_areTwo F M x y = some (if (x < 0 ∨ nI np ≤ x) ∨ (y < 0 ∨ nI np ≤ y) ∨ x = y then 0 else 1) := by
  unfold M_areTwo
  rw [isPerson_eq h, isPerson_eq h]
  simp only [Option.bind_some, i01]
  by_cases g1 : (x < 0 ∨ nI np ≤ x) <;> by_cases g2 : (y < 0 ∨ nI np ≤ y) <;> by_cases g3 : x = y <;> simp only [g1, g2, g3, ↓reduceIte, true_or, or_true, or_self]
/-- two different persons, or not -/
theorem two_cases (x y : Int32) {np : Nat} (hnp : np ≤ 6) : ((x < 0 ∨ nI np ≤ x) ∨ (y < 0 ∨ nI np ≤ y) ∨ x = y) ∨ (¬ ((x < 0 ∨ nI np ≤ x) ∨ (y < 0 ∨ nI np ≤ y) ∨ x = y) ∧ ∃ p q : Nat, p < np ∧ q < np ∧ p ≠ q ∧ x = nI p ∧ y = nI q) := by
  by_cases h : (x < 0 ∨ nI np ≤ x) ∨ (y < 0 ∨ nI np ≤ y) ∨ x = y
  · exact Or.inl h
  · refine Or.inr ⟨h, ?_⟩
    rcases ixc x (n := np) (by omega) with g | ⟨-, g⟩ | ⟨p, hp, rfl⟩
    · exact absurd (Or.inl (Or.inl g)) h
    · exact absurd (Or.inl (Or.inr g)) h
    rcases ixc y (n := np) (by omega) with g | ⟨-, g⟩ | ⟨q, hq, rfl⟩
    · exact absurd (Or.inr (Or.inl (Or.inl g))) h
    · exact absurd (Or.inr (Or.inl (Or.inr g))) h
    exact ⟨p, q, hp, hq, fun e => h (Or.inr (Or.inr (by rw [e]))), rfl, rfl⟩
theorem one_cases (x : Int32) {n : Nat} (hn : n ≤ 100) : (x < 0 ∨ nI n ≤ x) ∨ (¬ (x < 0 ∨ nI n ≤ x) ∧ ∃ p : Nat, p < n ∧ x = nI p) := by
  by_cases h : (x < 0 ∨ nI n ≤ x)
  · exact Or.inl h
  · refine Or.inr ⟨h, ?_⟩
    rcases ixc x (n := n) (by omega) with g | ⟨-, g⟩ | ⟨p, hp, rfl⟩
    · exact absurd (Or.inl g) h
    · exact absurd (Or.inr g) h
    exact ⟨p, hp, rfl⟩
/-- bits -/
theorem bit_key : ∀ a : Fin 31, ((1 : Int32) <<< (nI a.val &&& 31)) = Int32.ofBitVec (BitVec.twoPow 32 a.val) := by decide +kernel
theorem shr_key : ∀ a : Fin 31, ((nI a.val &&& 31).toBitVec.smod 32).toNat = a.val := by decide +kernel
def tb (s : Int32) (a : Nat) : Bool := s.toBitVec.getLsbD a
theorem shl1 {a : Nat} (h : a < 31) : ((1 : Int32) <<< (nI a &&& 31)).toBitVec = BitVec.twoPow 32 a := by
  have := bit_key ⟨a, h⟩
  rw [this]
  rfl
theorem and_bit {s : Int32} {a : Nat} (h : a < 31) : (s &&& (1 <<< (nI a &&& 31)) = 0) ↔ tb s a = false := by
  rw [← Int32.toBitVec_inj, Int32.toBitVec_and, shl1 h, BitVec.and_twoPow]
  unfold tb
  by_cases hb : s.toBitVec.getLsbD a
  · simp [hb]
    intro he
    have := congrArg (fun b => BitVec.getLsbD b a) he
    simp [BitVec.getLsbD_twoPow] at this
    omega
  · simp [hb]
theorem and_bit' {s : Int32} {a : Nat} (h : a < 31) : (s &&& (1 <<< (nI a &&& 31)) = 0) = (tb s a = false) := propext (and_bit h)
theorem tb_or (s t : Int32) (a : Nat) : tb (s ||| t) a = (tb s a || tb t a) := by
  unfold tb
  rw [Int32.toBitVec_or, BitVec.getLsbD_or]
theorem tb_and (s t : Int32) (a : Nat) : tb (s &&& t) a = (tb s a && tb t a) := by
  unfold tb
  rw [Int32.toBitVec_and, BitVec.getLsbD_and]
theorem tb_xor (s t : Int32) (a : Nat) : tb (s ^^^ t) a = (tb s a ^^ tb t a) := by
  unfold tb
  rw [Int32.toBitVec_xor, BitVec.getLsbD_xor]
theorem tb_1 {a b : Nat} (h : a < 31) : tb (1 <<< (nI a &&& 31)) b = decide (a = b) := by
  unfold tb
  rw [shl1 h, BitVec.getLsbD_twoPow]
  by_cases hab : a = b
  · subst hab; simp; omega
  · simp [hab]
theorem tb_0 (a : Nat) : tb 0 a = false := by
  unfold tb
  have : (0 : Int32).toBitVec = 0#32 := rfl
  rw [this, BitVec.getLsbD_zero]
theorem tb_m1 {a : Nat} (h : a < 32) : tb (-1) a = true := by
  have key : ∀ a : Fin 32, tb (-1) a.val = true := by decide +kernel
  exact key ⟨a, h⟩
theorem tb_big {s : Int32} {a : Nat} (h : 32 ≤ a) : tb s a = false := by
  unfold tb
  exact BitVec.getLsbD_of_ge _ _ h
theorem tb_ext {s t : Int32} (h : ∀ a, a < 32 → tb s a = tb t a) : s = t := by
  rw [← Int32.toBitVec_inj]
  apply BitVec.eq_of_getLsbD_eq
  intro i hi
  exact h i hi
theorem tb_shr {s : Int32} {a i : Nat} (h : a < 31) (hi : a + i < 32) : tb (s >>> (nI a &&& 31)) i = tb s (a + i) := by
  unfold tb
  rw [Int32.toBitVec_shiftRight]
  show (s.toBitVec.sshiftRight ((nI a &&& 31).toBitVec.smod 32).toNat).getLsbD i = _
  rw [shr_key ⟨a, h⟩, BitVec.getLsbD_sshiftRight]
  simp [hi]
  omega
theorem one_eq : (1 : Int32) = 1 <<< (nI 0 &&& 31) := by decide
theorem low_bit (y : Int32) : (y &&& 1 = 1) ↔ tb y 0 = true := by
  constructor
  · intro h
    have h2 := congrArg (fun z => tb z 0) h
    simp only [tb_and] at h2
    have h3 : tb 1 0 = true := by decide
    rw [h3] at h2
    simpa using h2
  · intro h
    apply tb_ext
    intro a ha
    rw [tb_and]
    have h3 : tb 1 a = decide (0 = a) := by rw [one_eq]; exact tb_1 (by omega)
    rw [h3]
    by_cases h0 : 0 = a
    · subst h0; simp [h]
    · simp [h0]
theorem shr_bit {s : Int32} {a : Nat} (h : a < 31) : ((s >>> (nI a &&& 31)) &&& 1 = 1) ↔ tb s a = true := by
  rw [low_bit, tb_shr h (by omega)]
  rfl
theorem M_has_eq {F : Nat} {M : Mem} {s : Int32} {a : Nat} (h : a < 31) : M_has F M s (nI a) = some (if tb s a = false then 0 else 1) := by
  unfold M_has
  by_cases hb : tb s a = true
  · rw [if_pos ((shr_bit h).mpr hb), hb]; rfl
  · rw [if_neg (fun g => hb ((shr_bit h).mp g)), if_pos (by simpa using hb)]
