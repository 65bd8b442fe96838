/-! falls: the least set that is closed under falling -/
theorem foS {n : Nat} {c : Nat → Prop} [DecidablePred c] {v : Nat → Int32} {w : Nat → Nat} (h : ∀ i, i < n → v i = nI (w i)) : ∀ m, m ≤ n → fo (fun i (s : Int32) => if c i then s + v i else s) m 0 0 = nI (fo (fun i (s : Nat) => if c i then s + w i else s) m 0 0) := by
  intro m
  induction m with
  | zero => intro _; rfl
  | succ m ih =>
    intro hm
    rw [fo_succ, fo_succ, ih (by omega), Nat.zero_add]
    by_cases hc : c m
    · rw [if_pos hc, if_pos hc, h m (by omega), nI_add]
    · rw [if_neg hc, if_neg hc]
theorem foN_le {n b : Nat} {c : Nat → Prop} [DecidablePred c] {w : Nat → Nat} (h : ∀ i, i < n → w i ≤ b) : ∀ m, m ≤ n → fo (fun i (s : Nat) => if c i then s + w i else s) m 0 0 ≤ b * m := by
  intro m
  induction m with
  | zero => intro _; exact Nat.le_refl 0
  | succ m ih =>
    intro hm
    rw [fo_succ, Nat.zero_add]
    have := ih (by omega)
    have h2 := h m (by omega)
    rw [Nat.mul_succ]
    split <;> omega
theorem foN_mono {n : Nat} {c c' : Nat → Prop} [DecidablePred c] [DecidablePred c'] {w : Nat → Nat} (h : ∀ i, i < n → c i → c' i) : ∀ m, m ≤ n → fo (fun i (s : Nat) => if c i then s + w i else s) m 0 0 ≤ fo (fun i (s : Nat) => if c' i then s + w i else s) m 0 0 := by
  intro m
  induction m with
  | zero => intro _; exact Nat.le_refl 0
  | succ m ih =>
    intro hm
    rw [fo_succ, fo_succ, Nat.zero_add]
    have := ih (by omega)
    by_cases hc : c m
    · rw [if_pos hc, if_pos (h m (by omega) hc)]; omega
    · rw [if_neg hc]; split <;> omega
def wthN (dr : Nat → Nat → Int32) (i : Nat) : Nat := (dr i 3 * (dr i 2 + 1)).toNatClampNeg
theorem GV.wth {np nd w : Nat} {kn : Nat → Int32} {dr : Nat → Nat → Int32} (h : GV np nd w kn dr) : ∀ i, i < nd → dr i 3 * (dr i 2 + 1) = nI (wthN dr i) ∧ wthN dr i ≤ 297 := by
  intro i hi
  obtain ⟨a, b, c, k, v, t, h0, h1, h2, h3, h4, h5, ha, hb, hab, hc, hk, -⟩ := h.2.2.2.1 i hi
  have e : dr i 3 * (dr i 2 + 1) = nI (k * (c + 1)) := by rw [h3, h2, lit 1, nI_add, pk_mul]
  have hle : k * (c + 1) ≤ 297 := by
    have : k * (c + 1) ≤ 99 * 3 := Nat.mul_le_mul hk (by omega)
    omega
  have e2 : wthN dr i = k * (c + 1) := by unfold wthN; rw [e, cl (by omega)]
  rw [e2]
  exact ⟨e, hle⟩
def owingN (nd : Nat) (dr : Nat → Nat → Int32) (p : Nat) : Nat := fo (fun i (s : Nat) => if dr i 0 = nI p then s + wthN dr i else s) nd 0 0
def owedN (nd : Nat) (dr : Nat → Nat → Int32) (p : Nat) (g : Int32) : Nat := fo (fun i (s : Nat) => if dr i 1 = nI p ∧ tb g (whoN dr i) = false then s + wthN dr i else s) nd 0 0
theorem owing_N {np nd w : Nat} {kn : Nat → Int32} {dr : Nat → Nat → Int32} (h : GV np nd w kn dr) (p : Nat) : owingS nd dr (nI p) = nI (owingN nd dr p) ∧ owingN nd dr p ≤ 3564 := by
  have := foN_le (c := fun i => dr i 0 = nI p) (fun i hi => (h.wth i hi).2) nd (Nat.le_refl _)
  have hn := h.2.2.1
  refine ⟨foS (fun i hi => (h.wth i hi).1) nd (Nat.le_refl _), ?_⟩
  unfold owingN
  omega
theorem owed_N {np nd w : Nat} {kn : Nat → Int32} {dr : Nat → Nat → Int32} (h : GV np nd w kn dr) (p : Nat) (g : Int32) : owedS nd dr (nI p) g = nI (owedN nd dr p g) ∧ owedN nd dr p g ≤ 3564 := by
  have := foN_le (c := fun i => dr i 1 = nI p ∧ tb g (whoN dr i) = false) (fun i hi => (h.wth i hi).2) nd (Nat.le_refl _)
  have hn := h.2.2.1
  refine ⟨foS (fun i hi => (h.wth i hi).1) nd (Nat.le_refl _), ?_⟩
  unfold owedN
  omega
def Sub (g h : Int32) : Prop := ∀ a, tb g a = true → tb h a = true
theorem owed_mono {nd : Nat} {dr : Nat → Nat → Int32} {p : Nat} {g h : Int32} (hs : Sub g h) : owedN nd dr p h ≤ owedN nd dr p g := by
  refine foN_mono (fun i _ hc => ⟨hc.1, ?_⟩) nd (Nat.le_refl _)
  rcases hg : tb g (whoN dr i) with _ | _
  · rfl
  · rw [hs _ hg] at hc
    exact absurd hc.2 (by simp)
def resN (k : Nat) : Nat := (resK k).toNatClampNeg
theorem res_N {k : Nat} (hk : k < 6) : resK k = nI (resN k) ∧ resN k ≤ 100000 := kdom (fun k => resK k = nI (resN k) ∧ resN k ≤ 100000) (by decide) (by decide) (by decide) (by decide) (by decide) (by decide) hk
def rsN (kn : Nat → Int32) (p : Nat) : Nat := resN (kn p).toNatClampNeg
theorem GV.rs {np nd w : Nat} {kn : Nat → Int32} {dr : Nat → Nat → Int32} (h : GV np nd w kn dr) {p : Nat} (hp : p < np) : ∃ k, k < 6 ∧ kn p = nI k ∧ resK k = nI (rsN kn p) ∧ rsN kn p ≤ 100000 := by
  obtain ⟨k, hk, e⟩ := h.2.2.2.2 p hp
  have e2 : rsN kn p = resN k := by unfold rsN; rw [e, cl (by omega)]
  exact ⟨k, hk, e, by rw [e2]; exact (res_N hk).1, by rw [e2]; exact (res_N hk).2⟩
/-- p falls when those of g have fallen; e is what is given besides -/
def FT (nd : Nat) (kn : Nat → Int32) (dr : Nat → Nat → Int32) (e : Nat → Nat) (g : Int32) (p : Nat) : Bool := decide (owedN nd dr p g + rsN kn p + e p < owingN nd dr p)
theorem FT_mono {nd : Nat} {kn : Nat → Int32} {dr : Nat → Nat → Int32} {e : Nat → Nat} {g h : Int32} {p : Nat} (hs : Sub g h) (ht : FT nd kn dr e g p = true) : FT nd kn dr e h p = true := by
  simp only [FT, decide_eq_true_eq] at ht ⊢
  have := owed_mono (nd := nd) (dr := dr) (p := p) hs
  omega
def Closed (np : Nat) (T : Int32 → Nat → Bool) (g : Int32) : Prop := ∀ p, p < np → T g p = true → tb g p = true
def Least (np : Nat) (T : Int32 → Nat → Bool) (s g : Int32) : Prop := Sub s g ∧ Closed np T g ∧ ∀ h, Sub s h → Closed np T h → Sub g h
theorem Sub.antisymm {g h : Int32} (h1 : Sub g h) (h2 : Sub h g) : g = h := by
  apply tb_ext
  intro a _
  rcases e1 : tb g a with _ | _
  · rcases e2 : tb h a with _ | _
    · rfl
    · rw [h2 a e2] at e1; exact absurd e1 (by simp)
  · rw [h1 a e1]
theorem Sub.rfl' {g : Int32} : Sub g g := fun _ h => h
theorem Sub.trans' {g h k : Int32} (h1 : Sub g h) (h2 : Sub h k) : Sub g k := fun a ha => h2 a (h1 a ha)
theorem Least.unique {np : Nat} {T : Int32 → Nat → Bool} {s g h : Int32} (h1 : Least np T s g) (h2 : Least np T s h) : g = h := (h1.2.2 h h2.1 h2.2.1).antisymm (h2.2.2 g h1.1 h1.2.1)
theorem sub_or {s : Int32} {t : Int32} : Sub s (s ||| t) := fun a h => by rw [tb_or, h]; rfl
theorem or_sub {s h : Int32} {p : Nat} (hp : p < 31) (h1 : Sub s h) (h2 : tb h p = true) : Sub (s ||| (1 <<< (nI p &&& 31))) h := by
  intro a ha
  rw [tb_or, tb_1 hp] at ha
  by_cases e : p = a
  · rw [← e]; exact h2
  · simp [e] at ha; exact h1 a ha
theorem pc_sub_key : ∀ k k' : Fin 64, (k.val &&& k'.val = k.val) → k ≠ k' → pcN k.val < pcN k'.val := by decide +kernel
theorem pc_le_key : ∀ k : Fin 64, pcN k.val ≤ 6 := by decide +kernel
theorem tb_nI {k a : Nat} (hk : k < 64) : tb (nI k) a = k.testBit a := by
  unfold tb
  have : (nI k).toBitVec = BitVec.ofNat 32 k := rfl
  rw [this, BitVec.getLsbD_ofNat]
  by_cases h : a < 32
  · simp [h]
  · have : k.testBit a = false := Nat.testBit_lt_two_pow (Nat.lt_of_lt_of_le (show k < 2 ^ 6 by omega) (Nat.pow_le_pow_right (by omega) (by omega)))
    rw [this]; simp
theorem pc_sub {k k' : Nat} (hk : k < 64) (hk' : k' < 64) (hs : Sub (nI k) (nI k')) (hne : nI k ≠ nI k') : pcN k < pcN k' := by
  refine pc_sub_key ⟨k, hk⟩ ⟨k', hk'⟩ ?_ (fun e => hne (by rw [Fin.mk.inj e]))
  show k &&& k' = k
  apply Nat.eq_of_testBit_eq
  intro i
  rw [Nat.testBit_and]
  rcases e : k.testBit i with _ | _
  · rfl
  · have := hs i (by rw [tb_nI hk]; exact e)
    rw [tb_nI hk'] at this
    rw [this]; rfl
/-- one pass, where what has fallen counts at once -/
theorem pass_seq {np : Nat} (hnp : np ≤ 6) {T : Int32 → Nat → Bool} (hT : ∀ g h p, Sub g h → T g p = true → T h p = true) (f : Nat → Int32 → Int32) (hf : ∀ p s, p < np → f p s = if tb s p = false ∧ T s p = true then s ||| (1 <<< (nI p &&& 31)) else s) {s : Int32} (h64 : S64 s) : S64 (fo f np 0 s) ∧ Sub s (fo f np 0 s) ∧ (∀ h, Sub s h → Closed np T h → Sub (fo f np 0 s) h) ∧ (fo f np 0 s = s → Closed np T s) := by
  have key : ∀ m, m ≤ np → S64 (fo f m 0 s) ∧ Sub s (fo f m 0 s) ∧ (∀ h, Sub s h → Closed np T h → Sub (fo f m 0 s) h) ∧ (Sub (fo f m 0 s) s → Closed m T s) := by
    intro m
    induction m with
    | zero => intro _; exact ⟨h64, Sub.rfl', fun h hs _ => hs, fun _ p hp => absurd hp (by omega)⟩
    | succ m ih =>
      intro hm
      obtain ⟨i1, i2, i3, i4⟩ := ih (by omega)
      rw [fo_succ, Nat.zero_add, hf m _ (by omega)]
      by_cases hc : tb (fo f m 0 s) m = false ∧ T (fo f m 0 s) m = true
      · rw [if_pos hc]
        refine ⟨i1.or (by omega), i2.trans' sub_or, fun h hs hcl => or_sub (by omega) (i3 h hs hcl) (hcl m (by omega) (hT _ _ _ (i3 h hs hcl) hc.2)), fun hsub => ?_⟩
        have e1 : tb s m = true := hsub m (by rw [tb_or, tb_1 (by omega)]; simp)
        rw [i2 m e1] at hc
        exact absurd hc.1 (by simp)
      · rw [if_neg hc]
        refine ⟨i1, i2, i3, fun hsub p hp ht => ?_⟩
        by_cases e : p = m
        · subst e
          have ht2 := hT _ _ _ i2 ht
          rcases e3 : tb (fo f p 0 s) p with _ | _
          · exact absurd ⟨e3, ht2⟩ hc
          · exact hsub p e3
        · exact i4 hsub p (by omega) ht
  obtain ⟨k1, k2, k3, k4⟩ := key np (Nat.le_refl _)
  exact ⟨k1, k2, k3, fun e => k4 (by rw [e]; exact Sub.rfl')⟩
/-- one pass, where what falls is asked of the old set -/
theorem pass_par {np : Nat} (hnp : np ≤ 6) {T : Int32 → Nat → Bool} (hT : ∀ g h p, Sub g h → T g p = true → T h p = true) {s : Int32} (f : Nat → Int32 → Int32) (hf : ∀ p u, p < np → f p u = if T s p = true then u ||| (1 <<< (nI p &&& 31)) else u) (h64 : S64 s) : S64 (fo f np 0 s) ∧ Sub s (fo f np 0 s) ∧ (∀ h, Sub s h → Closed np T h → Sub (fo f np 0 s) h) ∧ (fo f np 0 s = s → Closed np T s) := by
  have key : ∀ m, m ≤ np → S64 (fo f m 0 s) ∧ Sub s (fo f m 0 s) ∧ (∀ h, Sub s h → Closed np T h → Sub (fo f m 0 s) h) ∧ (Sub (fo f m 0 s) s → Closed m T s) := by
    intro m
    induction m with
    | zero => intro _; exact ⟨h64, Sub.rfl', fun h hs _ => hs, fun _ p hp => absurd hp (by omega)⟩
    | succ m ih =>
      intro hm
      obtain ⟨i1, i2, i3, i4⟩ := ih (by omega)
      rw [fo_succ, Nat.zero_add, hf m _ (by omega)]
      by_cases hc : T s m = true
      · rw [if_pos hc]
        refine ⟨i1.or (by omega), i2.trans' sub_or, fun h hs hcl => or_sub (by omega) (i3 h hs hcl) (hcl m (by omega) (hT _ _ _ hs hc)), fun hsub p hp ht => ?_⟩
        by_cases e : p = m
        · subst e; exact hsub p (by rw [tb_or, tb_1 (by omega)]; simp)
        · exact i4 (fun a ha => hsub a (by rw [tb_or, ha]; rfl)) p (by omega) ht
      · rw [if_neg hc]
        refine ⟨i1, i2, i3, fun hsub p hp ht => ?_⟩
        by_cases e : p = m
        · subst e; exact absurd ht hc
        · exact i4 hsub p (by omega) ht
  obtain ⟨k1, k2, k3, k4⟩ := key np (Nat.le_refl _)
  exact ⟨k1, k2, k3, fun e => k4 (by rw [e]; exact Sub.rfl')⟩
