/-! rings: the reference's next ring -/
theorem followingL_M {F np nd : Nat} (hF : FB ≤ F) {M : Mem} {kn : Nat → Int32} {dr : Nat → Nat → Int32} {g : Nat → Nat → Nat} {c : List Nat} (hs : SMs g np nd kn dr M c) (lk : LK0 nd dr g) (hg : Gd g nd np) (hc : gdC g nd c) : ∀ (q f m : Nat), f + q = nd → q < m → (L_M_following_2 F M m (nI f) = some (.inr ()) ∧ ∀ i, f ≤ i → i < nd → folB g c i = false) ∨ ∃ i, f ≤ i ∧ i < nd ∧ folB g c i = true ∧ (∀ j, f ≤ j → j < i → folB g c j = false) ∧ L_M_following_2 F M m (nI f) = some (.inl (nI i)) := by
  have hnd := hg.2.1
  intro q
  induction q with
  | zero =>
    intro f m hf hm
    obtain ⟨m, rfl⟩ : ∃ j, m = j + 1 := ⟨m - 1, by omega⟩
    refine Or.inl ⟨?_, fun i h1 h2 => absurd h1 (by omega)⟩
    show B_M_following_2 F M _ (nI f) = _
    unfold B_M_following_2
    rw [hs.1.2.1, if_pos (by rw [nI_leI (by omega) (by omega)]; omega)]
  | succ q ih =>
    intro f m hf hm
    obtain ⟨m, rfl⟩ : ∃ j, m = j + 1 := ⟨m - 1, by omega⟩
    have hfn : f < nd := by omega
    have c1 : (nI nd ≤ nI f) = False := by rw [nI_leI (by omega) (by omega)]; simp; omega
    have st : L_M_following_2 F M (m + 1) (nI f) = if folB g c f = true then some (.inl (nI f)) else L_M_following_2 F M m (nI (f + 1)) := by
      show B_M_following_2 F M _ (nI f) = _
      unfold B_M_following_2
      simp only [hs.1.2.1, c1, ↓reduceIte, follows_M hF hs lk hg hc hfn, ob_some, i10c, nI_1]
      by_cases k : folB g c f = true
      · simp only [k, not_true_eq_false, ↓reduceIte]
      · simp only [k, not_false_eq_true, ↓reduceIte]
        rfl
    rw [st]
    rcases k : folB g c f with _ | _
    · rw [if_neg (by decide)]
      rcases ih (f + 1) m (by omega) (by omega) with ⟨h1, h2⟩ | ⟨i, h1, h2, h3, h4, h5⟩
      · refine Or.inl ⟨h1, fun i a b => ?_⟩
        by_cases e : i = f
        · rw [e]; exact k
        · exact h2 i (by omega) b
      · refine Or.inr ⟨i, by omega, h2, h3, fun j a b => ?_, h5⟩
        by_cases e : j = f
        · rw [e]; exact k
        · exact h4 j (by omega) b
    · exact Or.inr ⟨f, Nat.le_refl _, hfn, k, fun j a b => absurd a (by omega), if_pos rfl⟩
theorem following_M {F np nd f : Nat} (hF : FB ≤ F) {M : Mem} {kn : Nat → Int32} {dr : Nat → Nat → Int32} {g : Nat → Nat → Nat} {c : List Nat} (hs : SMs g np nd kn dr M c) (lk : LK0 nd dr g) (hg : Gd g nd np) (hc : gdC g nd c) (hf : f ≤ nd) : (M_following F M (nI f) = some (-9) ∧ ∀ i, f ≤ i → i < nd → folB g c i = false) ∨ ∃ i, f ≤ i ∧ i < nd ∧ folB g c i = true ∧ (∀ j, f ≤ j → j < i → folB g c j = false) ∧ M_following F M (nI f) = some (nI i) := by
  have hF' := FBL hF
  have hnd := hg.2.1
  unfold M_following
  rcases followingL_M hF hs lk hg hc (nd - f) f F (by omega) (by omega) with ⟨h1, h2⟩ | ⟨i, h1, h2, h3, h4, h5⟩
  · rw [h1]
    exact Or.inl ⟨rfl, h2⟩
  · rw [h5]
    exact Or.inr ⟨i, h1, h2, h3, h4, rfl⟩
theorem closes_M {F np nd x : Nat} {M : Mem} {kn : Nat → Int32} {dr : Nat → Nat → Int32} {g : Nat → Nat → Nat} {c : List Nat} (hs : SMs g np nd kn dr M (x :: c)) (lk : LK0 nd dr g) (hg : Gd g nd np) (hc : gdC g nd (x :: c)) : M_closes F M = some (if clB g (x :: c) = true then 1 else 0) := by
  have hl := len_C hg hc
  have hnp := hg.1
  rw [List.length_cons] at hl
  have z0 := (hc.1 _ (el_mem (c := x :: c) (k := 0) (by rw [List.length_cons]; omega))).1
  have zx := (hc.1 x (List.mem_cons_self ..)).1
  have gx := hg.2.2 x zx
  have g0 := hg.2.2 _ z0
  have p0 : M 111 0 = nI (el (x :: c) 0) := hs.2.2.2 0 (by rw [List.length_cons]; omega)
  have p1 : M 111 c.length = nI x := by rw [hs.2.2.2 c.length (by rw [List.length_cons]; omega), el_top]
  have s1 : M 100 21 - 1 = nI c.length := by rw [hs.2.2.1, List.length_cons, nI_pred]
  have q0 : M_of F M (nI (el (x :: c) 0)) 0 = some (nI (g 0 (el (x :: c) 0))) := by rw [← (lk _ z0).1]; exact M_of_eq hs.1 z0 (j := 0) (by omega)
  have q1 : M_of F M (nI x) 1 = some (nI (g 1 x)) := by rw [← (lk _ zx).2]; exact M_of_eq hs.1 zx (j := 1) (by omega)
  unfold M_closes
  simp only [s1, ard_nI (M := M) (a := 111) (k := c.length) (by show _ < 6; omega), ob_some, p1, q1, p0, q0, nI_eq (show g 1 x < 2 ^ 31 by omega) (show g 0 (el (x :: c) 0) < 2 ^ 31 by omega), cl_cons]
  by_cases k : g 1 x = g 0 (el (x :: c) 0)
  · rw [if_pos k, if_pos k]
  · rw [if_neg k, if_neg k]
def rmT : List Nat → Nat
  | [] => 0
  | x :: c => (13 - (x + 1)) * 30 ^ (7 - c.length) + rmT c
def rmN (c : List Nat) (f : Nat) : Nat := (13 - f) * 30 ^ (7 - c.length) + rmT c
theorem rm_pop {x f : Nat} {c : List Nat} (h : f ≤ 12) : rmN c (x + 1) < rmN (x :: c) f := by
  show _ < (13 - f) * 30 ^ (7 - (x :: c).length) + rmN c (x + 1)
  have : 0 < (13 - f) * 30 ^ (7 - (x :: c).length) := Nat.mul_pos (by omega) (Nat.pow_pos (by omega))
  omega
theorem rm_step {f i : Nat} {c : List Nat} (h : f ≤ i) (hi : i ≤ 12) : rmN c (i + 1) + 30 ^ (7 - c.length) ≤ rmN c f := by
  unfold rmN
  have e : (13 - (i + 1) + 1) * 30 ^ (7 - c.length) ≤ (13 - f) * 30 ^ (7 - c.length) := Nat.mul_le_mul_right _ (by omega)
  rw [Nat.add_mul, Nat.one_mul] at e
  omega
theorem rm_next {f i : Nat} {c : List Nat} (h : f ≤ i) (hi : i ≤ 12) : rmN c (i + 1) < rmN c f := by
  have := rm_step (c := c) h hi
  have : 0 < 30 ^ (7 - c.length) := Nat.pow_pos (by omega)
  omega
theorem rm_push {f i : Nat} {c : List Nat} (h : f ≤ i) (hi : i ≤ 12) (hl : c.length ≤ 6) : rmN (i :: c) 0 < rmN c f := by
  show (13 - 0) * 30 ^ (7 - (i :: c).length) + rmN c (i + 1) < _
  have h1 := rm_step (c := c) h hi
  have h2 : 30 ^ (7 - c.length) = 30 * 30 ^ (7 - (i :: c).length) := by
    rw [List.length_cons, show 7 - c.length = (7 - (c.length + 1)) + 1 by omega, Nat.pow_succ, Nat.mul_comm]
  have h3 : 0 < 30 ^ (7 - (i :: c).length) := Nat.pow_pos (by omega)
  omega
theorem rmT_le : ∀ c : List Nat, rmT c ≤ 13 * 30 ^ 7 * c.length := by
  intro c
  induction c with
  | nil => exact Nat.le_refl _
  | cons x c ih =>
    show (13 - (x + 1)) * 30 ^ (7 - c.length) + rmT c ≤ _
    have : (13 - (x + 1)) * 30 ^ (7 - c.length) ≤ 13 * 30 ^ 7 := Nat.mul_le_mul (by omega) (Nat.pow_le_pow_right (by omega) (by omega))
    rw [List.length_cons, Nat.mul_add, Nat.mul_one]
    omega
theorem rm_le {c : List Nat} {f : Nat} (h : c.length ≤ 6) : rmN c f < 1000000000000000 := by
  unfold rmN
  have h1 := rmT_le c
  have h2 : (13 - f) * 30 ^ (7 - c.length) ≤ 13 * 30 ^ 7 := Nat.mul_le_mul (by omega) (Nat.pow_le_pow_right (by omega) (by omega))
  have h3 : 13 * 30 ^ 7 * c.length ≤ 13 * 30 ^ 7 * 6 := Nat.mul_le_mul_left _ h
  have h4 : 13 * 30 ^ 7 * 6 + 13 * 30 ^ 7 < 1000000000000000 := by decide
  omega
theorem SMs_of {g : Nat → Nat → Nat} {np nd : Nat} {kn : Nat → Int32} {dr : Nat → Nat → Int32} {M N : Mem} {c c' : List Nat} (h : SMs g np nd kn dr M c) (f1 : ∀ a, a ≠ 100 → a ≠ 111 → N a = M a) (f2 : ∀ b, b ≠ 21 → N 100 b = M 100 b) (e1 : N 100 21 = nI c'.length) (e2 : PXc 111 N c') : SMs g np nd kn dr N c' := ⟨VM_of h.1 (f2 1 (by omega)) (f1 101 (by omega) (by omega)) (f1 102 (by omega) (by omega)), fun i hi => by rw [f1 110 (by omega) (by omega)]; exact h.2.1 i hi, e1, e2⟩
def gdA (g : Nat → Nat → Nat) : List Nat → Prop
  | [] => True
  | x :: c => snB g (x :: c) = false ∧ gdA g c
theorem gdA_sn {g : Nat → Nat → Nat} {c : List Nat} (h : gdA g c) : snB g c = false := by
  cases c with
  | nil => rfl
  | cons x c => exact h.1
theorem gdC_tl {g : Nat → Nat → Nat} {nd x : Nat} {c : List Nat} (h : gdC g nd (x :: c)) : gdC g nd c := by
  refine ⟨fun y hy => h.1 y (List.mem_cons_of_mem _ hy), ?_⟩
  have := h.2
  rw [List.map_cons, List.nodup_cons] at this
  exact this.2
theorem next_M {F np nd : Nat} (hF : FB ≤ F) {kn : Nat → Int32} {dr : Nat → Nat → Int32} {g : Nat → Nat → Nat} (lk : LK0 nd dr g) (hg : Gd g nd np) : ∀ (w n f : Nat) (c : List Nat) (M : Mem), rmN c f ≤ w → w < n → f ≤ nd → gdC g nd c → gdA g c → SMs g np nd kn dr M c → ∃ (ok : Int32) (N : Mem), L_M_nextRing_31 F n M (nI f) = some (.inl (ok, N)) ∧ (∀ a, a ≠ 100 → a ≠ 111 → N a = M a) ∧ (∀ b, b ≠ 21 → N 100 b = M 100 b) ∧ ((rest g nd c f = [] ∧ ok = 0 ∧ N 100 21 = nI 0) ∨ ∃ (x : Nat) (c' : List Nat), ok = 1 ∧ rest g nd c f = (x :: c') :: rest g nd c' (x + 1) ∧ SMs g np nd kn dr N (x :: c') ∧ gdC g nd (x :: c') ∧ gdA g c' ∧ 2 ≤ c'.length) := by
  have hnd := hg.2.1
  intro w
  induction w with
  | zero =>
    intro n f c M h1 _ hf
    have : 0 < rmN c f := by
      unfold rmN
      have : 0 < (13 - f) * 30 ^ (7 - c.length) := Nat.mul_pos (by omega) (Nat.pow_pos (by omega))
      omega
    omega
  | succ w ih =>
    intro n f c M h1 hn hf hc hga hs
    obtain ⟨n, rfl⟩ : ∃ j, n = j + 1 := ⟨n - 1, by omega⟩
    have hsn := gdA_sn hga
    have hl5 := len_S hg hc hsn
    show ∃ ok N, B_M_nextRing_31 F (L_M_nextRing_31 F n) M (nI f) = _ ∧ _
    rcases following_M hF hs lk hg hc hf with ⟨e, hno⟩ | ⟨i, hfi, hi, hfol, hno, e⟩
    · have hk : ∀ i, f ≤ i → i < nd → kid g nd c i = [] := fun i a b => kid_fol hg hc (hno i a b)
      have hr := rest_skip (g := g) (c := c) hf (Nat.le_refl nd) hk
      cases c with
      | nil =>
        have c3 : M 100 21 = 0 := hs.2.2.1
        refine ⟨0, M, ?_, fun _ _ _ => rfl, fun _ _ => rfl, Or.inl ⟨?_, rfl, hs.2.2.1⟩⟩
        · unfold B_M_nextRing_31
          simp only [e, ob_some, ↓reduceIte, c3]
        · rw [hr, rest_end_nil (Nat.le_refl _)]
      | cons x c =>
        have zx := (hc.1 x (List.mem_cons_self ..)).1
        rw [List.length_cons] at hl5
        have c3 : (M 100 21 = 0) = False := by rw [hs.2.2.1, List.length_cons, ← nI_0, nI_eq (by omega) (by omega)]; simp
        have s1 : M 100 21 - 1 = nI c.length := by rw [hs.2.2.1, List.length_cons, nI_pred]
        have p1 : up M 100 21 (nI c.length) 111 c.length = nI x := by rw [up_ne (by omega), hs.2.2.2 c.length (by rw [List.length_cons]; omega), el_top]
        have u21 : up M 100 21 (nI c.length) 100 21 = nI c.length := up_same ..
        have f1 : ∀ a, a ≠ 100 → a ≠ 111 → up M 100 21 (nI c.length) a = M a := fun a h _ => up_cell h
        have f2 : ∀ b, b ≠ 21 → up M 100 21 (nI c.length) 100 b = M 100 b := fun b h => up_ne (by omega)
        have hs' : SMs g np nd kn dr (up M 100 21 (nI c.length)) c := SMs_of hs f1 f2 u21 (PXc_of (PXc_low hs.2.2.2) (up_cell (by omega)))
        obtain ⟨ok, N, n1, n2, n3, n4⟩ := ih n (x + 1) c _ (by have := rm_pop (x := x) (c := c) (show f ≤ 12 by omega); omega) (by omega) (by omega) (gdC_tl hc) hga.2 hs'
        refine ⟨ok, N, ?_, fun a h h' => by rw [n2 a h h', f1 a h h'], fun b h => by rw [n3 b h, f2 b h], ?_⟩
        · unfold B_M_nextRing_31
          simp only [e, ob_some, ↓reduceIte, c3, s1, u21, ard_nI (M := up M 100 21 (nI c.length)) (a := 111) (k := c.length) (by show _ < 6; omega), p1, nI_1, n1]
        · rw [hr, rest_end_cons (Nat.le_refl _)]
          exact n4
    · have hk : ∀ j, f ≤ j → j < i → kid g nd c j = [] := fun j a b => kid_fol hg hc (hno j a b)
      have hr := rest_skip (g := g) (c := c) hfi (Nat.le_of_lt hi) hk
      rw [rest_step hi] at hr
      have ho : okB g c i = true := by
        unfold folB at hfol
        rw [Bool.and_eq_true] at hfol
        exact hfol.1
      have hc2 := gd_push hc hsn hi ho
      have c9 : (nI i = (-9 : Int32)) = False := by
        rw [i32_eq, nI_toInt (by omega)]
        simp
      have aw : awr M 111 (M 100 21) (nI i) = some (up M 111 c.length (nI i)) := by
        rw [hs.2.2.1]
        exact awr_nI (by show _ < 6; omega)
      have w21 : up M 111 c.length (nI i) 100 21 + 1 = nI (c.length + 1) := by rw [up_ne (by omega), hs.2.2.1, nI_1]
      have wu : up (up M 111 c.length (nI i)) 100 21 (nI (c.length + 1)) 100 21 = nI (c.length + 1) := up_same ..
      have f1 : ∀ a, a ≠ 100 → a ≠ 111 → up (up M 111 c.length (nI i)) 100 21 (nI (c.length + 1)) a = M a := fun a h h' => by rw [up_cell h, up_cell h']
      have f2 : ∀ b, b ≠ 21 → up (up M 111 c.length (nI i)) 100 21 (nI (c.length + 1)) 100 b = M 100 b := fun b h => by rw [up_ne (by omega), up_ne (by omega)]
      have hp2 : PXc 111 (up (up M 111 c.length (nI i)) 100 21 (nI (c.length + 1))) (i :: c) := PXc_of (PXc_up hs.2.2.2) (up_cell (by omega))
      have hs2 : SMs g np nd kn dr (up (up M 111 c.length (nI i)) 100 21 (nI (c.length + 1))) (i :: c) := SMs_of hs f1 f2 wu hp2
      have hcl := closes_M (F := F) hs2 lk hg hc2
      unfold B_M_nextRing_31
      simp only [e, ob_some, ↓reduceIte, c9, aw, w21, hcl, i10c, wu]
      have le2 : (nI (c.length + 1) ≤ (2 : Int32)) = (c.length + 1 ≤ 2) := by
        rw [show (2 : Int32) = nI 2 from rfl, nI_leI (by omega) (by omega)]
      rcases kc : clB g (i :: c) with _ | _
      · have hsn2 := fol_sn hg hi hfol kc
        simp only [↓reduceIte, ob_some, Bool.false_eq_true, not_false_eq_true]
        have z : nI (c.length + 1) - 0 = nI (c.length + 1) := by grind
        rw [z]
        have f1' : ∀ a, a ≠ 100 → a ≠ 111 → up (up (up M 111 c.length (nI i)) 100 21 (nI (c.length + 1))) 100 21 (nI (c.length + 1)) a = M a := fun a h h' => by rw [up_cell h, f1 a h h']
        have f2' : ∀ b, b ≠ 21 → up (up (up M 111 c.length (nI i)) 100 21 (nI (c.length + 1))) 100 21 (nI (c.length + 1)) 100 b = M 100 b := fun b h => by rw [up_ne (by omega), f2 b h]
        obtain ⟨ok, N, n1, n2, n3, n4⟩ := ih n 0 (i :: c) (up (up (up M 111 c.length (nI i)) 100 21 (nI (c.length + 1))) 100 21 (nI (c.length + 1))) (by have := rm_push (c := c) hfi (show i ≤ 12 by omega) (by omega); omega) (by omega) (by omega) hc2 ⟨hsn2, hga⟩ (SMs_of hs f1' f2' (up_same ..) (PXc_of hp2 (up_cell (by omega))))
        rw [nI_0] at n1
        refine ⟨ok, N, n1, fun a h h' => by rw [n2 a h h', f1' a h h'], fun b h => by rw [n3 b h, f2' b h], ?_⟩
        rw [hr, rest_push (by omega) ho kc hsn2]
        exact n4
      · rw [kid_close (by omega) ho kc] at hr
        by_cases k2 : c.length + 1 ≤ 2
        · simp only [↓reduceIte, ob_some, not_true_eq_false, le2, k2]
          have z : nI (c.length + 1) - 1 = nI c.length := nI_pred _
          rw [z]
          have f1' : ∀ a, a ≠ 100 → a ≠ 111 → up (up (up M 111 c.length (nI i)) 100 21 (nI (c.length + 1))) 100 21 (nI c.length) a = M a := fun a h h' => by rw [up_cell h, f1 a h h']
          have f2' : ∀ b, b ≠ 21 → up (up (up M 111 c.length (nI i)) 100 21 (nI (c.length + 1))) 100 21 (nI c.length) 100 b = M 100 b := fun b h => by rw [up_ne (by omega), f2 b h]
          obtain ⟨ok, N, n1, n2, n3, n4⟩ := ih n (i + 1) c (up (up (up M 111 c.length (nI i)) 100 21 (nI (c.length + 1))) 100 21 (nI c.length)) (by have := rm_next (c := c) hfi (show i ≤ 12 by omega); omega) (by omega) (by omega) hc hga (SMs_of hs f1' f2' (up_same ..) (PXc_of (PXc_low hp2) (up_cell (by omega))))
          rw [nI_1]
          refine ⟨ok, N, n1, fun a h h' => by rw [n2 a h h', f1' a h h'], fun b h => by rw [n3 b h, f2' b h], ?_⟩
          rw [hr, if_neg (by omega), List.nil_append]
          exact n4
        · simp only [↓reduceIte, not_true_eq_false, le2, k2]
          refine ⟨1, _, rfl, f1, f2, Or.inr ⟨i, c, rfl, ?_, hs2, hc2, hga, by omega⟩⟩
          rw [hr, if_pos (by omega)]
          rfl
