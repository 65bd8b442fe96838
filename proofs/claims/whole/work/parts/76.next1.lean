/-! rings: the reference goes on to the next draft of a chain -/
def SMs (g : Nat → Nat → Nat) (np nd : Nat) (kn : Nat → Int32) (dr : Nat → Nat → Int32) (M : Mem) (c : List Nat) : Prop := VM M np nd kn dr ∧ (∀ i, i < nd → M 110 i = nI (g 2 i)) ∧ M 100 21 = nI c.length ∧ PXc 111 M c
def LK0 (nd : Nat) (dr : Nat → Nat → Int32) (g : Nat → Nat → Nat) : Prop := ∀ i, i < nd → dr i 0 = nI (g 0 i) ∧ dr i 1 = nI (g 1 i)
theorem mem_el : ∀ {c : List Nat} {y : Nat}, y ∈ c → ∃ k, k < c.length ∧ el c k = y := by
  intro c
  induction c with
  | nil => intro y h; exact absurd h (by simp)
  | cons x c ih =>
    intro y h
    rcases List.mem_cons.mp h with rfl | h
    · exact ⟨c.length, by rw [List.length_cons]; omega, el_top _ _⟩
    · obtain ⟨k, h1, h2⟩ := ih h
      exact ⟨k, by rw [List.length_cons]; omega, by rw [el_low h1, h2]⟩
theorem el_inj {g : Nat → Nat → Nat} : ∀ {c : List Nat}, (c.map (g 0)).Nodup → ∀ {k j : Nat}, k < c.length → j < c.length → g 0 (el c k) = g 0 (el c j) → k = j := by
  intro c
  induction c with
  | nil => intro _ k j hk; exact absurd hk (by simp)
  | cons x c ih =>
    intro hd k j hk hj e
    rw [List.map_cons, List.nodup_cons] at hd
    rw [List.length_cons] at hk hj
    by_cases k1 : k = c.length
    · by_cases j1 : j = c.length
      · omega
      · subst k1
        rw [el_top, el_low (by omega)] at e
        exact absurd (List.mem_map.mpr ⟨_, el_mem (by omega), e.symm⟩) hd.1
    · by_cases j1 : j = c.length
      · subst j1
        rw [el_top, el_low (by omega)] at e
        exact absurd (List.mem_map.mpr ⟨_, el_mem (by omega), e⟩) hd.1
      · rw [el_low (by omega), el_low (by omega)] at e
        exact ih hd.2 (by omega) (by omega) e
def nwB (g : Nat → Nat → Nat) (c : List Nat) (i k : Nat) : Bool := !(decide (g 0 (el c k) = g 1 i))
def folB (g : Nat → Nat → Nat) (c : List Nat) (i : Nat) : Bool := okB g c i && allF (nwB g c i) (c.length - 1) 1
theorem kid_fol {g : Nat → Nat → Nat} {nd np i : Nat} {c : List Nat} (hg : Gd g nd np) (hc : gdC g nd c) (h : folB g c i = false) : kid g nd c i = [] := by
  have hl := len_C hg hc
  rcases ho : okB g c i with _ | _
  · exact kid_no ho
  unfold folB at h
  rw [ho, Bool.true_and] at h
  have : ∃ k, 1 ≤ k ∧ k < c.length ∧ g 0 (el c k) = g 1 i := by
    refine Classical.byContradiction fun hn => ?_
    have : allF (nwB g c i) (c.length - 1) 1 = true := by
      rw [allF_iff]
      intro k h1 h2
      unfold nwB
      rw [Bool.not_eq_true', decide_eq_false_iff_not]
      exact fun e => hn ⟨k, h1, by omega, e⟩
    rw [this] at h
    exact absurd h (by decide)
  obtain ⟨k, k1, k2, k3⟩ := this
  refine kid_seen (by omega) ?_ ?_
  · rcases hb : clB g (i :: c) with _ | _
    · rfl
    · have := cl_cons.mp hb
      rw [el_low (by omega), ← k3] at this
      have := el_inj hc.2 k2 (by omega) this
      omega
  · rw [sn_iff, ← k3]
    exact List.mem_map.mpr ⟨_, List.mem_cons_of_mem _ (el_mem k2), rfl⟩
theorem fol_sn {g : Nat → Nat → Nat} {nd np i : Nat} {c : List Nat} (hg : Gd g nd np) (hi : i < nd) (h : folB g c i = true) (hcl : clB g (i :: c) = false) : snB g (i :: c) = false := by
  rcases hs : snB g (i :: c) with _ | _
  · rfl
  exfalso
  have hm := sn_iff.mp hs
  unfold folB at h
  rw [Bool.and_eq_true, allF_iff] at h
  rw [List.map_cons] at hm
  rcases List.mem_cons.mp hm with e | hm
  · exact (hg.2.2 i hi).2.2.1 e.symm
  · obtain ⟨y, hy, e⟩ := List.mem_map.mp hm
    obtain ⟨k, k1, rfl⟩ := mem_el hy
    by_cases k0 : k = 0
    · subst k0
      have : clB g (i :: c) = true := cl_cons.mpr (by rw [el_low k1, e])
      rw [this] at hcl
      exact absurd hcl (by decide)
    · have := h.2 k (by omega) (by omega)
      unfold nwB at this
      rw [Bool.not_eq_true', decide_eq_false_iff_not] at this
      exact this e
theorem follows0_M {F : Nat} {M : Mem} {x y : Int32} {m : Nat} : L_M_follows_74 F M x (m + 1) 0 y = some 0 := by
  show B_M_follows_74 F M x _ 0 y = _
  unfold B_M_follows_74
  simp
theorem followsL_M {F np nd i : Nat} {M : Mem} {kn : Nat → Int32} {dr : Nat → Nat → Int32} {g : Nat → Nat → Nat} {c : List Nat} (hs : SMs g np nd kn dr M c) (lk : LK0 nd dr g) (hg : Gd g nd np) (hc : gdC g nd c) (hi : i < nd) : ∀ (q k m : Nat), k + q = c.length → q + 1 < m → L_M_follows_74 F M (nI i) m 1 (nI k) = some (if allF (nwB g c i) q k = true then 1 else 0) := by
  have hl := len_C hg hc
  have hnp := hg.1
  intro q
  induction q with
  | zero =>
    intro k m hk hm
    obtain ⟨m, rfl⟩ : ∃ j, m = j + 1 := ⟨m - 1, by omega⟩
    show B_M_follows_74 F M (nI i) _ 1 (nI k) = _
    unfold B_M_follows_74
    rw [hs.2.2.1, if_pos (by rw [nI_leI (by omega) (by omega)]; omega)]
    rfl
  | succ q ih =>
    intro k m hk hm
    obtain ⟨m, rfl⟩ : ∃ j, m = j + 2 := ⟨m - 2, by omega⟩
    show B_M_follows_74 F M (nI i) _ 1 (nI k) = _
    unfold B_M_follows_74
    have z := (hc.1 _ (el_mem (c := c) (k := k) (by omega))).1
    have h10 : ((1 : Int32) = 0) = False := by decide
    have c1 : (nI c.length ≤ nI k) = False := by rw [nI_leI (by omega) (by omega)]; simp; omega
    have q0 : M_of F M (nI (el c k)) 0 = some (nI (g 0 (el c k))) := by rw [← (lk _ z).1]; exact M_of_eq hs.1 z (j := 0) (by omega)
    have q1 : M_of F M (nI i) 1 = some (nI (g 1 i)) := by rw [← (lk _ hi).2]; exact M_of_eq hs.1 hi (j := 1) (by omega)
    have e := (hg.2.2 _ z).1
    have e' := (hg.2.2 _ hi).2.1
    simp only [hs.2.2.1, c1, h10, ↓reduceIte, ard_nI (M := M) (a := 111) (k := k) (by show k < 6; omega), ob_some, hs.2.2.2 k (by omega), q0, q1, nI_eq (show g 0 (el c k) < 2 ^ 31 by omega) (show g 1 i < 2 ^ 31 by omega), nI_1, ih (k + 1) (m + 1) (by omega) (by omega), follows0_M, allF]
    by_cases q : g 0 (el c k) = g 1 i
    · simp [nwB, q]
    · simp [nwB, q]
theorem follows_M {F np nd i : Nat} (hF : FB ≤ F) {M : Mem} {kn : Nat → Int32} {dr : Nat → Nat → Int32} {g : Nat → Nat → Nat} {c : List Nat} (hs : SMs g np nd kn dr M c) (lk : LK0 nd dr g) (hg : Gd g nd np) (hc : gdC g nd c) (hi : i < nd) : M_follows F M (nI i) = some (if folB g c i = true then 1 else 0) := by
  have hF' := FBL hF
  have hl := len_C hg hc
  have hnp := hg.1
  have hnd := hg.2.1
  have gi := hg.2.2 i hi
  unfold M_follows
  have z : nI (g 2 i) = 0 ↔ g 2 i = 0 := by rw [← nI_0, nI_eq (by omega) (by omega)]
  simp only [ard_nI (M := M) (a := 110) (k := i) (by show i < 12; omega), ob_some, hs.2.1 i hi]
  by_cases j : g 2 i = 0
  · have c0 : (nI 0 = (0 : Int32)) = True := by decide
    have c1 : (nI 0 ≤ (0 : Int32)) = True := by decide
    have c2 : folB g c i = false := by simp [folB, okB, j]
    simp only [j, c0, c1, c2, ↓reduceIte, Bool.false_eq_true]
  have z1 : (nI (g 2 i) = 0) = False := by rw [z]; simp [j]
  cases c with
  | nil =>
    have c1 : (nI (g 2 i) ≤ (0 : Int32)) = False := by rw [← nI_0, nI_leI (by omega) (by omega)]; simp; omega
    have c2 : folB g [] i = true := by simp [folB, okB, allF]; omega
    have c3 : M 100 21 = 0 := hs.2.2.1
    simp only [z1, c1, c2, c3, ↓reduceIte]
  | cons x c' =>
    have c3 : (M 100 21 = 0) = False := by rw [hs.2.2.1, ← nI_0, nI_eq (by omega) (by omega)]; simp
    have z0 := (hc.1 _ (el_mem (c := x :: c') (k := 0) (by rw [List.length_cons]; omega))).1
    have zx := (hc.1 x (List.mem_cons_self ..)).1
    have gx := hg.2.2 x zx
    have p0 : M 111 0 = nI (el (x :: c') 0) := hs.2.2.2 0 (by rw [List.length_cons]; omega)
    have p1 : M 111 c'.length = nI x := by rw [hs.2.2.2 c'.length (by rw [List.length_cons]; omega), el_top]
    rw [List.length_cons] at hl
    have s1 : M 100 21 - 1 = nI c'.length := by rw [hs.2.2.1, List.length_cons, nI_pred]
    have q0 : M_of F M (nI i) 0 = some (nI (g 0 i)) := by rw [← (lk _ hi).1]; exact M_of_eq hs.1 hi (j := 0) (by omega)
    have q1 : M_of F M (nI x) 1 = some (nI (g 1 x)) := by rw [← (lk _ zx).2]; exact M_of_eq hs.1 zx (j := 1) (by omega)
    have lp := followsL_M (F := F) hs lk hg hc hi c'.length 1 F (by rw [List.length_cons]; omega) (by omega)
    have l1 : nI 1 = 1 := rfl
    rw [l1] at lp
    obtain ⟨F', rfl⟩ : ∃ j, F = j + 1 := ⟨F - 1, by omega⟩
    have rb1 : rb 1 = some 1 := rfl
    have rb0 : rb 0 = some 0 := rfl
    simp only [z1, c3, ↓reduceIte, p0, s1, ard_nI (M := M) (a := 111) (k := c'.length) (by show _ < 6; omega), ob_some, p1, q0, q1, nI_leI (show i < 2 ^ 31 by omega) (show el (x :: c') 0 < 2 ^ 31 by omega), nI_eq (show g 0 i < 2 ^ 31 by omega) (show g 1 x < 2 ^ 31 by omega)]
    by_cases k1 : i ≤ el (x :: c') 0
    · have c2 : folB g (x :: c') i = false := by
        rcases h : folB g (x :: c') i with _ | _
        · rfl
        · unfold folB at h
          rw [Bool.and_eq_true, ok_cons] at h
          omega
      simp only [k1, c2, ↓reduceIte, ob_some, follows0_M, rb0, Bool.false_eq_true]
    by_cases k2 : g 0 i = g 1 x
    · have ho : okB g (x :: c') i = true := ok_cons.mpr ⟨by omega, by omega, k2⟩
      simp only [k1, k2, ↓reduceIte, ob_some, lp]
      unfold folB
      rw [ho, Bool.true_and]
      show _ = some (if allF (nwB g (x :: c') i) c'.length 1 = true then 1 else 0)
      by_cases k3 : allF (nwB g (x :: c') i) c'.length 1 = true
      · simp only [k3, ↓reduceIte, rb1]
        rfl
      · simp only [k3, ↓reduceIte, rb0, Bool.false_eq_true]
        rfl
    · have c2 : folB g (x :: c') i = false := by
        rcases h : folB g (x :: c') i with _ | _
        · rfl
        · unfold folB at h
          rw [Bool.and_eq_true, ok_cons] at h
          exact absurd h.1.2.2 k2
      simp only [k1, k2, c2, ↓reduceIte, ob_some, follows0_M, rb0, Bool.false_eq_true]
