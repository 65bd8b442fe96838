/-! left: one ring is cleared, on both sides -/
theorem clS_other {dr : Nat → Nat → Int32} {z : Nat → Nat} {m i j : Nat} (h : j ≠ 3) : ∀ n, clS dr z m n i j = dr i j := by
  intro n
  induction n with
  | zero => rfl
  | succ n ih => show sd _ _ _ _ _ _ = _; rw [sd_ne (Or.inr h), ih]
theorem clS_out {dr : Nat → Nat → Int32} {z : Nat → Nat} {m i : Nat} : ∀ n, (∀ k, k < n → z k ≠ i) → clS dr z m n i 3 = dr i 3 := by
  intro n
  induction n with
  | zero => intro _; rfl
  | succ n ih =>
    intro h
    show sd _ _ _ _ _ _ = _
    rw [sd_ne (Or.inl (Ne.symm (h n (by omega)))), ih (fun k hk => h k (by omega))]
theorem clS_in {dr : Nat → Nat → Int32} {z : Nat → Nat} {m : Nat} : ∀ n, (∀ a b, a < n → b < n → z a = z b → a = b) → ∀ k, k < n → clS dr z m n (z k) 3 = dr (z k) 3 - nI m := by
  intro n
  induction n with
  | zero => intro _ k hk; omega
  | succ n ih =>
    intro h k hk
    show sd _ _ _ _ _ _ = _
    by_cases e : k = n
    · subst e
      rw [sd_same, clS_out k (fun j hj e => by have := h j k (by omega) (by omega) e; omega)]
    · rw [sd_ne (Or.inl (fun e' => e (h k n (by omega) (by omega) e')))]
      exact ih (fun a b ha hb => h a b (by omega) (by omega)) k (by omega)
theorem el_inj2 {g : Nat → Nat → Nat} {c : List Nat} (h : (c.map (g 0)).Nodup) : ∀ a b, a < c.length → b < c.length → el c a = el c b → a = b := fun a b ha hb e => el_inj h ha hb (by rw [e])
theorem mn_lst {nd : Nat} {s : Int32} {dr : Nat → Nat → Int32} {g : Nat → Nat → Nat} {b : List Nat} (lk : LK s nd dr g) (hc : gdC g nd b) (h99 : ∀ i, i < nd → g 2 i ≤ 99) : ∀ k, k ≤ b.length → mnN dr (el b) k = lst g (b.drop (b.length - k)) := by
  intro k
  induction k with
  | zero => intro _; rw [Nat.sub_zero, List.drop_length]; rfl
  | succ k ih =>
    intro hk
    have z := hc.1 _ (el_mem (c := b) (k := k) (by omega))
    have e3 := ((lk _ z.1).2.2.2 z.2).1
    have ek : kN dr (el b k) = g 2 (el b k) := by
      unfold kN
      rw [e3, cl (by have := h99 _ z.1; omega)]
    rw [el_drop (by omega)]
    show (if mnN dr (el b) k ≤ kN dr (el b k) then mnN dr (el b) k else kN dr (el b k)) = if g 2 (el b k) < lst g (b.drop (b.length - k)) then _ else _
    rw [ih (by omega), ek]
    by_cases q : lst g (b.drop (b.length - k)) ≤ g 2 (el b k)
    · rw [if_pos q, if_neg (by omega)]
    · rw [if_neg q, if_pos (by omega)]
theorem ring_ok {nd np : Nat} {s : Int32} (hs2 : ¬ s = 2) {dr : Nat → Nat → Int32} {g : Nat → Nat → Nat} {b : List Nat} (lk : LK s nd dr g) (hg : Gd g nd np) (hb : BN nd dr) (hc : gdC g nd b) (hn : chn g b) (hcl : clB g b = true) : allF (PM dr (el b) b.length) b.length 0 = true := by
  rw [allF_iff]
  intro i _ hi
  have hi' : i < b.length := by omega
  have z := hc.1 _ (el_mem hi')
  have l := lk _ z.1
  have l4 := l.2.2.2 z.2
  have hnx : nx b.length i < b.length := by unfold nx; split <;> omega
  have z' := hc.1 _ (el_mem hnx)
  have l' := lk _ z'.1
  have ho : ¬ dr (el b i) 3 ≤ 0 := fun h => by
    have := l.2.2.1.mp (Or.inl h)
    have := z.2
    omega
  have h1 : dr (el b i) 1 = dr (el b (nx b.length i)) 0 := by
    rw [l.2.1, l'.1]
    congr 1
    unfold nx
    by_cases q : b.length ≤ i + 1
    · rw [if_pos q]
      cases b with
      | nil => exact absurd hi' (by simp)
      | cons x c =>
        have : i = c.length := by rw [List.length_cons] at q hi'; omega
        rw [this, el_top]
        exact cl_cons.mp hcl
    · rw [if_neg q]
      exact (hn i (by omega)).symm
  have h2 : tb (seenS dr (el b) i) (whoN dr (el b i)) = false := by
    refine seen_no hb i (fun k hk => (hc.1 _ (el_mem (show k < b.length by omega))).1) (fun a ha e => ?_)
    have za := hc.1 _ (el_mem (show a < b.length by omega))
    have la := lk _ za.1
    obtain ⟨a1, -, a2, -, a3, -, a4, -⟩ := hb _ za.1
    obtain ⟨b1, -, b2, -, b3, -, b4, -⟩ := hb _ z.1
    have : g 0 (el b a) = g 0 (el b i) := by
      have e1 : nI (g 0 (el b a)) = nI (g 0 (el b i)) := by rw [← la.1, ← l.1, a3, b3, ← a4, ← b4, e]
      have hnp := hg.1
      exact nI_inj (by have := (hg.2.2 _ za.1).1; omega) (by have := (hg.2.2 _ z.1).1; omega) e1
    have := el_inj hc.2 (show a < b.length by omega) hi' this
    omega
  unfold PM cA
  rw [l4.2, ((lk _ z'.1).2.2.2 z'.2).2]
  simp [ho, h1, h2, hs2]
theorem clearRing_S {F np nd : Nat} (hF : FB ≤ F) {s : Int32} (hs2 : ¬ s = 2) {kn : Nat → Int32} {dr : Nat → Nat → Int32} {g : Nat → Nat → Nat} {b : List Nat} {M : Mem} (hx : VX M 38 np nd kn dr) (lk : LK s nd dr g) (hg : Gd g nd np) (hb : BN nd dr) (hk : KN nd dr) (hc : gdC g nd b) (hn : chn g b) (hcl : clB g b = true) (h3 : 3 ≤ b.length) (hp : PXc 67 M b) : ∃ P, V_clearRing F M 38 67 (nI b.length) = some (nI (lst g b), P) ∧ VX P 38 np nd kn (clS dr (el b) (lst g b) b.length) ∧ ∀ a, ¬ (41 ≤ a ∧ a ≤ 52) → P a = M a := by
  have hF' := FBL hF
  have hl6 := len_C hg hc
  have hnd := hg.2.1
  have hz : ∀ i, i < b.length → M 67 i = nI (el b i) ∧ el b i < nd := fun i hi => ⟨hp i hi, (hc.1 _ (el_mem hi)).1⟩
  have rX := isRing_S hF hx hb (show ln 67 = 6 from rfl) hl6 hz
  rw [if_pos ⟨⟨h3, hl6⟩, ring_ok hs2 lk hg hb hc hn hcl⟩] at rX
  have mX := clearMin_S (F := F) hx hk (show ln 67 = 6 from rfl) hl6 hz (b.length - 1) 1 F (by omega) (by omega)
  have ml : mnN dr (el b) b.length = lst g b := by
    rw [mn_lst lk hc (fun i hi => (hg.2.2 i hi).2.2.2) b.length (Nat.le_refl _), Nat.sub_self, List.drop_zero]
  have z0 := hz 0 (by omega)
  have k0 := hk (el b 0) z0.2
  have e99 : nI (mnN dr (el b) 1) = dr (el b 0) 3 := by
    show nI (if 99 ≤ kN dr (el b 0) then 99 else kN dr (el b 0)) = _
    rw [k0.1]
    congr 1
    have := k0.2
    by_cases qq : 99 ≤ kN dr (el b 0)
    · rw [if_pos qq]; unfold kN at this qq ⊢; omega
    · rw [if_neg qq]
  rw [e99, ml] at mX
  obtain ⟨P, s1, s2, s3⟩ := clearSub_S hF (m := lst g b) hx (show ln 67 = 6 from rfl) rfl hl6 hz
  have a0' : ard M 67 0 = some (nI (el b 0)) := by
    have := ard_nI (M := M) (a := 67) (k := 0) (by show 0 < 6; omega)
    rw [z0.1] at this
    exact this
  have x0 : idx (nI (el b 0)) (ln (38 + 2)) = some (el b 0) := idx_nI (n := 12) (by have := z0.2; omega) (by omega)
  refine ⟨P, ?_, s2, s3⟩
  unfold V_clearRing
  have h10 : ((1 : Int32) = 0) = False := by decide
  have e3 := hx.2.2.2.2.2.2.2 (el b 0) z0.2 3 (by omega)
  have mX' : L_V_clearRing_26 F M 38 67 (nI b.length) F (dr (el b 0) 3) 1 = some (nI (lst g b)) := mX
  simp only [rX, ob_some, h10, ↓reduceIte, a0', x0, e3, mX', s1]
/-- what is left to clear -/
def gcl (g : Nat → Nat → Nat) (b : List Nat) : Nat → Nat → Nat := fun j i => if j = 2 ∧ i ∈ b then g 2 i - lst g b else g j i
theorem lst_min {g : Nat → Nat → Nat} : ∀ (b : List Nat) (x : Nat), x ∈ b → lst g b ≤ g 2 x := by
  intro b
  induction b with
  | nil => intro x h; exact absurd h (by simp)
  | cons y b ih =>
    intro x h
    unfold lst
    rcases List.mem_cons.mp h with rfl | h
    · split <;> omega
    · have := ih x h
      split <;> omega
theorem lst_att {g : Nat → Nat → Nat} : ∀ (b : List Nat), lst g b = 99 ∨ ∃ x, x ∈ b ∧ g 2 x = lst g b := by
  intro b
  induction b with
  | nil => exact Or.inl rfl
  | cons y b ih =>
    unfold lst
    by_cases q : g 2 y < lst g b
    · rw [if_pos q]
      exact Or.inr ⟨y, List.mem_cons_self .., rfl⟩
    · rw [if_neg q]
      rcases ih with h | ⟨x, h1, h2⟩
      · exact Or.inl h
      · exact Or.inr ⟨x, List.mem_cons_of_mem _ h1, h2⟩
theorem lst_att' {g : Nat → Nat → Nat} {b : List Nat} (hb : b ≠ []) (h : ∀ x, x ∈ b → g 2 x ≤ 99) : ∃ x, x ∈ b ∧ g 2 x = lst g b := by
  rcases lst_att (g := g) b with h1 | h1
  · cases b with
    | nil => exact absurd rfl hb
    | cons y b =>
      refine ⟨y, List.mem_cons_self .., ?_⟩
      have h2 := lst_min (g := g) (y :: b) y (List.mem_cons_self ..)
      have h3 := h y (List.mem_cons_self ..)
      omega
  · exact h1
theorem gcl_in {g : Nat → Nat → Nat} {b : List Nat} {i : Nat} (h : i ∈ b) : gcl g b 2 i = g 2 i - lst g b := by
  unfold gcl
  rw [if_pos ⟨rfl, h⟩]
theorem gcl_out {g : Nat → Nat → Nat} {b : List Nat} {i : Nat} (h : ¬ i ∈ b) : gcl g b 2 i = g 2 i := by
  unfold gcl
  rw [if_neg (fun x => h x.2)]
theorem gcl_o {g : Nat → Nat → Nat} {b : List Nat} {i j : Nat} (h : j ≠ 2) : gcl g b j i = g j i := by
  unfold gcl
  rw [if_neg (fun x => h x.1)]
theorem Gd_cl {g : Nat → Nat → Nat} {nd np : Nat} {b : List Nat} (h : Gd g nd np) : Gd (gcl g b) nd np := by
  refine ⟨h.1, h.2.1, fun i hi => ?_⟩
  obtain ⟨h1, h2, h3, h4⟩ := h.2.2 i hi
  rw [gcl_o (by omega), gcl_o (by omega)]
  refine ⟨h1, h2, h3, ?_⟩
  by_cases q : i ∈ b
  · rw [gcl_in q]; omega
  · rw [gcl_out q]; omega
theorem sub_nI {a m : Nat} (h : m ≤ a) : nI a - nI m = nI (a - m) := pk_sub h
theorem cl_3 {s : Int32} {nd : Nat} {dr : Nat → Nat → Int32} {g : Nat → Nat → Nat} {b : List Nat} (lk : LK s nd dr g) (hc : gdC g nd b) {i : Nat} : (i ∈ b → clS dr (el b) (lst g b) b.length i 3 = nI (g 2 i - lst g b)) ∧ (¬ i ∈ b → clS dr (el b) (lst g b) b.length i 3 = dr i 3) := by
  constructor
  · intro h
    obtain ⟨k, h1, rfl⟩ := mem_el h
    have z := hc.1 _ h
    rw [clS_in b.length (el_inj2 hc.2) k h1, ((lk _ z.1).2.2.2 z.2).1, sub_nI (lst_min b _ h)]
  · intro h
    exact clS_out b.length (fun k hk e => h (by rw [← e]; exact el_mem hk))
theorem LK_cl {s : Int32} {nd np : Nat} {dr : Nat → Nat → Int32} {g : Nat → Nat → Nat} {b : List Nat} (lk : LK s nd dr g) (hg : Gd g nd np) (hc : gdC g nd b) : LK s nd (clS dr (el b) (lst g b) b.length) (gcl g b) := by
  intro i hi
  have l := lk i hi
  have c3 := cl_3 lk hc (i := i)
  rw [clS_other (j := 0) (by omega), clS_other (j := 1) (by omega), clS_other (j := 2) (by omega), gcl_o (j := 0) (by omega), gcl_o (j := 1) (by omega)]
  refine ⟨l.1, l.2.1, ?_, ?_⟩
  · by_cases q : i ∈ b
    · have z := hc.1 _ q
      have h99 := (hg.2.2 i hi).2.2.2
      rw [c3.1 q, gcl_in q, (l.2.2.2 z.2).2, ← nI_0, nI_leI (by omega) (by omega)]
      simp
    · rw [c3.2 q, gcl_out q]
      exact l.2.2.1
  · by_cases q : i ∈ b
    · have z := hc.1 _ q
      rw [c3.1 q, gcl_in q]
      exact fun _ => ⟨rfl, (l.2.2.2 z.2).2⟩
    · rw [c3.2 q, gcl_out q]
      exact l.2.2.2
theorem KN_cl {s : Int32} {nd np : Nat} {dr : Nat → Nat → Int32} {g : Nat → Nat → Nat} {b : List Nat} (lk : LK s nd dr g) (hg : Gd g nd np) (hc : gdC g nd b) (hk : KN nd dr) : KN nd (clS dr (el b) (lst g b) b.length) := by
  intro i hi
  have c3 := cl_3 lk hc (i := i)
  by_cases q : i ∈ b
  · have h99 := (hg.2.2 i hi).2.2.2
    unfold kN
    rw [c3.1 q, cl (by omega)]
    exact ⟨rfl, by omega⟩
  · have := hk i hi
    unfold kN at this ⊢
    rw [c3.2 q]
    exact this
theorem BN_cl {nd m n : Nat} {dr : Nat → Nat → Int32} {z : Nat → Nat} (hb : BN nd dr) : BN nd (clS dr z m n) := by
  intro i hi
  obtain ⟨a, b, h1, h2, h3, h4, h5, h6⟩ := hb i hi
  refine ⟨a, b, h1, h2, by rw [clS_other (by omega), h3], by rw [clS_other (by omega), h4], ?_, ?_⟩
  · unfold whoN at h5 ⊢
    rw [clS_other (by omega), h5]
  · unfold whomN at h6 ⊢
    rw [clS_other (by omega), h6]
/-- how many can still be cleared -/
def posN (g : Nat → Nat → Nat) : Nat → Nat
  | 0 => 0
  | n + 1 => posN g n + if 0 < g 2 n then 1 else 0
theorem posN_le (g : Nat → Nat → Nat) : ∀ n, posN g n ≤ n := by
  intro n
  induction n with
  | zero => exact Nat.le_refl _
  | succ n ih => unfold posN; split <;> omega
theorem posN_mono {g h : Nat → Nat → Nat} : ∀ n, (∀ i, i < n → 0 < h 2 i → 0 < g 2 i) → posN h n ≤ posN g n := by
  intro n
  induction n with
  | zero => intro _; exact Nat.le_refl _
  | succ n ih =>
    intro hh
    have h1 := ih (fun i hi => hh i (by omega))
    have h2 := hh n (by omega)
    unfold posN
    by_cases q : 0 < h 2 n
    · rw [if_pos q, if_pos (h2 q)]; omega
    · rw [if_neg q]; omega
theorem posN_lt {g h : Nat → Nat → Nat} {x : Nat} (hx0 : h 2 x = 0) (hx1 : 0 < g 2 x) : ∀ n, (∀ i, i < n → 0 < h 2 i → 0 < g 2 i) → x < n → posN h n < posN g n := by
  intro n
  induction n with
  | zero => intro _ hx; omega
  | succ n ih =>
    intro hh hx
    have h2 := hh n (by omega)
    unfold posN
    by_cases e : x = n
    · subst e
      have h1 := posN_mono (g := g) (h := h) x (fun i hi => hh i (by omega))
      rw [if_neg (by omega), if_pos hx1]; omega
    · have h1 := ih (fun i hi => hh i (by omega)) (by omega)
      by_cases q : 0 < h 2 n
      · rw [if_pos q, if_pos (h2 q)]; omega
      · rw [if_neg q]; omega
theorem posN_0 {g : Nat → Nat → Nat} : ∀ n, posN g n = 0 → ∀ i, i < n → g 2 i = 0 := by
  intro n
  induction n with
  | zero => intro _ i hi; omega
  | succ n ih =>
    intro h i hi
    unfold posN at h
    by_cases q : 0 < g 2 n
    · rw [if_pos q] at h; omega
    · rw [if_neg q] at h
      by_cases e : i = n
      · subst e; omega
      · exact ih (by omega) i (by omega)
theorem rest_0 {g : Nat → Nat → Nat} {nd : Nat} (h : posN g nd = 0) : rest g nd [] 0 = [] := by
  show kids (kid g nd []) (nd - 0) 0 = []
  refine kids_none _ _ (fun i _ hi => kid_no ?_)
  have := posN_0 nd h i (by omega)
  simp [okB, this]
