/-! rounds: pairs meet in so many rounds. a 0 k, a 1 k: the pair k; a list of rounds, the last pair's first -/
def inPr (a : Nat → Nat → Nat) (j p : Nat) : Bool := decide (a 0 j = p) || decide (a 1 j = p)
def usd (a : Nat → Nat → Nat) : List Nat → Nat → Nat → Bool
  | [], _, _ => false
  | x :: c, p, r => (decide (x = r) && inPr a c.length p) || usd a c p r
def okc (a : Nat → Nat → Nat) (c : List Nat) (r : Nat) : Bool := !(usd a c (a 0 c.length) r || usd a c (a 1 c.length) r)
def anyN (P : Nat → Bool) : Nat → Nat → Bool
  | 0, _ => false
  | n + 1, k => P k || anyN P n (k + 1)
theorem anyN_iff {P : Nat → Bool} : ∀ (n k : Nat), anyN P n k = true ↔ ∃ i, k ≤ i ∧ i < k + n ∧ P i = true := by
  intro n
  induction n with
  | zero =>
    intro k
    constructor
    · intro h; exact absurd h (by simp [anyN])
    · rintro ⟨i, h1, h2, -⟩; omega
  | succ n ih =>
    intro k
    unfold anyN
    rw [Bool.or_eq_true, ih (k + 1)]
    constructor
    · rintro (h | ⟨i, h1, h2, h3⟩)
      · exact ⟨k, by omega, by omega, h⟩
      · exact ⟨i, by omega, by omega, h3⟩
    · rintro ⟨i, h1, h2, h3⟩
      by_cases e : i = k
      · subst e; exact Or.inl h3
      · exact Or.inr ⟨i, by omega, by omega, h3⟩
theorem anyN_step {P : Nat → Bool} {L f : Nat} (h : f < L) : anyN P (L - f) f = (P f || anyN P (L - (f + 1)) (f + 1)) := by
  rw [show L - f = (L - (f + 1)) + 1 by omega]
  rfl
theorem anyN_end {P : Nat → Bool} {L f : Nat} (h : L ≤ f) : anyN P (L - f) f = false := by
  rw [show L - f = 0 by omega]
  rfl
def ext (L : Nat) (a : Nat → Nat → Nat) : Nat → List Nat → Bool
  | 0, _ => true
  | n + 1, c => anyN (fun r => okc a c r && ext L a n (r :: c)) L 0
def fitS (L : Nat) (a : Nat → Nat → Nat) : Nat → List Nat → Nat → Bool
  | 0, _, _ => true
  | n + 1, c, u => anyN (fun r => decide (r ≤ u) && (okc a c r && fitS L a n (r :: c) (if u < r + 1 then r + 1 else u))) L 0
theorem ext_iff {L n : Nat} {a : Nat → Nat → Nat} {c : List Nat} : ext L a (n + 1) c = true ↔ ∃ r, r < L ∧ okc a c r = true ∧ ext L a n (r :: c) = true := by
  show anyN (fun r => okc a c r && ext L a n (r :: c)) L 0 = true ↔ _
  rw [anyN_iff]
  constructor
  · rintro ⟨i, -, h2, h3⟩
    rw [Bool.and_eq_true] at h3
    exact ⟨i, by omega, h3⟩
  · rintro ⟨r, h1, h2, h3⟩
    exact ⟨r, by omega, by omega, by rw [Bool.and_eq_true]; exact ⟨h2, h3⟩⟩
theorem fit_iff {L n u : Nat} {a : Nat → Nat → Nat} {c : List Nat} : fitS L a (n + 1) c u = true ↔ ∃ r, r < L ∧ r ≤ u ∧ okc a c r = true ∧ fitS L a n (r :: c) (if u < r + 1 then r + 1 else u) = true := by
  show anyN (fun r => decide (r ≤ u) && (okc a c r && fitS L a n (r :: c) (if u < r + 1 then r + 1 else u))) L 0 = true ↔ _
  rw [anyN_iff]
  constructor
  · rintro ⟨i, -, h2, h3⟩
    rw [Bool.and_eq_true, Bool.and_eq_true, decide_eq_true_eq] at h3
    exact ⟨i, by omega, h3⟩
  · rintro ⟨r, h1, h2, h3⟩
    exact ⟨r, by omega, by omega, by rw [Bool.and_eq_true, Bool.and_eq_true, decide_eq_true_eq]; exact ⟨h2, h3⟩⟩
def sw (x y r : Nat) : Nat := if r = x then y else if r = y then x else r
theorem sw_inj {x y r s : Nat} : sw x y r = sw x y s ↔ r = s := by
  constructor
  · unfold sw
    intro h
    split at h <;> (try split at h) <;> (try split at h) <;> (try split at h) <;> omega
  · intro h; rw [h]
theorem sw_lt {x y r L : Nat} (hx : x < L) (hy : y < L) (hr : r < L) : sw x y r < L := by
  unfold sw
  split
  · exact hy
  · split <;> omega
theorem usd_map {a : Nat → Nat → Nat} {x y p r : Nat} : ∀ c : List Nat, usd a (c.map (sw x y)) p (sw x y r) = usd a c p r := by
  intro c
  induction c with
  | nil => rfl
  | cons z c ih =>
    show ((decide (sw x y z = sw x y r) && inPr a (c.map (sw x y)).length p) || usd a (c.map (sw x y)) p (sw x y r)) = ((decide (z = r) && inPr a c.length p) || usd a c p r)
    rw [ih, List.length_map]
    simp only [sw_inj]
theorem okc_map {a : Nat → Nat → Nat} {x y r : Nat} {c : List Nat} : okc a (c.map (sw x y)) (sw x y r) = okc a c r := by
  unfold okc
  rw [usd_map, usd_map, List.length_map]
theorem ext_map {L : Nat} {a : Nat → Nat → Nat} {x y : Nat} (hx : x < L) (hy : y < L) : ∀ (n : Nat) (c : List Nat), ext L a n c = true → ext L a n (c.map (sw x y)) = true := by
  intro n
  induction n with
  | zero => intro c _; rfl
  | succ n ih =>
    intro c h
    obtain ⟨r, h1, h2, h3⟩ := ext_iff.mp h
    exact ext_iff.mpr ⟨sw x y r, sw_lt hx hy h1, by rw [okc_map]; exact h2, ih (r :: c) h3⟩
theorem map_id {x y u : Nat} (hx : u ≤ x) (hy : u ≤ y) : ∀ c : List Nat, (∀ z, z ∈ c → z < u) → c.map (sw x y) = c := by
  intro c
  induction c with
  | nil => intro _; rfl
  | cons z c ih =>
    intro h
    have h1 := h z (List.mem_cons_self ..)
    rw [List.map_cons, ih (fun w hw => h w (List.mem_cons_of_mem _ hw))]
    unfold sw
    rw [if_neg (by omega), if_neg (by omega)]
theorem fit_ext {L : Nat} {a : Nat → Nat → Nat} : ∀ (n : Nat) (c : List Nat) (u : Nat), (∀ z, z ∈ c → z < u) → fitS L a n c u = ext L a n c := by
  intro n
  induction n with
  | zero => intro c u _; rfl
  | succ n ih =>
    intro c u hu
    have hn : ∀ r, ∀ z, z ∈ r :: c → z < if u < r + 1 then r + 1 else u := fun r z hz => by
      rcases List.mem_cons.mp hz with rfl | hz
      · split <;> omega
      · have := hu z hz
        split <;> omega
    rw [Bool.eq_iff_iff, fit_iff, ext_iff]
    constructor
    · rintro ⟨r, h1, h2, h3, h4⟩
      rw [ih (r :: c) _ (hn r)] at h4
      exact ⟨r, h1, h3, h4⟩
    · rintro ⟨r, h1, h2, h3⟩
      by_cases q : r ≤ u
      · exact ⟨r, h1, q, h2, by rw [ih (r :: c) _ (hn r)]; exact h3⟩
      · have e := map_id (x := r) (y := u) (u := u) (by omega) (Nat.le_refl _) c hu
        have su : sw r u r = u := by unfold sw; rw [if_pos rfl]
        have h3' := ext_map (x := r) (y := u) h1 (by omega) n (r :: c) h3
        rw [List.map_cons, e, su] at h3'
        have h2' : okc a c u = true := by
          have := okc_map (a := a) (x := r) (y := u) (r := r) (c := c)
          rw [e, su] at this
          rw [this]
          exact h2
        exact ⟨u, by omega, Nat.le_refl _, h2', by rw [ih (u :: c) _ (hn u)]; exact h3'⟩
/-- in as many rounds as there are pairs all can meet -/
theorem usd_big {a : Nat → Nat → Nat} {p r : Nat} : ∀ c : List Nat, (∀ z, z ∈ c → z < r) → usd a c p r = false := by
  intro c
  induction c with
  | nil => intro _; rfl
  | cons z c ih =>
    intro h
    have := h z (List.mem_cons_self ..)
    show ((decide (z = r) && inPr a c.length p) || usd a c p r) = false
    rw [ih (fun w hw => h w (List.mem_cons_of_mem _ hw))]
    simp [show ¬ z = r by omega]
theorem ext_all {L : Nat} {a : Nat → Nat → Nat} : ∀ (n : Nat) (c : List Nat), (∀ z, z ∈ c → z < c.length) → c.length + n ≤ L → ext L a n c = true := by
  intro n
  induction n with
  | zero => intro c _ _; rfl
  | succ n ih =>
    intro c h hl
    refine ext_iff.mpr ⟨c.length, by omega, ?_, ih (c.length :: c) (fun z hz => ?_) (by rw [List.length_cons]; omega)⟩
    · unfold okc
      rw [usd_big c h, usd_big c h]
      rfl
    · rw [List.length_cons]
      rcases List.mem_cons.mp hz with rfl | hz
      · omega
      · have := h z hz
        omega
/-- one needs as many rounds as it has pairs -/
def prp (L : Nat) (a : Nat → Nat → Nat) : List Nat → Prop
  | [] => True
  | x :: c => x < L ∧ okc a c x = true ∧ prp L a c
def cls (a : Nat → Nat → Nat) (p : Nat) : List Nat → List Nat
  | [] => []
  | x :: c => if inPr a c.length p = true then x :: cls a p c else cls a p c
def dgN (a : Nat → Nat → Nat) (p : Nat) : Nat → Nat
  | 0 => 0
  | k + 1 => dgN a p k + if inPr a k p = true then 1 else 0
theorem cls_usd {a : Nat → Nat → Nat} {p r : Nat} : ∀ c : List Nat, r ∈ cls a p c ↔ usd a c p r = true := by
  intro c
  induction c with
  | nil => simp [cls, usd]
  | cons x c ih =>
    show r ∈ (if inPr a c.length p = true then x :: cls a p c else cls a p c) ↔ ((decide (x = r) && inPr a c.length p) || usd a c p r) = true
    by_cases q : inPr a c.length p = true
    · rw [if_pos q, List.mem_cons, ih, q, Bool.and_true, Bool.or_eq_true, decide_eq_true_eq]
      constructor
      · rintro (h | h)
        · exact Or.inl h.symm
        · exact Or.inr h
      · rintro (h | h)
        · exact Or.inl h.symm
        · exact Or.inr h
    · have q' : inPr a c.length p = false := by simpa using q
      rw [if_neg q, ih, q', Bool.and_false, Bool.false_or]
theorem cls_len {a : Nat → Nat → Nat} {p : Nat} : ∀ c : List Nat, (cls a p c).length = dgN a p c.length := by
  intro c
  induction c with
  | nil => rfl
  | cons x c ih =>
    show (if inPr a c.length p = true then x :: cls a p c else cls a p c).length = dgN a p c.length + if inPr a c.length p = true then 1 else 0
    split
    · rw [List.length_cons, ih]
    · rw [ih]; rfl
theorem cls_prp {L : Nat} {a : Nat → Nat → Nat} {p : Nat} : ∀ c : List Nat, prp L a c → (cls a p c).Nodup ∧ ∀ x, x ∈ cls a p c → x < L := by
  intro c
  induction c with
  | nil => intro _; exact ⟨List.nodup_nil, fun x hx => absurd hx (by simp [cls])⟩
  | cons x c ih =>
    rintro ⟨h1, h2, h3⟩
    obtain ⟨i1, i2⟩ := ih h3
    show (if inPr a c.length p = true then x :: cls a p c else cls a p c).Nodup ∧ ∀ y, y ∈ (if inPr a c.length p = true then x :: cls a p c else cls a p c) → y < L
    by_cases q : inPr a c.length p = true
    · rw [if_pos q]
      refine ⟨List.nodup_cons.mpr ⟨fun hm => ?_, i1⟩, fun y hy => ?_⟩
      · have hu := (cls_usd c).mp hm
        unfold okc at h2
        rw [Bool.not_eq_true', Bool.or_eq_false_iff] at h2
        unfold inPr at q
        rw [Bool.or_eq_true, decide_eq_true_eq, decide_eq_true_eq] at q
        rcases q with q | q
        · rw [q, hu] at h2; exact absurd h2.1 (by decide)
        · rw [q, hu] at h2; exact absurd h2.2 (by decide)
      · rcases List.mem_cons.mp hy with rfl | hy
        · exact h1
        · exact i2 y hy
    · rw [if_neg q]
      exact ⟨i1, i2⟩
theorem ext_prp {L : Nat} {a : Nat → Nat → Nat} : ∀ (n : Nat) (c : List Nat), ext L a n c = true → prp L a c → ∃ c', prp L a c' ∧ c'.length = c.length + n := by
  intro n
  induction n with
  | zero => intro c _ h; exact ⟨c, h, rfl⟩
  | succ n ih =>
    intro c h hp
    obtain ⟨r, h1, h2, h3⟩ := ext_iff.mp h
    obtain ⟨c', h4, h5⟩ := ih (r :: c) h3 ⟨h1, h2, hp⟩
    exact ⟨c', h4, by rw [h5, List.length_cons]; omega⟩
theorem deg_le {L S : Nat} {a : Nat → Nat → Nat} (h : ext L a S [] = true) (p : Nat) : dgN a p S ≤ L := by
  obtain ⟨c, h1, h2⟩ := ext_prp S [] h trivial
  obtain ⟨n1, n2⟩ := cls_prp (p := p) c h1
  have := nodup_len L _ n1 n2
  rw [cls_len, h2] at this
  simpa using this
theorem least_of {P : Nat → Bool} : ∀ n, P n = true → ∃ m, m ≤ n ∧ P m = true ∧ ∀ j, j < m → P j = false := by
  intro n
  induction n using Nat.strongRecOn with
  | ind n ih =>
    intro h
    by_cases q : ∃ j, j < n ∧ P j = true
    · obtain ⟨j, h1, h2⟩ := q
      obtain ⟨m, h3, h4, h5⟩ := ih j h1 h2
      exact ⟨m, by omega, h4, h5⟩
    · refine ⟨n, Nat.le_refl _, h, fun j hj => ?_⟩
      rcases hp : P j with _ | _
      · rfl
      · exact absurd ⟨j, hj, hp⟩ q
