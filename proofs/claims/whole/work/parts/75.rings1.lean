/-! rings: all of a sort, in their order. g 0 who, g 1 whom, g 2 what can be cleared; a chain is a list, its last draft first -/
def el (c : List Nat) (k : Nat) : Nat := c.getD (c.length - 1 - k) 0
theorem el_top (x : Nat) (c : List Nat) : el (x :: c) c.length = x := by simp [el]
theorem el_low {x : Nat} {c : List Nat} {k : Nat} (h : k < c.length) : el (x :: c) k = el c k := by
  unfold el
  have : (x :: c).length - 1 - k = (c.length - 1 - k) + 1 := by
    rw [List.length_cons]
    omega
  rw [this]
  rfl
theorem el_mem {c : List Nat} {k : Nat} (h : k < c.length) : el c k ∈ c := by
  unfold el
  rw [List.getD_eq_getElem?_getD, List.getElem?_eq_getElem (by omega)]
  exact List.getElem_mem _
def okB (g : Nat → Nat → Nat) (c : List Nat) (i : Nat) : Bool := decide (0 < g 2 i) && (match c with
  | [] => true
  | x :: _ => decide (el c 0 < i) && decide (g 0 i = g 1 x))
def clB (g : Nat → Nat → Nat) (c : List Nat) : Bool := match c with
  | [] => false
  | x :: _ => decide (g 1 x = g 0 (el c 0))
def snB (g : Nat → Nat → Nat) (c : List Nat) : Bool := match c with
  | [] => false
  | x :: _ => (c.map (g 0)).contains (g 1 x)
theorem sn_iff {g : Nat → Nat → Nat} {x : Nat} {c : List Nat} : snB g (x :: c) = true ↔ g 1 x ∈ (x :: c).map (g 0) := List.contains_iff_mem
theorem sn_not {g : Nat → Nat → Nat} {x : Nat} {c : List Nat} (h : snB g (x :: c) = false) : ¬ g 1 x ∈ (x :: c).map (g 0) := fun hm => by
  rw [sn_iff.mpr hm] at h
  exact absurd h (by decide)
def kids (f : Nat → List (List Nat)) : Nat → Nat → List (List Nat)
  | 0, _ => []
  | n + 1, i => f i ++ kids f n (i + 1)
def below (g : Nat → Nat → Nat) (n : Nat) : Nat → List Nat → List (List Nat)
  | 0, _ => []
  | d + 1, c => if clB g c = true then (if 3 ≤ c.length then [c] else []) else if snB g c = true then [] else kids (fun i => if okB g c i = true then below g n d (i :: c) else []) n 0
def bel (g : Nat → Nat → Nat) (n : Nat) (c : List Nat) : List (List Nat) := below g n (9 - c.length) c
def kid (g : Nat → Nat → Nat) (n : Nat) (c : List Nat) (i : Nat) : List (List Nat) := if okB g c i = true then bel g n (i :: c) else []
theorem bel_eq {g : Nat → Nat → Nat} {n : Nat} {c : List Nat} (h : c.length ≤ 8) : bel g n c = if clB g c = true then (if 3 ≤ c.length then [c] else []) else if snB g c = true then [] else kids (kid g n c) n 0 := by
  unfold bel
  rw [show 9 - c.length = (8 - c.length) + 1 by omega, below]
  have : (fun i => if okB g c i = true then below g n (8 - c.length) (i :: c) else []) = kid g n c := by
    funext i
    unfold kid bel
    rw [List.length_cons, show 9 - (c.length + 1) = 8 - c.length by omega]
  rw [this]
def rest (g : Nat → Nat → Nat) (n : Nat) : List Nat → Nat → List (List Nat)
  | [], f => kids (kid g n []) (n - f) f
  | x :: c, f => kids (kid g n (x :: c)) (n - f) f ++ rest g n c (x + 1)
theorem kids_none {f : Nat → List (List Nat)} : ∀ (c k : Nat), (∀ i, k ≤ i → i < k + c → f i = []) → kids f c k = [] := by
  intro c
  induction c with
  | zero => intro k _; rfl
  | succ c ih =>
    intro k h
    show f k ++ kids f c (k + 1) = []
    rw [h k (by omega) (by omega), ih (k + 1) (fun i h1 h2 => h i (by omega) (by omega))]
    rfl
theorem kids_snoc (f : Nat → List (List Nat)) : ∀ (c k : Nat), kids f (c + 1) k = kids f c k ++ f (k + c) := by
  intro c
  induction c with
  | zero => intro k; simp [kids]
  | succ c ih =>
    intro k
    show f k ++ kids f (c + 1) (k + 1) = (f k ++ kids f c (k + 1)) ++ f (k + (c + 1))
    rw [ih (k + 1), List.append_assoc, show k + 1 + c = k + (c + 1) by omega]
theorem kids_add (f : Nat → List (List Nat)) : ∀ (a b k : Nat), kids f (a + b) k = kids f a k ++ kids f b (k + a) := by
  intro a
  induction a with
  | zero => intro b k; rw [Nat.zero_add]; rfl
  | succ a ih =>
    intro b k
    rw [show a + 1 + b = (a + b) + 1 by omega]
    show f k ++ kids f (a + b) (k + 1) = (f k ++ kids f a (k + 1)) ++ kids f b (k + (a + 1))
    rw [ih, List.append_assoc, show k + 1 + a = k + (a + 1) by omega]
theorem kids_len {f : Nat → List (List Nat)} {B : Nat} : ∀ (c k : Nat), (∀ i, k ≤ i → i < k + c → (f i).length ≤ B) → (kids f c k).length ≤ c * B := by
  intro c
  induction c with
  | zero => intro k _; show 0 ≤ _; omega
  | succ c ih =>
    intro k h
    show (f k ++ kids f c (k + 1)).length ≤ _
    rw [List.length_append]
    have h1 := h k (by omega) (by omega)
    have h2 := ih (k + 1) (fun i h1 h2 => h i (by omega) (by omega))
    rw [Nat.succ_mul]
    omega
theorem rest_skip {g : Nat → Nat → Nat} {n : Nat} {c : List Nat} {f j : Nat} (h1 : f ≤ j) (h2 : j ≤ n) (h : ∀ i, f ≤ i → i < j → kid g n c i = []) : rest g n c f = rest g n c j := by
  have e : kids (kid g n c) (n - f) f = kids (kid g n c) (n - j) j := by
    rw [show n - f = (j - f) + (n - j) by omega, kids_add, kids_none (j - f) f (fun i a b => h i a (by omega)), List.nil_append, show f + (j - f) = j by omega]
  cases c with
  | nil => exact e
  | cons x c => show kids _ _ _ ++ _ = kids _ _ _ ++ _; rw [e]
theorem rest_step {g : Nat → Nat → Nat} {n : Nat} {c : List Nat} {i : Nat} (h : i < n) : rest g n c i = kid g n c i ++ rest g n c (i + 1) := by
  have e : kids (kid g n c) (n - i) i = kid g n c i ++ kids (kid g n c) (n - (i + 1)) (i + 1) := by
    rw [show n - i = (n - (i + 1)) + 1 by omega]
    rfl
  cases c with
  | nil => exact e
  | cons x c => show kids _ _ _ ++ _ = _ ++ (kids _ _ _ ++ _); rw [e, List.append_assoc]
theorem rest_end_cons {g : Nat → Nat → Nat} {n x : Nat} {c : List Nat} {f : Nat} (h : n ≤ f) : rest g n (x :: c) f = rest g n c (x + 1) := by
  show kids _ _ _ ++ _ = _
  rw [show n - f = 0 by omega]
  rfl
theorem rest_end_nil {g : Nat → Nat → Nat} {n f : Nat} (h : n ≤ f) : rest g n [] f = [] := by
  show kids _ _ _ = _
  rw [show n - f = 0 by omega]
  rfl
theorem rest_push {g : Nat → Nat → Nat} {n i : Nat} {c : List Nat} (hl : c.length ≤ 7) (h1 : okB g c i = true) (h2 : clB g (i :: c) = false) (h3 : snB g (i :: c) = false) : kid g n c i ++ rest g n c (i + 1) = rest g n (i :: c) 0 := by
  unfold kid
  rw [if_pos h1, bel_eq (by rw [List.length_cons]; omega), h2, h3]
  rfl
theorem kid_no {g : Nat → Nat → Nat} {n i : Nat} {c : List Nat} (h : okB g c i = false) : kid g n c i = [] := by
  unfold kid
  rw [h]
  rfl
theorem kid_seen {g : Nat → Nat → Nat} {n i : Nat} {c : List Nat} (hl : c.length ≤ 7) (h2 : clB g (i :: c) = false) (h3 : snB g (i :: c) = true) : kid g n c i = [] := by
  unfold kid
  rw [bel_eq (by rw [List.length_cons]; omega), h2, h3]
  simp
theorem kid_close {g : Nat → Nat → Nat} {n i : Nat} {c : List Nat} (hl : c.length ≤ 7) (h1 : okB g c i = true) (h2 : clB g (i :: c) = true) : kid g n c i = if 2 ≤ c.length then [i :: c] else [] := by
  unfold kid
  rw [if_pos h1, bel_eq (by rw [List.length_cons]; omega), h2, if_pos rfl]
  by_cases h : 2 ≤ c.length
  · rw [if_pos h, if_pos (by rw [List.length_cons]; omega)]
  · rw [if_neg h, if_neg (by rw [List.length_cons]; omega)]
theorem below_len {g : Nat → Nat → Nat} {n : Nat} (hn : n ≤ 12) : ∀ (d : Nat) (c : List Nat), (below g n d c).length ≤ 12 ^ d := by
  intro d
  induction d with
  | zero => intro c; exact Nat.zero_le _
  | succ d ih =>
    intro c
    have hp : 0 < 12 ^ (d + 1) := Nat.pow_pos (by omega)
    rw [below]
    split
    · split
      · show 1 ≤ _; omega
      · exact Nat.zero_le _
    · split
      · exact Nat.zero_le _
      · have := kids_len (f := fun i => if okB g c i = true then below g n d (i :: c) else []) (B := 12 ^ d) n 0 (fun i _ _ => by
          show (if okB g c i = true then below g n d (i :: c) else []).length ≤ _
          split
          · exact ih _
          · exact Nat.zero_le _)
        have h2 : n * 12 ^ d ≤ 12 * 12 ^ d := Nat.mul_le_mul_right _ hn
        rw [Nat.pow_succ, Nat.mul_comm]
        omega
theorem rest_len {g : Nat → Nat → Nat} {n : Nat} (hn : n ≤ 12) : (rest g n [] 0).length ≤ 12 ^ 9 := by
  show (kids (kid g n []) (n - 0) 0).length ≤ _
  have := kids_len (f := kid g n []) (B := 12 ^ 8) (n - 0) 0 (fun i _ _ => by
    unfold kid
    split
    · exact below_len hn 8 [i]
    · exact Nat.zero_le _)
  have h2 : (n - 0) * 12 ^ 8 ≤ 12 * 12 ^ 8 := Nat.mul_le_mul_right _ (by omega)
  have h3 : (12 : Nat) ^ 9 = 12 * 12 ^ 8 := by decide
  omega
/-- chains that keep to the rules -/
def Gd (g : Nat → Nat → Nat) (n np : Nat) : Prop := np ≤ 6 ∧ n ≤ 12 ∧ ∀ i, i < n → g 0 i < np ∧ g 1 i < np ∧ g 0 i ≠ g 1 i ∧ g 2 i ≤ 99
def gdC (g : Nat → Nat → Nat) (n : Nat) (c : List Nat) : Prop := (∀ x, x ∈ c → x < n ∧ 0 < g 2 x) ∧ (c.map (g 0)).Nodup
theorem nodup_len : ∀ (n : Nat) (l : List Nat), l.Nodup → (∀ x, x ∈ l → x < n) → l.length ≤ n := by
  intro n
  induction n with
  | zero =>
    intro l _ h
    cases l with
    | nil => exact Nat.le_refl _
    | cons x l => exact absurd (h x (List.mem_cons_self ..)) (by omega)
  | succ n ih =>
    intro l hd h
    have k := ih (l.erase n) (hd.erase n) (fun x hx => by
      have := (hd.mem_erase_iff).mp hx
      have := h x this.2
      omega)
    by_cases e : n ∈ l
    · rw [List.length_erase_of_mem e] at k
      omega
    · rw [List.erase_of_not_mem e] at k
      omega
theorem len_C {g : Nat → Nat → Nat} {n np : Nat} {c : List Nat} (h : Gd g n np) (hc : gdC g n c) : c.length ≤ 6 := by
  have := nodup_len 6 (c.map (g 0)) hc.2 (fun x hx => by
    obtain ⟨y, hy, rfl⟩ := List.mem_map.mp hx
    have := (h.2.2 y (hc.1 y hy).1).1
    have := h.1
    omega)
  rw [List.length_map] at this
  exact this
theorem len_S {g : Nat → Nat → Nat} {n np : Nat} {c : List Nat} (h : Gd g n np) (hc : gdC g n c) (hs : snB g c = false) : c.length ≤ 5 := by
  cases c with
  | nil => exact Nat.zero_le _
  | cons x c =>
    have nm := sn_not hs
    have := nodup_len 6 (g 1 x :: (x :: c).map (g 0)) (List.nodup_cons.mpr ⟨nm, hc.2⟩) (fun y hy => by
      have h6 := h.1
      rcases List.mem_cons.mp hy with rfl | hy
      · have := (h.2.2 x (hc.1 x (List.mem_cons_self ..)).1).2.1
        omega
      · obtain ⟨z, hz, rfl⟩ := List.mem_map.mp hy
        have := (h.2.2 z (hc.1 z hz).1).1
        omega)
    rw [List.length_cons, List.length_map] at this
    omega
theorem gd_push {g : Nat → Nat → Nat} {n i : Nat} {c : List Nat} (hc : gdC g n c) (hs : snB g c = false) (hi : i < n) (ho : okB g c i = true) : gdC g n (i :: c) := by
  unfold okB at ho
  rw [Bool.and_eq_true, decide_eq_true_eq] at ho
  refine ⟨fun x hx => ?_, ?_⟩
  · rcases List.mem_cons.mp hx with rfl | hx
    · exact ⟨hi, ho.1⟩
    · exact hc.1 x hx
  · rw [List.map_cons, List.nodup_cons]
    refine ⟨?_, hc.2⟩
    cases c with
    | nil => simp
    | cons x c =>
      have h2 := ho.2
      simp only [Bool.and_eq_true, decide_eq_true_eq] at h2
      rw [h2.2]
      exact sn_not hs
theorem cl_sn {g : Nat → Nat → Nat} {c : List Nat} (h : clB g c = true) : snB g c = true := by
  cases c with
  | nil => exact absurd h (by simp [clB])
  | cons x c =>
    have h' : g 1 x = g 0 (el (x :: c) 0) := by simpa [clB] using h
    rw [sn_iff, h']
    exact List.mem_map.mpr ⟨_, el_mem (by rw [List.length_cons]; omega), rfl⟩
/-- the least of a chain, what it clears, the best of some -/
def lst (g : Nat → Nat → Nat) : List Nat → Nat
  | [] => 99
  | x :: c => if g 2 x < lst g c then g 2 x else lst g c
def gnR (g : Nat → Nat → Nat) (c : List Nat) : Nat := lst g c * c.length
def bsS (g : Nat → Nat → Nat) (b c : List Nat) : List Nat := if gnR g c ≤ gnR g b then b else c
def bst (g : Nat → Nat → Nat) (R : List (List Nat)) : List Nat := R.foldl (bsS g) []
theorem bst_snoc (g : Nat → Nat → Nat) (R : List (List Nat)) (c : List Nat) : bst g (R ++ [c]) = bsS g (bst g R) c := by
  unfold bst
  rw [List.foldl_append]
  rfl
def cnt (g : Nat → Nat → Nat) (p : Nat) (R : List (List Nat)) : Nat := R.countP (fun c => (c.map (g 0)).contains p)
theorem lst_le (g : Nat → Nat → Nat) : ∀ c : List Nat, lst g c ≤ 99 := by
  intro c
  induction c with
  | nil => exact Nat.le_refl _
  | cons x c ih =>
    unfold lst
    split <;> omega
theorem lst_pos {g : Nat → Nat → Nat} : ∀ c : List Nat, (∀ x, x ∈ c → 0 < g 2 x) → 0 < lst g c := by
  intro c
  induction c with
  | nil => intro _; exact (by decide : 0 < 99)
  | cons x c ih =>
    intro h
    have h1 := h x (List.mem_cons_self ..)
    have h2 := ih (fun y hy => h y (List.mem_cons_of_mem _ hy))
    unfold lst
    split <;> omega
