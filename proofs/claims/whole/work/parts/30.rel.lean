/-! the relation of the class's memory and the reference's -/
def pk6 (d : Nat → Int32) : Int32 := d 0 ||| d 1 <<< ((3 : Int32) &&& 31) ||| d 2 <<< ((6 : Int32) &&& 31) ||| d 5 <<< ((8 : Int32) &&& 31) ||| d 4 <<< ((10 : Int32) &&& 31) ||| d 3 <<< ((16 : Int32) &&& 31)
/-- a draft as it may stand: by np persons, at most w weeks old -/
def GoodD (np w : Nat) (d : Nat → Int32) : Prop := ∃ a b c k v t : Nat, d 0 = nI a ∧ d 1 = nI b ∧ d 2 = nI c ∧ d 3 = nI k ∧ d 4 = nI v ∧ d 5 = nI t ∧ a < np ∧ b < np ∧ a ≠ b ∧ c < 3 ∧ k ≤ 99 ∧ v ≤ w ∧ t ≤ 2
/-- draft i of the reference's row of drafts that begins at o (its count) -/
def drM (M2 : Mem) (o i : Nat) : Nat → Int32 := fun j => M2 101 (o + 1 + 6 * i + j)
/-- page n of the class's history at cell h is what the reference has from o on -/
def PageRel (M1 M2 : Mem) (np h n o w : Nat) : Prop := ∃ nd : Nat, nd ≤ 12 ∧ M1 (h + 1) n = nI nd ∧ M2 101 o = nI nd ∧ ∀ i, i < nd → GoodD np w (drM M2 o i) ∧ M1 (h + 2) (12 * n + i) = pk6 (drM M2 o i)
def RelA (M1 M2 : Mem) : Prop := M1 0 10 = M2 100 10 ∧ M1 0 11 = M2 100 7 ∧ M1 0 12 = M2 100 8 ∧ M1 0 13 = M2 100 9 ∧ ∀ f, 1 ≤ f → f ≤ 5 → M1 76 f = M2 107 f
def StripRel (M1 M2 : Mem) (most s c a r : Nat) : Prop := (M1 s 1 = -1 ∧ M2 c r = -1) ∨ ∃ n : Nat, n ≤ most ∧ M1 s 1 = nI n ∧ M2 c r = nI n ∧ ∀ i, i < n → M1 (s + 1) i = M2 a (most * r + i)
def RelR (M1 M2 : Mem) : Prop := ∀ r, r < 6 → StripRel M1 M2 40 (1 + 1 + 2 * r) 103 104 r
def RelT (M1 M2 : Mem) : Prop := ∀ t, t < 4 → StripRel M1 M2 80 (14 + 1 + 2 * t) 105 106 t
def RelP (M1 M2 : Mem) (np : Nat) : Prop := (np = 0 ∨ 2 ≤ np) ∧ np ≤ 6 ∧ M1 23 0 = nI np ∧ M2 100 1 = nI np ∧ ∀ p, p < np → M1 24 p = M2 102 p ∧ ∃ k : Nat, k < 6 ∧ M2 102 p = nI k
def RelN (M1 M2 : Mem) (np nd D : Nat) : Prop := nd ≤ 12 ∧ M1 23 1 = nI nd ∧ M2 101 1 = nI nd ∧ ∀ i, i < nd → GoodD np D (drM M2 1 i) ∧ ∀ j, j < 6 → M1 (23 + 2 + 1 + i) j = drM M2 1 i j
def RelH (M1 M2 : Mem) (np h b D : Nat) : Prop := D ≤ 40 ∧ M1 h 0 = nI D ∧ M2 101 b = nI D ∧ ∀ n, n < D → PageRel M1 M2 np h n (b + 74 + 73 * n) n
def RelK (M1 M2 : Mem) (np h b : Nat) : Prop := (M1 h 0 = -1 ∧ M2 101 b = -1) ∨ ∃ D : Nat, RelH M1 M2 np h b D ∧ PageRel M1 M2 np h D (b + 1) D
def RelC (M1 M2 : Mem) (np nd D : Nat) : Prop := RelP M1 M2 np ∧ RelN M1 M2 np nd D ∧ RelH M1 M2 np 53 0 D ∧ ∀ k, k < 3 → RelK M1 M2 np (56 + 1 + 3 * k) (2994 * (k + 1))
def Rel (M1 M2 : Mem) : Prop := RelA M1 M2 ∧ RelR M1 M2 ∧ RelT M1 M2 ∧ ∃ np nd D : Nat, RelC M1 M2 np nd D
/-- the memories of new objects -/
def MX0 : Mem := fun k => if kd k = 11 then (fun j => if j = 1 then -1 else 0) else if k = 57 ∨ k = 60 ∨ k = 63 then (fun j => if j = 0 then -1 else 0) else if k = 0 then (fun j => if j = 13 then 1 else 0) else if k = 74 then (fun j => if j = 1 then -9 else 0) else fun _ => 0
def MM0 : Mem := fun k => if k = 100 then (fun j => if j = 9 then 1 else 0) else if k = 101 then upd (upd (upd (fun _ => 0) 2994 (-1)) 5988 (-1)) 8982 (-1) else if k = 103 then upd (upd (upd (upd (upd (upd (fun _ => 0) 0 (-1)) 1 (-1)) 2 (-1)) 3 (-1)) 4 (-1)) 5 (-1) else if k = 105 then upd (upd (upd (upd (fun _ => 0) 0 (-1)) 1 (-1)) 2 (-1)) 3 (-1) else fun _ => 0
