/-! the reference's methods as pure functions (by program: wip/whole/emit.py, from the bytecode) -/
def M_addDraft (F : Nat) (M : Mem) (x1 : Int32) (x2 : Int32) (x3 : Int32) (x4 : Int32) : Option Mem :=
(awr M 101 ((2 + (6 * (M 101 1))) + 0) x1).bind fun M1 =>
(awr M1 101 ((2 + (6 * (M 101 1))) + 1) x2).bind fun M2 =>
(awr M2 101 ((2 + (6 * (M 101 1))) + 2) x3).bind fun M3 =>
(awr M3 101 ((2 + (6 * (M 101 1))) + 3) x4).bind fun M4 =>
(awr M4 101 ((2 + (6 * (M 101 1))) + 4) 0).bind fun M5 =>
(awr M5 101 ((2 + (6 * (M 101 1))) + 5) 0).bind fun M6 =>
(awr M6 101 1 ((M6 101 1) + 1)).bind fun M7 =>
some M7
def M_in (F : Nat) (M : Mem) (x0 : Int64) (x2 : Int64) (x4 : Int64) : Option Int32 :=
(if (lg_cmp x0 x2) < 0 then
some 0
else
(if 0 < (lg_cmp x0 x4) then
some 0
else
some 1))
def M_of (F : Nat) (M : Mem) (x1 : Int32) (x2 : Int32) : Option Int32 :=
(ard M 101 ((2 + (6 * x1)) + x2)).bind fun t1 =>
some t1
def B_M_beginRings_2 (F : Nat) (x1 : Int32) (lp : Mem → Int32 → Option Mem) (M : Mem) (x2 : Int32) : Option Mem :=
(if 12 ≤ x2 then
some M
else
((if (M 101 1) ≤ x2 then
some 0
else
(M_of F M x2 2).bind fun c5 =>
(if c5 = x1 then
(M_of F M x2 3).bind fun c7 =>
some c7
else
some 0))).bind fun (j2 : Int32) =>
(awr M 110 x2 j2).bind fun M3 =>
lp M3 (x2 + 1))
def L_M_beginRings_2 (F : Nat) (x1 : Int32) : Nat → Mem → Int32 → Option Mem
  | 0, _, _ => none
  | n + 1, M, x2 => B_M_beginRings_2 F x1 (L_M_beginRings_2 F x1 n) M x2
def M_beginRings (F : Nat) (M : Mem) (x1 : Int32) : Option Mem :=
(L_M_beginRings_2 F x1 F M 0).bind fun u8 =>
some (up u8 100 21 0)
def B_M_follows_74 (F : Nat) (M : Mem) (x1 : Int32) (lp : Int32 → Int32 → Option Int32) (x2 : Int32) (x3 : Int32) : Option Int32 :=
(if (M 100 21) ≤ x3 then
some x2
else
(if x2 = 0 then
some x2
else
(ard M 111 x3).bind fun t9 =>
(M_of F M t9 0).bind fun c10 =>
(M_of F M x1 1).bind fun c11 =>
(if c10 = c11 then
lp 0 (x3 + 1)
else
lp 1 (x3 + 1))))
def L_M_follows_74 (F : Nat) (M : Mem) (x1 : Int32) : Nat → Int32 → Int32 → Option Int32
  | 0, _, _ => none
  | n + 1, x2, x3 => B_M_follows_74 F M x1 (L_M_follows_74 F M x1 n) x2 x3
def M_follows (F : Nat) (M : Mem) (x1 : Int32) : Option Int32 :=
(ard M 110 x1).bind fun t1 =>
(if t1 = 0 then
(ard M 110 x1).bind fun t3 =>
(if t3 ≤ 0 then
some 0
else
some 1)
else
(if (M 100 21) = 0 then
(ard M 110 x1).bind fun t20 =>
(if t20 ≤ 0 then
some 0
else
some 1)
else
((if x1 ≤ (M 111 0) then
some 0
else
(M_of F M x1 0).bind fun c16 =>
(ard M 111 ((M 100 21) - 1)).bind fun t17 =>
(M_of F M t17 1).bind fun c18 =>
(if c16 = c18 then
some 1
else
some 0))).bind fun (j6 : Int32) =>
(L_M_follows_74 F M x1 F j6 1).bind fun u13 =>
(rb u13).bind fun t14 =>
some t14))
def B_M_following_2 (F : Nat) (M : Mem)  (lp : Int32 → Option (Sum Int32 Unit)) (x2 : Int32) : Option (Sum Int32 Unit) :=
(if (M 101 1) ≤ x2 then
some (.inr ())
else
(M_follows F M x2).bind fun c2 =>
(if c2 = 0 then
lp (x2 + 1)
else
some (.inl x2)))
def L_M_following_2 (F : Nat) (M : Mem) : Nat → Int32 → Option (Sum Int32 Unit)
  | 0, _ => none
  | n + 1, x2 => B_M_following_2 F M (L_M_following_2 F M n) x2
def M_following (F : Nat) (M : Mem) (x1 : Int32) : Option Int32 :=
(L_M_following_2 F M F x1).bind fun u4 => Sum.elim (fun r5 =>
some r5) (fun w6 =>
some (-9)) u4
def M_closes (F : Nat) (M : Mem) : Option Int32 :=
(ard M 111 ((M 100 21) - 1)).bind fun t1 =>
(M_of F M t1 1).bind fun c2 =>
(M_of F M (M 111 0) 0).bind fun c3 =>
(if c2 = c3 then
some 1
else
some 0)
def B_M_nextRing_31 (F : Nat)  (lp : Mem → Int32 → Option (Sum (Int32 × Mem) Unit)) (M : Mem) (x1 : Int32) : Option (Sum (Int32 × Mem) Unit) :=
(M_following F M x1).bind fun c2 =>
(if c2 = (-9) then
(if (M 100 21) = 0 then
some (.inl (0, M))
else
(if c2 = (-9) then
(ard (up M 100 21 ((M 100 21) - 1)) 111 ((up M 100 21 ((M 100 21) - 1)) 100 21)).bind fun t28 =>
lp (up M 100 21 ((M 100 21) - 1)) (t28 + 1)
else
(awr M 111 (M 100 21) c2).bind fun M18 =>
(M_closes F (up M18 100 21 ((M18 100 21) + 1))).bind fun c19 =>
(if c19 = 0 then
((if c19 = 0 then
some 0
else
some 1)).bind fun (j21 : Int32) =>
(if c19 = 0 then
lp (up (up M18 100 21 ((M18 100 21) + 1)) 100 21 (((up M18 100 21 ((M18 100 21) + 1)) 100 21) - j21)) 0
else
lp (up (up M18 100 21 ((M18 100 21) + 1)) 100 21 (((up M18 100 21 ((M18 100 21) + 1)) 100 21) - j21)) (c2 + 1))
else
(if ((up M18 100 21 ((M18 100 21) + 1)) 100 21) ≤ 2 then
((if c19 = 0 then
some 0
else
some 1)).bind fun (j25 : Int32) =>
(if c19 = 0 then
lp (up (up M18 100 21 ((M18 100 21) + 1)) 100 21 (((up M18 100 21 ((M18 100 21) + 1)) 100 21) - j25)) 0
else
lp (up (up M18 100 21 ((M18 100 21) + 1)) 100 21 (((up M18 100 21 ((M18 100 21) + 1)) 100 21) - j25)) (c2 + 1))
else
some (.inl (1, (up M18 100 21 ((M18 100 21) + 1))))))))
else
(if c2 = (-9) then
(ard (up M 100 21 ((M 100 21) - 1)) 111 ((up M 100 21 ((M 100 21) - 1)) 100 21)).bind fun t15 =>
lp (up M 100 21 ((M 100 21) - 1)) (t15 + 1)
else
(awr M 111 (M 100 21) c2).bind fun M5 =>
(M_closes F (up M5 100 21 ((M5 100 21) + 1))).bind fun c6 =>
(if c6 = 0 then
((if c6 = 0 then
some 0
else
some 1)).bind fun (j8 : Int32) =>
(if c6 = 0 then
lp (up (up M5 100 21 ((M5 100 21) + 1)) 100 21 (((up M5 100 21 ((M5 100 21) + 1)) 100 21) - j8)) 0
else
lp (up (up M5 100 21 ((M5 100 21) + 1)) 100 21 (((up M5 100 21 ((M5 100 21) + 1)) 100 21) - j8)) (c2 + 1))
else
(if ((up M5 100 21 ((M5 100 21) + 1)) 100 21) ≤ 2 then
((if c6 = 0 then
some 0
else
some 1)).bind fun (j12 : Int32) =>
(if c6 = 0 then
lp (up (up M5 100 21 ((M5 100 21) + 1)) 100 21 (((up M5 100 21 ((M5 100 21) + 1)) 100 21) - j12)) 0
else
lp (up (up M5 100 21 ((M5 100 21) + 1)) 100 21 (((up M5 100 21 ((M5 100 21) + 1)) 100 21) - j12)) (c2 + 1))
else
some (.inl (1, (up M5 100 21 ((M5 100 21) + 1))))))))
def L_M_nextRing_31 (F : Nat) : Nat → Mem → Int32 → Option (Sum (Int32 × Mem) Unit)
  | 0, _, _ => none
  | n + 1, M, x1 => B_M_nextRing_31 F (L_M_nextRing_31 F n) M x1
def M_nextRing (F : Nat) (M : Mem) : Option (Int32 × Mem) :=
((if (M 100 21) ≤ 0 then
some (0, M)
else
(ard (up M 100 21 ((M 100 21) - 1)) 111 ((up M 100 21 ((M 100 21) - 1)) 100 21)).bind fun t33 =>
some ((t33 + 1), (up M 100 21 ((M 100 21) - 1))))).bind fun (j1 : Int32 × Mem) =>
(L_M_nextRing_31 F F j1.2 j1.1).bind fun u29 => Sum.elim (fun r30 =>
some r30) (fun _ =>
none) u29
def B_M_leastOfRing_5 (F : Nat) (M : Mem)  (lp : Int32 → Int32 → Option Int32) (x1 : Int32) (x2 : Int32) : Option Int32 :=
(if (M 100 21) ≤ x2 then
some x1
else
(ard M 111 x2).bind fun t2 =>
(ard M 110 t2).bind fun t3 =>
(if x1 ≤ t3 then
lp x1 (x2 + 1)
else
(ard M 111 x2).bind fun t5 =>
(ard M 110 t5).bind fun t6 =>
lp t6 (x2 + 1)))
def L_M_leastOfRing_5 (F : Nat) (M : Mem) : Nat → Int32 → Int32 → Option Int32
  | 0, _, _ => none
  | n + 1, x1, x2 => B_M_leastOfRing_5 F M (L_M_leastOfRing_5 F M n) x1 x2
def M_leastOfRing (F : Nat) (M : Mem) : Option Int32 :=
(L_M_leastOfRing_5 F M F 99 0).bind fun u7 =>
some u7
def B_M_all_24 (F : Nat)  (lp : Mem → Int32 → Option (Int32 × Mem)) (M : Mem) (x2 : Int32) : Option (Int32 × Mem) :=
(M_nextRing F M).bind fun c4 =>
(if c4.1 = 0 then
some (x2, c4.2)
else
(M_leastOfRing F c4.2).bind fun c6 =>
((if (c6 * (c4.2 100 21)) ≤ (c4.2 100 7) then
some (c4.2 100 7)
else
some (c6 * (c4.2 100 21)))).bind fun (j7 : Int32) =>
lp (up c4.2 100 7 j7) (x2 + 1))
def L_M_all_24 (F : Nat) : Nat → Mem → Int32 → Option (Int32 × Mem)
  | 0, _, _ => none
  | n + 1, M, x2 => B_M_all_24 F (L_M_all_24 F n) M x2
def M_all (F : Nat) (M : Mem) (x1 : Int32) : Option (Int32 × Mem) :=
(M_in F M ((x1).toInt64) 0 1).bind fun c1 =>
(if c1 = 0 then
some ((-1), M)
else
(M_beginRings F (up M 100 7 0) x1).bind fun c3 =>
(L_M_all_24 F F c3 0).bind fun u9 =>
some (u9.1, u9.2))
def M_isDraft (F : Nat) (M : Mem) (x1 : Int32) : Option Int32 :=
(M_in F M ((x1).toInt64) 0 ((((M 101 1) - 1)).toInt64)).bind fun c1 =>
(rb c1).bind fun t2 =>
some t2
def B_M_areDrafts_4 (F : Nat) (M : Mem) (x1 : Int32) (lp : Int32 → Int32 → Option Int32) (x2 : Int32) (x3 : Int32) : Option Int32 :=
(ard M 103 x1).bind fun t1 =>
(if t1 ≤ x3 then
some x2
else
(if x2 = 0 then
lp 0 (x3 + 1)
else
(ard M 104 ((40 * x1) + x3)).bind fun t4 =>
(M_isDraft F M t4).bind fun c5 =>
(if c5 = 0 then
lp 0 (x3 + 1)
else
lp 1 (x3 + 1))))
def L_M_areDrafts_4 (F : Nat) (M : Mem) (x1 : Int32) : Nat → Int32 → Int32 → Option Int32
  | 0, _, _ => none
  | n + 1, x2, x3 => B_M_areDrafts_4 F M x1 (L_M_areDrafts_4 F M x1 n) x2 x3
def M_areDrafts (F : Nat) (M : Mem) (x1 : Int32) : Option Int32 :=
(L_M_areDrafts_4 F M x1 F 1 0).bind fun u7 =>
(rb u7).bind fun t8 =>
some t8
def M_has (F : Nat) (M : Mem) (x0 : Int32) (x1 : Int32) : Option Int32 :=
(if ((x0 >>> (x1 &&& 31)) &&& 1) = 1 then
some 1
else
some 0)
def M_isOpen (F : Nat) (M : Mem) (x1 : Int32) : Option Int32 :=
(M_of F M x1 3).bind fun c1 =>
(if c1 ≤ 0 then
some 0
else
some 1)
def B_M_areOpen_4 (F : Nat) (M : Mem) (x1 : Int32) (lp : Int32 → Int32 → Option Int32) (x2 : Int32) (x3 : Int32) : Option Int32 :=
(if (M 101 1) ≤ x3 then
some x2
else
(if x2 = 0 then
lp 0 (x3 + 1)
else
(M_has F M x1 x3).bind fun c3 =>
(if c3 = 0 then
lp 1 (x3 + 1)
else
(M_isOpen F M x3).bind fun c5 =>
(if c5 = 0 then
lp 0 (x3 + 1)
else
lp 1 (x3 + 1)))))
def L_M_areOpen_4 (F : Nat) (M : Mem) (x1 : Int32) : Nat → Int32 → Int32 → Option Int32
  | 0, _, _ => none
  | n + 1, x2, x3 => B_M_areOpen_4 F M x1 (L_M_areOpen_4 F M x1 n) x2 x3
def M_areOpen (F : Nat) (M : Mem) (x1 : Int32) : Option Int32 :=
(L_M_areOpen_4 F M x1 F 1 0).bind fun u7 =>
(rb u7).bind fun t8 =>
some t8
def B_M_areRates_4 (F : Nat) (M : Mem) (x1 : Int32) (lp : Int32 → Int32 → Option Int32) (x2 : Int32) (x3 : Int32) : Option Int32 :=
(if 6 ≤ x3 then
some x2
else
(if x2 = 0 then
lp 0 (x3 + 1)
else
(ard M 104 ((40 * x1) + x3)).bind fun t3 =>
(M_in F M ((t3).toInt64) 1 9999).bind fun c4 =>
(if c4 = 0 then
lp 0 (x3 + 1)
else
lp 1 (x3 + 1))))
def L_M_areRates_4 (F : Nat) (M : Mem) (x1 : Int32) : Nat → Int32 → Int32 → Option Int32
  | 0, _, _ => none
  | n + 1, x2, x3 => B_M_areRates_4 F M x1 (L_M_areRates_4 F M x1 n) x2 x3
def M_areRates (F : Nat) (M : Mem) (x1 : Int32) : Option Int32 :=
(L_M_areRates_4 F M x1 F 1 0).bind fun u6 =>
(rb u6).bind fun t7 =>
some t7
def M_isPerson (F : Nat) (M : Mem) (x1 : Int32) : Option Int32 :=
(M_in F M ((x1).toInt64) 0 ((((M 100 1) - 1)).toInt64)).bind fun c1 =>
(rb c1).bind fun t2 =>
some t2
def M_areTwo (F : Nat) (M : Mem) (x1 : Int32) (x2 : Int32) : Option Int32 :=
(M_isPerson F M x1).bind fun c1 =>
(if c1 = 0 then
some 0
else
(M_isPerson F M x2).bind fun c3 =>
(if c3 = 0 then
some 0
else
(if x1 = x2 then
some 0
else
some 1)))
def M_asked (F : Nat) (M : Mem) : Option Int32 :=
some (M 100 7)
def M_isRow (F : Nat) (M : Mem) (x0 : Int32) : Option Int32 :=
(M_in F M ((x0).toInt64) 0 5).bind fun c1 =>
(rb c1).bind fun t2 =>
some t2
def M_find (F : Nat) (M : Mem) (x1 : Int32) : Option (Int32 × Mem) :=
(ard (up M 100 10 x1) 107 x1).bind fun t1 =>
(awr (up M 100 10 x1) 107 x1 (t1 + 1)).bind fun M2 =>
some ((-3), M2)
def M_refused (F : Nat) (M : Mem) (x1 : Int32) (x2 : Int32) : Option (Int32 × Mem) :=
(M_isRow F M x1).bind fun c1 =>
(if c1 = 0 then
some ((-1), M)
else
(ard M 103 x1).bind fun t3 =>
(if 0 ≤ t3 then
(ard M 103 x1).bind fun t5 =>
(M_in F M ((x2).toInt64) 0 (((t5 - 1)).toInt64)).bind fun c6 =>
(if c6 = 0 then
(M_find F M 2).bind fun c8 =>
some (c8.1, c8.2)
else
some (0, M))
else
(M_find F M 1).bind fun c9 =>
some (c9.1, c9.2)))
def M_tell (F : Nat) (M : Mem) (x1 : Int32) : Option (Int32 × Mem) :=
some (1, (up M 100 7 x1))
def M_at (F : Nat) (M : Mem) (x1 : Int32) (x2 : Int32) : Option (Int32 × Mem) :=
(M_refused F M x1 x2).bind fun c1 =>
(if c1.1 = 0 then
(ard c1.2 104 ((40 * x1) + x2)).bind fun t3 =>
(M_tell F c1.2 t3).bind fun c4 =>
some (c4.1, c4.2)
else
some (c1.1, c1.2))
def M_isAunt (F : Nat) (M : Mem) (x0 : Int32) : Option Int32 :=
(if x0 = 1 then
some 1
else
(if x0 = 4 then
some 1
else
some 0))
def B_M_aunts_4 (F : Nat) (M : Mem)  (lp : Int32 → Int32 → Option Int32) (x1 : Int32) (x2 : Int32) : Option Int32 :=
(if (M 100 1) ≤ x2 then
some x1
else
(ard M 102 x2).bind fun t2 =>
(M_isAunt F M t2).bind fun c3 =>
(if c3 = 0 then
lp (x1 + 0) (x2 + 1)
else
lp (x1 + 1) (x2 + 1)))
def L_M_aunts_4 (F : Nat) (M : Mem) : Nat → Int32 → Int32 → Option Int32
  | 0, _, _ => none
  | n + 1, x1, x2 => B_M_aunts_4 F M (L_M_aunts_4 F M n) x1 x2
def M_aunts (F : Nat) (M : Mem) : Option Int32 :=
(L_M_aunts_4 F M F 0 0).bind fun u5 =>
some u5
def M_isOn (F : Nat) (M : Mem) (x1 : Int32) (x2 : Int32) (x3 : Int32) : Option Int32 :=
(M_of F M x1 0).bind fun c1 =>
(if c1 = x2 then
(M_of F M x1 1).bind fun c3 =>
(if c3 = x3 then
some 1
else
some 0)
else
some 0)
def B_M_sumOf_6 (F : Nat) (M : Mem) (x1 : Int32) (x2 : Int32) (x3 : Int32) (lp : Int32 → Int32 → Option Int32) (x4 : Int32) (x5 : Int32) : Option Int32 :=
(if (M 101 1) ≤ x5 then
some x4
else
(M_isOn F M x5 x1 x2).bind fun c2 =>
(if c2 = 0 then
lp (x4 + 0) (x5 + 1)
else
(M_of F M x5 2).bind fun c4 =>
(if c4 = x3 then
(M_of F M x5 3).bind fun c6 =>
lp (x4 + c6) (x5 + 1)
else
lp (x4 + 0) (x5 + 1))))
def L_M_sumOf_6 (F : Nat) (M : Mem) (x1 : Int32) (x2 : Int32) (x3 : Int32) : Nat → Int32 → Int32 → Option Int32
  | 0, _, _ => none
  | n + 1, x4, x5 => B_M_sumOf_6 F M x1 x2 x3 (L_M_sumOf_6 F M x1 x2 x3 n) x4 x5
def M_sumOf (F : Nat) (M : Mem) (x1 : Int32) (x2 : Int32) (x3 : Int32) : Option Int32 :=
(L_M_sumOf_6 F M x1 x2 x3 F 0 0).bind fun u7 =>
some u7
def M_between (F : Nat) (M : Mem) (x1 : Int32) (x2 : Int32) (x3 : Int32) : Option Int32 :=
(M_areTwo F M x1 x2).bind fun c1 =>
(if c1 = 0 then
some (-1)
else
(M_in F M ((x3).toInt64) 0 2).bind fun c3 =>
(if c3 = 0 then
some (-1)
else
(M_sumOf F M x1 x2 x3).bind fun c5 =>
some c5))
def B_M_bits_4 (F : Nat) (M : Mem) (x0 : Int32) (lp : Int32 → Int32 → Option Int32) (x1 : Int32) (x2 : Int32) : Option Int32 :=
(if 12 ≤ x2 then
some x1
else
lp (x1 + ((x0 >>> (x2 &&& 31)) &&& 1)) (x2 + 1))
def L_M_bits_4 (F : Nat) (M : Mem) (x0 : Int32) : Nat → Int32 → Int32 → Option Int32
  | 0, _, _ => none
  | n + 1, x1, x2 => B_M_bits_4 F M x0 (L_M_bits_4 F M x0 n) x1 x2
def M_bits (F : Nat) (M : Mem) (x0 : Int32) : Option Int32 :=
(L_M_bits_4 F M x0 F 0 0).bind fun u2 =>
some u2
def B_M_fits_24 (F : Nat) (M : Mem) (x1 : Int32) (x2 : Int32) (x4 : Int32) (lp : Int32 → Int32 → Option Int32) (x5 : Int32) (x6 : Int32) : Option Int32 :=
(if (M 101 1) ≤ x6 then
some x5
else
(M_has F M x2 x6).bind fun c4 =>
(if c4 = 0 then
lp (x5 + 0) (x6 + 1)
else
(M_of F M x6 0).bind fun c6 =>
(if c6 = x4 then
(M_of F M x6 3).bind fun c8 =>
lp (x5 + c8) (x6 + 1)
else
(M_of F M x6 1).bind fun c9 =>
(if c9 = x4 then
(M_of F M x6 3).bind fun c11 =>
lp (x5 + c11) (x6 + 1)
else
lp (x5 + 0) (x6 + 1)))))
def L_M_fits_24 (F : Nat) (M : Mem) (x1 : Int32) (x2 : Int32) (x4 : Int32) : Nat → Int32 → Int32 → Option Int32
  | 0, _, _ => none
  | n + 1, x5, x6 => B_M_fits_24 F M x1 x2 x4 (L_M_fits_24 F M x1 x2 x4 n) x5 x6
def B_M_fits_5 (F : Nat) (M : Mem) (x1 : Int32) (x2 : Int32) (lp : Int32 → Int32 → Option Int32) (x3 : Int32) (x4 : Int32) : Option Int32 :=
(if (M 100 1) ≤ x4 then
some x3
else
(if x3 = 0 then
some x3
else
(L_M_fits_24 F M x1 x2 x4 F 0 0).bind fun u12 =>
(ard M 104 ((40 * x1) + x4)).bind fun t13 =>
(if u12 = t13 then
lp 1 (x4 + 1)
else
lp 0 (x4 + 1))))
def L_M_fits_5 (F : Nat) (M : Mem) (x1 : Int32) (x2 : Int32) : Nat → Int32 → Int32 → Option Int32
  | 0, _, _ => none
  | n + 1, x3, x4 => B_M_fits_5 F M x1 x2 (L_M_fits_5 F M x1 x2 n) x3 x4
def M_fits (F : Nat) (M : Mem) (x1 : Int32) (x2 : Int32) : Option Int32 :=
(L_M_fits_5 F M x1 x2 F 1 0).bind fun u15 =>
(rb u15).bind fun t16 =>
some t16
def B_M_layBlushes_71 (F : Nat) (x1 : Int32) (lp : Mem → Int32 → Option Mem) (M : Mem) (x2 : Int32) : Option Mem :=
(if (1 <<< ((M 101 1) &&& 31)) ≤ x2 then
some M
else
(M_areOpen F M x2).bind fun c9 =>
(if c9 = 0 then
lp M (x2 + 1)
else
(M_fits F M x1 x2).bind fun c11 =>
(if c11 = 0 then
lp M (x2 + 1)
else
((if (M 100 28) = 0 then
some x2
else
some (M 100 29))).bind fun (j13 : Int32) =>
((if ((up M 100 29 j13) 100 28) = 0 then
some x2
else
some (((up M 100 29 j13) 100 30) &&& x2))).bind fun (j14 : Int32) =>
lp (up (up (up M 100 29 j13) 100 30 j14) 100 28 (((up (up M 100 29 j13) 100 30 j14) 100 28) + 1)) (x2 + 1))))
def L_M_layBlushes_71 (F : Nat) (x1 : Int32) : Nat → Mem → Int32 → Option Mem
  | 0, _, _ => none
  | n + 1, M, x2 => B_M_layBlushes_71 F x1 (L_M_layBlushes_71 F x1 n) M x2
def M_layBlushes (F : Nat) (M : Mem) (x1 : Int32) : Option (Int32 × Mem) :=
(M_isRow F M x1).bind fun c1 =>
(if c1 = 0 then
some ((-1), M)
else
(if (M 100 1) = 0 then
some ((-4), M)
else
(ard M 103 x1).bind fun t4 =>
(if 0 ≤ t4 then
(ard M 103 x1).bind fun t6 =>
(if t6 = (M 100 1) then
(L_M_layBlushes_71 F x1 F (up (up (up M 100 28 0) 100 29 (-9)) 100 30 0) 0).bind fun u17 =>
some (0, u17)
else
(M_find F M 5).bind fun c18 =>
some (c18.1, c18.2))
else
(M_find F M 1).bind fun c19 =>
some (c19.1, c19.2))))
def M_blushes (F : Nat) (M : Mem) (x1 : Int32) : Option (Int32 × Mem) :=
(M_layBlushes F M x1).bind fun c1 =>
(if c1.1 = 0 then
some (((up c1.2 100 7 (c1.2 100 29)) 100 28), (up c1.2 100 7 (c1.2 100 29)))
else
some (c1.1, c1.2))
def B_M_isBusy_4 (F : Nat) (M : Mem) (x1 : Int32) (lp : Int32 → Int32 → Option Int32) (x2 : Int32) (x3 : Int32) : Option Int32 :=
(if x1 ≤ x3 then
some x2
else
(ard M 113 (2 * x3)).bind fun t2 =>
(ard M 113 (2 * x1)).bind fun t3 =>
((if t2 = t3 then
some 1
else
(ard M 113 (2 * x3)).bind fun t11 =>
(ard M 113 ((2 * x1) + 1)).bind fun t12 =>
(if t11 = t12 then
some 1
else
(ard M 113 ((2 * x3) + 1)).bind fun t14 =>
(ard M 113 (2 * x1)).bind fun t15 =>
(if t14 = t15 then
some 1
else
(ard M 113 ((2 * x3) + 1)).bind fun t17 =>
(ard M 113 ((2 * x1) + 1)).bind fun t18 =>
(if t17 = t18 then
some 1
else
some 0))))).bind fun (j4 : Int32) =>
(if x2 = 0 then
(if j4 = 0 then
lp 0 (x3 + 1)
else
(ard M 114 x3).bind fun t7 =>
(ard M 114 x1).bind fun t8 =>
(if t7 = t8 then
lp 1 (x3 + 1)
else
lp 0 (x3 + 1)))
else
lp 1 (x3 + 1)))
def L_M_isBusy_4 (F : Nat) (M : Mem) (x1 : Int32) : Nat → Int32 → Int32 → Option Int32
  | 0, _, _ => none
  | n + 1, x2, x3 => B_M_isBusy_4 F M x1 (L_M_isBusy_4 F M x1 n) x2 x3
def M_isBusy (F : Nat) (M : Mem) (x1 : Int32) : Option Int32 :=
(L_M_isBusy_4 F M x1 F 0 0).bind fun u20 =>
(rb u20).bind fun t21 =>
some t21
def B_M_canMeet_4 (F : Nat) (x1 : Int32) (lp : Mem → Int32 → Option Mem) (M : Mem) (x3 : Int32) : Option Mem :=
(if 16 ≤ x3 then
some M
else
(awr M 114 x3 (-1)).bind fun M2 =>
lp M2 (x3 + 1))
def L_M_canMeet_4 (F : Nat) (x1 : Int32) : Nat → Mem → Int32 → Option Mem
  | 0, _, _ => none
  | n + 1, M, x3 => B_M_canMeet_4 F x1 (L_M_canMeet_4 F x1 n) M x3
def B_M_canMeet_45 (F : Nat) (x1 : Int32) (x2 : Int32) (lp : Mem → Option Mem) (M : Mem) : Option Mem :=
(ard M 114 x2).bind fun t8 =>
(if x1 ≤ t8 then
some M
else
(M_isBusy F M x2).bind fun c10 =>
(if c10 = 0 then
some M
else
(ard M 114 x2).bind fun t12 =>
(awr M 114 x2 (t12 + 1)).bind fun M13 =>
lp M13))
def L_M_canMeet_45 (F : Nat) (x1 : Int32) (x2 : Int32) : Nat → Mem → Option Mem
  | 0, _ => none
  | n + 1, M => B_M_canMeet_45 F x1 x2 (L_M_canMeet_45 F x1 x2 n) M
def B_M_canMeet_23 (F : Nat) (x1 : Int32) (lp : Mem → Int32 → Option (Int32 × Mem)) (M : Mem) (x2 : Int32) : Option (Int32 × Mem) :=
(if x2 < 0 then
some (x2, M)
else
(if (M 100 26) ≤ x2 then
some (x2, M)
else
(ard M 114 x2).bind fun t6 =>
(awr M 114 x2 (t6 + 1)).bind fun M7 =>
(L_M_canMeet_45 F x1 x2 F M7).bind fun u14 =>
(ard u14 114 x2).bind fun t15 =>
(if x1 ≤ t15 then
(awr u14 114 x2 (-1)).bind fun M17 =>
lp M17 (x2 + (-1))
else
lp u14 (x2 + 1))))
def L_M_canMeet_23 (F : Nat) (x1 : Int32) : Nat → Mem → Int32 → Option (Int32 × Mem)
  | 0, _, _ => none
  | n + 1, M, x2 => B_M_canMeet_23 F x1 (L_M_canMeet_23 F x1 n) M x2
def M_canMeet (F : Nat) (M : Mem) (x1 : Int32) : Option (Int32 × Mem) :=
(L_M_canMeet_4 F x1 F M 0).bind fun u3 =>
(L_M_canMeet_23 F x1 F u3 0).bind fun u18 =>
(if u18.1 = (u18.2 100 26) then
some (1, u18.2)
else
some (0, u18.2))
def B_M_isRing_30 (F : Nat) (M : Mem) (x1 : Int32) (x2 : Int32) (lp : Int32 → Int32 → Int32 → Option Int32) (x3 : Int32) (x4 : Int32) (x5 : Int32) : Option Int32 :=
(if x2 ≤ x5 then
some x4
else
(if x4 = 0 then
some x4
else
(ard M 104 ((40 * x1) + x5)).bind fun t5 =>
(rmi (x5 + 1) x2).bind fun t6 =>
(ard M 104 ((40 * x1) + t6)).bind fun t7 =>
(M_isOpen F M t5).bind fun c8 =>
((if c8 = 0 then
some 0
else
(M_of F M t5 2).bind fun c12 =>
(if c12 = 2 then
some 0
else
(M_of F M t5 2).bind fun c14 =>
(M_of F M t7 2).bind fun c15 =>
(if c14 = c15 then
(M_of F M t5 1).bind fun c17 =>
(M_of F M t7 0).bind fun c18 =>
(if c17 = c18 then
(M_of F M t5 0).bind fun c20 =>
(M_has F M x3 c20).bind fun c21 =>
(if c21 = 0 then
some 1
else
some 0)
else
some 0)
else
some 0)))).bind fun (j9 : Int32) =>
(M_of F M t5 0).bind fun c10 =>
lp (x3 ||| (1 <<< (c10 &&& 31))) j9 (x5 + 1)))
def L_M_isRing_30 (F : Nat) (M : Mem) (x1 : Int32) (x2 : Int32) : Nat → Int32 → Int32 → Int32 → Option Int32
  | 0, _, _, _ => none
  | n + 1, x3, x4, x5 => B_M_isRing_30 F M x1 x2 (L_M_isRing_30 F M x1 x2 n) x3 x4 x5
def M_isRing (F : Nat) (M : Mem) (x1 : Int32) : Option Int32 :=
(ard M 103 x1).bind fun t1 =>
((if t1 ≤ 2 then
some 0
else
(if 7 ≤ t1 then
some 0
else
some 1))).bind fun (j2 : Int32) =>
(L_M_isRing_30 F M x1 t1 F 0 j2 0).bind fun u23 =>
(rb u23).bind fun t24 =>
some t24
def M_isFull (F : Nat) (M : Mem) : Option Int32 :=
(if (M 101 0) = 40 then
some 1
else
some 0)
def B_M_keepPast_2 (F : Nat)  (lp : Mem → Int32 → Option Mem) (M : Mem) (x1 : Int32) : Option Mem :=
(if 73 ≤ x1 then
some M
else
(ard M 101 (1 + x1)).bind fun t2 =>
(awr M 101 ((74 + (73 * (M 101 0))) + x1) t2).bind fun M3 =>
lp M3 (x1 + 1))
def L_M_keepPast_2 (F : Nat) : Nat → Mem → Int32 → Option Mem
  | 0, _, _ => none
  | n + 1, M, x1 => B_M_keepPast_2 F (L_M_keepPast_2 F n) M x1
def M_keepPast (F : Nat) (M : Mem) : Option Mem :=
(L_M_keepPast_2 F F M 0).bind fun u4 =>
(awr u4 101 0 ((u4 101 0) + 1)).bind fun M5 =>
some M5
def M_leave (F : Nat) (M : Mem) (x1 : Int32) (x2 : Int32) : Option Mem :=
(awr M 101 ((2 + (6 * x1)) + 3) x2).bind fun M1 =>
some M1
def B_M_clear_68 (F : Nat) (M : Mem) (x1 : Int32) (lp : Int32 → Int32 → Option Int32) (x2 : Int32) (x3 : Int32) : Option Int32 :=
(ard M 103 x1).bind fun t12 =>
(if t12 ≤ x3 then
some x2
else
(ard M 104 ((40 * x1) + x3)).bind fun t14 =>
(M_of F M t14 3).bind fun c15 =>
(if x2 ≤ c15 then
lp x2 (x3 + 1)
else
lp c15 (x3 + 1)))
def L_M_clear_68 (F : Nat) (M : Mem) (x1 : Int32) : Nat → Int32 → Int32 → Option Int32
  | 0, _, _ => none
  | n + 1, x2, x3 => B_M_clear_68 F M x1 (L_M_clear_68 F M x1 n) x2 x3
def B_M_clear_117 (F : Nat) (x1 : Int32) (x2 : Int32) (lp : Mem → Int32 → Option Mem) (M : Mem) (x3 : Int32) : Option Mem :=
(ard M 103 x1).bind fun t18 =>
(if t18 ≤ x3 then
some M
else
(ard M 104 ((40 * x1) + x3)).bind fun t20 =>
(ard M 104 ((40 * x1) + x3)).bind fun t21 =>
(M_of F M t21 3).bind fun c22 =>
(M_leave F M t20 (c22 - x2)).bind fun c23 =>
lp c23 (x3 + 1))
def L_M_clear_117 (F : Nat) (x1 : Int32) (x2 : Int32) : Nat → Mem → Int32 → Option Mem
  | 0, _, _ => none
  | n + 1, M, x3 => B_M_clear_117 F x1 x2 (L_M_clear_117 F x1 x2 n) M x3
def M_clear (F : Nat) (M : Mem) (x1 : Int32) : Option (Int32 × Mem) :=
(M_isRow F M x1).bind fun c1 =>
(if c1 = 0 then
some ((-1), M)
else
(ard M 103 x1).bind fun t3 =>
(if 0 ≤ t3 then
(M_areDrafts F M x1).bind fun c5 =>
(if c5 = 0 then
(M_find F M 3).bind fun c25 =>
some (c25.1, c25.2)
else
(M_isRing F M x1).bind fun c7 =>
(if c7 = 0 then
some ((-4), M)
else
(M_isFull F M).bind fun c9 =>
(if c9 = 0 then
(M_keepPast F M).bind fun c11 =>
(L_M_clear_68 F c11 x1 F 99 0).bind fun u17 =>
(L_M_clear_117 F x1 u17 F c11 0).bind fun u24 =>
some (u17, u24)
else
some ((-2), M))))
else
(M_find F M 1).bind fun c26 =>
some (c26.1, c26.2)))
def M_isSpan (F : Nat) (M : Mem) (x1 : Int32) (x2 : Int32) (x3 : Int32) : Option Int32 :=
(if x2 < 0 then
some 0
else
(ard M 103 x1).bind fun t2 =>
(if 0 < (lg_cmp (((x2).toInt64) + ((x3).toInt64)) ((t2).toInt64)) then
some 0
else
some 1))
def B_M_copy_96 (F : Nat) (x1 : Int32) (x2 : Int32) (x3 : Int32) (x4 : Int32) (x5 : Int32) (x6 : Int32) (lp : Mem → Int32 → Option Mem) (M : Mem) (x7 : Int32) : Option Mem :=
(if x5 ≤ x7 then
some M
else
((if x6 = 0 then
some x7
else
some ((x5 - 1) - x7))).bind fun (j18 : Int32) =>
(ard M 104 (((40 * x1) + x2) + j18)).bind fun t19 =>
(awr M 104 (((40 * x3) + x4) + j18) t19).bind fun M20 =>
lp M20 (x7 + 1))
def L_M_copy_96 (F : Nat) (x1 : Int32) (x2 : Int32) (x3 : Int32) (x4 : Int32) (x5 : Int32) (x6 : Int32) : Nat → Mem → Int32 → Option Mem
  | 0, _, _ => none
  | n + 1, M, x7 => B_M_copy_96 F x1 x2 x3 x4 x5 x6 (L_M_copy_96 F x1 x2 x3 x4 x5 x6 n) M x7
def M_copy (F : Nat) (M : Mem) (x1 : Int32) (x2 : Int32) (x3 : Int32) (x4 : Int32) (x5 : Int32) : Option (Int32 × Mem) :=
(M_isRow F M x1).bind fun c1 =>
(if c1 = 0 then
some ((-1), M)
else
(M_isRow F M x3).bind fun c3 =>
(if c3 = 0 then
some ((-1), M)
else
(if 0 ≤ x5 then
(ard M 103 x1).bind fun t6 =>
(if t6 < 0 then
(M_find F M 1).bind fun c8 =>
some (c8.1, c8.2)
else
(ard M 103 x3).bind fun t9 =>
(if 0 ≤ t9 then
(M_isSpan F M x1 x2 x5).bind fun c11 =>
(if c11 = 0 then
(M_find F M 2).bind fun c13 =>
some (c13.1, c13.2)
else
(M_isSpan F M x3 x4 x5).bind fun c14 =>
(if c14 = 0 then
(M_find F M 2).bind fun c24 =>
some (c24.1, c24.2)
else
((if x4 ≤ x2 then
some 0
else
some 1)).bind fun (j16 : Int32) =>
(L_M_copy_96 F x1 x2 x3 x4 x5 j16 F M 0).bind fun u22 =>
some (1, u22)))
else
(M_find F M 1).bind fun c25 =>
some (c25.1, c25.2)))
else
(M_find F M 5).bind fun c26 =>
some (c26.1, c26.2))))
def B_M_copyVillage_2 (F : Nat) (x1 : Int32) (x2 : Int32) (lp : Mem → Int32 → Option Mem) (M : Mem) (x3 : Int32) : Option Mem :=
(if 2994 ≤ x3 then
some M
else
(ard M 101 (x1 + x3)).bind fun t2 =>
(awr M 101 (x2 + x3) t2).bind fun M3 =>
lp M3 (x3 + 1))
def L_M_copyVillage_2 (F : Nat) (x1 : Int32) (x2 : Int32) : Nat → Mem → Int32 → Option Mem
  | 0, _, _ => none
  | n + 1, M, x3 => B_M_copyVillage_2 F x1 x2 (L_M_copyVillage_2 F x1 x2 n) M x3
def M_copyVillage (F : Nat) (M : Mem) (x1 : Int32) (x2 : Int32) : Option Mem :=
(L_M_copyVillage_2 F x1 x2 F M 0).bind fun u4 =>
some u4
def B_M_openMany_4 (F : Nat) (M : Mem)  (lp : Int32 → Int32 → Option Int32) (x1 : Int32) (x2 : Int32) : Option Int32 :=
(if (M 101 1) ≤ x2 then
some x1
else
(M_isOpen F M x2).bind fun c2 =>
(if c2 = 0 then
lp (x1 + 0) (x2 + 1)
else
lp (x1 + 1) (x2 + 1)))
def L_M_openMany_4 (F : Nat) (M : Mem) : Nat → Int32 → Int32 → Option Int32
  | 0, _, _ => none
  | n + 1, x1, x2 => B_M_openMany_4 F M (L_M_openMany_4 F M n) x1 x2
def M_openMany (F : Nat) (M : Mem) : Option Int32 :=
(L_M_openMany_4 F M F 0 0).bind fun u4 =>
some u4
def B_M_openKisses_4 (F : Nat) (M : Mem)  (lp : Int32 → Int32 → Option Int32) (x1 : Int32) (x2 : Int32) : Option Int32 :=
(if (M 101 1) ≤ x2 then
some x1
else
(M_of F M x2 3).bind fun c2 =>
lp (x1 + c2) (x2 + 1))
def L_M_openKisses_4 (F : Nat) (M : Mem) : Nat → Int32 → Int32 → Option Int32
  | 0, _, _ => none
  | n + 1, x1, x2 => B_M_openKisses_4 F M (L_M_openKisses_4 F M n) x1 x2
def M_openKisses (F : Nat) (M : Mem) : Option Int32 :=
(L_M_openKisses_4 F M F 0 0).bind fun u3 =>
some u3
def B_M_thereOf_4 (F : Nat) (M : Mem) (x1 : Int32) (lp : Int32 → Int32 → Option Int32) (x2 : Int32) (x3 : Int32) : Option Int32 :=
(if 6 ≤ x3 then
some x2
else
(if x1 = 6 then
(ard M 103 x3).bind fun t10 =>
(if 0 ≤ t10 then
lp (x2 + 1) (x3 + 1)
else
lp (x2 + 0) (x3 + 1))
else
(if x1 = 7 then
(if 4 ≤ x3 then
lp (x2 + 0) (x3 + 1)
else
(ard M 105 x3).bind fun t8 =>
(if t8 < 0 then
lp (x2 + 0) (x3 + 1)
else
lp (x2 + 1) (x3 + 1)))
else
(if 3 ≤ x3 then
lp (x2 + 0) (x3 + 1)
else
(ard M 101 ((2994 * (1 + x3)) + 0)).bind fun t5 =>
(if t5 < 0 then
lp (x2 + 0) (x3 + 1)
else
lp (x2 + 1) (x3 + 1))))))
def L_M_thereOf_4 (F : Nat) (M : Mem) (x1 : Int32) : Nat → Int32 → Int32 → Option Int32
  | 0, _, _ => none
  | n + 1, x2, x3 => B_M_thereOf_4 F M x1 (L_M_thereOf_4 F M x1 n) x2 x3
def M_thereOf (F : Nat) (M : Mem) (x1 : Int32) : Option Int32 :=
(L_M_thereOf_4 F M x1 F 0 0).bind fun u12 =>
some u12
def M_countOf (F : Nat) (M : Mem) (x1 : Int32) : Option Int32 :=
(if x1 = 0 then
some (M 100 1)
else
(if x1 = 1 then
some (M 101 1)
else
(if x1 = 2 then
some (M 101 0)
else
(if x1 = 3 then
(M_openMany F M).bind fun c5 =>
some c5
else
(if x1 = 4 then
(M_openKisses F M).bind fun c7 =>
some c7
else
(if x1 = 5 then
(M_aunts F M).bind fun c9 =>
some c9
else
(M_thereOf F M x1).bind fun c10 =>
some c10))))))
def M_count (F : Nat) (M : Mem) (x1 : Int32) : Option Int32 :=
(M_in F M ((x1).toInt64) 0 8).bind fun c1 =>
(if c1 = 0 then
some (-1)
else
(M_countOf F M x1).bind fun c3 =>
some c3)
def M_worth (F : Nat) (M : Mem) (x1 : Int32) : Option Int32 :=
(M_of F M x1 3).bind fun c1 =>
(M_of F M x1 2).bind fun c2 =>
some (c1 * (c2 + 1))
def B_M_owing_4 (F : Nat) (M : Mem) (x1 : Int32) (lp : Int32 → Int32 → Option Int32) (x2 : Int32) (x3 : Int32) : Option Int32 :=
(if (M 101 1) ≤ x3 then
some x2
else
(M_of F M x3 0).bind fun c2 =>
(if c2 = x1 then
(M_worth F M x3).bind fun c4 =>
lp (x2 + c4) (x3 + 1)
else
lp (x2 + 0) (x3 + 1)))
def L_M_owing_4 (F : Nat) (M : Mem) (x1 : Int32) : Nat → Int32 → Int32 → Option Int32
  | 0, _, _ => none
  | n + 1, x2, x3 => B_M_owing_4 F M x1 (L_M_owing_4 F M x1 n) x2 x3
def M_owing (F : Nat) (M : Mem) (x1 : Int32) : Option Int32 :=
(L_M_owing_4 F M x1 F 0 0).bind fun u5 =>
some u5
def B_M_owed_5 (F : Nat) (M : Mem) (x1 : Int32) (x2 : Int32) (lp : Int32 → Int32 → Option Int32) (x3 : Int32) (x4 : Int32) : Option Int32 :=
(if (M 101 1) ≤ x4 then
some x3
else
(M_of F M x4 1).bind fun c2 =>
(if c2 = x1 then
(M_of F M x4 0).bind fun c4 =>
(M_has F M x2 c4).bind fun c5 =>
(if c5 = 0 then
(M_worth F M x4).bind fun c7 =>
lp (x3 + c7) (x4 + 1)
else
lp (x3 + 0) (x4 + 1))
else
lp (x3 + 0) (x4 + 1)))
def L_M_owed_5 (F : Nat) (M : Mem) (x1 : Int32) (x2 : Int32) : Nat → Int32 → Int32 → Option Int32
  | 0, _, _ => none
  | n + 1, x3, x4 => B_M_owed_5 F M x1 x2 (L_M_owed_5 F M x1 x2 n) x3 x4
def M_owed (F : Nat) (M : Mem) (x1 : Int32) (x2 : Int32) : Option Int32 :=
(L_M_owed_5 F M x1 x2 F 0 0).bind fun u8 =>
some u8
def M_reserve (F : Nat) (M : Mem) (x1 : Int32) : Option Int32 :=
(ard M 102 x1).bind fun t1 =>
(if t1 = 2 then
some 0
else
(ard M 102 x1).bind fun t3 =>
(if t3 = 3 then
some 6
else
(ard M 102 x1).bind fun t5 =>
(if t5 = 5 then
some 12
else
some 1)))
def B_M_owesTo_4 (F : Nat) (M : Mem) (x1 : Int32) (lp : Int32 → Int32 → Option Int32) (x2 : Int32) (x3 : Int32) : Option Int32 :=
(if (M 101 1) ≤ x3 then
some x2
else
(M_of F M x3 0).bind fun c2 =>
(if c2 = x1 then
(M_isOpen F M x3).bind fun c4 =>
(if c4 = 0 then
lp (x2 ||| 0) (x3 + 1)
else
(M_of F M x3 1).bind fun c6 =>
lp (x2 ||| (1 <<< (c6 &&& 31))) (x3 + 1))
else
lp (x2 ||| 0) (x3 + 1)))
def L_M_owesTo_4 (F : Nat) (M : Mem) (x1 : Int32) : Nat → Int32 → Int32 → Option Int32
  | 0, _, _ => none
  | n + 1, x2, x3 => B_M_owesTo_4 F M x1 (L_M_owesTo_4 F M x1 n) x2 x3
def M_owesTo (F : Nat) (M : Mem) (x1 : Int32) : Option Int32 :=
(L_M_owesTo_4 F M x1 F 0 0).bind fun u7 =>
(M_bits F M u7).bind fun c8 =>
some c8
def M_toldOf (F : Nat) (M : Mem) (x1 : Int32) (x2 : Int32) : Option Int32 :=
(if x2 = 0 then
(ard M 102 x1).bind fun t2 =>
some t2
else
(if x2 = 1 then
(M_owing F M x1).bind fun c4 =>
some c4
else
(if x2 = 2 then
(M_owed F M x1 0).bind fun c6 =>
some c6
else
(if x2 = 3 then
(M_reserve F M x1).bind fun c8 =>
some c8
else
(M_owesTo F M x1).bind fun c9 =>
some c9))))
def B_M_digest_6 (F : Nat) (M : Mem)  (lp : Int64 → Int32 → Option Int64) (x1 : Int64) (x3 : Int32) : Option Int64 :=
(if 9 ≤ x3 then
some x1
else
(M_countOf F M x3).bind fun c2 =>
lp ((31 * x1) + ((c2).toInt64)) (x3 + 1))
def L_M_digest_6 (F : Nat) (M : Mem) : Nat → Int64 → Int32 → Option Int64
  | 0, _, _ => none
  | n + 1, x1, x3 => B_M_digest_6 F M (L_M_digest_6 F M n) x1 x3
def B_M_digest_33 (F : Nat) (M : Mem)  (lp : Int64 → Int32 → Option Int64) (x1 : Int64) (x3 : Int32) : Option Int64 :=
(if (5 * (M 100 1)) ≤ x3 then
some x1
else
(dvi x3 5).bind fun t5 =>
(rmi x3 5).bind fun t6 =>
(M_toldOf F M t5 t6).bind fun c7 =>
lp ((31 * x1) + ((c7).toInt64)) (x3 + 1))
def L_M_digest_33 (F : Nat) (M : Mem) : Nat → Int64 → Int32 → Option Int64
  | 0, _, _ => none
  | n + 1, x1, x3 => B_M_digest_33 F M (L_M_digest_33 F M n) x1 x3
def B_M_digest_69 (F : Nat) (M : Mem)  (lp : Int64 → Int32 → Option Int64) (x1 : Int64) (x3 : Int32) : Option Int64 :=
(if (6 * (M 101 1)) ≤ x3 then
some x1
else
(ard M 101 (2 + x3)).bind fun t10 =>
lp ((31 * x1) + ((t10).toInt64)) (x3 + 1))
def L_M_digest_69 (F : Nat) (M : Mem) : Nat → Int64 → Int32 → Option Int64
  | 0, _, _ => none
  | n + 1, x1, x3 => B_M_digest_69 F M (L_M_digest_69 F M n) x1 x3
def B_M_digest_106 (F : Nat) (M : Mem)  (lp : Int64 → Int32 → Option Int64) (x1 : Int64) (x3 : Int32) : Option Int64 :=
(if 4 ≤ x3 then
some x1
else
(ard M 101 ((2994 * x3) + 0)).bind fun t13 =>
lp ((31 * x1) + ((t13).toInt64)) (x3 + 1))
def L_M_digest_106 (F : Nat) (M : Mem) : Nat → Int64 → Int32 → Option Int64
  | 0, _, _ => none
  | n + 1, x1, x3 => B_M_digest_106 F M (L_M_digest_106 F M n) x1 x3
def B_M_digest_162 (F : Nat) (M : Mem) (x3 : Int32) (lp : Int64 → Int32 → Option Int64) (x1 : Int64) (x4 : Int32) : Option Int64 :=
(ard M 103 x3).bind fun t17 =>
(if t17 ≤ x4 then
some x1
else
(ard M 104 ((40 * x3) + x4)).bind fun t19 =>
lp ((31 * x1) + ((t19).toInt64)) (x4 + 1))
def L_M_digest_162 (F : Nat) (M : Mem) (x3 : Int32) : Nat → Int64 → Int32 → Option Int64
  | 0, _, _ => none
  | n + 1, x1, x4 => B_M_digest_162 F M x3 (L_M_digest_162 F M x3 n) x1 x4
def B_M_digest_139 (F : Nat) (M : Mem)  (lp : Int64 → Int32 → Option Int64) (x1 : Int64) (x3 : Int32) : Option Int64 :=
(if 6 ≤ x3 then
some x1
else
(ard M 103 x3).bind fun t16 =>
(L_M_digest_162 F M x3 F ((31 * x1) + ((t16).toInt64)) 0).bind fun u20 =>
lp u20 (x3 + 1))
def L_M_digest_139 (F : Nat) (M : Mem) : Nat → Int64 → Int32 → Option Int64
  | 0, _, _ => none
  | n + 1, x1, x3 => B_M_digest_139 F M (L_M_digest_139 F M n) x1 x3
def B_M_digest_229 (F : Nat) (M : Mem) (x3 : Int32) (lp : Int64 → Int32 → Option Int64) (x1 : Int64) (x4 : Int32) : Option Int64 :=
(ard M 105 x3).bind fun t24 =>
(if t24 ≤ x4 then
some x1
else
(ard M 106 ((80 * x3) + x4)).bind fun t26 =>
lp ((31 * x1) + ((t26).toInt64)) (x4 + 1))
def L_M_digest_229 (F : Nat) (M : Mem) (x3 : Int32) : Nat → Int64 → Int32 → Option Int64
  | 0, _, _ => none
  | n + 1, x1, x4 => B_M_digest_229 F M x3 (L_M_digest_229 F M x3 n) x1 x4
def B_M_digest_207 (F : Nat) (M : Mem)  (lp : Int64 → Int32 → Option Int64) (x1 : Int64) (x3 : Int32) : Option Int64 :=
(if 4 ≤ x3 then
some x1
else
(ard M 105 x3).bind fun t23 =>
(L_M_digest_229 F M x3 F ((31 * x1) + ((t23).toInt64)) 0).bind fun u27 =>
lp u27 (x3 + 1))
def L_M_digest_207 (F : Nat) (M : Mem) : Nat → Int64 → Int32 → Option Int64
  | 0, _, _ => none
  | n + 1, x1, x3 => B_M_digest_207 F M (L_M_digest_207 F M n) x1 x3
def M_digest (F : Nat) (M : Mem) : Option Int64 :=
(L_M_digest_6 F M F 17 0).bind fun u3 =>
(L_M_digest_33 F M F u3 0).bind fun u8 =>
(L_M_digest_69 F M F u8 0).bind fun u11 =>
(L_M_digest_106 F M F u11 1).bind fun u14 =>
(L_M_digest_139 F M F u14 0).bind fun u21 =>
(L_M_digest_207 F M F u21 0).bind fun u28 =>
some u28
def B_M_divisor_4 (F : Nat) (M : Mem)  (lp : Int32 → Int32 → Option Int32) (x2 : Int32) (x3 : Int32) : Option Int32 :=
(if x3 = 0 then
some x2
else
(rmi x2 x3).bind fun t2 =>
lp x3 t2)
def L_M_divisor_4 (F : Nat) (M : Mem) : Nat → Int32 → Int32 → Option Int32
  | 0, _, _ => none
  | n + 1, x2, x3 => B_M_divisor_4 F M (L_M_divisor_4 F M n) x2 x3
def M_divisor (F : Nat) (M : Mem) (x0 : Int32) (x1 : Int32) : Option Int32 :=
(L_M_divisor_4 F M F x0 x1).bind fun u3 =>
some u3
def M_netted (F : Nat) (M : Mem) (x1 : Int32) (x2 : Int32) (x3 : Int32) : Option Int32 :=
(M_sumOf F M x1 x2 x3).bind fun c1 =>
(M_sumOf F M x2 x1 x3).bind fun c2 =>
(if c2 ≤ c1 then
some c2
else
some c1)
def B_M_given_5 (F : Nat) (M : Mem) (x1 : Int32) (x2 : Int32) (lp : Int32 → Int32 → Option Int32) (x3 : Int32) (x4 : Int32) : Option Int32 :=
(if 3 ≤ x4 then
some x3
else
((if x4 = 2 then
some 0
else
(M_netted F M x1 x2 x4).bind fun c11 =>
some c11)).bind fun (j2 : Int32) =>
(ard M 102 x1).bind fun t3 =>
((if t3 = 2 then
some 0
else
(M_sumOf F M x1 x2 x4).bind fun c9 =>
some (c9 - j2))).bind fun (j4 : Int32) =>
(ard M 102 x2).bind fun t5 =>
(if t5 = 2 then
lp ((x3 + j4) + 0) (x4 + 1)
else
(M_sumOf F M x2 x1 x4).bind fun c7 =>
lp ((x3 + j4) + (c7 - j2)) (x4 + 1)))
def L_M_given_5 (F : Nat) (M : Mem) (x1 : Int32) (x2 : Int32) : Nat → Int32 → Int32 → Option Int32
  | 0, _, _ => none
  | n + 1, x3, x4 => B_M_given_5 F M x1 x2 (L_M_given_5 F M x1 x2 n) x3 x4
def M_given (F : Nat) (M : Mem) (x1 : Int32) (x2 : Int32) : Option Int32 :=
(L_M_given_5 F M x1 x2 F 0 0).bind fun u12 =>
some u12
def B_M_lessen_7 (F : Nat) (x1 : Int32) (x2 : Int32) (x3 : Int32) (lp : Mem → Int32 → Int32 → Option Mem) (M : Mem) (x5 : Int32) (x6 : Int32) : Option Mem :=
(if (M 101 1) ≤ x6 then
some M
else
(M_isOn F M x6 x1 x2).bind fun c2 =>
(if c2 = 0 then
lp M x5 (x6 + 1)
else
(M_of F M x6 2).bind fun c4 =>
(if c4 = x3 then
(M_of F M x6 3).bind fun c6 =>
((if x5 ≤ c6 then
some x5
else
(M_of F M x6 3).bind fun c11 =>
some c11)).bind fun (j7 : Int32) =>
(M_of F M x6 3).bind fun c8 =>
(M_leave F M x6 (c8 - j7)).bind fun c9 =>
lp c9 (x5 - j7) (x6 + 1)
else
lp M x5 (x6 + 1))))
def L_M_lessen_7 (F : Nat) (x1 : Int32) (x2 : Int32) (x3 : Int32) : Nat → Mem → Int32 → Int32 → Option Mem
  | 0, _, _, _ => none
  | n + 1, M, x5, x6 => B_M_lessen_7 F x1 x2 x3 (L_M_lessen_7 F x1 x2 x3 n) M x5 x6
def M_lessen (F : Nat) (M : Mem) (x1 : Int32) (x2 : Int32) (x3 : Int32) (x4 : Int32) : Option Mem :=
(L_M_lessen_7 F x1 x2 x3 F M x4 0).bind fun u12 =>
some u12
def B_M_doMeet_14 (F : Nat) (x1 : Int32) (x2 : Int32) (x3 : Int32) (lp : Mem → Int32 → Option Mem) (M : Mem) (x4 : Int32) : Option Mem :=
(if 2 ≤ x4 then
some M
else
(M_netted F M x1 x2 x4).bind fun c4 =>
(M_lessen F M x1 x2 x4 c4).bind fun c5 =>
(M_lessen F c5 x2 x1 x4 c4).bind fun c6 =>
lp c6 (x4 + 1))
def L_M_doMeet_14 (F : Nat) (x1 : Int32) (x2 : Int32) (x3 : Int32) : Nat → Mem → Int32 → Option Mem
  | 0, _, _ => none
  | n + 1, M, x4 => B_M_doMeet_14 F x1 x2 x3 (L_M_doMeet_14 F x1 x2 x3 n) M x4
def B_M_doMeet_59 (F : Nat) (x1 : Int32) (x2 : Int32) (x3 : Int32) (lp : Mem → Int32 → Option Mem) (M : Mem) (x4 : Int32) : Option Mem :=
(if (M 101 1) ≤ x4 then
some M
else
(M_isOn F M x4 x1 x2).bind fun c9 =>
(if c9 = 0 then
(M_isOn F M x4 x2 x1).bind fun c15 =>
(if c15 = 0 then
lp M (x4 + 1)
else
(M_of F M x4 0).bind fun c17 =>
(ard M 102 c17).bind fun t18 =>
(if t18 = 2 then
lp M (x4 + 1)
else
(M_leave F M x4 0).bind fun c20 =>
lp c20 (x4 + 1)))
else
(M_of F M x4 0).bind fun c11 =>
(ard M 102 c11).bind fun t12 =>
(if t12 = 2 then
lp M (x4 + 1)
else
(M_leave F M x4 0).bind fun c14 =>
lp c14 (x4 + 1))))
def L_M_doMeet_59 (F : Nat) (x1 : Int32) (x2 : Int32) (x3 : Int32) : Nat → Mem → Int32 → Option Mem
  | 0, _, _ => none
  | n + 1, M, x4 => B_M_doMeet_59 F x1 x2 x3 (L_M_doMeet_59 F x1 x2 x3 n) M x4
def M_doMeet (F : Nat) (M : Mem) (x1 : Int32) (x2 : Int32) : Option (Int32 × Mem) :=
(M_keepPast F M).bind fun c1 =>
(M_given F c1 x1 x2).bind fun c2 =>
(L_M_doMeet_14 F x1 x2 c2 F c1 0).bind fun u7 =>
(L_M_doMeet_59 F x1 x2 c2 F u7 0).bind fun u21 =>
some (c2, u21)
def M_draft (F : Nat) (M : Mem) (x1 : Int32) (x2 : Int32) : Option (Int32 × Mem) :=
(M_isDraft F M x1).bind fun c1 =>
(if c1 = 0 then
some ((-1), M)
else
(M_in F M ((x2).toInt64) 0 5).bind fun c3 =>
(if c3 = 0 then
some ((-1), M)
else
(M_of F M x1 x2).bind fun c5 =>
(M_tell F M c5).bind fun c6 =>
some (c6.1, c6.2)))
def M_endorse (F : Nat) (M : Mem) (x1 : Int32) (x2 : Int32) : Option (Int32 × Mem) :=
(M_isDraft F M x1).bind fun c1 =>
(if c1 = 0 then
some ((-1), M)
else
(M_isPerson F M x2).bind fun c3 =>
(if c3 = 0 then
some ((-1), M)
else
(M_of F M x1 0).bind fun c5 =>
(if c5 = x2 then
some ((-1), M)
else
(M_isOpen F M x1).bind fun c7 =>
(if c7 = 0 then
some ((-4), M)
else
(M_of F M x1 5).bind fun c9 =>
(if c9 = 2 then
some ((-4), M)
else
(M_of F M x1 1).bind fun c11 =>
(if c11 = x2 then
some ((-4), M)
else
(M_isFull F M).bind fun c13 =>
(if c13 = 0 then
(M_keepPast F M).bind fun c15 =>
(awr c15 101 ((2 + (6 * x1)) + 1) x2).bind fun M16 =>
(ard M16 101 ((2 + (6 * x1)) + 5)).bind fun t17 =>
(awr M16 101 ((2 + (6 * x1)) + 5) (t17 + 1)).bind fun M18 =>
(M_of F M18 x1 5).bind fun c19 =>
some (c19, M18)
else
some ((-2), M))))))))
def B_M_fallen_22 (F : Nat) (M : Mem) (x1 : Int32) (x2 : Int32) (x3 : Int32) (x5 : Int32) (lp : Int32 → Int32 → Option Int32) (x4 : Int32) (x6 : Int32) : Option Int32 :=
(if (M 100 1) ≤ x6 then
some x4
else
(M_owed F M x6 x5).bind fun c3 =>
(M_reserve F M x6).bind fun c4 =>
((if x6 = x2 then
some x3
else
some 0)).bind fun (j5 : Int32) =>
(M_owing F M x6).bind fun c6 =>
(if c6 ≤ ((c3 + c4) + j5) then
lp (x4 ||| 0) (x6 + 1)
else
lp (x4 ||| (1 <<< (x6 &&& 31))) (x6 + 1)))
def L_M_fallen_22 (F : Nat) (M : Mem) (x1 : Int32) (x2 : Int32) (x3 : Int32) (x5 : Int32) : Nat → Int32 → Int32 → Option Int32
  | 0, _, _ => none
  | n + 1, x4, x6 => B_M_fallen_22 F M x1 x2 x3 x5 (L_M_fallen_22 F M x1 x2 x3 x5 n) x4 x6
def B_M_fallen_8 (F : Nat) (M : Mem) (x1 : Int32) (x2 : Int32) (x3 : Int32) (lp : Int32 → Int32 → Option Int32) (x4 : Int32) (x5 : Int32) : Option Int32 :=
(if x4 = x5 then
some x4
else
(L_M_fallen_22 F M x1 x2 x3 x4 F x4 0).bind fun u9 =>
lp u9 x4)
def L_M_fallen_8 (F : Nat) (M : Mem) (x1 : Int32) (x2 : Int32) (x3 : Int32) : Nat → Int32 → Int32 → Option Int32
  | 0, _, _ => none
  | n + 1, x4, x5 => B_M_fallen_8 F M x1 x2 x3 (L_M_fallen_8 F M x1 x2 x3 n) x4 x5
def M_fallen (F : Nat) (M : Mem) (x1 : Int32) (x2 : Int32) (x3 : Int32) : Option Int32 :=
(L_M_fallen_8 F M x1 x2 x3 F (1 <<< (x1 &&& 31)) 0).bind fun u10 =>
some (u10 &&& ((1 <<< (x1 &&& 31)) ^^^ (-1)))
def M_falls (F : Nat) (M : Mem) (x1 : Int32) : Option Int32 :=
(M_isPerson F M x1).bind fun c1 =>
(if c1 = 0 then
some (-1)
else
(M_fallen F M x1 (-9) 0).bind fun c3 =>
some c3)
def M_isText (F : Nat) (M : Mem) (x0 : Int32) : Option Int32 :=
(M_in F M ((x0).toInt64) 0 3).bind fun c1 =>
(rb c1).bind fun t2 =>
some t2
def M_here (F : Nat) (M : Mem) : Option Int32 :=
(ard M 106 ((M 100 12) + (M 100 13))).bind fun t1 =>
some t1
def B_M_skip_0 (F : Nat)  (lp : Mem → Option Mem) (M : Mem) : Option Mem :=
(if (M 100 14) ≤ (M 100 13) then
some M
else
(M_here F M).bind fun c2 =>
(if c2 = 32 then
lp (up M 100 13 ((M 100 13) + 1))
else
some M))
def L_M_skip_0 (F : Nat) : Nat → Mem → Option Mem
  | 0, _ => none
  | n + 1, M => B_M_skip_0 F (L_M_skip_0 F n) M
def M_skip (F : Nat) (M : Mem) : Option Mem :=
(L_M_skip_0 F F M).bind fun u4 =>
some u4
def M_figure (F : Nat) (M : Mem) (x1 : Int32) (x2 : Int32) (x3 : Int32) : Option (Int32 × Mem) :=
(if (M 100 13) = (M 100 14) then
some ((-9), M)
else
(M_here F M).bind fun c2 =>
(M_in F M ((c2).toInt64) (((48 + x1)).toInt64) (((48 + x2)).toInt64)).bind fun c3 =>
(if c3 = 0 then
some ((-9), M)
else
(M_here F M).bind fun c5 =>
(if (c5 - 48) = x3 then
some ((-9), M)
else
(ard (up M 100 13 ((M 100 13) + 1)) 106 ((((up M 100 13 ((M 100 13) + 1)) 100 12) + ((up M 100 13 ((M 100 13) + 1)) 100 13)) - 1)).bind fun t7 =>
some ((t7 - 48), (up M 100 13 ((M 100 13) + 1))))))
def M_readsDraft (F : Nat) (M : Mem) : Option (Int32 × Mem) :=
(if (M 100 16) < 2 then
some (0, M)
else
(if (M 100 18) = 12 then
some (0, M)
else
(M_figure F (up M 100 13 ((M 100 13) + 1)) 0 (((up M 100 13 ((M 100 13) + 1)) 100 16) - 1) (-9)).bind fun c3 =>
(awr c3.2 109 (4 * ((up M 100 13 ((M 100 13) + 1)) 100 18)) c3.1).bind fun M4 =>
(ard M4 109 (4 * ((up M 100 13 ((M 100 13) + 1)) 100 18))).bind fun t5 =>
(if t5 = (-9) then
some (0, M4)
else
(ard M4 109 (4 * ((up M 100 13 ((M 100 13) + 1)) 100 18))).bind fun t7 =>
(M_figure F M4 0 ((M4 100 16) - 1) t7).bind fun c8 =>
(awr c8.2 109 ((4 * ((up M 100 13 ((M 100 13) + 1)) 100 18)) + 1) c8.1).bind fun M9 =>
(ard M9 109 ((4 * ((up M 100 13 ((M 100 13) + 1)) 100 18)) + 1)).bind fun t10 =>
(if t10 = (-9) then
some (0, M9)
else
(if (M9 100 13) = (M9 100 14) then
some (0, M9)
else
(M_here F M9).bind fun c13 =>
(if c13 = 104 then
((if c13 = 104 then
some 0
else
(if c13 = 99 then
some 1
else
some 2))).bind fun (j15 : Int32) =>
(awr M9 109 ((4 * ((up M 100 13 ((M 100 13) + 1)) 100 18)) + 2) j15).bind fun M16 =>
(M_figure F (up M16 100 13 ((M16 100 13) + 1)) 1 9 (-9)).bind fun c17 =>
(awr c17.2 109 ((4 * ((up M 100 13 ((M 100 13) + 1)) 100 18)) + 3) c17.1).bind fun M18 =>
(ard M18 109 ((4 * ((up M 100 13 ((M 100 13) + 1)) 100 18)) + 3)).bind fun t19 =>
(if t19 = (-9) then
some (0, M18)
else
some (1, (up M18 100 18 ((M18 100 18) + 1))))
else
(if c13 = 99 then
((if c13 = 104 then
some 0
else
(if c13 = 99 then
some 1
else
some 2))).bind fun (j24 : Int32) =>
(awr M9 109 ((4 * ((up M 100 13 ((M 100 13) + 1)) 100 18)) + 2) j24).bind fun M25 =>
(M_figure F (up M25 100 13 ((M25 100 13) + 1)) 1 9 (-9)).bind fun c26 =>
(awr c26.2 109 ((4 * ((up M 100 13 ((M 100 13) + 1)) 100 18)) + 3) c26.1).bind fun M27 =>
(ard M27 109 ((4 * ((up M 100 13 ((M 100 13) + 1)) 100 18)) + 3)).bind fun t28 =>
(if t28 = (-9) then
some (0, M27)
else
some (1, (up M27 100 18 ((M27 100 18) + 1))))
else
(if c13 = 116 then
((if c13 = 104 then
some 0
else
(if c13 = 99 then
some 1
else
some 2))).bind fun (j33 : Int32) =>
(awr M9 109 ((4 * ((up M 100 13 ((M 100 13) + 1)) 100 18)) + 2) j33).bind fun M34 =>
(M_figure F (up M34 100 13 ((M34 100 13) + 1)) 1 9 (-9)).bind fun c35 =>
(awr c35.2 109 ((4 * ((up M 100 13 ((M 100 13) + 1)) 100 18)) + 3) c35.1).bind fun M36 =>
(ard M36 109 ((4 * ((up M 100 13 ((M 100 13) + 1)) 100 18)) + 3)).bind fun t37 =>
(if t37 = (-9) then
some (0, M36)
else
some (1, (up M36 100 18 ((M36 100 18) + 1))))
else
some (0, M9)))))))))
def M_kindOfLetter (F : Nat) (M : Mem) (x0 : Int32) : Option Int32 :=
(if x0 = 112 then
some 0
else
(if x0 = 97 then
some 1
else
(if x0 = 115 then
some 2
else
(if x0 = 98 then
some 3
else
(if x0 = 103 then
some 4
else
(if x0 = 105 then
some 5
else
some (-9)))))))
def M_readsPerson (F : Nat) (M : Mem) : Option (Int32 × Mem) :=
(M_here F M).bind fun c1 =>
(M_kindOfLetter F M c1).bind fun c2 =>
(if c2 = (-9) then
some (0, M)
else
(if (M 100 16) = 6 then
some (0, M)
else
(if (M 100 18) ≤ 0 then
(awr M 108 (M 100 16) c2).bind fun M6 =>
some (1, (up (up M6 100 16 ((M6 100 16) + 1)) 100 13 (((up M6 100 16 ((M6 100 16) + 1)) 100 13) + 1)))
else
some (0, M))))
def B_M_faultOf_39 (F : Nat)  (lp : Mem → Int32 → Option (Int32 × Mem)) (M : Mem) (x2 : Int32) : Option (Int32 × Mem) :=
(if x2 = 0 then
some (x2, M)
else
(if (M 100 14) ≤ (M 100 13) then
some (x2, M)
else
(M_here F M).bind fun c5 =>
((if c5 = 120 then
(M_readsDraft F M).bind fun c11 =>
some (c11.1, c11.2)
else
(M_readsPerson F M).bind fun c10 =>
some (c10.1, c10.2))).bind fun (j6 : Int32 × Mem) =>
(if j6.1 = 0 then
lp j6.2 j6.1
else
(M_skip F j6.2).bind fun c8 =>
lp c8 j6.1)))
def L_M_faultOf_39 (F : Nat) : Nat → Mem → Int32 → Option (Int32 × Mem)
  | 0, _, _ => none
  | n + 1, M, x2 => B_M_faultOf_39 F (L_M_faultOf_39 F n) M x2
def M_faultOf (F : Nat) (M : Mem) (x1 : Int32) : Option (Int32 × Mem) :=
(ard (up (up M 100 12 (80 * x1)) 100 13 0) 105 x1).bind fun t1 =>
(M_skip F (up (up (up (up (up M 100 12 (80 * x1)) 100 13 0) 100 14 t1) 100 16 0) 100 18 0)).bind fun c2 =>
(L_M_faultOf_39 F F c2 1).bind fun u12 =>
(if u12.1 = 0 then
some ((u12.2 100 13), u12.2)
else
(if (u12.2 100 16) ≤ 1 then
some ((u12.2 100 13), u12.2)
else
some ((-9), u12.2)))
def M_fault (F : Nat) (M : Mem) (x1 : Int32) : Option (Int32 × Mem) :=
(M_isText F M x1).bind fun c1 =>
(if c1 = 0 then
some ((-1), M)
else
(ard M 105 x1).bind fun t3 =>
(if 0 ≤ t3 then
(M_faultOf F M x1).bind fun c5 =>
some (c5.1, c5.2)
else
(M_find F M 1).bind fun c6 =>
some (c6.1, c6.2)))
def M_finding (F : Nat) (M : Mem) : Option Int32 :=
some (M 100 10)
def M_findings (F : Nat) (M : Mem) (x1 : Int32) : Option Int32 :=
(M_in F M ((x1).toInt64) 1 5).bind fun c1 =>
(if c1 = 0 then
some (-1)
else
(ard M 107 x1).bind fun t3 =>
some t3)
def M_rate (F : Nat) (M : Mem) (x1 : Int32) (x2 : Int32) : Option Int64 :=
(ard M 104 ((40 * x1) + x2)).bind fun t1 =>
some ((t1).toInt64)
def M_gain (F : Nat) (M : Mem) (x1 : Int32) : Option (Int32 × Mem) :=
(M_isRow F M x1).bind fun c1 =>
(if c1 = 0 then
some ((-1), M)
else
(ard M 103 x1).bind fun t3 =>
(if 0 ≤ t3 then
(ard M 103 x1).bind fun t5 =>
(if t5 = 6 then
(M_areRates F M x1).bind fun c7 =>
(if c7 = 0 then
(M_find F M 3).bind fun c36 =>
some (c36.1, c36.2)
else
(M_rate F M x1 0).bind fun c9 =>
(M_rate F M x1 2).bind fun c10 =>
((if (lg_cmp (c9 * c10) 10000) ≤ 0 then
some 0
else
some 1)).bind fun (j11 : Int32) =>
(M_rate F M x1 1).bind fun c12 =>
(M_rate F M x1 4).bind fun c13 =>
((if (lg_cmp (c12 * c13) 10000) ≤ 0 then
some 0
else
some 1)).bind fun (j14 : Int32) =>
(M_rate F M x1 3).bind fun c15 =>
(M_rate F M x1 5).bind fun c16 =>
((if (lg_cmp (c15 * c16) 10000) ≤ 0 then
some 0
else
some 1)).bind fun (j17 : Int32) =>
(M_rate F M x1 0).bind fun c18 =>
(M_rate F M x1 3).bind fun c19 =>
(M_rate F M x1 4).bind fun c20 =>
((if (lg_cmp ((c18 * c19) * c20) 1000000) ≤ 0 then
some 0
else
some 1)).bind fun (j21 : Int32) =>
(M_rate F M x1 1).bind fun c22 =>
(M_rate F M x1 5).bind fun c23 =>
(M_rate F M x1 2).bind fun c24 =>
((if (lg_cmp ((c22 * c23) * c24) 1000000) ≤ 0 then
some 0
else
some 1)).bind fun (j25 : Int32) =>
(if j11 = 0 then
(if j14 = 0 then
(if j17 = 0 then
(if j21 = 0 then
(if j25 = 0 then
some ((-9), M)
else
some (4, M))
else
some (3, M))
else
some (2, M))
else
some (1, M))
else
some (0, M)))
else
(M_find F M 5).bind fun c37 =>
some (c37.1, c37.2))
else
(M_find F M 1).bind fun c38 =>
some (c38.1, c38.2)))
def M_growth (F : Nat) (M : Mem) (x1 : Int32) : Option Int32 :=
(ard M 102 x1).bind fun t1 =>
(if t1 = 4 then
some 2
else
(ard M 102 x1).bind fun t3 =>
(if t3 = 1 then
some 1
else
some 0))
def M_isOf (F : Nat) (M : Mem) (x1 : Int32) (x2 : Int32) : Option Int32 :=
(ard M 102 x1).bind fun t1 =>
(if t1 = x2 then
some 1
else
(if x2 = 1 then
(ard M 102 x1).bind fun t7 =>
(if t7 = 4 then
some 1
else
(if x2 = 3 then
(ard M 102 x1).bind fun t10 =>
(if t10 = 5 then
some 1
else
some 0)
else
some 0))
else
(if x2 = 3 then
(ard M 102 x1).bind fun t5 =>
(if t5 = 5 then
some 1
else
some 0)
else
some 0)))
def B_M_isOpenBetween_5 (F : Nat) (M : Mem) (x1 : Int32) (x2 : Int32) (lp : Int32 → Int32 → Option Int32) (x3 : Int32) (x4 : Int32) : Option Int32 :=
(if (M 101 1) ≤ x4 then
some x3
else
(if x3 = 0 then
(M_isOpen F M x4).bind fun c3 =>
(if c3 = 0 then
lp 0 (x4 + 1)
else
(M_isOn F M x4 x1 x2).bind fun c5 =>
(if c5 = 0 then
(M_isOn F M x4 x2 x1).bind fun c7 =>
(if c7 = 0 then
lp 0 (x4 + 1)
else
lp 1 (x4 + 1))
else
lp 1 (x4 + 1)))
else
lp 1 (x4 + 1)))
def L_M_isOpenBetween_5 (F : Nat) (M : Mem) (x1 : Int32) (x2 : Int32) : Nat → Int32 → Int32 → Option Int32
  | 0, _, _ => none
  | n + 1, x3, x4 => B_M_isOpenBetween_5 F M x1 x2 (L_M_isOpenBetween_5 F M x1 x2 n) x3 x4
def M_isOpenBetween (F : Nat) (M : Mem) (x1 : Int32) (x2 : Int32) : Option Int32 :=
(L_M_isOpenBetween_5 F M x1 x2 F 0 0).bind fun u9 =>
(rb u9).bind fun t10 =>
some t10
def M_keep (F : Nat) (M : Mem) (x1 : Int32) : Option (Int32 × Mem) :=
(M_in F M ((x1).toInt64) 0 2).bind fun c1 =>
(if c1 = 0 then
some ((-1), M)
else
(if (M 100 1) = 0 then
some ((-4), M)
else
(M_copyVillage F M 0 (2994 * (1 + x1))).bind fun c4 =>
some ((c4 101 0), c4)))
def M_lay (F : Nat) (M : Mem) (x1 : Int32) (x2 : Int32) (x3 : Int32) : Option (Int32 × Mem) :=
(M_refused F M x1 x2).bind fun c1 =>
(if c1.1 = 0 then
(ard c1.2 104 ((40 * x1) + x2)).bind fun t3 =>
(awr c1.2 104 ((40 * x1) + x2) x3).bind fun M4 =>
(M_tell F M4 t3).bind fun c5 =>
some (c5.1, c5.2)
else
some (c1.1, c1.2))
def B_M_layBest_56 (F : Nat) (x1 : Int32) (lp : Mem → Int32 → Option Mem) (M : Mem) (x3 : Int32) : Option Mem :=
(if (M 100 21) ≤ x3 then
some M
else
(ard M 111 x3).bind fun t6 =>
(awr M 112 x3 t6).bind fun M7 =>
lp M7 (x3 + 1))
def L_M_layBest_56 (F : Nat) (x1 : Int32) : Nat → Mem → Int32 → Option Mem
  | 0, _, _ => none
  | n + 1, M, x3 => B_M_layBest_56 F x1 (L_M_layBest_56 F x1 n) M x3
def B_M_layBest_12 (F : Nat)  (lp : Mem → Int32 → Option Mem) (M : Mem) (x1 : Int32) : Option Mem :=
(M_nextRing F M).bind fun c1 =>
(if c1.1 = 0 then
some c1.2
else
(M_leastOfRing F c1.2).bind fun c3 =>
(if (c3 * (c1.2 100 21)) ≤ x1 then
lp c1.2 x1
else
(L_M_layBest_56 F (c3 * (c1.2 100 21)) F (up (up c1.2 100 23 (c1.2 100 21)) 100 24 c3) 0).bind fun u8 =>
lp u8 (c3 * (c1.2 100 21))))
def L_M_layBest_12 (F : Nat) : Nat → Mem → Int32 → Option Mem
  | 0, _, _ => none
  | n + 1, M, x1 => B_M_layBest_12 F (L_M_layBest_12 F n) M x1
def M_layBest (F : Nat) (M : Mem) : Option (Int32 × Mem) :=
(L_M_layBest_12 F F (up (up M 100 23 0) 100 21 0) 0).bind fun u9 =>
(if (u9 100 23) ≤ 0 then
some (0, u9)
else
some (1, u9))
def B_M_layPairs_19 (F : Nat) (x1 : Int32) (lp : Mem → Int32 → Option Mem) (M : Mem) (x2 : Int32) : Option Mem :=
(if (M 100 1) ≤ x2 then
some M
else
(M_isOpenBetween F M x1 x2).bind fun c3 =>
(if c3 = 0 then
lp M (x2 + 1)
else
(awr M 113 (2 * (M 100 26)) x1).bind fun M5 =>
(awr M5 113 ((2 * (M5 100 26)) + 1) x2).bind fun M6 =>
lp (up M6 100 26 ((M6 100 26) + 1)) (x2 + 1)))
def L_M_layPairs_19 (F : Nat) (x1 : Int32) : Nat → Mem → Int32 → Option Mem
  | 0, _, _ => none
  | n + 1, M, x2 => B_M_layPairs_19 F x1 (L_M_layPairs_19 F x1 n) M x2
def B_M_layPairs_7 (F : Nat)  (lp : Mem → Int32 → Option Mem) (M : Mem) (x1 : Int32) : Option Mem :=
(if (M 100 1) ≤ x1 then
some M
else
(L_M_layPairs_19 F x1 F M (x1 + 1)).bind fun u7 =>
lp u7 (x1 + 1))
def L_M_layPairs_7 (F : Nat) : Nat → Mem → Int32 → Option Mem
  | 0, _, _ => none
  | n + 1, M, x1 => B_M_layPairs_7 F (L_M_layPairs_7 F n) M x1
def M_layPairs (F : Nat) (M : Mem) : Option Mem :=
(L_M_layPairs_7 F F (up M 100 26 0) 0).bind fun u8 =>
some u8
def B_M_left_31 (F : Nat)  (lp : Mem → Int32 → Option Mem) (M : Mem) (x2 : Int32) : Option Mem :=
(if (M 100 23) ≤ x2 then
some M
else
(ard M 112 x2).bind fun t7 =>
(ard M 110 t7).bind fun t8 =>
(awr M 110 t7 (t8 - (M 100 24))).bind fun M9 =>
lp M9 (x2 + 1))
def L_M_left_31 (F : Nat) : Nat → Mem → Int32 → Option Mem
  | 0, _, _ => none
  | n + 1, M, x2 => B_M_left_31 F (L_M_left_31 F n) M x2
def B_M_left_22 (F : Nat)  (lp : Mem → Option Mem) (M : Mem) : Option Mem :=
(M_layBest F M).bind fun c4 =>
(if c4.1 = 0 then
some c4.2
else
(L_M_left_31 F F c4.2 0).bind fun u10 =>
lp (up u10 100 7 ((u10 100 7) + 1)))
def L_M_left_22 (F : Nat) : Nat → Mem → Option Mem
  | 0, _ => none
  | n + 1, M => B_M_left_22 F (L_M_left_22 F n) M
def B_M_left_80 (F : Nat) (M : Mem)  (lp : Int32 → Int32 → Option Int32) (x2 : Int32) (x3 : Int32) : Option Int32 :=
(if 12 ≤ x3 then
some x2
else
(ard M 110 x3).bind fun t13 =>
lp (x2 + t13) (x3 + 1))
def L_M_left_80 (F : Nat) (M : Mem) : Nat → Int32 → Int32 → Option Int32
  | 0, _, _ => none
  | n + 1, x2, x3 => B_M_left_80 F M (L_M_left_80 F M n) x2 x3
def M_left (F : Nat) (M : Mem) (x1 : Int32) : Option (Int32 × Mem) :=
(M_in F M ((x1).toInt64) 0 1).bind fun c1 =>
(if c1 = 0 then
some ((-1), M)
else
(M_beginRings F (up M 100 7 0) x1).bind fun c3 =>
(L_M_left_22 F F c3).bind fun u11 =>
(L_M_left_80 F u11 F 0 0).bind fun u14 =>
some (u14, u11))
def B_M_lots_61 (F : Nat) (x1 : Int32) (lp : Mem → Int64 → Int32 → Int32 → Option (Int32 × Mem)) (M : Mem) (x3 : Int64) (x5 : Int32) (x6 : Int32) : Option (Int32 × Mem) :=
(if x1 ≤ x6 then
some (x5, M)
else
(rml (x3 * 48271) 2147483647).bind fun t8 =>
(rml t8 (((M 100 1)).toInt64)).bind fun t9 =>
(dvl t8 32).bind fun t10 =>
(rml t10 ((((M 100 1) - 1)).toInt64)).bind fun t11 =>
(rmi (((t9).toInt32) + (1 + ((t11).toInt32))) (M 100 1)).bind fun t12 =>
(M_doMeet F M ((t9).toInt32) t12).bind fun c13 =>
lp c13.2 t8 (x5 + c13.1) (x6 + 1))
def L_M_lots_61 (F : Nat) (x1 : Int32) : Nat → Mem → Int64 → Int32 → Int32 → Option (Int32 × Mem)
  | 0, _, _, _, _ => none
  | n + 1, M, x3, x5, x6 => B_M_lots_61 F x1 (L_M_lots_61 F x1 n) M x3 x5 x6
def M_lots (F : Nat) (M : Mem) (x1 : Int32) (x2 : Int32) : Option (Int32 × Mem) :=
(M_in F M ((x1).toInt64) 1 20).bind fun c1 =>
(if c1 = 0 then
some ((-1), M)
else
(M_in F M ((x2).toInt64) 1 2147483646).bind fun c3 =>
(if c3 = 0 then
some ((-1), M)
else
(if (M 100 1) = 0 then
some ((-4), M)
else
(if ((M 101 0) + x1) ≤ 40 then
(L_M_lots_61 F x1 F M ((x2).toInt64) 0 0).bind fun u14 =>
some (u14.1, u14.2)
else
some ((-2), M)))))
def M_lower (F : Nat) (M : Mem) : Option Int64 :=
some ((M 100 9).toInt64)
def B_M_makeRow_9 (F : Nat) (x1 : Int32) (lp : Mem → Int32 → Option Mem) (M : Mem) (x3 : Int32) : Option Mem :=
(if 40 ≤ x3 then
some M
else
(awr M 104 ((40 * x1) + x3) 0).bind fun M3 =>
lp M3 (x3 + 1))
def L_M_makeRow_9 (F : Nat) (x1 : Int32) : Nat → Mem → Int32 → Option Mem
  | 0, _, _ => none
  | n + 1, M, x3 => B_M_makeRow_9 F x1 (L_M_makeRow_9 F x1 n) M x3
def M_makeRow (F : Nat) (M : Mem) (x1 : Int32) (x2 : Int32) : Option Mem :=
(awr M 103 x1 x2).bind fun M1 =>
(L_M_makeRow_9 F x1 F M1 0).bind fun u4 =>
some u4
def B_M_openTo_4 (F : Nat) (M : Mem) (x1 : Int32) (lp : Int32 → Int32 → Option Int32) (x2 : Int32) (x3 : Int32) : Option Int32 :=
(if (M 101 1) ≤ x3 then
some x2
else
(M_of F M x3 1).bind fun c2 =>
(if c2 = x1 then
(M_isOpen F M x3).bind fun c4 =>
(if c4 = 0 then
lp (x2 + 0) (x3 + 1)
else
lp (x2 + 1) (x3 + 1))
else
lp (x2 + 0) (x3 + 1)))
def L_M_openTo_4 (F : Nat) (M : Mem) (x1 : Int32) : Nat → Int32 → Int32 → Option Int32
  | 0, _, _ => none
  | n + 1, x2, x3 => B_M_openTo_4 F M x1 (L_M_openTo_4 F M x1 n) x2 x3
def M_openTo (F : Nat) (M : Mem) (x1 : Int32) : Option Int32 :=
(L_M_openTo_4 F M x1 F 0 0).bind fun u6 =>
some u6
def B_M_openOn_4 (F : Nat) (M : Mem) (x1 : Int32) (lp : Int32 → Int32 → Option Int32) (x2 : Int32) (x3 : Int32) : Option Int32 :=
(if (M 101 1) ≤ x3 then
some x2
else
(M_of F M x3 0).bind fun c2 =>
(if c2 = x1 then
(M_isOpen F M x3).bind fun c4 =>
(if c4 = 0 then
lp (x2 + 0) (x3 + 1)
else
lp (x2 + 1) (x3 + 1))
else
lp (x2 + 0) (x3 + 1)))
def L_M_openOn_4 (F : Nat) (M : Mem) (x1 : Int32) : Nat → Int32 → Int32 → Option Int32
  | 0, _, _ => none
  | n + 1, x2, x3 => B_M_openOn_4 F M x1 (L_M_openOn_4 F M x1 n) x2 x3
def M_openOn (F : Nat) (M : Mem) (x1 : Int32) : Option Int32 :=
(L_M_openOn_4 F M x1 F 0 0).bind fun u6 =>
some u6
def B_M_souring_4 (F : Nat) (M : Mem) (x1 : Int32) (lp : Int32 → Int32 → Option Int32) (x2 : Int32) (x3 : Int32) : Option Int32 :=
(if (M 101 1) ≤ x3 then
some x2
else
(M_of F M x3 1).bind fun c2 =>
(if c2 = x1 then
(M_isOpen F M x3).bind fun c4 =>
(if c4 = 0 then
lp (x2 + 0) (x3 + 1)
else
(M_of F M x3 2).bind fun c6 =>
(if c6 = 2 then
lp (x2 + 0) (x3 + 1)
else
(M_of F M x3 4).bind fun c8 =>
(if c8 ≤ 2 then
lp (x2 + 0) (x3 + 1)
else
lp (x2 + 1) (x3 + 1))))
else
lp (x2 + 0) (x3 + 1)))
def L_M_souring_4 (F : Nat) (M : Mem) (x1 : Int32) : Nat → Int32 → Int32 → Option Int32
  | 0, _, _ => none
  | n + 1, x2, x3 => B_M_souring_4 F M x1 (L_M_souring_4 F M x1 n) x2 x3
def M_souring (F : Nat) (M : Mem) (x1 : Int32) : Option Int32 :=
(L_M_souring_4 F M x1 F 0 0).bind fun u10 =>
some u10
def B_M_ringsOf_20 (F : Nat) (M : Mem) (x1 : Int32) (x3 : Int32) (lp : Int32 → Int32 → Option Int32) (x4 : Int32) (x5 : Int32) : Option Int32 :=
(if (M 100 21) ≤ x5 then
some x4
else
(if x4 = 0 then
(ard M 111 x5).bind fun t6 =>
(M_of F M t6 0).bind fun c7 =>
(if c7 = x1 then
lp 1 (x5 + 1)
else
lp 0 (x5 + 1))
else
lp 1 (x5 + 1)))
def L_M_ringsOf_20 (F : Nat) (M : Mem) (x1 : Int32) (x3 : Int32) : Nat → Int32 → Int32 → Option Int32
  | 0, _, _ => none
  | n + 1, x4, x5 => B_M_ringsOf_20 F M x1 x3 (L_M_ringsOf_20 F M x1 x3 n) x4 x5
def B_M_ringsOf_7 (F : Nat) (x1 : Int32) (lp : Mem → Int32 → Option (Int32 × Mem)) (M : Mem) (x3 : Int32) : Option (Int32 × Mem) :=
(M_nextRing F M).bind fun c2 =>
(if c2.1 = 0 then
some (x3, c2.2)
else
(L_M_ringsOf_20 F c2.2 x1 x3 F 0 0).bind fun u9 =>
(if u9 = 0 then
lp c2.2 (x3 + 0)
else
lp c2.2 (x3 + 1)))
def L_M_ringsOf_7 (F : Nat) (x1 : Int32) : Nat → Mem → Int32 → Option (Int32 × Mem)
  | 0, _, _ => none
  | n + 1, M, x3 => B_M_ringsOf_7 F x1 (L_M_ringsOf_7 F x1 n) M x3
def M_ringsOf (F : Nat) (M : Mem) (x1 : Int32) (x2 : Int32) : Option (Int32 × Mem) :=
(M_beginRings F M x2).bind fun c1 =>
(L_M_ringsOf_7 F x1 F c1 0).bind fun u11 =>
some (u11.1, u11.2)
def M_mark (F : Nat) (M : Mem) (x1 : Int32) (x2 : Int32) : Option (Int32 × Mem) :=
(M_isPerson F M x1).bind fun c1 =>
(if c1 = 0 then
some ((-1), M)
else
(M_in F M ((x2).toInt64) 1 5).bind fun c3 =>
(if c3 = 0 then
some ((-1), M)
else
(M_isOf F M x1 x2).bind fun c5 =>
(if c5 = 0 then
(M_find F M 3).bind fun c21 =>
some (c21.1, c21.2)
else
(if x2 = 1 then
(M_openTo F M x1).bind fun c8 =>
(M_growth F M x1).bind fun c9 =>
some ((c8 * c9), M)
else
(if x2 = 2 then
(M_openOn F M x1).bind fun c11 =>
some (c11, M)
else
(if x2 = 3 then
(M_owed F M x1 0).bind fun c13 =>
(M_reserve F M x1).bind fun c14 =>
(M_owing F M x1).bind fun c15 =>
(if ((c13 + c14) - c15) ≤ 0 then
some (0, M)
else
some (((c13 + c14) - c15), M))
else
(if x2 = 4 then
(M_souring F M x1).bind fun c18 =>
some (c18, M)
else
(M_ringsOf F M x1 0).bind fun c19 =>
(M_ringsOf F c19.2 x1 1).bind fun c20 =>
some ((c19.1 + c20.1), c20.2))))))))
def B_M_mean_44 (F : Nat) (M : Mem) (x1 : Int32) (lp : Int64 → Int32 → Option Int64) (x2 : Int64) (x4 : Int32) : Option Int64 :=
(ard M 103 x1).bind fun t7 =>
(if t7 ≤ x4 then
some x2
else
(ard M 104 ((40 * x1) + x4)).bind fun t9 =>
lp (x2 + ((t9).toInt64)) (x4 + 1))
def L_M_mean_44 (F : Nat) (M : Mem) (x1 : Int32) : Nat → Int64 → Int32 → Option Int64
  | 0, _, _ => none
  | n + 1, x2, x4 => B_M_mean_44 F M x1 (L_M_mean_44 F M x1 n) x2 x4
def M_mean (F : Nat) (M : Mem) (x1 : Int32) : Option (Int32 × Mem) :=
(M_isRow F M x1).bind fun c1 =>
(if c1 = 0 then
some ((-1), M)
else
(ard M 103 x1).bind fun t3 =>
(if 0 ≤ t3 then
(ard M 103 x1).bind fun t5 =>
(if t5 = 0 then
(M_find F M 4).bind fun c14 =>
some (c14.1, c14.2)
else
(L_M_mean_44 F M x1 F 0 0).bind fun u10 =>
(ard M 103 x1).bind fun t11 =>
(dvl u10 ((t11).toInt64)).bind fun t12 =>
(M_tell F M ((t12).toInt32)).bind fun c13 =>
some (c13.1, c13.2))
else
(M_find F M 1).bind fun c15 =>
some (c15.1, c15.2)))
def M_meet (F : Nat) (M : Mem) (x1 : Int32) (x2 : Int32) : Option (Int32 × Mem) :=
(M_areTwo F M x1 x2).bind fun c1 =>
(if c1 = 0 then
some ((-1), M)
else
(M_isFull F M).bind fun c3 =>
(if c3 = 0 then
(M_netted F M x1 x2 0).bind fun c5 =>
(M_netted F M x1 x2 1).bind fun c6 =>
(M_doMeet F (up M 100 7 (c5 + c6)) x1 x2).bind fun c7 =>
some (c7.1, c7.2)
else
some ((-2), M)))
def B_M_mistletoe_30 (F : Nat) (M : Mem) (x1 : Int32) (x2 : Int32) (x3 : Int32) (lp : Int32 → Int32 → Option Int32) (x4 : Int32) (x5 : Int32) : Option Int32 :=
(if (M 101 1) ≤ x5 then
some x4
else
(M_of F M x5 0).bind fun c4 =>
(if c4 = x3 then
(M_of F M x5 3).bind fun c6 =>
(M_of F M x5 3).bind fun c7 =>
(dvi c7 2).bind fun t8 =>
lp (x4 + (c6 - t8)) (x5 + 1)
else
(M_of F M x5 1).bind fun c9 =>
(if c9 = x3 then
(M_of F M x5 3).bind fun c11 =>
(M_of F M x5 3).bind fun c12 =>
(dvi c12 2).bind fun t13 =>
lp (x4 + (c11 - t13)) (x5 + 1)
else
lp (x4 + 0) (x5 + 1))))
def L_M_mistletoe_30 (F : Nat) (M : Mem) (x1 : Int32) (x2 : Int32) (x3 : Int32) : Nat → Int32 → Int32 → Option Int32
  | 0, _, _ => none
  | n + 1, x4, x5 => B_M_mistletoe_30 F M x1 x2 x3 (L_M_mistletoe_30 F M x1 x2 x3 n) x4 x5
def B_M_mistletoe_16 (F : Nat) (M : Mem)  (lp : Int32 → Int32 → Int32 → Option (Int32 × Int32)) (x1 : Int32) (x2 : Int32) (x3 : Int32) : Option (Int32 × Int32) :=
(if (M 100 1) ≤ x3 then
some (x1, x2)
else
(L_M_mistletoe_30 F M x1 x2 x3 F 0 0).bind fun u14 =>
((if u14 ≤ x2 then
some x1
else
some x3)).bind fun (j15 : Int32) =>
(if u14 ≤ x2 then
lp j15 x2 (x3 + 1)
else
lp j15 u14 (x3 + 1)))
def L_M_mistletoe_16 (F : Nat) (M : Mem) : Nat → Int32 → Int32 → Int32 → Option (Int32 × Int32)
  | 0, _, _, _ => none
  | n + 1, x1, x2, x3 => B_M_mistletoe_16 F M (L_M_mistletoe_16 F M n) x1 x2 x3
def M_mistletoe (F : Nat) (M : Mem) : Option (Int32 × Mem) :=
(if (M 100 1) = 0 then
some ((-4), M)
else
(L_M_mistletoe_16 F M F 0 (-1) 0).bind fun u18 =>
some (u18.1, (up M 100 7 u18.2)))
def B_M_net_32 (F : Nat) (M : Mem) (x1 : Int32) (x2 : Int32) (x3 : Int32) (lp : Int32 → Int32 → Option Int32) (x4 : Int32) (x5 : Int32) : Option Int32 :=
(if (M 100 1) ≤ x5 then
some x4
else
(M_sumOf F M x3 x5 x1).bind fun c5 =>
(M_sumOf F M x5 x3 x1).bind fun c6 =>
lp (x4 + (c5 - c6)) (x5 + 1))
def L_M_net_32 (F : Nat) (M : Mem) (x1 : Int32) (x2 : Int32) (x3 : Int32) : Nat → Int32 → Int32 → Option Int32
  | 0, _, _ => none
  | n + 1, x4, x5 => B_M_net_32 F M x1 x2 x3 (L_M_net_32 F M x1 x2 x3 n) x4 x5
def B_M_net_18 (F : Nat) (M : Mem) (x1 : Int32) (lp : Int32 → Int32 → Option Int32) (x2 : Int32) (x3 : Int32) : Option Int32 :=
(if (M 100 1) ≤ x3 then
some x2
else
(L_M_net_32 F M x1 x2 x3 F 0 0).bind fun u7 =>
(if u7 ≤ 0 then
lp (x2 + 0) (x3 + 1)
else
lp (x2 + u7) (x3 + 1)))
def L_M_net_18 (F : Nat) (M : Mem) (x1 : Int32) : Nat → Int32 → Int32 → Option Int32
  | 0, _, _ => none
  | n + 1, x2, x3 => B_M_net_18 F M x1 (L_M_net_18 F M x1 n) x2 x3
def M_net (F : Nat) (M : Mem) (x1 : Int32) : Option Int32 :=
(M_in F M ((x1).toInt64) 0 2).bind fun c1 =>
(if c1 = 0 then
some (-1)
else
(L_M_net_18 F M x1 F 0 0).bind fun u9 =>
some u9)
def B_M_odds_14 (F : Nat) (M : Mem)  (lp : Int32 → Int32 → Option Int32) (x1 : Int32) (x2 : Int32) : Option Int32 :=
(if (M 100 1) ≤ x2 then
some x1
else
(M_fallen F M x2 (-9) 0).bind fun c3 =>
(if c3 = 0 then
lp (x1 + 1) (x2 + 1)
else
lp (x1 + 0) (x2 + 1)))
def L_M_odds_14 (F : Nat) (M : Mem) : Nat → Int32 → Int32 → Option Int32
  | 0, _, _ => none
  | n + 1, x1, x2 => B_M_odds_14 F M (L_M_odds_14 F M n) x1 x2
def M_odds (F : Nat) (M : Mem) : Option (Int32 × Mem) :=
(if (M 100 1) = 0 then
some ((-4), M)
else
(L_M_odds_14 F M F 0 0).bind fun u5 =>
(M_divisor F M u5 (M 100 1)).bind fun c6 =>
(dvi u5 c6).bind fun t7 =>
(dvi ((up M 100 8 t7) 100 1) c6).bind fun t8 =>
some (1, (up (up M 100 8 t7) 100 9 t8)))
def M_on (F : Nat) (M : Mem) (x1 : Int32) : Option (Int32 × Mem) :=
(M_in F M ((x1).toInt64) 0 2).bind fun c1 =>
(if c1 = 0 then
some ((-1), M)
else
(ard M 101 ((2994 * (1 + x1)) + 0)).bind fun t3 =>
(if 0 ≤ t3 then
(M_copyVillage F M (2994 * (1 + x1)) 0).bind fun c5 =>
some ((c5 101 0), c5)
else
(M_find F M 1).bind fun c6 =>
some (c6.1, c6.2)))
def M_owe (F : Nat) (M : Mem) (x1 : Int32) (x2 : Int32) : Option (Int32 × Mem) :=
(if x1 < 0 then
some ((-1), M)
else
(dvi x1 100).bind fun t2 =>
(dvi x1 10).bind fun t3 =>
(rmi t3 10).bind fun t4 =>
(M_areTwo F M t2 t4).bind fun c5 =>
(if c5 = 0 then
some ((-1), M)
else
(rmi x1 10).bind fun t7 =>
(M_in F M ((t7).toInt64) 0 2).bind fun c8 =>
(if c8 = 0 then
some ((-1), M)
else
(M_in F M ((x2).toInt64) 1 9).bind fun c10 =>
(if c10 = 0 then
some ((-1), M)
else
(if (M 101 1) = 12 then
some ((-2), M)
else
(M_isFull F M).bind fun c13 =>
(if c13 = 0 then
(M_keepPast F M).bind fun c15 =>
(dvi x1 100).bind fun t16 =>
(dvi x1 10).bind fun t17 =>
(rmi t17 10).bind fun t18 =>
(rmi x1 10).bind fun t19 =>
(M_addDraft F c15 t16 t18 t19 x2).bind fun c20 =>
some (((c20 101 1) - 1), c20)
else
some ((-2), M)))))))
def B_M_pairs_11 (F : Nat)  (lp : Mem → Int32 → Option Mem) (M : Mem) (x1 : Int32) : Option Mem :=
(if (M 100 26) ≤ x1 then
some M
else
(ard M 113 (2 * x1)).bind fun t3 =>
(ard M 113 ((2 * x1) + 1)).bind fun t4 =>
(M_given F M t3 t4).bind fun c5 =>
lp (up M 100 7 ((M 100 7) + c5)) (x1 + 1))
def L_M_pairs_11 (F : Nat) : Nat → Mem → Int32 → Option Mem
  | 0, _, _ => none
  | n + 1, M, x1 => B_M_pairs_11 F (L_M_pairs_11 F n) M x1
def M_pairs (F : Nat) (M : Mem) : Option (Int32 × Mem) :=
(M_layPairs F M).bind fun c1 =>
(L_M_pairs_11 F F (up c1 100 7 0) 0).bind fun u6 =>
some ((u6 100 26), u6)
def M_person (F : Nat) (M : Mem) (x1 : Int32) (x2 : Int32) : Option (Int32 × Mem) :=
(M_isPerson F M x1).bind fun c1 =>
(if c1 = 0 then
some ((-1), M)
else
(M_in F M ((x2).toInt64) 0 4).bind fun c3 =>
(if c3 = 0 then
some ((-1), M)
else
(M_toldOf F M x1 x2).bind fun c5 =>
(M_tell F M c5).bind fun c6 =>
some (c6.1, c6.2)))
def M_put (F : Nat) (M : Mem) (x1 : Int32) (x2 : Int32) (x3 : Int32) : Option (Int32 × Mem) :=
(M_isText F M x1).bind fun c1 =>
(if c1 = 0 then
some ((-1), M)
else
(ard M 105 x1).bind fun t3 =>
(if 0 ≤ t3 then
(ard M 105 x1).bind fun t5 =>
(M_in F M ((x2).toInt64) 0 (((t5 - 1)).toInt64)).bind fun c6 =>
(if c6 = 0 then
(M_find F M 2).bind fun c10 =>
some (c10.1, c10.2)
else
(ard M 106 ((80 * x1) + x2)).bind fun t8 =>
(awr M 106 ((80 * x1) + x2) ((x3).toInt8.toInt32)).bind fun M9 =>
some ((t8 + 1000), M9))
else
(M_find F M 1).bind fun c11 =>
some (c11.1, c11.2)))
def B_M_ring_45 (F : Nat) (x2 : Int32) (lp : Mem → Int32 → Option Mem) (M : Mem) (x3 : Int32) : Option Mem :=
(if (M 100 23) ≤ x3 then
some M
else
(ard M 112 x3).bind fun t10 =>
(awr M 104 ((40 * x2) + x3) t10).bind fun M11 =>
lp M11 (x3 + 1))
def L_M_ring_45 (F : Nat) (x2 : Int32) : Nat → Mem → Int32 → Option Mem
  | 0, _, _ => none
  | n + 1, M, x3 => B_M_ring_45 F x2 (L_M_ring_45 F x2 n) M x3
def M_ring (F : Nat) (M : Mem) (x1 : Int32) (x2 : Int32) : Option (Int32 × Mem) :=
(M_in F M ((x1).toInt64) 0 1).bind fun c1 =>
(if c1 = 0 then
some ((-1), M)
else
(M_isRow F M x2).bind fun c3 =>
(if c3 = 0 then
some ((-1), M)
else
(M_beginRings F M x1).bind fun c5 =>
(M_layBest F c5).bind fun c6 =>
(if c6.1 = 0 then
some ((-9), c6.2)
else
(M_makeRow F c6.2 x2 (c6.2 100 23)).bind fun c8 =>
(L_M_ring_45 F x2 F c8 0).bind fun u12 =>
some ((u12 100 24), u12))))
def B_M_rounds_6 (F : Nat)  (lp : Mem → Int32 → Option (Int32 × Mem)) (M : Mem) (x1 : Int32) : Option (Int32 × Mem) :=
(M_canMeet F M x1).bind fun c2 =>
(if c2.1 = 0 then
lp c2.2 (x1 + 1)
else
some (x1, c2.2))
def L_M_rounds_6 (F : Nat) : Nat → Mem → Int32 → Option (Int32 × Mem)
  | 0, _, _ => none
  | n + 1, M, x1 => B_M_rounds_6 F (L_M_rounds_6 F n) M x1
def M_rounds (F : Nat) (M : Mem) : Option (Int32 × Mem) :=
(M_layPairs F M).bind fun c1 =>
(L_M_rounds_6 F F c1 0).bind fun u4 =>
some (u4.1, u4.2)
def M_row (F : Nat) (M : Mem) (x1 : Int32) (x2 : Int32) : Option (Int32 × Mem) :=
(M_isRow F M x1).bind fun c1 =>
(if c1 = 0 then
some ((-1), M)
else
(if x2 ≤ 40 then
(if 0 ≤ x2 then
(M_makeRow F M x1 x2).bind fun c5 =>
some (x2, c5)
else
(M_find F M 5).bind fun c6 =>
some (c6.1, c6.2))
else
some ((-1), M)))
def B_M_saved_13 (F : Nat) (M : Mem) (x1 : Int32) (x2 : Int32) (lp : Int32 → Option (Sum Int32 Unit)) (x3 : Int32) : Option (Sum Int32 Unit) :=
(if 200 < x3 then
some (.inr ())
else
(M_fallen F M x2 x1 x3).bind fun c4 =>
(M_has F M c4 x1).bind fun c5 =>
(if c5 = 0 then
some (.inl x3)
else
lp (x3 + 1)))
def L_M_saved_13 (F : Nat) (M : Mem) (x1 : Int32) (x2 : Int32) : Nat → Int32 → Option (Sum Int32 Unit)
  | 0, _ => none
  | n + 1, x3 => B_M_saved_13 F M x1 x2 (L_M_saved_13 F M x1 x2 n) x3
def M_saved (F : Nat) (M : Mem) (x1 : Int32) (x2 : Int32) : Option Int32 :=
(M_areTwo F M x1 x2).bind fun c1 =>
(if c1 = 0 then
some (-1)
else
(L_M_saved_13 F M x1 x2 F 0).bind fun u7 => Sum.elim (fun r8 =>
some r8) (fun w9 =>
some (-9)) u7)
def M_sure (F : Nat) (M : Mem) (x1 : Int32) : Option (Int32 × Mem) :=
(M_layBlushes F M x1).bind fun c1 =>
(if c1.1 = 0 then
some ((c1.2 100 30), c1.2)
else
some (c1.1, c1.2))
def M_tear (F : Nat) (M : Mem) (x1 : Int32) : Option (Int32 × Mem) :=
(M_isRow F M x1).bind fun c1 =>
(if c1 = 0 then
some ((-1), M)
else
(ard M 103 x1).bind fun t3 =>
(if 0 ≤ t3 then
(awr M 103 x1 (-1)).bind fun M5 =>
some (1, M5)
else
(M_find F M 1).bind fun c6 =>
some (c6.1, c6.2)))
def B_M_text_34 (F : Nat) (x1 : Int32) (x2 : Int32) (lp : Mem → Int32 → Option Mem) (M : Mem) (x3 : Int32) : Option Mem :=
(if 80 ≤ x3 then
some M
else
(awr M 106 ((80 * x1) + x3) 32).bind fun M7 =>
lp M7 (x3 + 1))
def L_M_text_34 (F : Nat) (x1 : Int32) (x2 : Int32) : Nat → Mem → Int32 → Option Mem
  | 0, _, _ => none
  | n + 1, M, x3 => B_M_text_34 F x1 x2 (L_M_text_34 F x1 x2 n) M x3
def M_text (F : Nat) (M : Mem) (x1 : Int32) (x2 : Int32) : Option (Int32 × Mem) :=
(M_isText F M x1).bind fun c1 =>
(if c1 = 0 then
some ((-1), M)
else
(if x2 ≤ 80 then
(if 0 ≤ x2 then
(awr M 105 x1 x2).bind fun M5 =>
(L_M_text_34 F x1 x2 F M5 0).bind fun u8 =>
some (x2, u8)
else
(M_find F M 5).bind fun c9 =>
some (c9.1, c9.2))
else
some ((-1), M)))
def B_M_trust_30 (F : Nat) (M : Mem) (x2 : Int32) (x3 : Int32) (x4 : Int32) (lp : Int32 → Int32 → Option Int32) (x5 : Int32) (x6 : Int32) : Option Int32 :=
(if (M 101 1) ≤ x6 then
some x5
else
(M_isOpen F M x6).bind fun c5 =>
(if c5 = 0 then
lp (x5 ||| 0) (x6 + 1)
else
(M_of F M x6 0).bind fun c7 =>
(M_has F M x3 c7).bind fun c8 =>
(if c8 = 0 then
lp (x5 ||| 0) (x6 + 1)
else
(M_of F M x6 1).bind fun c10 =>
lp (x5 ||| (1 <<< (c10 &&& 31))) (x6 + 1))))
def L_M_trust_30 (F : Nat) (M : Mem) (x2 : Int32) (x3 : Int32) (x4 : Int32) : Nat → Int32 → Int32 → Option Int32
  | 0, _, _ => none
  | n + 1, x5, x6 => B_M_trust_30 F M x2 x3 x4 (L_M_trust_30 F M x2 x3 x4 n) x5 x6
def B_M_trust_18 (F : Nat) (M : Mem) (x2 : Int32) (lp : Int32 → Int32 → Option (Sum Int32 Unit)) (x3 : Int32) (x4 : Int32) : Option (Sum Int32 Unit) :=
(if 4 ≤ x4 then
some (.inr ())
else
(L_M_trust_30 F M x2 x3 x4 F 0 0).bind fun u11 =>
(M_has F M u11 x2).bind fun c12 =>
(if c12 = 0 then
lp u11 (x4 + 1)
else
some (.inl x4)))
def L_M_trust_18 (F : Nat) (M : Mem) (x2 : Int32) : Nat → Int32 → Int32 → Option (Sum Int32 Unit)
  | 0, _, _ => none
  | n + 1, x3, x4 => B_M_trust_18 F M x2 (L_M_trust_18 F M x2 n) x3 x4
def M_trust (F : Nat) (M : Mem) (x1 : Int32) (x2 : Int32) : Option Int32 :=
(M_areTwo F M x1 x2).bind fun c1 =>
(if c1 = 0 then
some (-1)
else
(L_M_trust_18 F M x2 F (1 <<< (x1 &&& 31)) 1).bind fun u14 => Sum.elim (fun r15 =>
some r15) (fun w16 =>
some (-9)) u14)
def B_M_undo_29 (F : Nat) (x1 : Int32) (x2 : Int32) (lp : Mem → Int32 → Option Mem) (M : Mem) (x3 : Int32) : Option Mem :=
(if 73 ≤ x3 then
some M
else
(if x2 ≤ 0 then
some M
else
(ard M 101 ((74 + (73 * x1)) + x3)).bind fun t5 =>
(awr M 101 (1 + x3) t5).bind fun M6 =>
lp M6 (x3 + 1)))
def L_M_undo_29 (F : Nat) (x1 : Int32) (x2 : Int32) : Nat → Mem → Int32 → Option Mem
  | 0, _, _ => none
  | n + 1, M, x3 => B_M_undo_29 F x1 x2 (L_M_undo_29 F x1 x2 n) M x3
def M_undo (F : Nat) (M : Mem) (x1 : Int32) : Option (Int32 × Mem) :=
(M_in F M ((x1).toInt64) 0 (((M 101 0)).toInt64)).bind fun c1 =>
(if c1 = 0 then
some ((-1), M)
else
(L_M_undo_29 F x1 ((M 101 0) - x1) F M 0).bind fun u7 =>
(awr u7 101 0 x1).bind fun M8 =>
some (((M 101 0) - x1), M8))
def M_upper (F : Nat) (M : Mem) : Option Int64 :=
some ((M 100 8).toInt64)
def B_M_village_47 (F : Nat)  (lp : Mem → Int32 → Option Mem) (M : Mem) (x2 : Int32) : Option Mem :=
(if (M 100 1) ≤ x2 then
some M
else
(ard M 108 x2).bind fun t8 =>
(awr M 102 x2 t8).bind fun M9 =>
lp M9 (x2 + 1))
def L_M_village_47 (F : Nat) : Nat → Mem → Int32 → Option Mem
  | 0, _, _ => none
  | n + 1, M, x2 => B_M_village_47 F (L_M_village_47 F n) M x2
def B_M_village_75 (F : Nat)  (lp : Mem → Int32 → Option Mem) (M : Mem) (x2 : Int32) : Option Mem :=
(if 2994 ≤ x2 then
some M
else
(awr M 101 x2 0).bind fun M12 =>
lp M12 (x2 + 1))
def L_M_village_75 (F : Nat) : Nat → Mem → Int32 → Option Mem
  | 0, _, _ => none
  | n + 1, M, x2 => B_M_village_75 F (L_M_village_75 F n) M x2
def B_M_village_97 (F : Nat)  (lp : Mem → Int32 → Option Mem) (M : Mem) (x2 : Int32) : Option Mem :=
(if (M 100 18) ≤ x2 then
some M
else
(ard M 109 (4 * x2)).bind fun t15 =>
(ard M 109 ((4 * x2) + 1)).bind fun t16 =>
(ard M 109 ((4 * x2) + 2)).bind fun t17 =>
(ard M 109 ((4 * x2) + 3)).bind fun t18 =>
(M_addDraft F M t15 t16 t17 t18).bind fun c19 =>
lp c19 (x2 + 1))
def L_M_village_97 (F : Nat) : Nat → Mem → Int32 → Option Mem
  | 0, _, _ => none
  | n + 1, M, x2 => B_M_village_97 F (L_M_village_97 F n) M x2
def B_M_village_155 (F : Nat)  (lp : Mem → Int32 → Option Mem) (M : Mem) (x2 : Int32) : Option Mem :=
(if 4 ≤ x2 then
some M
else
(awr M 101 ((2994 * x2) + 0) (-1)).bind fun M22 =>
lp M22 (x2 + 1))
def L_M_village_155 (F : Nat) : Nat → Mem → Int32 → Option Mem
  | 0, _, _ => none
  | n + 1, M, x2 => B_M_village_155 F (L_M_village_155 F n) M x2
def M_village (F : Nat) (M : Mem) (x1 : Int32) : Option (Int32 × Mem) :=
(M_isText F M x1).bind fun c1 =>
(if c1 = 0 then
some ((-1), M)
else
(ard M 105 x1).bind fun t3 =>
(if 0 ≤ t3 then
(M_faultOf F M x1).bind fun c5 =>
(if c5.1 = (-9) then
(L_M_village_47 F F (up c5.2 100 1 (c5.2 100 16)) 0).bind fun u10 =>
(L_M_village_75 F F u10 0).bind fun u13 =>
(L_M_village_97 F F u13 0).bind fun u20 =>
(L_M_village_155 F F u20 1).bind fun u23 =>
some ((u23 100 1), u23)
else
some ((-4), c5.2))
else
(M_find F M 1).bind fun c24 =>
some (c24.1, c24.2)))
def B_M_week_28 (F : Nat)  (lp : Mem → Int32 → Int32 → Option (Int32 × Mem)) (M : Mem) (x1 : Int32) (x2 : Int32) : Option (Int32 × Mem) :=
(if (M 101 1) ≤ x2 then
some (x1, M)
else
(M_isOpen F M x2).bind fun c6 =>
(if c6 = 0 then
lp M x1 (x2 + 1)
else
(ard M 101 ((2 + (6 * x2)) + 4)).bind fun t8 =>
(awr M 101 ((2 + (6 * x2)) + 4) (t8 + 1)).bind fun M9 =>
(M_of F M9 x2 3).bind fun c10 =>
(M_of F M9 x2 1).bind fun c11 =>
(M_growth F M9 c11).bind fun c12 =>
((if (c10 + c12) ≤ 99 then
some (c10 + c12)
else
some 99)).bind fun (j13 : Int32) =>
(M_of F M9 x2 4).bind fun c14 =>
((if c14 ≤ 3 then
some 0
else
(M_of F M9 x2 2).bind fun c22 =>
(if c22 = 2 then
some 0
else
some 1))).bind fun (j15 : Int32) =>
((if j15 = 0 then
some 0
else
some j13)).bind fun (j16 : Int32) =>
((if j15 = 0 then
some j13
else
some 0)).bind fun (j17 : Int32) =>
(M_leave F M9 x2 j17).bind fun c18 =>
lp c18 (x1 + j16) (x2 + 1)))
def L_M_week_28 (F : Nat) : Nat → Mem → Int32 → Int32 → Option (Int32 × Mem)
  | 0, _, _, _ => none
  | n + 1, M, x1, x2 => B_M_week_28 F (L_M_week_28 F n) M x1 x2
def M_week (F : Nat) (M : Mem) : Option (Int32 × Mem) :=
(if (M 100 1) = 0 then
some ((-4), M)
else
(M_isFull F M).bind fun c2 =>
(if c2 = 0 then
(M_keepPast F M).bind fun c4 =>
(L_M_week_28 F F c4 0 0).bind fun u25 =>
some (u25.1, u25.2)
else
some ((-2), M)))
def B_M_worst_16 (F : Nat) (M : Mem)  (lp : Int32 → Int32 → Int32 → Option (Int32 × Int32)) (x1 : Int32) (x2 : Int32) (x3 : Int32) : Option (Int32 × Int32) :=
(if (M 100 1) ≤ x3 then
some (x1, x2)
else
(M_fallen F M x3 (-9) 0).bind fun c3 =>
(M_bits F M c3).bind fun c4 =>
((if c4 ≤ x2 then
some x1
else
some x3)).bind fun (j5 : Int32) =>
(if c4 ≤ x2 then
lp j5 x2 (x3 + 1)
else
lp j5 c4 (x3 + 1)))
def L_M_worst_16 (F : Nat) (M : Mem) : Nat → Int32 → Int32 → Int32 → Option (Int32 × Int32)
  | 0, _, _, _ => none
  | n + 1, x1, x2, x3 => B_M_worst_16 F M (L_M_worst_16 F M n) x1 x2 x3
def M_worst (F : Nat) (M : Mem) : Option (Int32 × Mem) :=
(if (M 100 1) = 0 then
some ((-4), M)
else
(L_M_worst_16 F M F 0 (-1) 0).bind fun u8 =>
some (u8.1, (up M 100 7 u8.2)))
