/-! the methods as pure functions (by program: wip/whole/emit.py, from the bytecode) -/
def D_become (F : Nat) (M : Mem) (k0 : Nat) (x1 : Int32) (x2 : Int32) (x3 : Int32) (x4 : Int32) : Option Mem :=
some (up (up (up (up (up (up M k0 0 x1) k0 1 x2) k0 2 x3) k0 3 x4) k0 4 0) k0 5 0)
def D_becomeLike (F : Nat) (M : Mem) (k0 : Nat) (k1 : Nat) : Option Mem :=
(D_become F M k0 (M k1 0) (M k1 1) (M k1 2) (M k1 3)).bind fun c1 =>
some (up (up c1 k0 4 (c1 k1 4)) k0 5 ((up c1 k0 4 (c1 k1 4)) k1 5))
def D_isOpen (F : Nat) (M : Mem) (k0 : Nat) : Option Int32 :=
(if (M k0 3) ≤ 0 then
some 0
else
some 1)
def D_isOpenOf (F : Nat) (M : Mem) (k0 : Nat) (x1 : Int32) : Option Int32 :=
(if (M k0 3) ≤ 0 then
some 0
else
(if (M k0 2) = x1 then
some 1
else
some 0))
def D_packed (F : Nat) (M : Mem) (k0 : Nat) : Option Int32 :=
some ((((((M k0 0) ||| ((M k0 1) <<< (3 &&& 31))) ||| ((M k0 2) <<< (6 &&& 31))) ||| ((M k0 5) <<< (8 &&& 31))) ||| ((M k0 4) <<< (10 &&& 31))) ||| ((M k0 3) <<< (16 &&& 31)))
def D_unpack (F : Nat) (M : Mem) (k0 : Nat) (x1 : Int32) : Option Mem :=
(D_become F M k0 (x1 &&& 7) ((x1 >>> (3 &&& 31)) &&& 7) ((x1 >>> (6 &&& 31)) &&& 3) ((x1 >>> (16 &&& 31)) &&& 127)).bind fun c1 =>
some (up (up c1 k0 5 ((x1 >>> (8 &&& 31)) &&& 3)) k0 4 ((x1 >>> (10 &&& 31)) &&& 63))
def D_worth (F : Nat) (M : Mem) (k0 : Nat) : Option Int32 :=
some ((M k0 3) * ((M k0 2) + 1))
def S_isMissing (F : Nat) (M : Mem) (k0 : Nat) : Option Int32 :=
(if (M k0 1) = (-1) then
some 1
else
some 0)
def S_hasPlace (F : Nat) (M : Mem) (k0 : Nat) (x1 : Int32) : Option Int32 :=
(if x1 < 0 then
some 0
else
(if (M k0 1) ≤ x1 then
some 0
else
some 1))
def S_findingAt (F : Nat) (M : Mem) (k0 : Nat) (x1 : Int32) : Option Int32 :=
(S_isMissing F M k0).bind fun c1 =>
(if c1 = 0 then
(S_hasPlace F M k0 x1).bind fun c3 =>
(if c3 = 0 then
some 2
else
some 0)
else
some 1)
def S_hasStretch (F : Nat) (M : Mem) (k0 : Nat) (x1 : Int32) (x2 : Int32) : Option Int32 :=
(if x1 < 0 then
some 0
else
(if (M k0 1) < x1 then
some 0
else
(if ((M k0 1) - x1) < x2 then
some 0
else
some 1)))
def B_S_mixedInto_15 (F : Nat) (M : Mem) (k0 : Nat) (lp : Int64 → Int32 → Option Int64) (x3 : Int64) (x5 : Int32) : Option Int64 :=
(if (M k0 1) ≤ x5 then
some x3
else
(ard M (k0 + 1) x5).bind fun t2 =>
lp ((31 * x3) + ((t2).toInt64)) (x5 + 1))
def L_S_mixedInto_15 (F : Nat) (M : Mem) (k0 : Nat) : Nat → Int64 → Int32 → Option Int64
  | 0, _, _ => none
  | n + 1, x3, x5 => B_S_mixedInto_15 F M k0 (L_S_mixedInto_15 F M k0 n) x3 x5
def S_mixedInto (F : Nat) (M : Mem) (k0 : Nat) (x1 : Int64) : Option Int64 :=
(L_S_mixedInto_15 F M k0 F ((31 * x1) + (((M k0 1)).toInt64)) 0).bind fun u3 =>
some u3
def B_S_renew_7 (F : Nat) (k0 : Nat) (x1 : Int32) (x2 : Int32) (lp : Mem → Int32 → Option Mem) (M : Mem) (x3 : Int32) : Option Mem :=
(if x1 ≤ x3 then
some M
else
(if (Int32.ofNat (ln (k0 + 1))) ≤ x3 then
some M
else
(awr M (k0 + 1) x3 x2).bind fun M3 =>
lp M3 (x3 + 1)))
def L_S_renew_7 (F : Nat) (k0 : Nat) (x1 : Int32) (x2 : Int32) : Nat → Mem → Int32 → Option Mem
  | 0, _, _ => none
  | n + 1, M, x3 => B_S_renew_7 F k0 x1 x2 (L_S_renew_7 F k0 x1 x2 n) M x3
def S_renew (F : Nat) (M : Mem) (k0 : Nat) (x1 : Int32) (x2 : Int32) : Option Mem :=
(L_S_renew_7 F k0 x1 x2 F (up M k0 1 x1) 0).bind fun u4 =>
some u4
def J_bitCount (F : Nat) (M : Mem) (x0 : Int32) : Option Int32 :=
some ((((((((x0 - ((((x0).toUInt32 >>> ((1 : Int32).toUInt32 &&& Int32.toUInt32 31)).toInt32) &&& 1431655765)) &&& 858993459) + (((((x0 - ((((x0).toUInt32 >>> ((1 : Int32).toUInt32 &&& Int32.toUInt32 31)).toInt32) &&& 1431655765))).toUInt32 >>> ((2 : Int32).toUInt32 &&& Int32.toUInt32 31)).toInt32) &&& 858993459)) + ((((((x0 - ((((x0).toUInt32 >>> ((1 : Int32).toUInt32 &&& Int32.toUInt32 31)).toInt32) &&& 1431655765)) &&& 858993459) + (((((x0 - ((((x0).toUInt32 >>> ((1 : Int32).toUInt32 &&& Int32.toUInt32 31)).toInt32) &&& 1431655765))).toUInt32 >>> ((2 : Int32).toUInt32 &&& Int32.toUInt32 31)).toInt32) &&& 858993459))).toUInt32 >>> ((4 : Int32).toUInt32 &&& Int32.toUInt32 31)).toInt32)) &&& 252645135) + ((((((((x0 - ((((x0).toUInt32 >>> ((1 : Int32).toUInt32 &&& Int32.toUInt32 31)).toInt32) &&& 1431655765)) &&& 858993459) + (((((x0 - ((((x0).toUInt32 >>> ((1 : Int32).toUInt32 &&& Int32.toUInt32 31)).toInt32) &&& 1431655765))).toUInt32 >>> ((2 : Int32).toUInt32 &&& Int32.toUInt32 31)).toInt32) &&& 858993459)) + ((((((x0 - ((((x0).toUInt32 >>> ((1 : Int32).toUInt32 &&& Int32.toUInt32 31)).toInt32) &&& 1431655765)) &&& 858993459) + (((((x0 - ((((x0).toUInt32 >>> ((1 : Int32).toUInt32 &&& Int32.toUInt32 31)).toInt32) &&& 1431655765))).toUInt32 >>> ((2 : Int32).toUInt32 &&& Int32.toUInt32 31)).toInt32) &&& 858993459))).toUInt32 >>> ((4 : Int32).toUInt32 &&& Int32.toUInt32 31)).toInt32)) &&& 252645135)).toUInt32 >>> ((8 : Int32).toUInt32 &&& Int32.toUInt32 31)).toInt32)) + (((((((((x0 - ((((x0).toUInt32 >>> ((1 : Int32).toUInt32 &&& Int32.toUInt32 31)).toInt32) &&& 1431655765)) &&& 858993459) + (((((x0 - ((((x0).toUInt32 >>> ((1 : Int32).toUInt32 &&& Int32.toUInt32 31)).toInt32) &&& 1431655765))).toUInt32 >>> ((2 : Int32).toUInt32 &&& Int32.toUInt32 31)).toInt32) &&& 858993459)) + ((((((x0 - ((((x0).toUInt32 >>> ((1 : Int32).toUInt32 &&& Int32.toUInt32 31)).toInt32) &&& 1431655765)) &&& 858993459) + (((((x0 - ((((x0).toUInt32 >>> ((1 : Int32).toUInt32 &&& Int32.toUInt32 31)).toInt32) &&& 1431655765))).toUInt32 >>> ((2 : Int32).toUInt32 &&& Int32.toUInt32 31)).toInt32) &&& 858993459))).toUInt32 >>> ((4 : Int32).toUInt32 &&& Int32.toUInt32 31)).toInt32)) &&& 252645135) + ((((((((x0 - ((((x0).toUInt32 >>> ((1 : Int32).toUInt32 &&& Int32.toUInt32 31)).toInt32) &&& 1431655765)) &&& 858993459) + (((((x0 - ((((x0).toUInt32 >>> ((1 : Int32).toUInt32 &&& Int32.toUInt32 31)).toInt32) &&& 1431655765))).toUInt32 >>> ((2 : Int32).toUInt32 &&& Int32.toUInt32 31)).toInt32) &&& 858993459)) + ((((((x0 - ((((x0).toUInt32 >>> ((1 : Int32).toUInt32 &&& Int32.toUInt32 31)).toInt32) &&& 1431655765)) &&& 858993459) + (((((x0 - ((((x0).toUInt32 >>> ((1 : Int32).toUInt32 &&& Int32.toUInt32 31)).toInt32) &&& 1431655765))).toUInt32 >>> ((2 : Int32).toUInt32 &&& Int32.toUInt32 31)).toInt32) &&& 858993459))).toUInt32 >>> ((4 : Int32).toUInt32 &&& Int32.toUInt32 31)).toInt32)) &&& 252645135)).toUInt32 >>> ((8 : Int32).toUInt32 &&& Int32.toUInt32 31)).toInt32))).toUInt32 >>> ((16 : Int32).toUInt32 &&& Int32.toUInt32 31)).toInt32)) &&& 63)
def H_becomeLike (F : Nat) (M : Mem) (k0 : Nat) (k1 : Nat) : Option Mem :=
(acp (up M k0 0 (M k1 0)) (k1 + 1) 0 (k0 + 1) 0 (((up M k0 0 (M k1 0)) k0 0) + 1)).bind fun M1 =>
(acp M1 (k1 + 2) 0 (k0 + 2) 0 (((M1 k0 0) + 1) * 12)).bind fun M2 =>
some M2
def H_isFullFor (F : Nat) (M : Mem) (k0 : Nat) (x1 : Int32) : Option Int32 :=
(if ((M k0 0) + x1) ≤ 40 then
some 0
else
some 1)
def B_H_save_32 (F : Nat) (k0 : Nat) (k1 : Nat) (lp : Mem → Int32 → Option Mem) (M : Mem) (x2 : Int32) : Option Mem :=
(if (M k1 1) ≤ x2 then
some M
else
(idx x2 (ln (k1 + 2))).bind fun z5 =>
(D_packed F M ((k1 + 2) + 1 + z5)).bind fun c6 =>
(awr M (k0 + 2) (((M k0 0) * 12) + x2) c6).bind fun M7 =>
lp M7 (x2 + 1))
def L_H_save_32 (F : Nat) (k0 : Nat) (k1 : Nat) : Nat → Mem → Int32 → Option Mem
  | 0, _, _ => none
  | n + 1, M, x2 => B_H_save_32 F k0 k1 (L_H_save_32 F k0 k1 n) M x2
def H_save (F : Nat) (M : Mem) (k0 : Nat) (k1 : Nat) : Option Mem :=
(if (M k0 0) < 0 then
some M
else
(if (M k0 0) ≤ 40 then
(awr M (k0 + 1) (M k0 0) (M k1 1)).bind fun M3 =>
(L_H_save_32 F k0 k1 F M3 0).bind fun u8 =>
some u8
else
some M))
def H_begin (F : Nat) (M : Mem) (k0 : Nat) (k1 : Nat) : Option Mem :=
(H_isFullFor F M k0 1).bind fun c1 =>
(if c1 = 0 then
(H_save F M k0 k1).bind fun c3 =>
some (up c3 k0 0 ((c3 k0 0) + 1))
else
some M)
def B_H_goBack_30 (F : Nat) (k0 : Nat) (x1 : Int32) (k2 : Nat) (lp : Mem → Int32 → Option Mem) (M : Mem) (x3 : Int32) : Option Mem :=
(if (M k2 1) ≤ x3 then
some M
else
(idx x3 (ln (k2 + 2))).bind fun z5 =>
(ard M (k0 + 2) ((x1 * 12) + x3)).bind fun t6 =>
(D_unpack F M ((k2 + 2) + 1 + z5) t6).bind fun c7 =>
lp c7 (x3 + 1))
def L_H_goBack_30 (F : Nat) (k0 : Nat) (x1 : Int32) (k2 : Nat) : Nat → Mem → Int32 → Option Mem
  | 0, _, _ => none
  | n + 1, M, x3 => B_H_goBack_30 F k0 x1 k2 (L_H_goBack_30 F k0 x1 k2 n) M x3
def H_goBack (F : Nat) (M : Mem) (k0 : Nat) (x1 : Int32) (k2 : Nat) : Option Mem :=
(if x1 < 0 then
some M
else
(if x1 ≤ (M k0 0) then
(ard (up M k0 0 x1) (k0 + 1) x1).bind fun t3 =>
(L_H_goBack_30 F k0 x1 k2 F (up (up M k0 0 x1) k2 1 t3) 0).bind fun u8 =>
some u8
else
some M))
def V_addDraft (F : Nat) (M : Mem) (k0 : Nat) (x1 : Int32) (x2 : Int32) (x3 : Int32) (x4 : Int32) : Option Mem :=
(if 12 ≤ (M k0 1) then
some M
else
(idx (M k0 1) (ln (k0 + 2))).bind fun z2 =>
(D_become F M ((k0 + 2) + 1 + z2) x1 x2 x3 x4).bind fun c3 =>
some (up c3 k0 1 ((c3 k0 1) + 1)))
def V_addPerson (F : Nat) (M : Mem) (k0 : Nat) (x1 : Int32) : Option Mem :=
(if 6 ≤ (M k0 0) then
some M
else
(awr M (k0 + 1) (M k0 0) x1).bind fun M2 =>
some (up M2 k0 0 ((M2 k0 0) + 1)))
def V_becomeEmpty (F : Nat) (M : Mem) (k0 : Nat) : Option Mem :=
some (up (up M k0 0 0) k0 1 0)
def B_V_becomeLike_18 (F : Nat) (k0 : Nat) (k1 : Nat) (lp : Mem → Int32 → Option Mem) (M : Mem) (x2 : Int32) : Option Mem :=
(if (M k0 0) ≤ x2 then
some M
else
(ard M (k1 + 1) x2).bind fun t2 =>
(awr M (k0 + 1) x2 t2).bind fun M3 =>
lp M3 (x2 + 1))
def L_V_becomeLike_18 (F : Nat) (k0 : Nat) (k1 : Nat) : Nat → Mem → Int32 → Option Mem
  | 0, _, _ => none
  | n + 1, M, x2 => B_V_becomeLike_18 F k0 k1 (L_V_becomeLike_18 F k0 k1 n) M x2
def B_V_becomeLike_46 (F : Nat) (k0 : Nat) (k1 : Nat) (lp : Mem → Int32 → Option Mem) (M : Mem) (x2 : Int32) : Option Mem :=
(if (M k0 1) ≤ x2 then
some M
else
(idx x2 (ln (k0 + 2))).bind fun z6 =>
(idx x2 (ln (k1 + 2))).bind fun z7 =>
(D_becomeLike F M ((k0 + 2) + 1 + z6) ((k1 + 2) + 1 + z7)).bind fun c8 =>
lp c8 (x2 + 1))
def L_V_becomeLike_46 (F : Nat) (k0 : Nat) (k1 : Nat) : Nat → Mem → Int32 → Option Mem
  | 0, _, _ => none
  | n + 1, M, x2 => B_V_becomeLike_46 F k0 k1 (L_V_becomeLike_46 F k0 k1 n) M x2
def V_becomeLike (F : Nat) (M : Mem) (k0 : Nat) (k1 : Nat) : Option Mem :=
(L_V_becomeLike_18 F k0 k1 F (up (up M k0 0 (M k1 0)) k0 1 ((up M k0 0 (M k1 0)) k1 1)) 0).bind fun u4 =>
(L_V_becomeLike_46 F k0 k1 F u4 0).bind fun u9 =>
some u9
def V_hasDraft (F : Nat) (M : Mem) (k0 : Nat) (x1 : Int32) : Option Int32 :=
(if x1 < 0 then
some 0
else
(if (M k0 1) ≤ x1 then
some 0
else
some 1))
def B_V_isRing_47 (F : Nat) (M : Mem) (k0 : Nat) (k1 : Nat) (x2 : Int32) (x3 : Int32) (lp : Int32 → Int32 → Option (Sum Int32 Unit)) (x4 : Int32) (x5 : Int32) : Option (Sum Int32 Unit) :=
(if x2 ≤ x5 then
some (.inr ())
else
((if x2 ≤ (x5 + 1) then
some 0
else
some (x5 + 1))).bind fun (j10 : Int32) =>
(ard M k1 j10).bind fun t11 =>
(ard M k1 x5).bind fun t12 =>
(V_hasDraft F M k0 t12).bind fun c13 =>
(if c13 = 0 then
some (.inl 0)
else
(V_hasDraft F M k0 t11).bind fun c15 =>
(if c15 = 0 then
some (.inl 0)
else
(ard M k1 x5).bind fun t17 =>
(idx t17 (ln (k0 + 2))).bind fun z18 =>
(D_isOpenOf F M ((k0 + 2) + 1 + z18) x3).bind fun c19 =>
(if c19 = 0 then
some (.inl 0)
else
(idx t11 (ln (k0 + 2))).bind fun z21 =>
(if (M ((k0 + 2) + 1 + z18) 1) = (M ((k0 + 2) + 1 + z21) 0) then
(if (x4 &&& (1 <<< ((M ((k0 + 2) + 1 + z18) 0) &&& 31))) = 0 then
lp (x4 ||| (1 <<< ((M ((k0 + 2) + 1 + z18) 0) &&& 31))) (x5 + 1)
else
some (.inl 0))
else
some (.inl 0))))))
def L_V_isRing_47 (F : Nat) (M : Mem) (k0 : Nat) (k1 : Nat) (x2 : Int32) (x3 : Int32) : Nat → Int32 → Int32 → Option (Sum Int32 Unit)
  | 0, _, _ => none
  | n + 1, x4, x5 => B_V_isRing_47 F M k0 k1 x2 x3 (L_V_isRing_47 F M k0 k1 x2 x3 n) x4 x5
def V_isRing (F : Nat) (M : Mem) (k0 : Nat) (k1 : Nat) (x2 : Int32) : Option Int32 :=
(if x2 < 3 then
some 0
else
(if 6 < x2 then
some 0
else
(if (Int32.ofNat (ln k1)) < x2 then
some 0
else
(ard M k1 0).bind fun t4 =>
(V_hasDraft F M k0 t4).bind fun c5 =>
(if c5 = 0 then
some 0
else
(ard M k1 0).bind fun t7 =>
(idx t7 (ln (k0 + 2))).bind fun z8 =>
(L_V_isRing_47 F M k0 k1 x2 (M ((k0 + 2) + 1 + z8) 2) F 0 0).bind fun u25 => Sum.elim (fun r26 =>
some r26) (fun w27 =>
(if (M ((k0 + 2) + 1 + z8) 2) = 2 then
some 0
else
some 1)) u25))))
def B_V_clearRing_26 (F : Nat) (M : Mem) (k0 : Nat) (k1 : Nat) (x2 : Int32) (lp : Int32 → Int32 → Option Int32) (x3 : Int32) (x4 : Int32) : Option Int32 :=
(if x2 ≤ x4 then
some x3
else
(ard M k1 x4).bind fun t6 =>
(idx t6 (ln (k0 + 2))).bind fun z7 =>
lp (if (M ((k0 + 2) + 1 + z7) 3) < x3 then (M ((k0 + 2) + 1 + z7) 3) else x3) (x4 + 1))
def L_V_clearRing_26 (F : Nat) (M : Mem) (k0 : Nat) (k1 : Nat) (x2 : Int32) : Nat → Int32 → Int32 → Option Int32
  | 0, _, _ => none
  | n + 1, x3, x4 => B_V_clearRing_26 F M k0 k1 x2 (L_V_clearRing_26 F M k0 k1 x2 n) x3 x4
def B_V_clearRing_58 (F : Nat) (k0 : Nat) (k1 : Nat) (x2 : Int32) (x3 : Int32) (lp : Mem → Int32 → Option Mem) (M : Mem) (x4 : Int32) : Option Mem :=
(if x2 ≤ x4 then
some M
else
(ard M k1 x4).bind fun t10 =>
(idx t10 (ln (k0 + 2))).bind fun z11 =>
lp (up M ((k0 + 2) + 1 + z11) 3 ((M ((k0 + 2) + 1 + z11) 3) - x3)) (x4 + 1))
def L_V_clearRing_58 (F : Nat) (k0 : Nat) (k1 : Nat) (x2 : Int32) (x3 : Int32) : Nat → Mem → Int32 → Option Mem
  | 0, _, _ => none
  | n + 1, M, x4 => B_V_clearRing_58 F k0 k1 x2 x3 (L_V_clearRing_58 F k0 k1 x2 x3 n) M x4
def V_clearRing (F : Nat) (M : Mem) (k0 : Nat) (k1 : Nat) (x2 : Int32) : Option (Int32 × Mem) :=
(V_isRing F M k0 k1 x2).bind fun c1 =>
(if c1 = 0 then
some (0, M)
else
(ard M k1 0).bind fun t3 =>
(idx t3 (ln (k0 + 2))).bind fun z4 =>
(L_V_clearRing_26 F M k0 k1 x2 F (M ((k0 + 2) + 1 + z4) 3) 1).bind fun u8 =>
(L_V_clearRing_58 F k0 k1 x2 u8 F M 0).bind fun u12 =>
some (u8, u12))
def B_V_clearedByHalving_4 (F : Nat) (M : Mem) (k0 : Nat) (x1 : Int32) (lp : Int32 → Int32 → Option Int32) (x2 : Int32) (x3 : Int32) : Option Int32 :=
(if (M k0 1) ≤ x3 then
some x2
else
(idx x3 (ln (k0 + 2))).bind fun z2 =>
(if (M ((k0 + 2) + 1 + z2) 0) = x1 then
(idx x3 (ln (k0 + 2))).bind fun z4 =>
(idx x3 (ln (k0 + 2))).bind fun z5 =>
(dvi (M ((k0 + 2) + 1 + z5) 3) 2).bind fun t6 =>
lp (x2 + ((M ((k0 + 2) + 1 + z4) 3) - t6)) (x3 + 1)
else
(idx x3 (ln (k0 + 2))).bind fun z7 =>
(if (M ((k0 + 2) + 1 + z7) 1) = x1 then
(idx x3 (ln (k0 + 2))).bind fun z9 =>
(idx x3 (ln (k0 + 2))).bind fun z10 =>
(dvi (M ((k0 + 2) + 1 + z10) 3) 2).bind fun t11 =>
lp (x2 + ((M ((k0 + 2) + 1 + z9) 3) - t11)) (x3 + 1)
else
lp x2 (x3 + 1))))
def L_V_clearedByHalving_4 (F : Nat) (M : Mem) (k0 : Nat) (x1 : Int32) : Nat → Int32 → Int32 → Option Int32
  | 0, _, _ => none
  | n + 1, x2, x3 => B_V_clearedByHalving_4 F M k0 x1 (L_V_clearedByHalving_4 F M k0 x1 n) x2 x3
def V_clearedByHalving (F : Nat) (M : Mem) (k0 : Nat) (x1 : Int32) : Option Int32 :=
(L_V_clearedByHalving_4 F M k0 x1 F 0 0).bind fun u12 =>
some u12
def B_V_owing_4 (F : Nat) (M : Mem) (k0 : Nat) (x1 : Int32) (lp : Int32 → Int32 → Option Int32) (x2 : Int32) (x3 : Int32) : Option Int32 :=
(if (M k0 1) ≤ x3 then
some x2
else
(idx x3 (ln (k0 + 2))).bind fun z2 =>
(if (M ((k0 + 2) + 1 + z2) 0) = x1 then
(idx x3 (ln (k0 + 2))).bind fun z4 =>
(D_worth F M ((k0 + 2) + 1 + z4)).bind fun c5 =>
lp (x2 + c5) (x3 + 1)
else
lp x2 (x3 + 1)))
def L_V_owing_4 (F : Nat) (M : Mem) (k0 : Nat) (x1 : Int32) : Nat → Int32 → Int32 → Option Int32
  | 0, _, _ => none
  | n + 1, x2, x3 => B_V_owing_4 F M k0 x1 (L_V_owing_4 F M k0 x1 n) x2 x3
def V_owing (F : Nat) (M : Mem) (k0 : Nat) (x1 : Int32) : Option Int32 :=
(L_V_owing_4 F M k0 x1 F 0 0).bind fun u6 =>
some u6
def B_V_owed_5 (F : Nat) (M : Mem) (k0 : Nat) (x1 : Int32) (x2 : Int32) (lp : Int32 → Int32 → Option Int32) (x3 : Int32) (x4 : Int32) : Option Int32 :=
(if (M k0 1) ≤ x4 then
some x3
else
(idx x4 (ln (k0 + 2))).bind fun z2 =>
(if (M ((k0 + 2) + 1 + z2) 1) = x1 then
(idx x4 (ln (k0 + 2))).bind fun z4 =>
(if (x2 &&& (1 <<< ((M ((k0 + 2) + 1 + z4) 0) &&& 31))) = 0 then
(idx x4 (ln (k0 + 2))).bind fun z6 =>
(D_worth F M ((k0 + 2) + 1 + z6)).bind fun c7 =>
lp (x3 + c7) (x4 + 1)
else
lp x3 (x4 + 1))
else
lp x3 (x4 + 1)))
def L_V_owed_5 (F : Nat) (M : Mem) (k0 : Nat) (x1 : Int32) (x2 : Int32) : Nat → Int32 → Int32 → Option Int32
  | 0, _, _ => none
  | n + 1, x3, x4 => B_V_owed_5 F M k0 x1 x2 (L_V_owed_5 F M k0 x1 x2 n) x3 x4
def V_owed (F : Nat) (M : Mem) (k0 : Nat) (x1 : Int32) (x2 : Int32) : Option Int32 :=
(L_V_owed_5 F M k0 x1 x2 F 0 0).bind fun u8 =>
some u8
def V_hasPerson (F : Nat) (M : Mem) (k0 : Nat) (x1 : Int32) : Option Int32 :=
(if x1 < 0 then
some 0
else
(if (M k0 0) ≤ x1 then
some 0
else
some 1))
def V_kindOf (F : Nat) (M : Mem) (k0 : Nat) (x1 : Int32) : Option Int32 :=
(V_hasPerson F M k0 x1).bind fun c1 =>
(if c1 = 0 then
some 0
else
(ard M (k0 + 1) x1).bind fun t3 =>
some t3)
def V_reserve (F : Nat) (M : Mem) (k0 : Nat) (x1 : Int32) : Option Int32 :=
(V_kindOf F M k0 x1).bind fun c1 =>
(rod 83 c1).bind fun t2 =>
some t2
def B_V_fallen_28 (F : Nat) (M : Mem) (k0 : Nat) (x1 : Int32) (x2 : Int32) (x5 : Int32) (x6 : Int32) (lp : Int32 → Int32 → Option Int32) (x3 : Int32) (x7 : Int32) : Option Int32 :=
(if (M k0 0) ≤ x7 then
some x3
else
(if x7 = x2 then
lp x3 (x7 + 1)
else
(if (x3 &&& (1 <<< (x7 &&& 31))) = 0 then
(V_owing F M k0 x7).bind fun c6 =>
(V_owed F M k0 x7 x3).bind fun c7 =>
(V_reserve F M k0 x7).bind fun c8 =>
(if c6 ≤ (c7 + c8) then
lp x3 (x7 + 1)
else
lp (x3 ||| (1 <<< (x7 &&& 31))) (x7 + 1))
else
lp x3 (x7 + 1))))
def L_V_fallen_28 (F : Nat) (M : Mem) (k0 : Nat) (x1 : Int32) (x2 : Int32) (x5 : Int32) (x6 : Int32) : Nat → Int32 → Int32 → Option Int32
  | 0, _, _ => none
  | n + 1, x3, x7 => B_V_fallen_28 F M k0 x1 x2 x5 x6 (L_V_fallen_28 F M k0 x1 x2 x5 x6 n) x3 x7
def B_V_fallen_10 (F : Nat) (M : Mem) (k0 : Nat) (x1 : Int32) (x2 : Int32) (lp : Int32 → Int32 → Int32 → Option Int32) (x3 : Int32) (x4 : Int32) (x5 : Int32) : Option Int32 :=
(if 6 ≤ x5 then
some x3
else
(if x4 = 0 then
some x3
else
(L_V_fallen_28 F M k0 x1 x2 x5 x3 F x3 0).bind fun u10 =>
(if u10 = x3 then
lp u10 0 (x5 + 1)
else
lp u10 1 (x5 + 1))))
def L_V_fallen_10 (F : Nat) (M : Mem) (k0 : Nat) (x1 : Int32) (x2 : Int32) : Nat → Int32 → Int32 → Int32 → Option Int32
  | 0, _, _, _ => none
  | n + 1, x3, x4, x5 => B_V_fallen_10 F M k0 x1 x2 (L_V_fallen_10 F M k0 x1 x2 n) x3 x4 x5
def V_fallen (F : Nat) (M : Mem) (k0 : Nat) (x1 : Int32) (x2 : Int32) : Option Int32 :=
(L_V_fallen_10 F M k0 x1 x2 F (1 <<< (x1 &&& 31)) 1 0).bind fun u12 =>
some (u12 &&& ((1 <<< (x1 &&& 31)) ^^^ (-1)))
def V_growthFor (F : Nat) (M : Mem) (k0 : Nat) (x1 : Int32) : Option Int32 :=
(V_kindOf F M k0 x1).bind fun c1 =>
(rod 84 c1).bind fun t2 =>
some t2
def V_hasTwo (F : Nat) (M : Mem) (k0 : Nat) (x1 : Int32) (x2 : Int32) : Option Int32 :=
(V_hasPerson F M k0 x1).bind fun c1 =>
(if c1 = 0 then
some 0
else
(V_hasPerson F M k0 x2).bind fun c3 =>
(if c3 = 0 then
some 0
else
(if x1 = x2 then
some 0
else
some 1)))
def V_isEmpty (F : Nat) (M : Mem) (k0 : Nat) : Option Int32 :=
(if (M k0 0) = 0 then
some 1
else
some 0)
def B_V_isOfKind_9 (F : Nat) (M : Mem) (x2 : Int32) (lp : Int32 → Int32 → Option Int32) (x3 : Int32) (x4 : Int32) : Option Int32 :=
(if 6 ≤ x4 then
some x3
else
(if x3 = x2 then
some x3
else
(if x3 ≤ 0 then
some x3
else
(if 6 ≤ x3 then
some x3
else
(rod 82 x3).bind fun t6 =>
lp t6 (x4 + 1)))))
def L_V_isOfKind_9 (F : Nat) (M : Mem) (x2 : Int32) : Nat → Int32 → Int32 → Option Int32
  | 0, _, _ => none
  | n + 1, x3, x4 => B_V_isOfKind_9 F M x2 (L_V_isOfKind_9 F M x2 n) x3 x4
def V_isOfKind (F : Nat) (M : Mem) (k0 : Nat) (x1 : Int32) (x2 : Int32) : Option Int32 :=
(V_kindOf F M k0 x1).bind fun c1 =>
(L_V_isOfKind_9 F M x2 F c1 0).bind fun u7 =>
(if u7 = x2 then
some 1
else
some 0)
def B_V_kissesBetween_6 (F : Nat) (M : Mem) (k0 : Nat) (x1 : Int32) (x2 : Int32) (x3 : Int32) (lp : Int32 → Int32 → Option Int32) (x4 : Int32) (x5 : Int32) : Option Int32 :=
(if (M k0 1) ≤ x5 then
some x4
else
(idx x5 (ln (k0 + 2))).bind fun z2 =>
(if (M ((k0 + 2) + 1 + z2) 0) = x1 then
(idx x5 (ln (k0 + 2))).bind fun z4 =>
(if (M ((k0 + 2) + 1 + z4) 1) = x2 then
(idx x5 (ln (k0 + 2))).bind fun z6 =>
(if (M ((k0 + 2) + 1 + z6) 2) = x3 then
(idx x5 (ln (k0 + 2))).bind fun z8 =>
lp (x4 + (M ((k0 + 2) + 1 + z8) 3)) (x5 + 1)
else
lp x4 (x5 + 1))
else
lp x4 (x5 + 1))
else
lp x4 (x5 + 1)))
def L_V_kissesBetween_6 (F : Nat) (M : Mem) (k0 : Nat) (x1 : Int32) (x2 : Int32) (x3 : Int32) : Nat → Int32 → Int32 → Option Int32
  | 0, _, _ => none
  | n + 1, x4, x5 => B_V_kissesBetween_6 F M k0 x1 x2 x3 (L_V_kissesBetween_6 F M k0 x1 x2 x3 n) x4 x5
def V_kissesBetween (F : Nat) (M : Mem) (k0 : Nat) (x1 : Int32) (x2 : Int32) (x3 : Int32) : Option Int32 :=
(L_V_kissesBetween_6 F M k0 x1 x2 x3 F 0 0).bind fun u9 =>
some u9
def B_V_kissesOfSort_4 (F : Nat) (M : Mem) (k0 : Nat) (x1 : Int32) (lp : Int32 → Int32 → Option Int32) (x2 : Int32) (x3 : Int32) : Option Int32 :=
(if (M k0 1) ≤ x3 then
some x2
else
(idx x3 (ln (k0 + 2))).bind fun z2 =>
(if (M ((k0 + 2) + 1 + z2) 2) = x1 then
(idx x3 (ln (k0 + 2))).bind fun z4 =>
lp (x2 + (M ((k0 + 2) + 1 + z4) 3)) (x3 + 1)
else
lp x2 (x3 + 1)))
def L_V_kissesOfSort_4 (F : Nat) (M : Mem) (k0 : Nat) (x1 : Int32) : Nat → Int32 → Int32 → Option Int32
  | 0, _, _ => none
  | n + 1, x2, x3 => B_V_kissesOfSort_4 F M k0 x1 (L_V_kissesOfSort_4 F M k0 x1 n) x2 x3
def V_kissesOfSort (F : Nat) (M : Mem) (k0 : Nat) (x1 : Int32) : Option Int32 :=
(L_V_kissesOfSort_4 F M k0 x1 F 0 0).bind fun u5 =>
some u5
def B_V_lessen_7 (F : Nat) (k0 : Nat) (x1 : Int32) (x2 : Int32) (x3 : Int32) (lp : Mem → Int32 → Int32 → Option Mem) (M : Mem) (x5 : Int32) (x6 : Int32) : Option Mem :=
(if (M k0 1) ≤ x6 then
some M
else
(idx x6 (ln (k0 + 2))).bind fun z2 =>
(if (M ((k0 + 2) + 1 + z2) 0) = x1 then
(if (M ((k0 + 2) + 1 + z2) 1) = x2 then
(if (M ((k0 + 2) + 1 + z2) 2) = x3 then
lp (up M ((k0 + 2) + 1 + z2) 3 ((M ((k0 + 2) + 1 + z2) 3) - (if (M ((k0 + 2) + 1 + z2) 3) < x5 then (M ((k0 + 2) + 1 + z2) 3) else x5))) (x5 - (if (M ((k0 + 2) + 1 + z2) 3) < x5 then (M ((k0 + 2) + 1 + z2) 3) else x5)) (x6 + 1)
else
lp M x5 (x6 + 1))
else
lp M x5 (x6 + 1))
else
lp M x5 (x6 + 1)))
def L_V_lessen_7 (F : Nat) (k0 : Nat) (x1 : Int32) (x2 : Int32) (x3 : Int32) : Nat → Mem → Int32 → Int32 → Option Mem
  | 0, _, _, _ => none
  | n + 1, M, x5, x6 => B_V_lessen_7 F k0 x1 x2 x3 (L_V_lessen_7 F k0 x1 x2 x3 n) M x5 x6
def V_lessen (F : Nat) (M : Mem) (k0 : Nat) (x1 : Int32) (x2 : Int32) (x3 : Int32) (x4 : Int32) : Option Mem :=
(L_V_lessen_7 F k0 x1 x2 x3 F M x4 0).bind fun u6 =>
some u6
def B_V_netOwing_5 (F : Nat) (M : Mem) (k0 : Nat) (x1 : Int32) (x2 : Int32) (lp : Int32 → Int32 → Option Int32) (x3 : Int32) (x4 : Int32) : Option Int32 :=
(if (M k0 1) ≤ x4 then
some x3
else
(idx x4 (ln (k0 + 2))).bind fun z2 =>
(if (M ((k0 + 2) + 1 + z2) 2) = x2 then
(idx x4 (ln (k0 + 2))).bind fun z4 =>
((if (M ((k0 + 2) + 1 + z4) 0) = x1 then
(idx x4 (ln (k0 + 2))).bind fun z10 =>
some (M ((k0 + 2) + 1 + z10) 3)
else
some 0)).bind fun (j5 : Int32) =>
(idx x4 (ln (k0 + 2))).bind fun z6 =>
(if (M ((k0 + 2) + 1 + z6) 1) = x1 then
(idx x4 (ln (k0 + 2))).bind fun z8 =>
lp ((x3 + j5) - (M ((k0 + 2) + 1 + z8) 3)) (x4 + 1)
else
lp ((x3 + j5) - 0) (x4 + 1))
else
lp x3 (x4 + 1)))
def L_V_netOwing_5 (F : Nat) (M : Mem) (k0 : Nat) (x1 : Int32) (x2 : Int32) : Nat → Int32 → Int32 → Option Int32
  | 0, _, _ => none
  | n + 1, x3, x4 => B_V_netOwing_5 F M k0 x1 x2 (L_V_netOwing_5 F M k0 x1 x2 n) x3 x4
def V_netOwing (F : Nat) (M : Mem) (k0 : Nat) (x1 : Int32) (x2 : Int32) : Option Int32 :=
(L_V_netOwing_5 F M k0 x1 x2 F 0 0).bind fun u11 =>
some u11
def B_V_netTwo_5 (F : Nat) (k0 : Nat) (x1 : Int32) (x2 : Int32) (lp : Mem → Int32 → Int32 → Option (Int32 × Mem)) (M : Mem) (x3 : Int32) (x4 : Int32) : Option (Int32 × Mem) :=
(if 1 < x4 then
some (x3, M)
else
(V_kissesBetween F M k0 x1 x2 x4).bind fun c2 =>
(V_kissesBetween F M k0 x2 x1 x4).bind fun c3 =>
(V_lessen F M k0 x1 x2 x4 (if c3 < c2 then c3 else c2)).bind fun c4 =>
(V_lessen F c4 k0 x2 x1 x4 (if c3 < c2 then c3 else c2)).bind fun c5 =>
lp c5 (x3 + (if c3 < c2 then c3 else c2)) (x4 + 1))
def L_V_netTwo_5 (F : Nat) (k0 : Nat) (x1 : Int32) (x2 : Int32) : Nat → Mem → Int32 → Int32 → Option (Int32 × Mem)
  | 0, _, _, _ => none
  | n + 1, M, x3, x4 => B_V_netTwo_5 F k0 x1 x2 (L_V_netTwo_5 F k0 x1 x2 n) M x3 x4
def V_netTwo (F : Nat) (M : Mem) (k0 : Nat) (x1 : Int32) (x2 : Int32) : Option (Int32 × Mem) :=
(L_V_netTwo_5 F k0 x1 x2 F M 0 0).bind fun u6 =>
some (u6.1, u6.2)
def B_V_openDrafts_4 (F : Nat) (M : Mem) (k0 : Nat) (lp : Int32 → Int32 → Option Int32) (x1 : Int32) (x2 : Int32) : Option Int32 :=
(if (M k0 1) ≤ x2 then
some x1
else
(idx x2 (ln (k0 + 2))).bind fun z2 =>
(D_isOpen F M ((k0 + 2) + 1 + z2)).bind fun c3 =>
(if c3 = 0 then
lp x1 (x2 + 1)
else
lp (x1 + 1) (x2 + 1)))
def L_V_openDrafts_4 (F : Nat) (M : Mem) (k0 : Nat) : Nat → Int32 → Int32 → Option Int32
  | 0, _, _ => none
  | n + 1, x1, x2 => B_V_openDrafts_4 F M k0 (L_V_openDrafts_4 F M k0 n) x1 x2
def V_openDrafts (F : Nat) (M : Mem) (k0 : Nat) : Option Int32 :=
(L_V_openDrafts_4 F M k0 F 0 0).bind fun u5 =>
some u5
def B_V_openOn_4 (F : Nat) (M : Mem) (k0 : Nat) (x1 : Int32) (lp : Int32 → Int32 → Option Int32) (x2 : Int32) (x3 : Int32) : Option Int32 :=
(if (M k0 1) ≤ x3 then
some x2
else
(idx x3 (ln (k0 + 2))).bind fun z2 =>
(D_isOpen F M ((k0 + 2) + 1 + z2)).bind fun c3 =>
(if c3 = 0 then
lp x2 (x3 + 1)
else
(idx x3 (ln (k0 + 2))).bind fun z5 =>
(if (M ((k0 + 2) + 1 + z5) 0) = x1 then
lp (x2 + 1) (x3 + 1)
else
lp x2 (x3 + 1))))
def L_V_openOn_4 (F : Nat) (M : Mem) (k0 : Nat) (x1 : Int32) : Nat → Int32 → Int32 → Option Int32
  | 0, _, _ => none
  | n + 1, x2, x3 => B_V_openOn_4 F M k0 x1 (L_V_openOn_4 F M k0 x1 n) x2 x3
def V_openOn (F : Nat) (M : Mem) (k0 : Nat) (x1 : Int32) : Option Int32 :=
(L_V_openOn_4 F M k0 x1 F 0 0).bind fun u7 =>
some u7
def B_V_openOwedTo_4 (F : Nat) (M : Mem) (k0 : Nat) (x1 : Int32) (lp : Int32 → Int32 → Option Int32) (x2 : Int32) (x3 : Int32) : Option Int32 :=
(if (M k0 1) ≤ x3 then
some x2
else
(idx x3 (ln (k0 + 2))).bind fun z2 =>
(D_isOpen F M ((k0 + 2) + 1 + z2)).bind fun c3 =>
(if c3 = 0 then
lp x2 (x3 + 1)
else
(idx x3 (ln (k0 + 2))).bind fun z5 =>
(if (M ((k0 + 2) + 1 + z5) 1) = x1 then
lp (x2 + 1) (x3 + 1)
else
lp x2 (x3 + 1))))
def L_V_openOwedTo_4 (F : Nat) (M : Mem) (k0 : Nat) (x1 : Int32) : Nat → Int32 → Int32 → Option Int32
  | 0, _, _ => none
  | n + 1, x2, x3 => B_V_openOwedTo_4 F M k0 x1 (L_V_openOwedTo_4 F M k0 x1 n) x2 x3
def V_openOwedTo (F : Nat) (M : Mem) (k0 : Nat) (x1 : Int32) : Option Int32 :=
(L_V_openOwedTo_4 F M k0 x1 F 0 0).bind fun u7 =>
some u7
def B_V_owedByAny_4 (F : Nat) (M : Mem) (k0 : Nat) (x1 : Int32) (lp : Int32 → Int32 → Option Int32) (x2 : Int32) (x3 : Int32) : Option Int32 :=
(if (M k0 1) ≤ x3 then
some x2
else
(idx x3 (ln (k0 + 2))).bind fun z2 =>
(D_isOpen F M ((k0 + 2) + 1 + z2)).bind fun c3 =>
(if c3 = 0 then
lp x2 (x3 + 1)
else
(idx x3 (ln (k0 + 2))).bind fun z5 =>
(if (x1 &&& (1 <<< ((M ((k0 + 2) + 1 + z5) 0) &&& 31))) = 0 then
lp x2 (x3 + 1)
else
(idx x3 (ln (k0 + 2))).bind fun z7 =>
lp (x2 ||| (1 <<< ((M ((k0 + 2) + 1 + z7) 1) &&& 31))) (x3 + 1))))
def L_V_owedByAny_4 (F : Nat) (M : Mem) (k0 : Nat) (x1 : Int32) : Nat → Int32 → Int32 → Option Int32
  | 0, _, _ => none
  | n + 1, x2, x3 => B_V_owedByAny_4 F M k0 x1 (L_V_owedByAny_4 F M k0 x1 n) x2 x3
def V_owedByAny (F : Nat) (M : Mem) (k0 : Nat) (x1 : Int32) : Option Int32 :=
(L_V_owedByAny_4 F M k0 x1 F 0 0).bind fun u8 =>
some u8
def B_V_passWeek_4 (F : Nat) (k0 : Nat) (lp : Mem → Int32 → Int32 → Option (Int32 × Mem)) (M : Mem) (x1 : Int32) (x2 : Int32) : Option (Int32 × Mem) :=
(if (M k0 1) ≤ x2 then
some (x1, M)
else
(idx x2 (ln (k0 + 2))).bind fun z2 =>
(D_isOpen F M ((k0 + 2) + 1 + z2)).bind fun c3 =>
(if c3 = 0 then
lp M x1 (x2 + 1)
else
(V_growthFor F (up M ((k0 + 2) + 1 + z2) 4 ((M ((k0 + 2) + 1 + z2) 4) + 1)) k0 ((up M ((k0 + 2) + 1 + z2) 4 ((M ((k0 + 2) + 1 + z2) 4) + 1)) ((k0 + 2) + 1 + z2) 1)).bind fun c5 =>
(if ((up (up M ((k0 + 2) + 1 + z2) 4 ((M ((k0 + 2) + 1 + z2) 4) + 1)) ((k0 + 2) + 1 + z2) 3 (if (((up M ((k0 + 2) + 1 + z2) 4 ((M ((k0 + 2) + 1 + z2) 4) + 1)) ((k0 + 2) + 1 + z2) 3) + c5) < 99 then (((up M ((k0 + 2) + 1 + z2) 4 ((M ((k0 + 2) + 1 + z2) 4) + 1)) ((k0 + 2) + 1 + z2) 3) + c5) else 99)) ((k0 + 2) + 1 + z2) 4) < 4 then
lp (up (up M ((k0 + 2) + 1 + z2) 4 ((M ((k0 + 2) + 1 + z2) 4) + 1)) ((k0 + 2) + 1 + z2) 3 (if (((up M ((k0 + 2) + 1 + z2) 4 ((M ((k0 + 2) + 1 + z2) 4) + 1)) ((k0 + 2) + 1 + z2) 3) + c5) < 99 then (((up M ((k0 + 2) + 1 + z2) 4 ((M ((k0 + 2) + 1 + z2) 4) + 1)) ((k0 + 2) + 1 + z2) 3) + c5) else 99)) x1 (x2 + 1)
else
(if ((up (up M ((k0 + 2) + 1 + z2) 4 ((M ((k0 + 2) + 1 + z2) 4) + 1)) ((k0 + 2) + 1 + z2) 3 (if (((up M ((k0 + 2) + 1 + z2) 4 ((M ((k0 + 2) + 1 + z2) 4) + 1)) ((k0 + 2) + 1 + z2) 3) + c5) < 99 then (((up M ((k0 + 2) + 1 + z2) 4 ((M ((k0 + 2) + 1 + z2) 4) + 1)) ((k0 + 2) + 1 + z2) 3) + c5) else 99)) ((k0 + 2) + 1 + z2) 2) = 2 then
lp (up (up M ((k0 + 2) + 1 + z2) 4 ((M ((k0 + 2) + 1 + z2) 4) + 1)) ((k0 + 2) + 1 + z2) 3 (if (((up M ((k0 + 2) + 1 + z2) 4 ((M ((k0 + 2) + 1 + z2) 4) + 1)) ((k0 + 2) + 1 + z2) 3) + c5) < 99 then (((up M ((k0 + 2) + 1 + z2) 4 ((M ((k0 + 2) + 1 + z2) 4) + 1)) ((k0 + 2) + 1 + z2) 3) + c5) else 99)) x1 (x2 + 1)
else
lp (up (up (up M ((k0 + 2) + 1 + z2) 4 ((M ((k0 + 2) + 1 + z2) 4) + 1)) ((k0 + 2) + 1 + z2) 3 (if (((up M ((k0 + 2) + 1 + z2) 4 ((M ((k0 + 2) + 1 + z2) 4) + 1)) ((k0 + 2) + 1 + z2) 3) + c5) < 99 then (((up M ((k0 + 2) + 1 + z2) 4 ((M ((k0 + 2) + 1 + z2) 4) + 1)) ((k0 + 2) + 1 + z2) 3) + c5) else 99)) ((k0 + 2) + 1 + z2) 3 0) (x1 + ((up (up M ((k0 + 2) + 1 + z2) 4 ((M ((k0 + 2) + 1 + z2) 4) + 1)) ((k0 + 2) + 1 + z2) 3 (if (((up M ((k0 + 2) + 1 + z2) 4 ((M ((k0 + 2) + 1 + z2) 4) + 1)) ((k0 + 2) + 1 + z2) 3) + c5) < 99 then (((up M ((k0 + 2) + 1 + z2) 4 ((M ((k0 + 2) + 1 + z2) 4) + 1)) ((k0 + 2) + 1 + z2) 3) + c5) else 99)) ((k0 + 2) + 1 + z2) 3)) (x2 + 1)))))
def L_V_passWeek_4 (F : Nat) (k0 : Nat) : Nat → Mem → Int32 → Int32 → Option (Int32 × Mem)
  | 0, _, _, _ => none
  | n + 1, M, x1, x2 => B_V_passWeek_4 F k0 (L_V_passWeek_4 F k0 n) M x1 x2
def V_passWeek (F : Nat) (M : Mem) (k0 : Nat) : Option (Int32 × Mem) :=
(L_V_passWeek_4 F k0 F M 0 0).bind fun u8 =>
some (u8.1, u8.2)
def B_V_payTwo_5 (F : Nat) (k0 : Nat) (x1 : Int32) (x2 : Int32) (lp : Mem → Int32 → Int32 → Option (Int32 × Mem)) (M : Mem) (x3 : Int32) (x4 : Int32) : Option (Int32 × Mem) :=
(if (M k0 1) ≤ x4 then
some (x3, M)
else
(idx x4 (ln (k0 + 2))).bind fun z2 =>
((if (M ((k0 + 2) + 1 + z2) 0) = x1 then
(if (M ((k0 + 2) + 1 + z2) 1) = x2 then
some 1
else
(if (M ((k0 + 2) + 1 + z2) 0) = x2 then
(if (M ((k0 + 2) + 1 + z2) 1) = x1 then
some 1
else
some 0)
else
some 0))
else
(if (M ((k0 + 2) + 1 + z2) 0) = x2 then
(if (M ((k0 + 2) + 1 + z2) 1) = x1 then
some 1
else
some 0)
else
some 0))).bind fun (j3 : Int32) =>
(if j3 = 0 then
lp M x3 (x4 + 1)
else
(V_isOfKind F M k0 (M ((k0 + 2) + 1 + z2) 0) 2).bind fun c5 =>
(if c5 = 0 then
lp (up M ((k0 + 2) + 1 + z2) 3 0) (x3 + (M ((k0 + 2) + 1 + z2) 3)) (x4 + 1)
else
lp M x3 (x4 + 1))))
def L_V_payTwo_5 (F : Nat) (k0 : Nat) (x1 : Int32) (x2 : Int32) : Nat → Mem → Int32 → Int32 → Option (Int32 × Mem)
  | 0, _, _, _ => none
  | n + 1, M, x3, x4 => B_V_payTwo_5 F k0 x1 x2 (L_V_payTwo_5 F k0 x1 x2 n) M x3 x4
def V_payTwo (F : Nat) (M : Mem) (k0 : Nat) (x1 : Int32) (x2 : Int32) : Option (Int32 × Mem) :=
(L_V_payTwo_5 F k0 x1 x2 F M 0 0).bind fun u13 =>
some (u13.1, u13.2)
def B_V_personsOfKind_4 (F : Nat) (M : Mem) (k0 : Nat) (x1 : Int32) (lp : Int32 → Int32 → Option Int32) (x2 : Int32) (x3 : Int32) : Option Int32 :=
(if (M k0 0) ≤ x3 then
some x2
else
(V_isOfKind F M k0 x3 x1).bind fun c2 =>
(if c2 = 0 then
lp x2 (x3 + 1)
else
lp (x2 + 1) (x3 + 1)))
def L_V_personsOfKind_4 (F : Nat) (M : Mem) (k0 : Nat) (x1 : Int32) : Nat → Int32 → Int32 → Option Int32
  | 0, _, _ => none
  | n + 1, x2, x3 => B_V_personsOfKind_4 F M k0 x1 (L_V_personsOfKind_4 F M k0 x1 n) x2 x3
def V_personsOfKind (F : Nat) (M : Mem) (k0 : Nat) (x1 : Int32) : Option Int32 :=
(L_V_personsOfKind_4 F M k0 x1 F 0 0).bind fun u4 =>
some u4
def B_V_souringFor_4 (F : Nat) (M : Mem) (k0 : Nat) (x1 : Int32) (lp : Int32 → Int32 → Option Int32) (x2 : Int32) (x3 : Int32) : Option Int32 :=
(if (M k0 1) ≤ x3 then
some x2
else
(idx x3 (ln (k0 + 2))).bind fun z2 =>
(D_isOpen F M ((k0 + 2) + 1 + z2)).bind fun c3 =>
(if c3 = 0 then
lp x2 (x3 + 1)
else
(if (M ((k0 + 2) + 1 + z2) 1) = x1 then
(if (M ((k0 + 2) + 1 + z2) 2) = 2 then
lp x2 (x3 + 1)
else
(if ((M ((k0 + 2) + 1 + z2) 4) + 1) < 4 then
lp x2 (x3 + 1)
else
lp (x2 + 1) (x3 + 1)))
else
lp x2 (x3 + 1))))
def L_V_souringFor_4 (F : Nat) (M : Mem) (k0 : Nat) (x1 : Int32) : Nat → Int32 → Int32 → Option Int32
  | 0, _, _ => none
  | n + 1, x2, x3 => B_V_souringFor_4 F M k0 x1 (L_V_souringFor_4 F M k0 x1 n) x2 x3
def V_souringFor (F : Nat) (M : Mem) (k0 : Nat) (x1 : Int32) : Option Int32 :=
(L_V_souringFor_4 F M k0 x1 F 0 0).bind fun u8 =>
some u8
def B_B_takeIfFitting_2 (F : Nat) (M : Mem) (k1 : Nat) (x2 : Int32) (lp : Int32 → Option (Sum Mem Unit)) (x3 : Int32) : Option (Sum Mem Unit) :=
(if (M k1 0) ≤ x3 then
some (.inr ())
else
(ard M 75 x3).bind fun t2 =>
(if t2 = 0 then
lp (x3 + 1)
else
some (.inl M)))
def L_B_takeIfFitting_2 (F : Nat) (M : Mem) (k1 : Nat) (x2 : Int32) : Nat → Int32 → Option (Sum Mem Unit)
  | 0, _ => none
  | n + 1, x3 => B_B_takeIfFitting_2 F M k1 x2 (L_B_takeIfFitting_2 F M k1 x2 n) x3
def B_takeIfFitting (F : Nat) (M : Mem) (k1 : Nat) (x2 : Int32) : Option Mem :=
(L_B_takeIfFitting_2 F M k1 x2 F 0).bind fun u4 => Sum.elim (fun r5 =>
some r5) (fun w6 =>
((if (M 74 0) = 0 then
some x2
else
some (M 74 1))).bind fun (j7 : Int32) =>
((if ((up M 74 1 j7) 74 0) = 0 then
some x2
else
some (((up M 74 1 j7) 74 2) &&& x2))).bind fun (j8 : Int32) =>
some (up (up (up M 74 1 j7) 74 2 j8) 74 0 (((up (up M 74 1 j7) 74 2 j8) 74 0) + 1))) u4
def Bd_B_choose (F : Nat) (rc : Mem → Nat → Int32 → Int32 → Option Mem) (M : Mem) (k1 : Nat) (x2 : Int32) (x3 : Int32) : Option Mem :=
(if x2 < 0 then
(B_takeIfFitting F M k1 x3).bind fun c2 =>
some c2
else
(if x2 < 12 then
(rc M k1 (x2 - 1) x3).bind fun c4 =>
(idx x2 (ln (k1 + 2))).bind fun z5 =>
(D_isOpen F c4 ((k1 + 2) + 1 + z5)).bind fun c6 =>
(if c6 = 0 then
some c4
else
(ard c4 75 (c4 ((k1 + 2) + 1 + z5) 0)).bind fun t8 =>
(if t8 < (c4 ((k1 + 2) + 1 + z5) 3) then
some c4
else
(ard c4 75 (c4 ((k1 + 2) + 1 + z5) 1)).bind fun t10 =>
(if t10 < (c4 ((k1 + 2) + 1 + z5) 3) then
some c4
else
(ard c4 75 (c4 ((k1 + 2) + 1 + z5) 0)).bind fun t12 =>
(awr c4 75 (c4 ((k1 + 2) + 1 + z5) 0) (t12 - (c4 ((k1 + 2) + 1 + z5) 3))).bind fun M13 =>
(ard M13 75 (M13 ((k1 + 2) + 1 + z5) 1)).bind fun t14 =>
(awr M13 75 (M13 ((k1 + 2) + 1 + z5) 1) (t14 - (c4 ((k1 + 2) + 1 + z5) 3))).bind fun M15 =>
(rc M15 k1 (x2 - 1) (x3 ||| (1 <<< (x2 &&& 31)))).bind fun c16 =>
(ard c16 75 (c16 ((k1 + 2) + 1 + z5) 0)).bind fun t17 =>
(awr c16 75 (c16 ((k1 + 2) + 1 + z5) 0) (t17 + (c4 ((k1 + 2) + 1 + z5) 3))).bind fun M18 =>
(ard M18 75 (M18 ((k1 + 2) + 1 + z5) 1)).bind fun t19 =>
(awr M18 75 (M18 ((k1 + 2) + 1 + z5) 1) (t19 + (c4 ((k1 + 2) + 1 + z5) 3))).bind fun M20 =>
some M20)))
else
(B_takeIfFitting F M k1 x3).bind fun c21 =>
some c21))
def B_choose (F : Nat) : Nat → Mem → Nat → Int32 → Int32 → Option Mem
  | 0, _, _, _, _ => none
  | dl + 1, M, k1, x2, x3 => Bd_B_choose F (B_choose F dl) M k1 x2 x3
def B_B_search_18 (F : Nat) (k1 : Nat) (k2 : Nat) (lp : Mem → Int32 → Option Mem) (M : Mem) (x3 : Int32) : Option Mem :=
(if (M k1 0) ≤ x3 then
some M
else
(if (Int32.ofNat (ln k2)) ≤ x3 then
some M
else
(ard M k2 x3).bind fun t3 =>
(awr M 75 x3 t3).bind fun M4 =>
lp M4 (x3 + 1)))
def L_B_search_18 (F : Nat) (k1 : Nat) (k2 : Nat) : Nat → Mem → Int32 → Option Mem
  | 0, _, _ => none
  | n + 1, M, x3 => B_B_search_18 F k1 k2 (L_B_search_18 F k1 k2 n) M x3
def B_search (F : Nat) (M : Mem) (k1 : Nat) (k2 : Nat) : Option Mem :=
(L_B_search_18 F k1 k2 F (up (up (up M 74 0 0) 74 1 (-9)) 74 2 0) 0).bind fun u5 =>
(B_choose F 14 u5 k1 ((u5 k1 1) - 1) 0).bind fun c6 =>
some c6
def B_G_takeRing_19 (F : Nat) (k1 : Nat) (x2 : Int32) (x3 : Int32) (lp : Mem → Int32 → Option Mem) (M : Mem) (x4 : Int32) : Option Mem :=
(if x2 ≤ x4 then
some M
else
(ard M 69 x4).bind fun t3 =>
(idx t3 (ln (k1 + 2))).bind fun z4 =>
(ard M 68 (M ((k1 + 2) + 1 + z4) 0)).bind fun t5 =>
(awr M 68 (M ((k1 + 2) + 1 + z4) 0) (t5 + 1)).bind fun M6 =>
lp M6 (x4 + 1))
def L_G_takeRing_19 (F : Nat) (k1 : Nat) (x2 : Int32) (x3 : Int32) : Nat → Mem → Int32 → Option Mem
  | 0, _, _ => none
  | n + 1, M, x4 => B_G_takeRing_19 F k1 x2 x3 (L_G_takeRing_19 F k1 x2 x3 n) M x4
def G_takeRing (F : Nat) (M : Mem) (k1 : Nat) (x2 : Int32) (x3 : Int32) : Option Mem :=
(if 3 ≤ x2 then
(L_G_takeRing_19 F k1 x2 x3 F (up M 66 0 ((M 66 0) + 1)) 0).bind fun u7 =>
(if (x3 * x2) ≤ (u7 66 1) then
some u7
else
(acp (up (up (up u7 66 1 (x3 * x2)) 66 2 x3) 66 3 x2) 69 0 67 0 x2).bind fun M9 =>
some M9)
else
some M)
def B_G_extend_88 (F : Nat) (rc : Mem → Nat → Int32 → Int32 → Int32 → Option Mem) (k1 : Nat) (x2 : Int32) (x3 : Int32) (x4 : Int32) (k5 : Nat) (x6 : Int32) (lp : Mem → Int32 → Option Mem) (M : Mem) (x7 : Int32) : Option Mem :=
(if (M k1 1) ≤ x7 then
some M
else
(idx x7 (ln (k1 + 2))).bind fun z10 =>
(if (M ((k1 + 2) + 1 + z10) 0) = x6 then
(D_isOpenOf F M ((k1 + 2) + 1 + z10) (M k5 2)).bind fun c12 =>
(if c12 = 0 then
lp M (x7 + 1)
else
(awr M 69 x2 x7).bind fun M14 =>
(rc M14 k1 (x2 + 1) (x3 ||| (1 <<< (x6 &&& 31))) (if (M14 ((k1 + 2) + 1 + z10) 3) < x4 then (M14 ((k1 + 2) + 1 + z10) 3) else x4)).bind fun c15 =>
lp c15 (x7 + 1))
else
lp M (x7 + 1)))
def L_G_extend_88 (F : Nat) (rc : Mem → Nat → Int32 → Int32 → Int32 → Option Mem) (k1 : Nat) (x2 : Int32) (x3 : Int32) (x4 : Int32) (k5 : Nat) (x6 : Int32) : Nat → Mem → Int32 → Option Mem
  | 0, _, _ => none
  | n + 1, M, x7 => B_G_extend_88 F rc k1 x2 x3 x4 k5 x6 (L_G_extend_88 F rc k1 x2 x3 x4 k5 x6 n) M x7
def Bd_G_extend (F : Nat) (rc : Mem → Nat → Int32 → Int32 → Int32 → Option Mem) (M : Mem) (k1 : Nat) (x2 : Int32) (x3 : Int32) (x4 : Int32) : Option Mem :=
(if x2 < 1 then
some M
else
(if x2 ≤ 6 then
(idx (M 69 0) (ln (k1 + 2))).bind fun z3 =>
(ard M 69 (x2 - 1)).bind fun t4 =>
(idx t4 (ln (k1 + 2))).bind fun z5 =>
(if (M ((k1 + 2) + 1 + z5) 1) = (M ((k1 + 2) + 1 + z3) 0) then
(G_takeRing F M k1 x2 x4).bind fun c17 =>
some c17
else
(if (x3 &&& (1 <<< ((M ((k1 + 2) + 1 + z5) 1) &&& 31))) = 0 then
(if x2 = 6 then
some M
else
(L_G_extend_88 F rc k1 x2 x3 x4 ((k1 + 2) + 1 + z3) (M ((k1 + 2) + 1 + z5) 1) F M ((M 69 0) + 1)).bind fun u16 =>
some u16)
else
some M))
else
some M))
def G_extend (F : Nat) : Nat → Mem → Nat → Int32 → Int32 → Int32 → Option Mem
  | 0, _, _, _, _, _ => none
  | dl + 1, M, k1, x2, x3, x4 => Bd_G_extend F (G_extend F dl) M k1 x2 x3 x4
def B_G_search_12 (F : Nat) (k1 : Nat) (x2 : Int32) (lp : Mem → Int32 → Option Mem) (M : Mem) (x3 : Int32) : Option Mem :=
(if 6 ≤ x3 then
some M
else
(awr M 68 x3 0).bind fun M2 =>
lp M2 (x3 + 1))
def L_G_search_12 (F : Nat) (k1 : Nat) (x2 : Int32) : Nat → Mem → Int32 → Option Mem
  | 0, _, _ => none
  | n + 1, M, x3 => B_G_search_12 F k1 x2 (L_G_search_12 F k1 x2 n) M x3
def B_G_search_33 (F : Nat) (k1 : Nat) (x2 : Int32) (lp : Mem → Int32 → Option Mem) (M : Mem) (x3 : Int32) : Option Mem :=
(if (M k1 1) ≤ x3 then
some M
else
(idx x3 (ln (k1 + 2))).bind fun z5 =>
(D_isOpenOf F M ((k1 + 2) + 1 + z5) x2).bind fun c6 =>
(if c6 = 0 then
lp M (x3 + 1)
else
(awr M 69 0 x3).bind fun M8 =>
(G_extend F 8 M8 k1 1 (1 <<< ((M8 ((k1 + 2) + 1 + z5) 0) &&& 31)) (M8 ((k1 + 2) + 1 + z5) 3)).bind fun c9 =>
lp c9 (x3 + 1)))
def L_G_search_33 (F : Nat) (k1 : Nat) (x2 : Int32) : Nat → Mem → Int32 → Option Mem
  | 0, _, _ => none
  | n + 1, M, x3 => B_G_search_33 F k1 x2 (L_G_search_33 F k1 x2 n) M x3
def G_search (F : Nat) (M : Mem) (k1 : Nat) (x2 : Int32) : Option Mem :=
(L_G_search_12 F k1 x2 F (up (up M 66 0 0) 66 1 0) 0).bind fun u3 =>
(L_G_search_33 F k1 x2 F u3 0).bind fun u10 =>
some u10
def B_O_mostOfOne_15 (F : Nat) (M : Mem) (x1 : Int32) (x2 : Int32) (lp : Int32 → Int32 → Option Int32) (x3 : Int32) (x4 : Int32) : Option Int32 :=
(if (M 70 0) ≤ x4 then
some x3
else
(ard M 71 x4).bind fun t3 =>
(if t3 = x2 then
lp (x3 + 1) (x4 + 1)
else
(ard M 72 x4).bind fun t5 =>
(if t5 = x2 then
lp (x3 + 1) (x4 + 1)
else
lp (x3 + 0) (x4 + 1))))
def L_O_mostOfOne_15 (F : Nat) (M : Mem) (x1 : Int32) (x2 : Int32) : Nat → Int32 → Int32 → Option Int32
  | 0, _, _ => none
  | n + 1, x3, x4 => B_O_mostOfOne_15 F M x1 x2 (L_O_mostOfOne_15 F M x1 x2 n) x3 x4
def B_O_mostOfOne_4 (F : Nat) (M : Mem)  (lp : Int32 → Int32 → Option Int32) (x1 : Int32) (x2 : Int32) : Option Int32 :=
(if 6 ≤ x2 then
some x1
else
(L_O_mostOfOne_15 F M x1 x2 F 0 0).bind fun u7 =>
lp (if x1 < u7 then u7 else x1) (x2 + 1))
def L_O_mostOfOne_4 (F : Nat) (M : Mem) : Nat → Int32 → Int32 → Option Int32
  | 0, _, _ => none
  | n + 1, x1, x2 => B_O_mostOfOne_4 F M (L_O_mostOfOne_4 F M n) x1 x2
def O_mostOfOne (F : Nat) (M : Mem) : Option Int32 :=
(L_O_mostOfOne_4 F M F 0 0).bind fun u8 =>
some u8
def B_O_fit_33 (F : Nat) (rc : Mem → Int32 → Int32 → Int32 → Option (Int32 × Mem)) (x1 : Int32) (x2 : Int32) (x3 : Int32) (x4 : Int32) (x5 : Int32) (lp : Mem → Int32 → Option (Sum (Int32 × Mem) Mem)) (M : Mem) (x6 : Int32) : Option (Sum (Int32 × Mem) Mem) :=
(if x2 ≤ x6 then
some (.inr M)
else
(if x3 < x6 then
some (.inr M)
else
(ard M 73 x4).bind fun t7 =>
(ard M 73 x5).bind fun t8 =>
(if ((t7 ||| t8) &&& (1 <<< (x6 &&& 31))) = 0 then
(ard M 73 x4).bind fun t10 =>
(awr M 73 x4 (t10 ||| (1 <<< (x6 &&& 31)))).bind fun M11 =>
(ard M11 73 x5).bind fun t12 =>
(awr M11 73 x5 (t12 ||| (1 <<< (x6 &&& 31)))).bind fun M13 =>
(rc M13 (x1 + 1) x2 (if x3 < (x6 + 1) then (x6 + 1) else x3)).bind fun c14 =>
(if c14.1 = 0 then
(ard c14.2 73 x4).bind fun t16 =>
(awr c14.2 73 x4 (t16 &&& ((1 <<< (x6 &&& 31)) ^^^ (-1)))).bind fun M17 =>
(ard M17 73 x5).bind fun t18 =>
(awr M17 73 x5 (t18 &&& ((1 <<< (x6 &&& 31)) ^^^ (-1)))).bind fun M19 =>
lp M19 (x6 + 1)
else
some (.inl (1, c14.2)))
else
lp M (x6 + 1))))
def L_O_fit_33 (F : Nat) (rc : Mem → Int32 → Int32 → Int32 → Option (Int32 × Mem)) (x1 : Int32) (x2 : Int32) (x3 : Int32) (x4 : Int32) (x5 : Int32) : Nat → Mem → Int32 → Option (Sum (Int32 × Mem) Mem)
  | 0, _, _ => none
  | n + 1, M, x6 => B_O_fit_33 F rc x1 x2 x3 x4 x5 (L_O_fit_33 F rc x1 x2 x3 x4 x5 n) M x6
def Bd_O_fit (F : Nat) (rc : Mem → Int32 → Int32 → Int32 → Option (Int32 × Mem)) (M : Mem) (x1 : Int32) (x2 : Int32) (x3 : Int32) : Option (Int32 × Mem) :=
(if x1 < 0 then
some (1, M)
else
(if x1 < (M 70 0) then
(ard M 71 x1).bind fun t3 =>
(ard M 72 x1).bind fun t4 =>
(L_O_fit_33 F rc x1 x2 x3 t3 t4 F M 0).bind fun u20 => Sum.elim (fun r21 =>
some r21) (fun w22 =>
some (0, w22)) u20
else
some (1, M)))
def O_fit (F : Nat) : Nat → Mem → Int32 → Int32 → Int32 → Option (Int32 × Mem)
  | 0, _, _, _, _ => none
  | dl + 1, M, x1, x2, x3 => Bd_O_fit F (O_fit F dl) M x1 x2 x3
def B_O_fewest_15 (F : Nat) (x1 : Int32) (lp : Mem → Int32 → Option Mem) (M : Mem) (x2 : Int32) : Option Mem :=
(if 6 ≤ x2 then
some M
else
(awr M 73 x2 0).bind fun M4 =>
lp M4 (x2 + 1))
def L_O_fewest_15 (F : Nat) (x1 : Int32) : Nat → Mem → Int32 → Option Mem
  | 0, _, _ => none
  | n + 1, M, x2 => B_O_fewest_15 F x1 (L_O_fewest_15 F x1 n) M x2
def B_O_fewest_5 (F : Nat)  (lp : Mem → Int32 → Option (Sum (Int32 × Mem) Mem)) (M : Mem) (x1 : Int32) : Option (Sum (Int32 × Mem) Mem) :=
(if (M 70 0) ≤ x1 then
some (.inr M)
else
(L_O_fewest_15 F x1 F M 0).bind fun u5 =>
(O_fit F 17 u5 0 x1 0).bind fun c6 =>
(if c6.1 = 0 then
lp c6.2 (x1 + 1)
else
some (.inl (x1, c6.2))))
def L_O_fewest_5 (F : Nat) : Nat → Mem → Int32 → Option (Sum (Int32 × Mem) Mem)
  | 0, _, _ => none
  | n + 1, M, x1 => B_O_fewest_5 F (L_O_fewest_5 F n) M x1
def O_fewest (F : Nat) (M : Mem) : Option (Int32 × Mem) :=
(O_mostOfOne F M).bind fun c1 =>
(L_O_fewest_5 F F M c1).bind fun u8 => Sum.elim (fun r9 =>
some r9) (fun w10 =>
some ((w10 70 0), w10)) u8
def B_O_gather_28 (F : Nat) (k1 : Nat) (x2 : Int32) (x3 : Int32) (lp : Mem → Int32 → Option Mem) (M : Mem) (x4 : Int32) : Option Mem :=
(if (M k1 0) ≤ x4 then
some M
else
((if (x3 &&& (1 <<< (x4 &&& 31))) = 0 then
(V_owedByAny F M k1 (1 <<< (x4 &&& 31))).bind fun c10 =>
(if (c10 &&& (1 <<< (x2 &&& 31))) = 0 then
some 0
else
some 1)
else
some 1)).bind fun (j4 : Int32) =>
(if j4 = 0 then
lp M (x4 + 1)
else
(if 15 ≤ (M 70 0) then
lp M (x4 + 1)
else
(awr M 71 (M 70 0) x2).bind fun M7 =>
(awr M7 72 (M7 70 0) x4).bind fun M8 =>
lp (up M8 70 0 ((M8 70 0) + 1)) (x4 + 1))))
def L_O_gather_28 (F : Nat) (k1 : Nat) (x2 : Int32) (x3 : Int32) : Nat → Mem → Int32 → Option Mem
  | 0, _, _ => none
  | n + 1, M, x4 => B_O_gather_28 F k1 x2 x3 (L_O_gather_28 F k1 x2 x3 n) M x4
def B_O_gather_7 (F : Nat) (k1 : Nat) (lp : Mem → Int32 → Option Mem) (M : Mem) (x2 : Int32) : Option Mem :=
(if (M k1 0) ≤ x2 then
some M
else
(V_owedByAny F M k1 (1 <<< (x2 &&& 31))).bind fun c2 =>
(L_O_gather_28 F k1 x2 c2 F M (x2 + 1)).bind fun u12 =>
lp u12 (x2 + 1))
def L_O_gather_7 (F : Nat) (k1 : Nat) : Nat → Mem → Int32 → Option Mem
  | 0, _, _ => none
  | n + 1, M, x2 => B_O_gather_7 F k1 (L_O_gather_7 F k1 n) M x2
def O_gather (F : Nat) (M : Mem) (k1 : Nat) : Option Mem :=
(L_O_gather_7 F k1 F (up M 70 0 0) 0).bind fun u13 =>
some u13
def R_signAt (F : Nat) (M : Mem) (k0 : Nat) (x1 : Int32) : Option Int32 :=
(S_hasPlace F M k0 x1).bind fun c1 =>
(if c1 = 0 then
some (-1000)
else
(ard M (k0 + 1) x1).bind fun t3 =>
some t3)
def B_R_numberOf_2 (F : Nat) (M : Mem) (x0 : Int32) (k1 : Nat) (lp : Int32 → Option (Sum Int32 Unit)) (x2 : Int32) : Option (Sum Int32 Unit) :=
(if (Int32.ofNat (ln k1)) ≤ x2 then
some (.inr ())
else
(rod k1 x2).bind fun t2 =>
(if t2 = x0 then
some (.inl x2)
else
lp (x2 + 1)))
def L_R_numberOf_2 (F : Nat) (M : Mem) (x0 : Int32) (k1 : Nat) : Nat → Int32 → Option (Sum Int32 Unit)
  | 0, _ => none
  | n + 1, x2 => B_R_numberOf_2 F M x0 k1 (L_R_numberOf_2 F M x0 k1 n) x2
def R_numberOf (F : Nat) (M : Mem) (x0 : Int32) (k1 : Nat) : Option Int32 :=
(L_R_numberOf_2 F M x0 k1 F 0).bind fun u4 => Sum.elim (fun r5 =>
some r5) (fun w6 =>
some (-1)) u4
def R_readDraft (F : Nat) (M : Mem) (k0 : Nat) (x1 : Int32) (k2 : Nat) : Option (Int32 × Mem) :=
(if (M k2 0) < 2 then
some (x1, M)
else
(if (M k2 1) < 12 then
(R_signAt F M k0 (x1 + 1)).bind fun c3 =>
(V_hasPerson F M k2 (c3 - 48)).bind fun c4 =>
(if c4 = 0 then
some ((x1 + 1), M)
else
(R_signAt F M k0 (x1 + 2)).bind fun c6 =>
(V_hasTwo F M k2 (c3 - 48) (c6 - 48)).bind fun c7 =>
(if c7 = 0 then
some ((x1 + 2), M)
else
(R_signAt F M k0 (x1 + 3)).bind fun c9 =>
(R_numberOf F M c9 80).bind fun c10 =>
(if 0 ≤ c10 then
(R_signAt F M k0 (x1 + 4)).bind fun c12 =>
(if (c12 - 48) < 1 then
some ((x1 + 4), M)
else
(if (c12 - 48) ≤ 9 then
(V_addDraft F M k2 (c3 - 48) (c6 - 48) c10 (c12 - 48)).bind fun c15 =>
some ((-9), c15)
else
some ((x1 + 4), M)))
else
some ((x1 + 3), M))))
else
some (x1, M)))
def R_readPerson (F : Nat) (M : Mem) (x0 : Int32) (k1 : Nat) : Option (Int32 × Mem) :=
(R_numberOf F M x0 81).bind fun c1 =>
(if c1 < 0 then
some (0, M)
else
(if 0 < (M k1 1) then
some (0, M)
else
(if (M k1 0) < 6 then
(V_addPerson F M k1 c1).bind fun c5 =>
some (1, c5)
else
some (0, M))))
def B_R_faultOf_6 (F : Nat) (k0 : Nat) (k1 : Nat) (lp : Mem → Int32 → Option (Sum (Int32 × Mem) Mem)) (M : Mem) (x2 : Int32) : Option (Sum (Int32 × Mem) Mem) :=
(if (M k0 1) ≤ x2 then
some (.inr M)
else
(R_signAt F M k0 x2).bind fun c3 =>
(if c3 = 32 then
lp M (x2 + 1)
else
(if c3 = 120 then
(R_readDraft F M k0 x2 k1).bind fun c8 =>
(if c8.1 = (-9) then
lp c8.2 (x2 + 5)
else
some (.inl (c8.1, c8.2)))
else
(R_readPerson F M c3 k1).bind fun c6 =>
(if c6.1 = 0 then
some (.inl (x2, c6.2))
else
lp c6.2 (x2 + 1)))))
def L_R_faultOf_6 (F : Nat) (k0 : Nat) (k1 : Nat) : Nat → Mem → Int32 → Option (Sum (Int32 × Mem) Mem)
  | 0, _, _ => none
  | n + 1, M, x2 => B_R_faultOf_6 F k0 k1 (L_R_faultOf_6 F k0 k1 n) M x2
def R_faultOf (F : Nat) (M : Mem) (k0 : Nat) (k1 : Nat) : Option (Int32 × Mem) :=
(V_becomeEmpty F M k1).bind fun c1 =>
(L_R_faultOf_6 F k0 k1 F c1 0).bind fun u10 => Sum.elim (fun r11 =>
some r11) (fun w12 =>
(if 2 ≤ (w12 k1 0) then
some ((-9), w12)
else
some ((w12 k0 1), w12))) u10
def K_isRingSort (F : Nat) (M : Mem) (x0 : Int32) : Option Int32 :=
(if x0 = 0 then
some 1
else
(if x0 = 1 then
some 1
else
some 0))
def K_all (F : Nat) (M : Mem) (x1 : Int32) : Option (Int32 × Mem) :=
(K_isRingSort F M x1).bind fun c1 =>
(if c1 = 0 then
some ((-1), M)
else
(G_search F M 23 x1).bind fun c3 =>
some (((up c3 0 11 (c3 66 1)) 66 0), (up c3 0 11 (c3 66 1))))
def K_asked (F : Nat) (M : Mem) : Option Int32 :=
some (M 0 11)
def K_isRow (F : Nat) (M : Mem) (x0 : Int32) : Option Int32 :=
(if x0 < 0 then
some 0
else
(if 6 ≤ x0 then
some 0
else
some 1))
def K_refuse (F : Nat) (M : Mem) (x1 : Int32) : Option (Int32 × Mem) :=
(if x1 < 1 then
some ((-3), (up M 0 10 x1))
else
(if 5 < x1 then
some ((-3), (up M 0 10 x1))
else
(ard (up M 0 10 x1) 76 x1).bind fun t3 =>
(awr (up M 0 10 x1) 76 x1 (t3 + 1)).bind fun M4 =>
some ((-3), M4)))
def K_tell (F : Nat) (M : Mem) (x1 : Int32) : Option (Int32 × Mem) :=
some (1, (up M 0 11 x1))
def K_at (F : Nat) (M : Mem) (x1 : Int32) (x2 : Int32) : Option (Int32 × Mem) :=
(K_isRow F M x1).bind fun c1 =>
(if c1 = 0 then
some ((-1), M)
else
(idx x1 6).bind fun z3 =>
(S_findingAt F M (1 + 1 + 2 * z3) x2).bind fun c4 =>
(if c4 = 0 then
(idx x1 6).bind fun z6 =>
(ard M ((1 + 1 + 2 * z6) + 1) x2).bind fun t7 =>
(K_tell F M t7).bind fun c8 =>
some (c8.1, c8.2)
else
(K_refuse F M c4).bind fun c9 =>
some (c9.1, c9.2)))
def K_isSort (F : Nat) (M : Mem) (x0 : Int32) : Option Int32 :=
(if x0 < 0 then
some 0
else
(if 3 ≤ x0 then
some 0
else
some 1))
def K_between (F : Nat) (M : Mem) (x1 : Int32) (x2 : Int32) (x3 : Int32) : Option Int32 :=
(V_hasTwo F M 23 x1 x2).bind fun c1 =>
(if c1 = 0 then
some (-1)
else
(K_isSort F M x3).bind fun c3 =>
(if c3 = 0 then
some (-1)
else
(V_kissesBetween F M 23 x1 x2 x3).bind fun c5 =>
some c5))
def K_blushesRefused (F : Nat) (M : Mem) (x1 : Int32) : Option (Int32 × Mem) :=
(K_isRow F M x1).bind fun c1 =>
(if c1 = 0 then
some ((-1), M)
else
(V_isEmpty F M 23).bind fun c3 =>
(if c3 = 0 then
(idx x1 6).bind fun z5 =>
(S_isMissing F M (1 + 1 + 2 * z5)).bind fun c6 =>
(if c6 = 0 then
(idx x1 6).bind fun z8 =>
(if (M (1 + 1 + 2 * z8) 1) = (M 23 0) then
some (0, M)
else
(K_refuse F M 5).bind fun c10 =>
some (c10.1, c10.2))
else
(K_refuse F M 1).bind fun c11 =>
some (c11.1, c11.2))
else
some ((-4), M)))
def K_blushes (F : Nat) (M : Mem) (x1 : Int32) : Option (Int32 × Mem) :=
(K_blushesRefused F M x1).bind fun c1 =>
(if c1.1 = 0 then
(idx x1 6).bind fun z3 =>
(B_search F c1.2 23 ((1 + 1 + 2 * z3) + 1)).bind fun c4 =>
some (((up c4 0 11 (c4 74 1)) 74 0), (up c4 0 11 (c4 74 1)))
else
some (c1.1, c1.2))
def B_K_clear_31 (F : Nat) (k2 : Nat) (lp : Mem → Int32 → Option (Sum (Int32 × Mem) Mem)) (M : Mem) (x3 : Int32) : Option (Sum (Int32 × Mem) Mem) :=
(if (M k2 1) ≤ x3 then
some (.inr M)
else
(ard M (k2 + 1) x3).bind fun t7 =>
(V_hasDraft F M 23 t7).bind fun c8 =>
(if c8 = 0 then
(K_refuse F M 3).bind fun c10 =>
some (.inl (c10.1, c10.2))
else
lp M (x3 + 1)))
def L_K_clear_31 (F : Nat) (k2 : Nat) : Nat → Mem → Int32 → Option (Sum (Int32 × Mem) Mem)
  | 0, _, _ => none
  | n + 1, M, x3 => B_K_clear_31 F k2 (L_K_clear_31 F k2 n) M x3
def K_clear (F : Nat) (M : Mem) (x1 : Int32) : Option (Int32 × Mem) :=
(K_isRow F M x1).bind fun c1 =>
(if c1 = 0 then
some ((-1), M)
else
(idx x1 6).bind fun z3 =>
(S_isMissing F M (1 + 1 + 2 * z3)).bind fun c4 =>
(if c4 = 0 then
(L_K_clear_31 F (1 + 1 + 2 * z3) F M 0).bind fun u11 => Sum.elim (fun r12 =>
some r12) (fun w13 =>
(V_isRing F w13 23 ((1 + 1 + 2 * z3) + 1) (w13 (1 + 1 + 2 * z3) 1)).bind fun c14 =>
(if c14 = 0 then
some ((-4), w13)
else
(H_isFullFor F w13 53 1).bind fun c16 =>
(if c16 = 0 then
(H_begin F w13 53 23).bind fun c18 =>
(V_clearRing F c18 23 ((1 + 1 + 2 * z3) + 1) (c18 (1 + 1 + 2 * z3) 1)).bind fun c19 =>
some (c19.1, c19.2)
else
some ((-2), w13)))) u11
else
(K_refuse F M 1).bind fun c20 =>
some (c20.1, c20.2)))
def K_copy (F : Nat) (M : Mem) (x1 : Int32) (x2 : Int32) (x3 : Int32) (x4 : Int32) (x5 : Int32) : Option (Int32 × Mem) :=
(K_isRow F M x1).bind fun c1 =>
(if c1 = 0 then
some ((-1), M)
else
(K_isRow F M x3).bind fun c3 =>
(if c3 = 0 then
some ((-1), M)
else
(if 0 ≤ x5 then
(idx x1 6).bind fun z6 =>
(S_isMissing F M (1 + 1 + 2 * z6)).bind fun c7 =>
(if c7 = 0 then
(idx x3 6).bind fun z10 =>
(S_isMissing F M (1 + 1 + 2 * z10)).bind fun c11 =>
(if c11 = 0 then
(idx x1 6).bind fun z13 =>
(S_hasStretch F M (1 + 1 + 2 * z13) x2 x5).bind fun c14 =>
(if c14 = 0 then
(K_refuse F M 2).bind fun c16 =>
some (c16.1, c16.2)
else
(idx x3 6).bind fun z17 =>
(S_hasStretch F M (1 + 1 + 2 * z17) x4 x5).bind fun c18 =>
(if c18 = 0 then
(K_refuse F M 2).bind fun c23 =>
some (c23.1, c23.2)
else
(idx x1 6).bind fun z20 =>
(idx x3 6).bind fun z21 =>
(acp M ((1 + 1 + 2 * z20) + 1) x2 ((1 + 1 + 2 * z21) + 1) x4 x5).bind fun M22 =>
some (1, M22)))
else
(K_refuse F M 1).bind fun c24 =>
some (c24.1, c24.2))
else
(K_refuse F M 1).bind fun c9 =>
some (c9.1, c9.2))
else
(K_refuse F M 5).bind fun c25 =>
some (c25.1, c25.2))))
def B_K_thoseThere_4 (F : Nat) (M : Mem) (k0 : Nat) (lp : Int32 → Int32 → Option Int32) (x1 : Int32) (x2 : Int32) : Option Int32 :=
(if (Int32.ofNat (ln k0)) ≤ x2 then
some x1
else
(idx x2 (ln k0)).bind fun z2 =>
(S_isMissing F M (k0 + 1 + 2 * z2)).bind fun c3 =>
(if c3 = 0 then
lp (x1 + 1) (x2 + 1)
else
lp x1 (x2 + 1)))
def L_K_thoseThere_4 (F : Nat) (M : Mem) (k0 : Nat) : Nat → Int32 → Int32 → Option Int32
  | 0, _, _ => none
  | n + 1, x1, x2 => B_K_thoseThere_4 F M k0 (L_K_thoseThere_4 F M k0 n) x1 x2
def K_thoseThere (F : Nat) (M : Mem) (k0 : Nat) : Option Int32 :=
(L_K_thoseThere_4 F M k0 F 0 0).bind fun u5 =>
some u5
def B_K_keptVillages_4 (F : Nat) (M : Mem)  (lp : Int32 → Int32 → Option Int32) (x1 : Int32) (x2 : Int32) : Option Int32 :=
(if 3 ≤ x2 then
some x1
else
(idx x2 3).bind fun z2 =>
(if (M (56 + 1 + 3 * z2) 0) = (-1) then
lp x1 (x2 + 1)
else
lp (x1 + 1) (x2 + 1)))
def L_K_keptVillages_4 (F : Nat) (M : Mem) : Nat → Int32 → Int32 → Option Int32
  | 0, _, _ => none
  | n + 1, x1, x2 => B_K_keptVillages_4 F M (L_K_keptVillages_4 F M n) x1 x2
def K_keptVillages (F : Nat) (M : Mem) : Option Int32 :=
(L_K_keptVillages_4 F M F 0 0).bind fun u4 =>
some u4
def K_howMany (F : Nat) (M : Mem) (x1 : Int32) : Option Int32 :=
(if x1 = 0 then
some (M 23 0)
else
(if x1 = 1 then
some (M 23 1)
else
(if x1 = 2 then
some (M 53 0)
else
(if x1 = 3 then
(V_openDrafts F M 23).bind fun c5 =>
some c5
else
(if x1 = 4 then
(V_kissesOfSort F M 23 0).bind fun c7 =>
(V_kissesOfSort F M 23 1).bind fun c8 =>
(V_kissesOfSort F M 23 2).bind fun c9 =>
some ((c7 + c8) + c9)
else
(if x1 = 5 then
(V_personsOfKind F M 23 1).bind fun c11 =>
some c11
else
(if x1 = 6 then
(K_thoseThere F M 1).bind fun c13 =>
some c13
else
(if x1 = 7 then
(K_thoseThere F M 14).bind fun c15 =>
some c15
else
(K_keptVillages F M).bind fun c16 =>
some c16))))))))
def K_count (F : Nat) (M : Mem) (x1 : Int32) : Option Int32 :=
(if x1 < 0 then
some (-1)
else
(if x1 < 9 then
(K_howMany F M x1).bind fun c3 =>
some c3
else
some (-1)))
def K_ofPerson (F : Nat) (M : Mem) (x1 : Int32) (x2 : Int32) : Option Int32 :=
(if x2 = 0 then
(V_kindOf F M 23 x1).bind fun c2 =>
some c2
else
(if x2 = 1 then
(V_owing F M 23 x1).bind fun c4 =>
some c4
else
(if x2 = 2 then
(V_owed F M 23 x1 0).bind fun c6 =>
some c6
else
(if x2 = 3 then
(V_reserve F M 23 x1).bind fun c8 =>
some c8
else
(V_owedByAny F M 23 (1 <<< (x1 &&& 31))).bind fun c9 =>
(J_bitCount F M c9).bind fun c10 =>
some c10))))
def K_ofDraft (F : Nat) (M : Mem) (x1 : Int32) (x2 : Int32) : Option Int32 :=
(idx x1 12).bind fun z1 =>
(if x2 = 0 then
some (M (25 + 1 + z1) 0)
else
(if x2 = 1 then
some (M (25 + 1 + z1) 1)
else
(if x2 = 2 then
some (M (25 + 1 + z1) 2)
else
(if x2 = 3 then
some (M (25 + 1 + z1) 3)
else
(if x2 = 4 then
some (M (25 + 1 + z1) 4)
else
some (M (25 + 1 + z1) 5))))))
def B_K_digest_6 (F : Nat) (M : Mem)  (lp : Int64 → Int32 → Option Int64) (x1 : Int64) (x3 : Int32) : Option Int64 :=
(if 9 ≤ x3 then
some x1
else
(K_howMany F M x3).bind fun c2 =>
lp ((31 * x1) + ((c2).toInt64)) (x3 + 1))
def L_K_digest_6 (F : Nat) (M : Mem) : Nat → Int64 → Int32 → Option Int64
  | 0, _, _ => none
  | n + 1, x1, x3 => B_K_digest_6 F M (L_K_digest_6 F M n) x1 x3
def B_K_digest_47 (F : Nat) (M : Mem) (x3 : Int32) (lp : Int64 → Int32 → Option Int64) (x1 : Int64) (x4 : Int32) : Option Int64 :=
(if 5 ≤ x4 then
some x1
else
(K_ofPerson F M x3 x4).bind fun c6 =>
lp ((31 * x1) + ((c6).toInt64)) (x4 + 1))
def L_K_digest_47 (F : Nat) (M : Mem) (x3 : Int32) : Nat → Int64 → Int32 → Option Int64
  | 0, _, _ => none
  | n + 1, x1, x4 => B_K_digest_47 F M x3 (L_K_digest_47 F M x3 n) x1 x4
def B_K_digest_33 (F : Nat) (M : Mem)  (lp : Int64 → Int32 → Option Int64) (x1 : Int64) (x3 : Int32) : Option Int64 :=
(if (M 23 0) ≤ x3 then
some x1
else
(L_K_digest_47 F M x3 F x1 0).bind fun u7 =>
lp u7 (x3 + 1))
def L_K_digest_33 (F : Nat) (M : Mem) : Nat → Int64 → Int32 → Option Int64
  | 0, _, _ => none
  | n + 1, x1, x3 => B_K_digest_33 F M (L_K_digest_33 F M n) x1 x3
def B_K_digest_96 (F : Nat) (M : Mem) (x3 : Int32) (lp : Int64 → Int32 → Option Int64) (x1 : Int64) (x4 : Int32) : Option Int64 :=
(if 6 ≤ x4 then
some x1
else
(K_ofDraft F M x3 x4).bind fun c11 =>
lp ((31 * x1) + ((c11).toInt64)) (x4 + 1))
def L_K_digest_96 (F : Nat) (M : Mem) (x3 : Int32) : Nat → Int64 → Int32 → Option Int64
  | 0, _, _ => none
  | n + 1, x1, x4 => B_K_digest_96 F M x3 (L_K_digest_96 F M x3 n) x1 x4
def B_K_digest_82 (F : Nat) (M : Mem)  (lp : Int64 → Int32 → Option Int64) (x1 : Int64) (x3 : Int32) : Option Int64 :=
(if (M 23 1) ≤ x3 then
some x1
else
(L_K_digest_96 F M x3 F x1 0).bind fun u12 =>
lp u12 (x3 + 1))
def L_K_digest_82 (F : Nat) (M : Mem) : Nat → Int64 → Int32 → Option Int64
  | 0, _, _ => none
  | n + 1, x1, x3 => B_K_digest_82 F M (L_K_digest_82 F M n) x1 x3
def B_K_digest_132 (F : Nat) (M : Mem)  (lp : Int64 → Int32 → Option Int64) (x1 : Int64) (x3 : Int32) : Option Int64 :=
(if 3 ≤ x3 then
some x1
else
(idx x3 3).bind fun z15 =>
lp ((31 * x1) + (((M (56 + 1 + 3 * z15) 0)).toInt64)) (x3 + 1))
def L_K_digest_132 (F : Nat) (M : Mem) : Nat → Int64 → Int32 → Option Int64
  | 0, _, _ => none
  | n + 1, x1, x3 => B_K_digest_132 F M (L_K_digest_132 F M n) x1 x3
def B_K_digest_162 (F : Nat) (M : Mem)  (lp : Int64 → Int32 → Option Int64) (x1 : Int64) (x3 : Int32) : Option Int64 :=
(if 6 ≤ x3 then
some x1
else
(idx x3 6).bind fun z18 =>
(S_mixedInto F M (1 + 1 + 2 * z18) x1).bind fun c19 =>
lp c19 (x3 + 1))
def L_K_digest_162 (F : Nat) (M : Mem) : Nat → Int64 → Int32 → Option Int64
  | 0, _, _ => none
  | n + 1, x1, x3 => B_K_digest_162 F M (L_K_digest_162 F M n) x1 x3
def B_K_digest_187 (F : Nat) (M : Mem)  (lp : Int64 → Int32 → Option Int64) (x1 : Int64) (x3 : Int32) : Option Int64 :=
(if 4 ≤ x3 then
some x1
else
(idx x3 4).bind fun z22 =>
(S_mixedInto F M (14 + 1 + 2 * z22) x1).bind fun c23 =>
lp c23 (x3 + 1))
def L_K_digest_187 (F : Nat) (M : Mem) : Nat → Int64 → Int32 → Option Int64
  | 0, _, _ => none
  | n + 1, x1, x3 => B_K_digest_187 F M (L_K_digest_187 F M n) x1 x3
def K_digest (F : Nat) (M : Mem) : Option Int64 :=
(L_K_digest_6 F M F 17 0).bind fun u3 =>
(L_K_digest_33 F M F u3 0).bind fun u8 =>
(L_K_digest_82 F M F u8 0).bind fun u13 =>
(L_K_digest_132 F M F u13 0).bind fun u16 =>
(L_K_digest_162 F M F u16 0).bind fun u20 =>
(L_K_digest_187 F M F u20 0).bind fun u24 =>
some u24
def K_draft (F : Nat) (M : Mem) (x1 : Int32) (x2 : Int32) : Option (Int32 × Mem) :=
(V_hasDraft F M 23 x1).bind fun c1 =>
(if c1 = 0 then
some ((-1), M)
else
(if x2 < 0 then
some ((-1), M)
else
(if x2 < 6 then
(K_ofDraft F M x1 x2).bind fun c5 =>
(K_tell F M c5).bind fun c6 =>
some (c6.1, c6.2)
else
some ((-1), M))))
def K_endorse (F : Nat) (M : Mem) (x1 : Int32) (x2 : Int32) : Option (Int32 × Mem) :=
(V_hasDraft F M 23 x1).bind fun c1 =>
(if c1 = 0 then
some ((-1), M)
else
(V_hasPerson F M 23 x2).bind fun c3 =>
(if c3 = 0 then
some ((-1), M)
else
(idx x1 12).bind fun z5 =>
(if (M (25 + 1 + z5) 0) = x2 then
some ((-1), M)
else
(D_isOpen F M (25 + 1 + z5)).bind fun c7 =>
(if c7 = 0 then
some ((-4), M)
else
(if 2 ≤ (M (25 + 1 + z5) 5) then
some ((-4), M)
else
(if (M (25 + 1 + z5) 1) = x2 then
some ((-4), M)
else
(H_isFullFor F M 53 1).bind fun c11 =>
(if c11 = 0 then
(H_begin F M 53 23).bind fun c13 =>
some (((up (up c13 (25 + 1 + z5) 1 x2) (25 + 1 + z5) 5 (((up c13 (25 + 1 + z5) 1 x2) (25 + 1 + z5) 5) + 1)) (25 + 1 + z5) 5), (up (up c13 (25 + 1 + z5) 1 x2) (25 + 1 + z5) 5 (((up c13 (25 + 1 + z5) 1 x2) (25 + 1 + z5) 5) + 1)))
else
some ((-2), M))))))))
def K_falls (F : Nat) (M : Mem) (x1 : Int32) : Option Int32 :=
(V_hasPerson F M 23 x1).bind fun c1 =>
(if c1 = 0 then
some (-1)
else
(V_fallen F M 23 x1 (-1)).bind fun c3 =>
some c3)
def K_isText (F : Nat) (M : Mem) (x0 : Int32) : Option Int32 :=
(if x0 < 0 then
some 0
else
(if 4 ≤ x0 then
some 0
else
some 1))
def K_fault (F : Nat) (M : Mem) (x1 : Int32) : Option (Int32 × Mem) :=
(K_isText F M x1).bind fun c1 =>
(if c1 = 0 then
some ((-1), M)
else
(idx x1 4).bind fun z3 =>
(S_isMissing F M (14 + 1 + 2 * z3)).bind fun c4 =>
(if c4 = 0 then
(idx x1 4).bind fun z6 =>
(R_faultOf F M (14 + 1 + 2 * z6) 38).bind fun c7 =>
some (c7.1, c7.2)
else
(K_refuse F M 1).bind fun c8 =>
some (c8.1, c8.2)))
def K_finding (F : Nat) (M : Mem) : Option Int32 :=
some (M 0 10)
def K_findings (F : Nat) (M : Mem) (x1 : Int32) : Option Int32 :=
(if x1 < 1 then
some (-1)
else
(if x1 ≤ 5 then
(ard M 76 x1).bind fun t3 =>
some t3
else
some (-1)))
def K_firstGain (F : Nat) (M : Mem) (k0 : Nat) : Option Int32 :=
(if 6 ≤ (Int32.ofNat (ln k0)) then
(ard M k0 0).bind fun t2 =>
(ard M k0 2).bind fun t3 =>
(if (lg_cmp (((t2).toInt64) * ((t3).toInt64)) 10000) ≤ 0 then
(ard M k0 1).bind fun t5 =>
(ard M k0 4).bind fun t6 =>
(if (lg_cmp (((t5).toInt64) * ((t6).toInt64)) 10000) ≤ 0 then
(ard M k0 3).bind fun t8 =>
(ard M k0 5).bind fun t9 =>
(if (lg_cmp (((t8).toInt64) * ((t9).toInt64)) 10000) ≤ 0 then
(ard M k0 0).bind fun t11 =>
(ard M k0 3).bind fun t12 =>
(ard M k0 4).bind fun t13 =>
(if (lg_cmp ((((t11).toInt64) * ((t12).toInt64)) * ((t13).toInt64)) 1000000) ≤ 0 then
(ard M k0 1).bind fun t15 =>
(ard M k0 5).bind fun t16 =>
(ard M k0 2).bind fun t17 =>
(if (lg_cmp ((((t15).toInt64) * ((t16).toInt64)) * ((t17).toInt64)) 1000000) ≤ 0 then
some (-9)
else
some 4)
else
some 3)
else
some 2)
else
some 1)
else
some 0)
else
some (-9))
def B_K_gain_46 (F : Nat) (k2 : Nat) (lp : Mem → Int32 → Option (Sum (Int32 × Mem) Mem)) (M : Mem) (x3 : Int32) : Option (Sum (Int32 × Mem) Mem) :=
(if 6 ≤ x3 then
some (.inr M)
else
(ard M (k2 + 1) x3).bind fun t8 =>
(if t8 < 1 then
(K_refuse F M 3).bind fun c10 =>
some (.inl (c10.1, c10.2))
else
(ard M (k2 + 1) x3).bind fun t11 =>
(if t11 ≤ 9999 then
lp M (x3 + 1)
else
(K_refuse F M 3).bind fun c13 =>
some (.inl (c13.1, c13.2)))))
def L_K_gain_46 (F : Nat) (k2 : Nat) : Nat → Mem → Int32 → Option (Sum (Int32 × Mem) Mem)
  | 0, _, _ => none
  | n + 1, M, x3 => B_K_gain_46 F k2 (L_K_gain_46 F k2 n) M x3
def K_gain (F : Nat) (M : Mem) (x1 : Int32) : Option (Int32 × Mem) :=
(K_isRow F M x1).bind fun c1 =>
(if c1 = 0 then
some ((-1), M)
else
(idx x1 6).bind fun z3 =>
(S_isMissing F M (1 + 1 + 2 * z3)).bind fun c4 =>
(if c4 = 0 then
(if (M (1 + 1 + 2 * z3) 1) = 6 then
(L_K_gain_46 F (1 + 1 + 2 * z3) F M 0).bind fun u14 => Sum.elim (fun r15 =>
some r15) (fun w16 =>
(K_firstGain F w16 ((1 + 1 + 2 * z3) + 1)).bind fun c17 =>
some (c17, w16)) u14
else
(K_refuse F M 5).bind fun c18 =>
some (c18.1, c18.2))
else
(K_refuse F M 1).bind fun c19 =>
some (c19.1, c19.2)))
def B_K_greatestCommon_7 (F : Nat) (M : Mem) (x0 : Int32) (x1 : Int32) (lp : Int32 → Option (Sum Int32 Unit)) (x2 : Int32) : Option (Sum Int32 Unit) :=
(if x2 ≤ 1 then
some (.inr ())
else
(rmi x0 x2).bind fun t2 =>
(if t2 = 0 then
(rmi x1 x2).bind fun t4 =>
(if t4 = 0 then
some (.inl x2)
else
lp (x2 + (-1)))
else
lp (x2 + (-1))))
def L_K_greatestCommon_7 (F : Nat) (M : Mem) (x0 : Int32) (x1 : Int32) : Nat → Int32 → Option (Sum Int32 Unit)
  | 0, _ => none
  | n + 1, x2 => B_K_greatestCommon_7 F M x0 x1 (L_K_greatestCommon_7 F M x0 x1 n) x2
def K_greatestCommon (F : Nat) (M : Mem) (x0 : Int32) (x1 : Int32) : Option Int32 :=
(L_K_greatestCommon_7 F M x0 x1 F (if 6 < x0 then 6 else x0)).bind fun u6 => Sum.elim (fun r7 =>
some r7) (fun w8 =>
some 1) u6
def K_isKeptPlace (F : Nat) (M : Mem) (x0 : Int32) : Option Int32 :=
(if x0 < 0 then
some 0
else
(if 3 ≤ x0 then
some 0
else
some 1))
def K_keep (F : Nat) (M : Mem) (x1 : Int32) : Option (Int32 × Mem) :=
(K_isKeptPlace F M x1).bind fun c1 =>
(if c1 = 0 then
some ((-1), M)
else
(V_isEmpty F M 23).bind fun c3 =>
(if c3 = 0 then
(H_save F M 53 23).bind fun c5 =>
(idx x1 3).bind fun z6 =>
(H_becomeLike F c5 (56 + 1 + 3 * z6) 53).bind fun c7 =>
some ((c7 53 0), c7)
else
some ((-4), M)))
def K_lay (F : Nat) (M : Mem) (x1 : Int32) (x2 : Int32) (x3 : Int32) : Option (Int32 × Mem) :=
(K_isRow F M x1).bind fun c1 =>
(if c1 = 0 then
some ((-1), M)
else
(idx x1 6).bind fun z3 =>
(S_findingAt F M (1 + 1 + 2 * z3) x2).bind fun c4 =>
(if c4 = 0 then
(idx x1 6).bind fun z6 =>
(ard M ((1 + 1 + 2 * z6) + 1) x2).bind fun t7 =>
(idx x1 6).bind fun z8 =>
(awr M ((1 + 1 + 2 * z8) + 1) x2 x3).bind fun M9 =>
(K_tell F M9 t7).bind fun c10 =>
some (c10.1, c10.2)
else
(K_refuse F M c4).bind fun c11 =>
some (c11.1, c11.2)))
def B_K_left_34 (F : Nat) (x1 : Int32) (lp : Mem → Int32 → Option (Int32 × Mem)) (M : Mem) (x2 : Int32) : Option (Int32 × Mem) :=
(if (M 66 0) ≤ 0 then
some (x2, M)
else
(if 12 ≤ x2 then
some (x2, M)
else
(V_clearRing F M 38 67 (M 66 3)).bind fun c7 =>
(G_search F c7.2 38 x1).bind fun c8 =>
lp c8 (x2 + 1)))
def L_K_left_34 (F : Nat) (x1 : Int32) : Nat → Mem → Int32 → Option (Int32 × Mem)
  | 0, _, _ => none
  | n + 1, M, x2 => B_K_left_34 F x1 (L_K_left_34 F x1 n) M x2
def K_left (F : Nat) (M : Mem) (x1 : Int32) : Option (Int32 × Mem) :=
(K_isRingSort F M x1).bind fun c1 =>
(if c1 = 0 then
some ((-1), M)
else
(V_becomeLike F M 38 23).bind fun c3 =>
(G_search F c3 38 x1).bind fun c4 =>
(L_K_left_34 F x1 F c4 0).bind fun u9 =>
(V_kissesOfSort F (up u9.2 0 11 u9.1) 38 x1).bind fun c10 =>
some (c10, (up u9.2 0 11 u9.1)))
def B_K_lots_67 (F : Nat) (x1 : Int32) (x3 : Int32) (lp : Mem → Int64 → Int32 → Int32 → Option (Int32 × Mem)) (M : Mem) (x4 : Int64) (x6 : Int32) (x7 : Int32) : Option (Int32 × Mem) :=
(if x1 ≤ x7 then
some (x6, M)
else
(rml (48271 * x4) 2147483647).bind fun t9 =>
(rml t9 ((x3).toInt64)).bind fun t10 =>
(dvl t9 32).bind fun t11 =>
(rml t11 (((x3 - 1)).toInt64)).bind fun t12 =>
(rml ((((((t10).toInt32) + 1)).toInt64) + t12) ((x3).toInt64)).bind fun t13 =>
(H_begin F M 53 23).bind fun c14 =>
(V_netTwo F c14 23 ((t10).toInt32) ((t13).toInt32)).bind fun c15 =>
(V_payTwo F c15.2 23 ((t10).toInt32) ((t13).toInt32)).bind fun c16 =>
lp c16.2 t9 (x6 + c16.1) (x7 + 1))
def L_K_lots_67 (F : Nat) (x1 : Int32) (x3 : Int32) : Nat → Mem → Int64 → Int32 → Int32 → Option (Int32 × Mem)
  | 0, _, _, _, _ => none
  | n + 1, M, x4, x6, x7 => B_K_lots_67 F x1 x3 (L_K_lots_67 F x1 x3 n) M x4 x6 x7
def K_lots (F : Nat) (M : Mem) (x1 : Int32) (x2 : Int32) : Option (Int32 × Mem) :=
(if x1 < 1 then
some ((-1), M)
else
(if 20 < x1 then
some ((-1), M)
else
(if x2 < 1 then
some ((-1), M)
else
(if (lg_cmp ((x2).toInt64) 2147483647) < 0 then
(if 2 ≤ (M 23 0) then
(H_isFullFor F M 53 x1).bind fun c6 =>
(if c6 = 0 then
(L_K_lots_67 F x1 (M 23 0) F M ((x2).toInt64) 0 0).bind fun u17 =>
some (u17.1, u17.2)
else
some ((-2), M))
else
some ((-4), M))
else
some ((-1), M)))))
def K_lower (F : Nat) (M : Mem) : Option Int64 :=
some ((M 0 13).toInt64)
def K_ringsThrough (F : Nat) (M : Mem) (x1 : Int32) : Option (Int32 × Mem) :=
(G_search F M 23 0).bind fun c1 =>
(ard c1 68 x1).bind fun t2 =>
(G_search F c1 23 1).bind fun c3 =>
(ard c3 68 x1).bind fun t4 =>
some ((t2 + t4), c3)
def K_mark (F : Nat) (M : Mem) (x1 : Int32) (x2 : Int32) : Option (Int32 × Mem) :=
(V_hasPerson F M 23 x1).bind fun c1 =>
(if c1 = 0 then
some ((-1), M)
else
(if x2 ≤ 0 then
some ((-1), M)
else
(if x2 < 6 then
(V_isOfKind F M 23 x1 x2).bind fun c5 =>
(if c5 = 0 then
(K_refuse F M 3).bind fun c19 =>
some (c19.1, c19.2)
else
(if x2 = 1 then
(V_openOwedTo F M 23 x1).bind fun c8 =>
(V_growthFor F M 23 x1).bind fun c9 =>
some ((c8 * c9), M)
else
(if x2 = 2 then
(V_openOn F M 23 x1).bind fun c11 =>
some (c11, M)
else
(if x2 = 3 then
(V_owed F M 23 x1 0).bind fun c13 =>
(V_reserve F M 23 x1).bind fun c14 =>
(V_owing F M 23 x1).bind fun c15 =>
some ((if 0 < ((c13 + c14) - c15) then ((c13 + c14) - c15) else 0), M)
else
(if x2 = 4 then
(V_souringFor F M 23 x1).bind fun c17 =>
some (c17, M)
else
(K_ringsThrough F M x1).bind fun c18 =>
some (c18.1, c18.2))))))
else
some ((-1), M))))
def B_K_mean_47 (F : Nat) (M : Mem) (k2 : Nat) (lp : Int64 → Int32 → Option Int64) (x3 : Int64) (x5 : Int32) : Option Int64 :=
(if (M k2 1) ≤ x5 then
some x3
else
(ard M (k2 + 1) x5).bind fun t8 =>
lp (x3 + ((t8).toInt64)) (x5 + 1))
def L_K_mean_47 (F : Nat) (M : Mem) (k2 : Nat) : Nat → Int64 → Int32 → Option Int64
  | 0, _, _ => none
  | n + 1, x3, x5 => B_K_mean_47 F M k2 (L_K_mean_47 F M k2 n) x3 x5
def K_mean (F : Nat) (M : Mem) (x1 : Int32) : Option (Int32 × Mem) :=
(K_isRow F M x1).bind fun c1 =>
(if c1 = 0 then
some ((-1), M)
else
(idx x1 6).bind fun z3 =>
(S_isMissing F M (1 + 1 + 2 * z3)).bind fun c4 =>
(if c4 = 0 then
(if (M (1 + 1 + 2 * z3) 1) = 0 then
(K_refuse F M 4).bind fun c12 =>
some (c12.1, c12.2)
else
(L_K_mean_47 F M (1 + 1 + 2 * z3) F 0 0).bind fun u9 =>
(dvl u9 (((M (1 + 1 + 2 * z3) 1)).toInt64)).bind fun t10 =>
(K_tell F M ((t10).toInt32)).bind fun c11 =>
some (c11.1, c11.2))
else
(K_refuse F M 1).bind fun c13 =>
some (c13.1, c13.2)))
def K_meet (F : Nat) (M : Mem) (x1 : Int32) (x2 : Int32) : Option (Int32 × Mem) :=
(V_hasTwo F M 23 x1 x2).bind fun c1 =>
(if c1 = 0 then
some ((-1), M)
else
(H_isFullFor F M 53 1).bind fun c3 =>
(if c3 = 0 then
(H_begin F M 53 23).bind fun c5 =>
(V_netTwo F c5 23 x1 x2).bind fun c6 =>
(V_payTwo F (up c6.2 0 11 c6.1) 23 x1 x2).bind fun c7 =>
some (c7.1, c7.2)
else
some ((-2), M)))
def B_K_mistletoe_19 (F : Nat) (M : Mem)  (lp : Int32 → Int32 → Int32 → Option (Int32 × Int32)) (x1 : Int32) (x2 : Int32) (x3 : Int32) : Option (Int32 × Int32) :=
(if (M 23 0) ≤ x3 then
some (x1, x2)
else
(V_clearedByHalving F M 23 x3).bind fun c4 =>
(if c4 ≤ x2 then
lp x1 x2 (x3 + 1)
else
lp x3 c4 (x3 + 1)))
def L_K_mistletoe_19 (F : Nat) (M : Mem) : Nat → Int32 → Int32 → Int32 → Option (Int32 × Int32)
  | 0, _, _, _ => none
  | n + 1, x1, x2, x3 => B_K_mistletoe_19 F M (L_K_mistletoe_19 F M n) x1 x2 x3
def K_mistletoe (F : Nat) (M : Mem) : Option (Int32 × Mem) :=
(V_isEmpty F M 23).bind fun c1 =>
(if c1 = 0 then
(L_K_mistletoe_19 F M F 0 (-1) 0).bind fun u6 =>
some (u6.1, (up M 0 11 u6.2))
else
some ((-4), M))
def B_K_net_13 (F : Nat) (M : Mem) (x1 : Int32) (lp : Int32 → Int32 → Option Int32) (x2 : Int32) (x3 : Int32) : Option Int32 :=
(if (M 23 0) ≤ x3 then
some x2
else
(V_netOwing F M 23 x3 x1).bind fun c4 =>
lp (x2 + (if 0 < c4 then c4 else 0)) (x3 + 1))
def L_K_net_13 (F : Nat) (M : Mem) (x1 : Int32) : Nat → Int32 → Int32 → Option Int32
  | 0, _, _ => none
  | n + 1, x2, x3 => B_K_net_13 F M x1 (L_K_net_13 F M x1 n) x2 x3
def K_net (F : Nat) (M : Mem) (x1 : Int32) : Option Int32 :=
(K_isSort F M x1).bind fun c1 =>
(if c1 = 0 then
some (-1)
else
(L_K_net_13 F M x1 F 0 0).bind fun u5 =>
some u5)
def B_K_odds_17 (F : Nat) (M : Mem)  (lp : Int32 → Int32 → Option Int32) (x1 : Int32) (x2 : Int32) : Option Int32 :=
(if (M 23 0) ≤ x2 then
some x1
else
(V_fallen F M 23 x2 (-1)).bind fun c4 =>
(if c4 = 0 then
lp (x1 + 1) (x2 + 1)
else
lp x1 (x2 + 1)))
def L_K_odds_17 (F : Nat) (M : Mem) : Nat → Int32 → Int32 → Option Int32
  | 0, _, _ => none
  | n + 1, x1, x2 => B_K_odds_17 F M (L_K_odds_17 F M n) x1 x2
def K_odds (F : Nat) (M : Mem) : Option (Int32 × Mem) :=
(V_isEmpty F M 23).bind fun c1 =>
(if c1 = 0 then
(L_K_odds_17 F M F 0 0).bind fun u6 =>
(K_greatestCommon F M (M 23 0) u6).bind fun c7 =>
(if c7 ≤ 0 then
some (1, M)
else
(dvi u6 c7).bind fun t9 =>
(dvi ((up M 0 12 t9) 23 0) c7).bind fun t10 =>
some (1, (up (up M 0 12 t9) 0 13 t10)))
else
some ((-4), M))
def K_on (F : Nat) (M : Mem) (x1 : Int32) : Option (Int32 × Mem) :=
(K_isKeptPlace F M x1).bind fun c1 =>
(if c1 = 0 then
some ((-1), M)
else
(idx x1 3).bind fun z3 =>
(if (M (56 + 1 + 3 * z3) 0) = (-1) then
(K_refuse F M 1).bind fun c8 =>
some (c8.1, c8.2)
else
(idx x1 3).bind fun z5 =>
(H_becomeLike F M 53 (56 + 1 + 3 * z5)).bind fun c6 =>
(H_goBack F c6 53 (c6 53 0) 23).bind fun c7 =>
some ((c7 53 0), c7)))
def K_owe (F : Nat) (M : Mem) (x1 : Int32) (x2 : Int32) : Option (Int32 × Mem) :=
(if x1 < 0 then
some ((-1), M)
else
(if x2 < 1 then
some ((-1), M)
else
(if x2 ≤ 9 then
(dvi x1 100).bind fun t4 =>
(dvi x1 10).bind fun t5 =>
(rmi t5 10).bind fun t6 =>
(rmi x1 10).bind fun t7 =>
(V_hasTwo F M 23 t4 t6).bind fun c8 =>
(if c8 = 0 then
some ((-1), M)
else
(if t7 < 3 then
(if 12 ≤ (M 23 1) then
some ((-2), M)
else
(H_isFullFor F M 53 1).bind fun c12 =>
(if c12 = 0 then
(H_begin F M 53 23).bind fun c14 =>
(V_addDraft F c14 23 t4 t6 t7 x2).bind fun c15 =>
some (((c15 23 1) - 1), c15)
else
some ((-2), M)))
else
some ((-1), M)))
else
some ((-1), M))))
def B_K_pairs_26 (F : Nat)  (lp : Mem → Int32 → Int32 → Option (Int32 × Mem)) (M : Mem) (x1 : Int32) (x2 : Int32) : Option (Int32 × Mem) :=
(if (M 70 0) ≤ x2 then
some (x1, M)
else
(ard M 71 x2).bind fun t4 =>
(ard M 72 x2).bind fun t5 =>
(V_netTwo F M 38 t4 t5).bind fun c6 =>
(ard c6.2 71 x2).bind fun t7 =>
(ard c6.2 72 x2).bind fun t8 =>
(V_payTwo F c6.2 38 t7 t8).bind fun c9 =>
lp c9.2 (x1 + c9.1) (x2 + 1))
def L_K_pairs_26 (F : Nat) : Nat → Mem → Int32 → Int32 → Option (Int32 × Mem)
  | 0, _, _, _ => none
  | n + 1, M, x1, x2 => B_K_pairs_26 F (L_K_pairs_26 F n) M x1 x2
def K_pairs (F : Nat) (M : Mem) : Option (Int32 × Mem) :=
(O_gather F M 23).bind fun c1 =>
(V_becomeLike F c1 38 23).bind fun c2 =>
(L_K_pairs_26 F F c2 0 0).bind fun u10 =>
some (((up u10.2 0 11 u10.1) 70 0), (up u10.2 0 11 u10.1))
def K_person (F : Nat) (M : Mem) (x1 : Int32) (x2 : Int32) : Option (Int32 × Mem) :=
(V_hasPerson F M 23 x1).bind fun c1 =>
(if c1 = 0 then
some ((-1), M)
else
(if x2 < 0 then
some ((-1), M)
else
(if x2 < 5 then
(K_ofPerson F M x1 x2).bind fun c5 =>
(K_tell F M c5).bind fun c6 =>
some (c6.1, c6.2)
else
some ((-1), M))))
def K_put (F : Nat) (M : Mem) (x1 : Int32) (x2 : Int32) (x3 : Int32) : Option (Int32 × Mem) :=
(K_isText F M x1).bind fun c1 =>
(if c1 = 0 then
some ((-1), M)
else
(idx x1 4).bind fun z3 =>
(S_findingAt F M (14 + 1 + 2 * z3) x2).bind fun c4 =>
(if c4 = 0 then
(idx x1 4).bind fun z6 =>
(ard M ((14 + 1 + 2 * z6) + 1) x2).bind fun t7 =>
(idx x1 4).bind fun z8 =>
(awr M ((14 + 1 + 2 * z8) + 1) x2 ((x3).toInt8.toInt32)).bind fun M9 =>
some ((t7 + 1000), M9)
else
(K_refuse F M c4).bind fun c10 =>
some (c10.1, c10.2)))
def K_ring (F : Nat) (M : Mem) (x1 : Int32) (x2 : Int32) : Option (Int32 × Mem) :=
(K_isRingSort F M x1).bind fun c1 =>
(if c1 = 0 then
some ((-1), M)
else
(K_isRow F M x2).bind fun c3 =>
(if c3 = 0 then
some ((-1), M)
else
(G_search F M 23 x1).bind fun c5 =>
(if (c5 66 0) = 0 then
some ((-9), c5)
else
(idx x2 6).bind fun z7 =>
(S_renew F c5 (1 + 1 + 2 * z7) (c5 66 3) 0).bind fun c8 =>
(idx x2 6).bind fun z9 =>
(acp c8 67 0 ((1 + 1 + 2 * z9) + 1) 0 (c8 66 3)).bind fun M10 =>
some ((M10 66 2), M10))))
def K_rounds (F : Nat) (M : Mem) : Option (Int32 × Mem) :=
(O_gather F M 23).bind fun c1 =>
(O_fewest F c1).bind fun c2 =>
some (c2.1, c2.2)
def K_row (F : Nat) (M : Mem) (x1 : Int32) (x2 : Int32) : Option (Int32 × Mem) :=
(K_isRow F M x1).bind fun c1 =>
(if c1 = 0 then
some ((-1), M)
else
(if x2 ≤ 40 then
(if 0 ≤ x2 then
(idx x1 6).bind fun z5 =>
(S_renew F M (1 + 1 + 2 * z5) x2 0).bind fun c6 =>
some (x2, c6)
else
(K_refuse F M 5).bind fun c7 =>
some (c7.1, c7.2))
else
some ((-1), M)))
def K_saved (F : Nat) (M : Mem) (x1 : Int32) (x2 : Int32) : Option Int32 :=
(V_hasTwo F M 23 x1 x2).bind fun c1 =>
(if c1 = 0 then
some (-1)
else
(V_fallen F M 23 x2 x1).bind fun c3 =>
(V_owing F M 23 x1).bind fun c4 =>
(V_owed F M 23 x1 (c3 ||| (1 <<< (x2 &&& 31)))).bind fun c5 =>
(V_reserve F M 23 x1).bind fun c6 =>
(if (if 0 < ((c4 - c5) - c6) then ((c4 - c5) - c6) else 0) ≤ 200 then
some (if 0 < ((c4 - c5) - c6) then ((c4 - c5) - c6) else 0)
else
some (-9)))
def K_sure (F : Nat) (M : Mem) (x1 : Int32) : Option (Int32 × Mem) :=
(K_blushesRefused F M x1).bind fun c1 =>
(if c1.1 = 0 then
(idx x1 6).bind fun z3 =>
(B_search F c1.2 23 ((1 + 1 + 2 * z3) + 1)).bind fun c4 =>
some ((c4 74 2), c4)
else
some (c1.1, c1.2))
def K_tear (F : Nat) (M : Mem) (x1 : Int32) : Option (Int32 × Mem) :=
(K_isRow F M x1).bind fun c1 =>
(if c1 = 0 then
some ((-1), M)
else
(idx x1 6).bind fun z3 =>
(S_isMissing F M (1 + 1 + 2 * z3)).bind fun c4 =>
(if c4 = 0 then
(idx x1 6).bind fun z6 =>
some (1, (up M (1 + 1 + 2 * z6) 1 (-1)))
else
(K_refuse F M 1).bind fun c7 =>
some (c7.1, c7.2)))
def K_text (F : Nat) (M : Mem) (x1 : Int32) (x2 : Int32) : Option (Int32 × Mem) :=
(K_isText F M x1).bind fun c1 =>
(if c1 = 0 then
some ((-1), M)
else
(if x2 ≤ 80 then
(if 0 ≤ x2 then
(idx x1 4).bind fun z5 =>
(S_renew F M (14 + 1 + 2 * z5) x2 32).bind fun c6 =>
some (x2, c6)
else
(K_refuse F M 5).bind fun c7 =>
some (c7.1, c7.2))
else
some ((-1), M)))
def B_K_trust_21 (F : Nat) (M : Mem) (x2 : Int32) (lp : Int32 → Int32 → Option (Sum Int32 Unit)) (x3 : Int32) (x4 : Int32) : Option (Sum Int32 Unit) :=
(if 3 < x4 then
some (.inr ())
else
(V_owedByAny F M 23 x3).bind fun c4 =>
(if ((x3 ||| c4) &&& (1 <<< (x2 &&& 31))) = 0 then
lp (x3 ||| c4) (x4 + 1)
else
some (.inl x4)))
def L_K_trust_21 (F : Nat) (M : Mem) (x2 : Int32) : Nat → Int32 → Int32 → Option (Sum Int32 Unit)
  | 0, _, _ => none
  | n + 1, x3, x4 => B_K_trust_21 F M x2 (L_K_trust_21 F M x2 n) x3 x4
def K_trust (F : Nat) (M : Mem) (x1 : Int32) (x2 : Int32) : Option Int32 :=
(V_hasTwo F M 23 x1 x2).bind fun c1 =>
(if c1 = 0 then
some (-1)
else
(L_K_trust_21 F M x2 F (1 <<< (x1 &&& 31)) 1).bind fun u6 => Sum.elim (fun r7 =>
some r7) (fun w8 =>
some (-9)) u6)
def K_undo (F : Nat) (M : Mem) (x1 : Int32) : Option (Int32 × Mem) :=
(if x1 < 0 then
some ((-1), M)
else
(if x1 ≤ (M 53 0) then
(if ((M 53 0) - x1) ≤ 0 then
some (((M 53 0) - x1), M)
else
(H_goBack F M 53 x1 23).bind fun c4 =>
some (((M 53 0) - x1), c4))
else
some ((-1), M)))
def K_upper (F : Nat) (M : Mem) : Option Int64 :=
some ((M 0 12).toInt64)
def B_K_village_69 (F : Nat)  (lp : Mem → Int32 → Option Mem) (M : Mem) (x2 : Int32) : Option Mem :=
(if 3 ≤ x2 then
some M
else
(idx x2 3).bind fun z11 =>
lp (up M (56 + 1 + 3 * z11) 0 (-1)) (x2 + 1))
def L_K_village_69 (F : Nat) : Nat → Mem → Int32 → Option Mem
  | 0, _, _ => none
  | n + 1, M, x2 => B_K_village_69 F (L_K_village_69 F n) M x2
def K_village (F : Nat) (M : Mem) (x1 : Int32) : Option (Int32 × Mem) :=
(K_isText F M x1).bind fun c1 =>
(if c1 = 0 then
some ((-1), M)
else
(idx x1 4).bind fun z3 =>
(S_isMissing F M (14 + 1 + 2 * z3)).bind fun c4 =>
(if c4 = 0 then
(idx x1 4).bind fun z6 =>
(R_faultOf F M (14 + 1 + 2 * z6) 38).bind fun c7 =>
(if c7.1 = (-9) then
(V_becomeLike F c7.2 23 38).bind fun c9 =>
(L_K_village_69 F F (up c9 53 0 0) 0).bind fun u12 =>
some ((u12 23 0), u12)
else
some ((-4), c7.2))
else
(K_refuse F M 1).bind fun c13 =>
some (c13.1, c13.2)))
def K_week (F : Nat) (M : Mem) : Option (Int32 × Mem) :=
(V_isEmpty F M 23).bind fun c1 =>
(if c1 = 0 then
(H_isFullFor F M 53 1).bind fun c3 =>
(if c3 = 0 then
(H_begin F M 53 23).bind fun c5 =>
(V_passWeek F c5 23).bind fun c6 =>
some (c6.1, c6.2)
else
some ((-2), M))
else
some ((-4), M))
def B_K_worst_19 (F : Nat) (M : Mem)  (lp : Int32 → Int32 → Int32 → Option (Int32 × Int32)) (x1 : Int32) (x2 : Int32) (x3 : Int32) : Option (Int32 × Int32) :=
(if (M 23 0) ≤ x3 then
some (x1, x2)
else
(V_fallen F M 23 x3 (-1)).bind fun c4 =>
(J_bitCount F M c4).bind fun c5 =>
(if c5 ≤ x2 then
lp x1 x2 (x3 + 1)
else
lp x3 c5 (x3 + 1)))
def L_K_worst_19 (F : Nat) (M : Mem) : Nat → Int32 → Int32 → Int32 → Option (Int32 × Int32)
  | 0, _, _, _ => none
  | n + 1, x1, x2, x3 => B_K_worst_19 F M (L_K_worst_19 F M n) x1 x2 x3
def K_worst (F : Nat) (M : Mem) : Option (Int32 × Mem) :=
(V_isEmpty F M 23).bind fun c1 =>
(if c1 = 0 then
(L_K_worst_19 F M F 0 (-1) 0).bind fun u7 =>
some (u7.1, (up M 0 11 u7.2))
else
some ((-4), M))
