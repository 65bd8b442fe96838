/-! memory, layout, world, judgement (by program: wip/whole/gen_logic.py) -/
abbrev Mem : Type := Nat → Nat → Int32
def up (M : Mem) (k j : Nat) (v : Int32) : Mem := fun a b => if a = k ∧ b = j then v else M a b
def upR (M : Mem) (k : Nat) (r : Nat → Int32) : Mem := fun a => if a = k then r else M a
theorem up_eq (M : Mem) (k j : Nat) (v : Int32) : up M k j v = upR M k (upd (M k) j v) := by
  funext a b
  by_cases h : a = k
  · subst h
    by_cases g : b = j <;> simp [up, upR, upd, g]
  · simp [up, upR, h]
def kdL : List Nat := [10, 1, 11, 0, 11, 0, 11, 0, 11, 0, 11, 0, 11, 0, 1, 11, 0, 11, 0, 11, 0, 11, 0, 12, 0, 2, 13, 13, 13, 13, 13, 13, 13, 13, 13, 13, 13, 13, 12, 0, 2, 13, 13, 13, 13, 13, 13, 13, 13, 13, 13, 13, 13, 14, 0, 0, 3, 14, 0, 0, 14, 0, 0, 14, 0, 0, 15, 0, 0, 0, 16, 0, 0, 0, 17, 0, 0, 99, 99, 99, 99, 99, 99, 99, 99, 99, 99, 99, 99, 99, 99, 99, 99, 99, 99, 99, 99, 99, 99, 99, 18, 0, 0, 0, 0, 0, 0, 0, 0, 0, 0, 0, 0, 0, 0]
def kd (k : Nat) : Nat := kdL.getD k 99
def lnL : List Nat := [0, 6, 0, 40, 0, 40, 0, 40, 0, 40, 0, 40, 0, 40, 4, 0, 80, 0, 80, 0, 80, 0, 80, 0, 6, 12, 0, 0, 0, 0, 0, 0, 0, 0, 0, 0, 0, 0, 0, 6, 12, 0, 0, 0, 0, 0, 0, 0, 0, 0, 0, 0, 0, 0, 41, 492, 3, 0, 41, 492, 0, 41, 492, 0, 41, 492, 0, 6, 6, 6, 0, 15, 15, 6, 0, 6, 6, 0, 0, 0, 3, 6, 6, 6, 6, 0, 0, 0, 0, 0, 0, 0, 0, 0, 0, 0, 0, 0, 0, 0, 0, 11976, 6, 6, 240, 4, 320, 6, 6, 48, 12, 6, 6, 30, 16]
def ln (k : Nat) : Nat := lnL.getD k 0
def LX : List Nat := List.range 77
def LM : List Nat := (List.range 15).map (fun i => 100 + i)
def cls9 : List vw_C := [(R_B, T_B, 4), (R_D, T_D, 6), (R_H, T_H, 3), (R_G, T_G, 7), (R_O, T_O, 4), (R_S, T_S, 2), (R_V, T_V, 4), (R_K, T_K, 14), (R_M, T_M, 31)]
def fs_B (ad : Nat → Nat) (k : Nat) (r : Nat → Int32) : List Value := [.int (r 0), .int (r 1), .int (r 2), .ref (ad (k + 1))]
def fs_D (ad : Nat → Nat) (k : Nat) (r : Nat → Int32) : List Value := [.int (r 0), .int (r 1), .int (r 2), .int (r 3), .int (r 4), .int (r 5)]
def fs_H (ad : Nat → Nat) (k : Nat) (r : Nat → Int32) : List Value := [.int (r 0), .ref (ad (k + 1)), .ref (ad (k + 2))]
def fs_G (ad : Nat → Nat) (k : Nat) (r : Nat → Int32) : List Value := [.int (r 0), .int (r 1), .int (r 2), .int (r 3), .ref (ad (k + 1)), .ref (ad (k + 2)), .ref (ad (k + 3))]
def fs_O (ad : Nat → Nat) (k : Nat) (r : Nat → Int32) : List Value := [.int (r 0), .ref (ad (k + 1)), .ref (ad (k + 2)), .ref (ad (k + 3))]
def fs_S (ad : Nat → Nat) (k : Nat) (r : Nat → Int32) : List Value := [.ref (ad (k + 1)), .int (r 1)]
def fs_V (ad : Nat → Nat) (k : Nat) (r : Nat → Int32) : List Value := [.int (r 0), .int (r 1), .ref (ad (k + 1)), .ref (ad (k + 2))]
def fs_K (ad : Nat → Nat) (k : Nat) (r : Nat → Int32) : List Value := [.ref (ad (k + 1)), .ref (ad (k + 14)), .ref (ad (k + 23)), .ref (ad (k + 38)), .ref (ad (k + 53)), .ref (ad (k + 56)), .ref (ad (k + 66)), .ref (ad (k + 70)), .ref (ad (k + 74)), .ref (ad (k + 76)), .int (r 10), .int (r 11), .long (r 12).toInt64, .long (r 13).toInt64]
def fs_M (ad : Nat → Nat) (k : Nat) (r : Nat → Int32) : List Value := [.ref (ad (k + 1)), .int (r 1), .ref (ad (k + 2)), .ref (ad (k + 3)), .ref (ad (k + 4)), .ref (ad (k + 5)), .ref (ad (k + 6)), .int (r 7), .long (r 8).toInt64, .long (r 9).toInt64, .int (r 10), .ref (ad (k + 7)), .int (r 12), .int (r 13), .int (r 14), .ref (ad (k + 8)), .int (r 16), .ref (ad (k + 9)), .int (r 18), .ref (ad (k + 10)), .ref (ad (k + 11)), .int (r 21), .ref (ad (k + 12)), .int (r 23), .int (r 24), .ref (ad (k + 13)), .int (r 26), .ref (ad (k + 14)), .int (r 28), .int (r 29), .int (r 30)]
def cel (ad : Nat → Nat) (cs : Nat → ClassId) (k : Nat) (r : Nat → Int32) : va_E := match kd k with
  | 0 => .inl (cs 0, ln k, .inl r)
  | 1 => .inl (cs 1, ln k, .inr (.inr (.inr (.inr (fun j => some (ad (k + 1 + 2 * j)))))))
  | 2 => .inl (cs 2, ln k, .inr (.inr (.inr (.inr (fun j => some (ad (k + 1 + j)))))))
  | 3 => .inl (cs 3, ln k, .inr (.inr (.inr (.inr (fun j => some (ad (k + 1 + 3 * j)))))))
  | 10 => .inr (7, fs_K ad k r)
  | 11 => .inr (5, fs_S ad k r)
  | 12 => .inr (6, fs_V ad k r)
  | 13 => .inr (1, fs_D ad k r)
  | 14 => .inr (2, fs_H ad k r)
  | 15 => .inr (3, fs_G ad k r)
  | 16 => .inr (4, fs_O ad k r)
  | 17 => .inr (0, fs_B ad k r)
  | 18 => .inr (8, fs_M ad k r)
  | _ => .inr (0, [])
theorem cel_0 {ad : Nat → Nat} {cs : Nat → ClassId} {k : Nat} {r : Nat → Int32} (h : kd k = 0) : cel ad cs k r = .inl (cs 0, ln k, .inl r) := by unfold cel; rw [h]; rfl
theorem cel_1 {ad : Nat → Nat} {cs : Nat → ClassId} {k : Nat} {r : Nat → Int32} (h : kd k = 1) : cel ad cs k r = .inl (cs 1, ln k, .inr (.inr (.inr (.inr (fun j => some (ad (k + 1 + 2 * j))))))) := by unfold cel; rw [h]; rfl
theorem cel_2 {ad : Nat → Nat} {cs : Nat → ClassId} {k : Nat} {r : Nat → Int32} (h : kd k = 2) : cel ad cs k r = .inl (cs 2, ln k, .inr (.inr (.inr (.inr (fun j => some (ad (k + 1 + j))))))) := by unfold cel; rw [h]; rfl
theorem cel_3 {ad : Nat → Nat} {cs : Nat → ClassId} {k : Nat} {r : Nat → Int32} (h : kd k = 3) : cel ad cs k r = .inl (cs 3, ln k, .inr (.inr (.inr (.inr (fun j => some (ad (k + 1 + 3 * j))))))) := by unfold cel; rw [h]; rfl
theorem cel_K {ad : Nat → Nat} {cs : Nat → ClassId} {k : Nat} {r : Nat → Int32} (h : kd k = 10) : cel ad cs k r = .inr (7, fs_K ad k r) := by unfold cel; rw [h]; rfl
theorem cel_S {ad : Nat → Nat} {cs : Nat → ClassId} {k : Nat} {r : Nat → Int32} (h : kd k = 11) : cel ad cs k r = .inr (5, fs_S ad k r) := by unfold cel; rw [h]; rfl
theorem cel_V {ad : Nat → Nat} {cs : Nat → ClassId} {k : Nat} {r : Nat → Int32} (h : kd k = 12) : cel ad cs k r = .inr (6, fs_V ad k r) := by unfold cel; rw [h]; rfl
theorem cel_D {ad : Nat → Nat} {cs : Nat → ClassId} {k : Nat} {r : Nat → Int32} (h : kd k = 13) : cel ad cs k r = .inr (1, fs_D ad k r) := by unfold cel; rw [h]; rfl
theorem cel_H {ad : Nat → Nat} {cs : Nat → ClassId} {k : Nat} {r : Nat → Int32} (h : kd k = 14) : cel ad cs k r = .inr (2, fs_H ad k r) := by unfold cel; rw [h]; rfl
theorem cel_G {ad : Nat → Nat} {cs : Nat → ClassId} {k : Nat} {r : Nat → Int32} (h : kd k = 15) : cel ad cs k r = .inr (3, fs_G ad k r) := by unfold cel; rw [h]; rfl
theorem cel_O {ad : Nat → Nat} {cs : Nat → ClassId} {k : Nat} {r : Nat → Int32} (h : kd k = 16) : cel ad cs k r = .inr (4, fs_O ad k r) := by unfold cel; rw [h]; rfl
theorem cel_B {ad : Nat → Nat} {cs : Nat → ClassId} {k : Nat} {r : Nat → Int32} (h : kd k = 17) : cel ad cs k r = .inr (0, fs_B ad k r) := by unfold cel; rw [h]; rfl
theorem cel_M {ad : Nat → Nat} {cs : Nat → ClassId} {k : Nat} {r : Nat → Int32} (h : kd k = 18) : cel ad cs k r = .inr (8, fs_M ad k r) := by unfold cel; rw [h]; rfl
def wsL (ad : Nat → Nat) (cs : Nat → ClassId) (L : List Nat) (M : Mem) : va_W := L.map (fun k => (ad k, cel ad cs k (M k)))
theorem wsL_get {ad : Nat → Nat} {cs : Nat → ClassId} {L : List Nat} {M : Mem} {k : Nat} (h : k ∈ L) : ∃ q : Nat, L[q]? = some k ∧ (wsL ad cs L M)[q]? = some (ad k, cel ad cs k (M k)) := by
  obtain ⟨q, hq⟩ := List.mem_iff_getElem?.mp h
  exact ⟨q, hq, by simp [wsL, hq]⟩
theorem wsL_set {ad : Nat → Nat} {cs : Nat → ClassId} {L : List Nat} (hn : L.Nodup) {M : Mem} {k q : Nat} (hq : L[q]? = some k) (r : Nat → Int32) : (wsL ad cs L M).set q (ad k, cel ad cs k r) = wsL ad cs L (upR M k r) := by
  apply List.ext_getElem?
  intro i
  rw [List.getElem?_set]
  have hlt : q < L.length := (List.getElem?_eq_some_iff.mp hq).1
  by_cases hi : q = i
  · subst hi
    rw [if_pos rfl, if_pos (by simpa [wsL] using hlt)]
    simp only [wsL, List.getElem?_map, hq, Option.map_some, upR, if_pos]
  · simp only [wsL, List.getElem?_map, if_neg hi]
    cases hL : L[i]? with
    | none => rfl
    | some x =>
      have hx : x ≠ k := by
        intro he
        subst he
        exact hi ((List.getElem?_inj hlt hn).mp (hq.trans hL.symm))
      simp [upR, hx]
theorem LX_nd : LX.Nodup := List.nodup_range
theorem LM_nd : LM.Nodup := by decide
def tysL (cs : Nat → ClassId) : List (ClassId × FieldType) := [(cs 0, .int), (cs 1, .object R_S), (cs 2, .object R_D), (cs 3, .object R_H)]
def rovL : List (List Int32) := [[104, 99, 116], [112, 97, 115, 98, 103, 105], [-1, 0, 0, 0, 1, 3], [1, 1, 0, 6, 1, 12], [0, 1, 0, 0, 2, 0]]
def rov (k j : Nat) : Int32 := (rovL.getD (k - 80) []).getD j 0
def snm (t : Nat) : String := match t with
  | 0 => "SORT_LETTERS"
  | 1 => "KIND_LETTERS"
  | 2 => "KIND_ABOVE"
  | 3 => "KIND_RESERVES"
  | _ => "KIND_GROWTHS"
def sow (t : Nat) : String := match t with
  | 0 => "KissClearing$Reader"
  | 1 => "KissClearing$Reader"
  | 2 => "KissClearing$Village"
  | 3 => "KissClearing$Village"
  | _ => "KissClearing$Village"
def six (t : Nat) : Nat := match t with
  | 0 => 60
  | 1 => 37
  | 2 => 45
  | 3 => 52
  | _ => 55
def St (ad : Nat → Nat) (A : Nat → Prop) (U : State) : Prop := ∀ t, t < 5 → va_Z R_K (snm t) "[I" (.ref (ad (80 + t))) A U U.heap ∧ va_T .int (ad (80 + t)) (ln (80 + t)) (fun j => .int (rov (80 + t) j)) A U U.heap ∧ va_Nw (.fieldLinkNest (sow t) (six t) R_K (snm t) "[I" R_K) U
theorem St.call {ad : Nat → Nat} {A : Nat → Prop} {s U : State} {H : Heap} {locs : List Loc} (h : St ad A s) (hS : va_S A s.heap H locs) (hU : U.heap = H) (hW : s.WarmedH U.vm) : St ad A U := by
  intro t ht
  obtain ⟨h1, h2, h3⟩ := h t ht
  have hk : ∀ a : Nat, a < s.heap.size → ¬ A a → U.heap[a]? = s.heap[a]? := fun a ha hA => by rw [hU]; exact hS.2.1 a ha hA
  exact ⟨va_Z.moved hW.alike (h1.kept hk), va_T.moved hW.alike (h2.kept hk), va_Nw.warmF hW h3⟩
theorem St.blind {ad : Nat → Nat} {A : Nat → Prop} {a : Array Value} {U : State} {g : JFrame} {mk : MethodId} (h : St ad A U) : St ad A (U.calling g mk a) := by
  intro t ht
  obtain ⟨h1, h2, h3⟩ := h t ht
  exact ⟨va_Z.moved (u := U) (U := U.calling g mk a) (Vm.Alike.refl U.vm) h1, va_T.moved (u := U) (U := U.calling g mk a) (Vm.Alike.refl U.vm) h2, va_Nw.same rfl (rfl : U.vm = (U.calling g mk a).vm) h3⟩
def Ev (ad : Nat → Nat) (cs : Nat → ClassId) (A : Nat → Prop) (L : List Nat) : Prop := L.Nodup ∧ ∀ M, va_D A (wsL ad cs L M)
def PX (D : va_G) (ad : Nat → Nat) (cs : Nat → ClassId) (A : Nat → Prop) (L : List Nat) (av : List Value) (M : Mem) : Array Value → State → Prop := fun v U => v = av.toArray ∧ va_P D cls9 (wsL ad cs L M) U.heap ∧ va_K D cls9 (tysL cs) U ∧ St ad A U
def QX (D : va_G) (ad : Nat → Nat) (cs : Nat → ClassId) (A : Nat → Prop) (L : List Nat) (V : Option Value) (N : Mem) : Array Value → State → Outcome → State → Prop := fun _ st o t => (o = .returned V ∧ va_P D cls9 (wsL ad cs L N) t.heap) ∧ va_F A st t
def rmD (d : Nat) : Room := { frames := d, cells := 0, slots := 0, locals := 40 * d }
def Cx (p : Program) (s : State) (m : MethodId) (args : Array Value) (meth : Method) (c : Code) (own : String) (cc : ByteArray) (nL : Nat) (ret : Option FieldType) (D : va_G) (ad : Nat → Nat) (cs : Nat → ClassId) (A : Nat → Prop) (L : List Nat) : Prop :=
  p.tables.exec = Jvm.exec ∧ c.code = cc ∧ c.maxLocals = nL ∧ s.vm.findClass own = some m.cls ∧ (∀ w ∈ wl, w.before args s = true) ∧ meth.sig.returnType = ret ∧ meth.locks = false ∧ va_K D cls9 (tysL cs) s ∧ St ad A s ∧ Ev ad cs A L
def X (p : Program) (l : Launch) (e : Env) (d : Nat) (s : State) (m : MethodId) (args : Array Value) (below : List Frame) (meth : Method) (c : Code) (nL : Nat) (D : va_G) (ad : Nat → Nat) (cs : Nat → ClassId) (A : Nat → Prop) (L : List Nat) (V : Option Value) (N : Mem) (M : Mem) (pc : Nat) (lv : List (Nat × Value)) (st : List Value) : Prop :=
  ∀ (H : Heap) (locs : List Loc) (ls : Array Slot), va_P D cls9 (wsL ad cs L M) H → va_S A s.heap H locs → lv_has ls nL lv → W p l e (rmD d) s m args below meth c H locs 0 0 (MQ below (QX D ad cs A L V N) args s 0 0 A) (F0 m pc ls st)
def inb (i : Int32) (n : Nat) : Bool := decide (0 ≤ i) && decide (i.toNatClampNeg < n)
theorem inb_in {i : Int32} {n : Nat} (h : inb i n = true) : vp_in i n := by
  simp only [inb, Bool.and_eq_true, decide_eq_true_eq] at h
  intro q
  rcases q with q | q
  · exact absurd h.1 (Int32.not_le.mpr q)
  · omega
def ard (M : Mem) (a : Nat) (i : Int32) : Option Int32 := if inb i (ln a) = true then some (M a i.toNatClampNeg) else none
def awr (M : Mem) (a : Nat) (i v : Int32) : Option Mem := if inb i (ln a) = true then some (up M a i.toNatClampNeg v) else none
def idx (i : Int32) (n : Nat) : Option Nat := if inb i n = true then some i.toNatClampNeg else none
def rod (a : Nat) (i : Int32) : Option Int32 := if inb i (ln a) = true then some (rov a i.toNatClampNeg) else none
def acp (M : Mem) (a : Nat) (i : Int32) (b : Nat) (j n : Int32) : Option Mem := if 0 ≤ i ∧ 0 ≤ j ∧ 0 ≤ n ∧ i.toNatClampNeg + n.toNatClampNeg ≤ ln a ∧ j.toNatClampNeg + n.toNatClampNeg ≤ ln b then some (upR M b (va_cpy (M a) (M b) i.toNatClampNeg j.toNatClampNeg n.toNatClampNeg)) else none
def rb (t : Int32) : Option Int32 := if t = 0 ∨ t = 1 then some t else none
def dvi (x y : Int32) : Option Int32 := if y = 0 then none else some (x / y)
def rmi (x y : Int32) : Option Int32 := if y = 0 then none else some (x - x / y * y)
def dvl (x y : Int64) : Option Int64 := if y = 0 then none else some (x / y)
def rml (x y : Int64) : Option Int64 := if y = 0 then none else some (x - x / y * y)
theorem bs {α β : Type} {x : Option α} {f : α → Option β} {r : β} (h : x.bind f = some r) : ∃ t, x = some t ∧ f t = some r := by
  cases x with
  | none => cases h
  | some t => exact ⟨t, rfl, h⟩
theorem gd {α : Type} {c : Prop} [Decidable c] {a r : α} (h : (if c then some a else none) = some r) : c ∧ r = a := by
  by_cases hc : c
  · rw [if_pos hc] at h; exact ⟨hc, (Option.some.inj h).symm⟩
  · rw [if_neg hc] at h; cases h
theorem gn {α : Type} {c : Prop} [Decidable c] {a r : α} (h : (if c then none else some a) = some r) : ¬ c ∧ r = a := by
  by_cases hc : c
  · rw [if_pos hc] at h; cases h
  · rw [if_neg hc] at h; exact ⟨hc, (Option.some.inj h).symm⟩
theorem se_l {α β γ : Type} {f : α → γ} {g : β → γ} {r : α} {R : γ} (h : Sum.elim f g (.inl r) = R) : f r = R := h
theorem se_r {α β γ : Type} {f : α → γ} {g : β → γ} {r : β} {R : γ} (h : Sum.elim f g (.inr r) = R) : g r = R := h
theorem it {α : Type} {c : Prop} [Decidable c] {a b r : α} (hc : c) (h : (if c then a else b) = r) : a = r := (if_pos hc).symm.trans h
theorem ie {α : Type} {c : Prop} [Decidable c] {a b r : α} (hc : ¬ c) (h : (if c then a else b) = r) : b = r := (if_neg hc).symm.trans h
section XL
variable {p : Program} {l : Launch} {e : Env} {d : Nat} {s : State} {m : MethodId} {args : Array Value} {below : List Frame} {meth : Method} {c : Code} {own : String} {cc : ByteArray} {nL : Nat} {ret : Option FieldType} {D : va_G} {ad : Nat → Nat} {cs : Nat → ClassId} {A : Nat → Prop} {L : List Nat} {V : Option Value} {N M : Mem} {pc : Nat} {lv lv' : List (Nat × Value)} {st : List Value}

theorem x_iconst (C : Cx p s m args meth c own cc nL ret D ad cs A L) {n : Int} {v : Int32} (hd : decode cc pc = .ok (.iconst n, 1)) (hn : Int32.ofInt n = v) (kk : X p l e d s m args below meth c nL D ad cs A L V N M (pc + 1) lv (.int v :: st)) : X p l e d s m args below meth c nL D ad cs A L V N M pc lv (st) := fun H locs ls hP hS hv => lv_iconst C.1 C.2.1 hd hn (kk H locs ls hP hS hv)
theorem x_bipush (C : Cx p s m args meth c own cc nL ret D ad cs A L) {n : Int} {v : Int32} (hd : decode cc pc = .ok (.bipush n, 2)) (hn : (Int8.ofInt n).toInt32 = v) (kk : X p l e d s m args below meth c nL D ad cs A L V N M (pc + 2) lv (.int v :: st)) : X p l e d s m args below meth c nL D ad cs A L V N M pc lv (st) := fun H locs ls hP hS hv => lv_bipush C.1 C.2.1 hd hn (kk H locs ls hP hS hv)
theorem x_sipush (C : Cx p s m args meth c own cc nL ret D ad cs A L) {n : Int} {v : Int32} (hd : decode cc pc = .ok (.sipush n, 3)) (hn : (Int16.ofInt n).toInt32 = v) (kk : X p l e d s m args below meth c nL D ad cs A L V N M (pc + 3) lv (.int v :: st)) : X p l e d s m args below meth c nL D ad cs A L V N M pc lv (st) := fun H locs ls hP hS hv => lv_sipush C.1 C.2.1 hd hn (kk H locs ls hP hS hv)
theorem x_lconst (C : Cx p s m args meth c own cc nL ret D ad cs A L) {n : Fin 2} {v : Int64} (hd : decode cc pc = .ok (.lconst n, 1)) (hn : Int64.ofNat (n : Nat) = v) (kk : X p l e d s m args below meth c nL D ad cs A L V N M (pc + 1) lv (.long v :: st)) : X p l e d s m args below meth c nL D ad cs A L V N M pc lv (st) := fun H locs ls hP hS hv => lv_lconst C.1 C.2.1 hd hn (kk H locs ls hP hS hv)
theorem x_iload_n (C : Cx p s m args meth c own cc nL ret D ad cs A L) {k : Fin 4} {x : Int32} (hd : decode cc pc = .ok (.iload_n k, 1)) (q : Nat) (hl : lv[q]? = some ((k : Nat), .int x)) (kk : X p l e d s m args below meth c nL D ad cs A L V N M (pc + 1) lv (.int x :: st)) : X p l e d s m args below meth c nL D ad cs A L V N M pc lv (st) := fun H locs ls hP hS hv => lv_iload_n C.1 C.2.1 hd rfl (lv_at hv q hl) (kk H locs ls hP hS hv)
theorem x_iload (C : Cx p s m args meth c own cc nL ret D ad cs A L) {i : Nat} {x : Int32} (hd : decode cc pc = .ok (.iload i, 2)) (q : Nat) (hl : lv[q]? = some (i, .int x)) (kk : X p l e d s m args below meth c nL D ad cs A L V N M (pc + 2) lv (.int x :: st)) : X p l e d s m args below meth c nL D ad cs A L V N M pc lv (st) := fun H locs ls hP hS hv => lv_iload C.1 C.2.1 hd (lv_at hv q hl) (kk H locs ls hP hS hv)
theorem x_lload_n (C : Cx p s m args meth c own cc nL ret D ad cs A L) {k : Fin 4} {x : Int64} (hd : decode cc pc = .ok (.lload_n k, 1)) (q : Nat) (hl : lv[q]? = some ((k : Nat), .long x)) (kk : X p l e d s m args below meth c nL D ad cs A L V N M (pc + 1) lv (.long x :: st)) : X p l e d s m args below meth c nL D ad cs A L V N M pc lv (st) := fun H locs ls hP hS hv => lv_lload_n C.1 C.2.1 hd rfl (lv_at hv q hl) (kk H locs ls hP hS hv)
theorem x_lload (C : Cx p s m args meth c own cc nL ret D ad cs A L) {i : Nat} {x : Int64} (hd : decode cc pc = .ok (.lload i, 2)) (q : Nat) (hl : lv[q]? = some (i, .long x)) (kk : X p l e d s m args below meth c nL D ad cs A L V N M (pc + 2) lv (.long x :: st)) : X p l e d s m args below meth c nL D ad cs A L V N M pc lv (st) := fun H locs ls hP hS hv => lv_lload C.1 C.2.1 hd (lv_at hv q hl) (kk H locs ls hP hS hv)
theorem x_aload_n (C : Cx p s m args meth c own cc nL ret D ad cs A L) {k : Fin 4} {x : Nat} (hd : decode cc pc = .ok (.aload_n k, 1)) (q : Nat) (hl : lv[q]? = some ((k : Nat), .ref x)) (kk : X p l e d s m args below meth c nL D ad cs A L V N M (pc + 1) lv (.ref x :: st)) : X p l e d s m args below meth c nL D ad cs A L V N M pc lv (st) := fun H locs ls hP hS hv => lv_aload_n C.1 C.2.1 hd rfl (lv_at hv q hl) (kk H locs ls hP hS hv)
theorem x_aload (C : Cx p s m args meth c own cc nL ret D ad cs A L) {i : Nat} {x : Nat} (hd : decode cc pc = .ok (.aload i, 2)) (q : Nat) (hl : lv[q]? = some (i, .ref x)) (kk : X p l e d s m args below meth c nL D ad cs A L V N M (pc + 2) lv (.ref x :: st)) : X p l e d s m args below meth c nL D ad cs A L V N M pc lv (st) := fun H locs ls hP hS hv => lv_aload C.1 C.2.1 hd (lv_at hv q hl) (kk H locs ls hP hS hv)
theorem x_istore_n (C : Cx p s m args meth c own cc nL ret D ad cs A L) {k : Fin 4} {x : Int32} (hd : decode cc pc = .ok (.istore_n k, 1)) (hn : (k : Nat) < nL) (hl : ((k : Nat), Value.int x) :: lv.filter (fun q => !(q.1 == (k : Nat)) && !(q.1 + 1 == (k : Nat) && q.2.category == 2)) = lv') (kk : X p l e d s m args below meth c nL D ad cs A L V N M (pc + 1) lv' st) : X p l e d s m args below meth c nL D ad cs A L V N M pc lv (.int x :: st) := fun H locs ls hP hS hv => lv_istore_n C.1 C.2.1 hd rfl hv hn hl (fun ls hv => kk H locs ls hP hS hv)
theorem x_istore (C : Cx p s m args meth c own cc nL ret D ad cs A L) {i : Nat} {x : Int32} (hd : decode cc pc = .ok (.istore i, 2)) (hn : i < nL) (hl : (i, Value.int x) :: lv.filter (fun q => !(q.1 == i) && !(q.1 + 1 == i && q.2.category == 2)) = lv') (kk : X p l e d s m args below meth c nL D ad cs A L V N M (pc + 2) lv' st) : X p l e d s m args below meth c nL D ad cs A L V N M pc lv (.int x :: st) := fun H locs ls hP hS hv => lv_istore C.1 C.2.1 hd hv hn hl (fun ls hv => kk H locs ls hP hS hv)
theorem x_astore_n (C : Cx p s m args meth c own cc nL ret D ad cs A L) {k : Fin 4} {x : Nat} (hd : decode cc pc = .ok (.astore_n k, 1)) (hn : (k : Nat) < nL) (hl : ((k : Nat), Value.ref x) :: lv.filter (fun q => !(q.1 == (k : Nat)) && !(q.1 + 1 == (k : Nat) && q.2.category == 2)) = lv') (kk : X p l e d s m args below meth c nL D ad cs A L V N M (pc + 1) lv' st) : X p l e d s m args below meth c nL D ad cs A L V N M pc lv (.ref x :: st) := fun H locs ls hP hS hv => lv_astore_n C.1 C.2.1 hd rfl hv hn hl (fun ls hv => kk H locs ls hP hS hv)
theorem x_astore (C : Cx p s m args meth c own cc nL ret D ad cs A L) {i : Nat} {x : Nat} (hd : decode cc pc = .ok (.astore i, 2)) (hn : i < nL) (hl : (i, Value.ref x) :: lv.filter (fun q => !(q.1 == i) && !(q.1 + 1 == i && q.2.category == 2)) = lv') (kk : X p l e d s m args below meth c nL D ad cs A L V N M (pc + 2) lv' st) : X p l e d s m args below meth c nL D ad cs A L V N M pc lv (.ref x :: st) := fun H locs ls hP hS hv => lv_astore C.1 C.2.1 hd hv hn hl (fun ls hv => kk H locs ls hP hS hv)
theorem x_lstore_n (C : Cx p s m args meth c own cc nL ret D ad cs A L) {k : Fin 4} {x : Int64} (hd : decode cc pc = .ok (.lstore_n k, 1)) (hn : (k : Nat) + 1 < nL) (hl : ((k : Nat), Value.long x) :: lv.filter (fun q => !(q.1 == (k : Nat)) && (!(q.1 == (k : Nat) + 1) && !(q.1 + 1 == (k : Nat) && q.2.category == 2))) = lv') (kk : X p l e d s m args below meth c nL D ad cs A L V N M (pc + 1) lv' st) : X p l e d s m args below meth c nL D ad cs A L V N M pc lv (.long x :: st) := fun H locs ls hP hS hv => lv_lstore_n C.1 C.2.1 hd rfl hv hn hl (fun ls hv => kk H locs ls hP hS hv)
theorem x_lstore (C : Cx p s m args meth c own cc nL ret D ad cs A L) {i : Nat} {x : Int64} (hd : decode cc pc = .ok (.lstore i, 2)) (hn : i + 1 < nL) (hl : (i, Value.long x) :: lv.filter (fun q => !(q.1 == i) && (!(q.1 == i + 1) && !(q.1 + 1 == i && q.2.category == 2))) = lv') (kk : X p l e d s m args below meth c nL D ad cs A L V N M (pc + 2) lv' st) : X p l e d s m args below meth c nL D ad cs A L V N M pc lv (.long x :: st) := fun H locs ls hP hS hv => lv_lstore C.1 C.2.1 hd hv hn hl (fun ls hv => kk H locs ls hP hS hv)
theorem x_iinc (C : Cx p s m args meth c own cc nL ret D ad cs A L) {i : Nat} {n : Int} {x v : Int32} (hd : decode cc pc = .ok (.iinc i n, 3)) (q : Nat) (hk : lv[q]? = some (i, .int x)) (hw : x + Int32.ofInt n = v) (hn : i < nL) (hl : (i, Value.int v) :: lv.filter (fun q => !(q.1 == i) && !(q.1 + 1 == i && q.2.category == 2)) = lv') (kk : X p l e d s m args below meth c nL D ad cs A L V N M (pc + 3) lv' st) : X p l e d s m args below meth c nL D ad cs A L V N M pc lv st := fun H locs ls hP hS hv => lv_iinc C.1 C.2.1 hd hv hk hw hn hl (fun ls hv => kk H locs ls hP hS hv)
theorem x_iadd (C : Cx p s m args meth c own cc nL ret D ad cs A L) {x y : Int32} (hd : decode cc pc = .ok (.iadd, 1)) (kk : X p l e d s m args below meth c nL D ad cs A L V N M (pc + 1) lv (.int (x + y) :: st)) : X p l e d s m args below meth c nL D ad cs A L V N M pc lv (.int y :: .int x :: st) := fun H locs ls hP hS hv => lv_iadd C.1 C.2.1 hd (kk H locs ls hP hS hv)
theorem x_isub (C : Cx p s m args meth c own cc nL ret D ad cs A L) {x y : Int32} (hd : decode cc pc = .ok (.isub, 1)) (kk : X p l e d s m args below meth c nL D ad cs A L V N M (pc + 1) lv (.int (x - y) :: st)) : X p l e d s m args below meth c nL D ad cs A L V N M pc lv (.int y :: .int x :: st) := fun H locs ls hP hS hv => lv_isub C.1 C.2.1 hd (kk H locs ls hP hS hv)
theorem x_imul (C : Cx p s m args meth c own cc nL ret D ad cs A L) {x y : Int32} (hd : decode cc pc = .ok (.imul, 1)) (kk : X p l e d s m args below meth c nL D ad cs A L V N M (pc + 1) lv (.int (x * y) :: st)) : X p l e d s m args below meth c nL D ad cs A L V N M pc lv (.int y :: .int x :: st) := fun H locs ls hP hS hv => lv_imul C.1 C.2.1 hd (kk H locs ls hP hS hv)
theorem x_iand (C : Cx p s m args meth c own cc nL ret D ad cs A L) {x y : Int32} (hd : decode cc pc = .ok (.iand, 1)) (kk : X p l e d s m args below meth c nL D ad cs A L V N M (pc + 1) lv (.int (x &&& y) :: st)) : X p l e d s m args below meth c nL D ad cs A L V N M pc lv (.int y :: .int x :: st) := fun H locs ls hP hS hv => lv_iand C.1 C.2.1 hd (kk H locs ls hP hS hv)
theorem x_ior (C : Cx p s m args meth c own cc nL ret D ad cs A L) {x y : Int32} (hd : decode cc pc = .ok (.ior, 1)) (kk : X p l e d s m args below meth c nL D ad cs A L V N M (pc + 1) lv (.int (x ||| y) :: st)) : X p l e d s m args below meth c nL D ad cs A L V N M pc lv (.int y :: .int x :: st) := fun H locs ls hP hS hv => lv_ior C.1 C.2.1 hd (kk H locs ls hP hS hv)
theorem x_ixor (C : Cx p s m args meth c own cc nL ret D ad cs A L) {x y : Int32} (hd : decode cc pc = .ok (.ixor, 1)) (kk : X p l e d s m args below meth c nL D ad cs A L V N M (pc + 1) lv (.int (x ^^^ y) :: st)) : X p l e d s m args below meth c nL D ad cs A L V N M pc lv (.int y :: .int x :: st) := fun H locs ls hP hS hv => lv_ixor C.1 C.2.1 hd (kk H locs ls hP hS hv)
theorem x_ishl (C : Cx p s m args meth c own cc nL ret D ad cs A L) {x y : Int32} (hd : decode cc pc = .ok (.ishl, 1)) (kk : X p l e d s m args below meth c nL D ad cs A L V N M (pc + 1) lv (.int (x <<< (y &&& 31)) :: st)) : X p l e d s m args below meth c nL D ad cs A L V N M pc lv (.int y :: .int x :: st) := fun H locs ls hP hS hv => lv_ishl C.1 C.2.1 hd (kk H locs ls hP hS hv)
theorem x_ishr (C : Cx p s m args meth c own cc nL ret D ad cs A L) {x y : Int32} (hd : decode cc pc = .ok (.ishr, 1)) (kk : X p l e d s m args below meth c nL D ad cs A L V N M (pc + 1) lv (.int (x >>> (y &&& 31)) :: st)) : X p l e d s m args below meth c nL D ad cs A L V N M pc lv (.int y :: .int x :: st) := fun H locs ls hP hS hv => lv_ishr C.1 C.2.1 hd (kk H locs ls hP hS hv)
theorem x_iushr (C : Cx p s m args meth c own cc nL ret D ad cs A L) {x y : Int32} (hd : decode cc pc = .ok (.iushr, 1)) (kk : X p l e d s m args below meth c nL D ad cs A L V N M (pc + 1) lv (.int ((x.toUInt32 >>> (y.toUInt32 &&& Int32.toUInt32 31)).toInt32) :: st)) : X p l e d s m args below meth c nL D ad cs A L V N M pc lv (.int y :: .int x :: st) := fun H locs ls hP hS hv => lv_iushr C.1 C.2.1 hd rfl (kk H locs ls hP hS hv)
theorem x_ladd (C : Cx p s m args meth c own cc nL ret D ad cs A L) {x y : Int64} (hd : decode cc pc = .ok (.ladd, 1)) (kk : X p l e d s m args below meth c nL D ad cs A L V N M (pc + 1) lv (.long (x + y) :: st)) : X p l e d s m args below meth c nL D ad cs A L V N M pc lv (.long y :: .long x :: st) := fun H locs ls hP hS hv => lv_ladd C.1 C.2.1 hd (kk H locs ls hP hS hv)
theorem x_lmul (C : Cx p s m args meth c own cc nL ret D ad cs A L) {x y : Int64} (hd : decode cc pc = .ok (.lmul, 1)) (kk : X p l e d s m args below meth c nL D ad cs A L V N M (pc + 1) lv (.long (x * y) :: st)) : X p l e d s m args below meth c nL D ad cs A L V N M pc lv (.long y :: .long x :: st) := fun H locs ls hP hS hv => lv_lmul C.1 C.2.1 hd (kk H locs ls hP hS hv)
theorem x_idiv (C : Cx p s m args meth c own cc nL ret D ad cs A L) {x y z : Int32} (hz : dvi x y = some z) (hd : decode cc pc = .ok (.idiv, 1)) (kk : X p l e d s m args below meth c nL D ad cs A L V N M (pc + 1) lv (.int z :: st)) : X p l e d s m args below meth c nL D ad cs A L V N M pc lv (.int y :: .int x :: st) := by
  obtain ⟨h1, rfl⟩ := gn hz
  exact fun H locs ls hP hS hv => lv_idiv C.1 C.2.1 hd h1 (kk H locs ls hP hS hv)
theorem x_irem (C : Cx p s m args meth c own cc nL ret D ad cs A L) {x y z : Int32} (hz : rmi x y = some z) (hd : decode cc pc = .ok (.irem, 1)) (kk : X p l e d s m args below meth c nL D ad cs A L V N M (pc + 1) lv (.int z :: st)) : X p l e d s m args below meth c nL D ad cs A L V N M pc lv (.int y :: .int x :: st) := by
  obtain ⟨h1, rfl⟩ := gn hz
  exact fun H locs ls hP hS hv => lv_irem C.1 C.2.1 hd h1 (kk H locs ls hP hS hv)
theorem x_ldiv (C : Cx p s m args meth c own cc nL ret D ad cs A L) {x y z : Int64} (hz : dvl x y = some z) (hd : decode cc pc = .ok (.ldiv, 1)) (kk : X p l e d s m args below meth c nL D ad cs A L V N M (pc + 1) lv (.long z :: st)) : X p l e d s m args below meth c nL D ad cs A L V N M pc lv (.long y :: .long x :: st) := by
  obtain ⟨h1, rfl⟩ := gn hz
  exact fun H locs ls hP hS hv => lv_ldiv C.1 C.2.1 hd h1 (kk H locs ls hP hS hv)
theorem x_lrem (C : Cx p s m args meth c own cc nL ret D ad cs A L) {x y z : Int64} (hz : rml x y = some z) (hd : decode cc pc = .ok (.lrem, 1)) (kk : X p l e d s m args below meth c nL D ad cs A L V N M (pc + 1) lv (.long z :: st)) : X p l e d s m args below meth c nL D ad cs A L V N M pc lv (.long y :: .long x :: st) := by
  obtain ⟨h1, rfl⟩ := gn hz
  exact fun H locs ls hP hS hv => lv_lrem C.1 C.2.1 hd h1 (kk H locs ls hP hS hv)
theorem x_i2l (C : Cx p s m args meth c own cc nL ret D ad cs A L) {x : Int32} (hd : decode cc pc = .ok (.i2l, 1)) (kk : X p l e d s m args below meth c nL D ad cs A L V N M (pc + 1) lv (.long x.toInt64 :: st)) : X p l e d s m args below meth c nL D ad cs A L V N M pc lv (.int x :: st) := fun H locs ls hP hS hv => lv_i2l C.1 C.2.1 hd rfl (kk H locs ls hP hS hv)
theorem x_l2i (C : Cx p s m args meth c own cc nL ret D ad cs A L) {x : Int64} (hd : decode cc pc = .ok (.l2i, 1)) (kk : X p l e d s m args below meth c nL D ad cs A L V N M (pc + 1) lv (.int x.toInt32 :: st)) : X p l e d s m args below meth c nL D ad cs A L V N M pc lv (.long x :: st) := fun H locs ls hP hS hv => lv_l2i C.1 C.2.1 hd rfl (kk H locs ls hP hS hv)
theorem x_i2b (C : Cx p s m args meth c own cc nL ret D ad cs A L) {x : Int32} (hd : decode cc pc = .ok (.i2b, 1)) (kk : X p l e d s m args below meth c nL D ad cs A L V N M (pc + 1) lv (.int x.toInt8.toInt32 :: st)) : X p l e d s m args below meth c nL D ad cs A L V N M pc lv (.int x :: st) := fun H locs ls hP hS hv => lv_i2b C.1 C.2.1 hd rfl (kk H locs ls hP hS hv)
theorem x_lcmp (C : Cx p s m args meth c own cc nL ret D ad cs A L) {x y : Int64} (hd : decode cc pc = .ok (.lcmp, 1)) (kk : X p l e d s m args below meth c nL D ad cs A L V N M (pc + 1) lv (.int (lg_cmp x y) :: st)) : X p l e d s m args below meth c nL D ad cs A L V N M pc lv (.long y :: .long x :: st) := fun H locs ls hP hS hv => W.lcmp C.1 C.2.1 hd (kk H locs ls hP hS hv)
theorem x_dup (C : Cx p s m args meth c own cc nL ret D ad cs A L) {va : Value} (hd : decode cc pc = .ok (.dup, 1)) (h1 : va.category = 1) (kk : X p l e d s m args below meth c nL D ad cs A L V N M (pc + 1) lv (va :: va :: st)) : X p l e d s m args below meth c nL D ad cs A L V N M pc lv (va :: st) := fun H locs ls hP hS hv => lv_dup C.1 C.2.1 hd h1 (kk H locs ls hP hS hv)
theorem x_pop (C : Cx p s m args meth c own cc nL ret D ad cs A L) {va : Value} (hd : decode cc pc = .ok (.pop, 1)) (h1 : va.category = 1) (kk : X p l e d s m args below meth c nL D ad cs A L V N M (pc + 1) lv (st)) : X p l e d s m args below meth c nL D ad cs A L V N M pc lv (va :: st) := fun H locs ls hP hS hv => lv_pop C.1 C.2.1 hd h1 (kk H locs ls hP hS hv)
theorem x_dup2 (C : Cx p s m args meth c own cc nL ret D ad cs A L) {va vb : Value} (hd : decode cc pc = .ok (.dup2, 1)) (h1 : va.category = 1) (h2 : vb.category = 1) (kk : X p l e d s m args below meth c nL D ad cs A L V N M (pc + 1) lv (va :: vb :: va :: vb :: st)) : X p l e d s m args below meth c nL D ad cs A L V N M pc lv (va :: vb :: st) := fun H locs ls hP hS hv => lv_dup2_11 C.1 C.2.1 hd h1 h2 (kk H locs ls hP hS hv)
theorem x_if_eq (C : Cx p s m args meth c own cc nL ret D ad cs A L) {x : Int32} {off : Int} (tgt : Nat) (hd : decode cc pc = .ok (.ifCond .eq off, 3)) (ht : (pc : Int) + off = (tgt : Int)) (kt : x = 0 → X p l e d s m args below meth c nL D ad cs A L V N M tgt lv st) (kf : ¬ x = 0 → X p l e d s m args below meth c nL D ad cs A L V N M (pc + 3) lv st) : X p l e d s m args below meth c nL D ad cs A L V N M pc lv (.int x :: st) := fun H locs ls hP hS hv => lv_if_eq C.1 C.2.1 hd ht (fun h => kt h H locs ls hP hS hv) (fun h => kf h H locs ls hP hS hv)
theorem x_icmp_eq (C : Cx p s m args meth c own cc nL ret D ad cs A L) {x y : Int32} {off : Int} (tgt : Nat) (hd : decode cc pc = .ok (.if_icmp .eq off, 3)) (ht : (pc : Int) + off = (tgt : Int)) (kt : x = y → X p l e d s m args below meth c nL D ad cs A L V N M tgt lv st) (kf : ¬ x = y → X p l e d s m args below meth c nL D ad cs A L V N M (pc + 3) lv st) : X p l e d s m args below meth c nL D ad cs A L V N M pc lv (.int y :: .int x :: st) := fun H locs ls hP hS hv => lv_icmp_eq C.1 C.2.1 hd ht (fun h => kt h H locs ls hP hS hv) (fun h => kf h H locs ls hP hS hv)
theorem x_if_ne (C : Cx p s m args meth c own cc nL ret D ad cs A L) {x : Int32} {off : Int} (tgt : Nat) (hd : decode cc pc = .ok (.ifCond .ne off, 3)) (ht : (pc : Int) + off = (tgt : Int)) (kt : ¬ x = 0 → X p l e d s m args below meth c nL D ad cs A L V N M tgt lv st) (kf : x = 0 → X p l e d s m args below meth c nL D ad cs A L V N M (pc + 3) lv st) : X p l e d s m args below meth c nL D ad cs A L V N M pc lv (.int x :: st) := fun H locs ls hP hS hv => lv_if_ne C.1 C.2.1 hd ht (fun h => kt h H locs ls hP hS hv) (fun h => kf h H locs ls hP hS hv)
theorem x_icmp_ne (C : Cx p s m args meth c own cc nL ret D ad cs A L) {x y : Int32} {off : Int} (tgt : Nat) (hd : decode cc pc = .ok (.if_icmp .ne off, 3)) (ht : (pc : Int) + off = (tgt : Int)) (kt : ¬ x = y → X p l e d s m args below meth c nL D ad cs A L V N M tgt lv st) (kf : x = y → X p l e d s m args below meth c nL D ad cs A L V N M (pc + 3) lv st) : X p l e d s m args below meth c nL D ad cs A L V N M pc lv (.int y :: .int x :: st) := fun H locs ls hP hS hv => lv_icmp_ne C.1 C.2.1 hd ht (fun h => kt h H locs ls hP hS hv) (fun h => kf h H locs ls hP hS hv)
theorem x_if_lt (C : Cx p s m args meth c own cc nL ret D ad cs A L) {x : Int32} {off : Int} (tgt : Nat) (hd : decode cc pc = .ok (.ifCond .lt off, 3)) (ht : (pc : Int) + off = (tgt : Int)) (kt : x < 0 → X p l e d s m args below meth c nL D ad cs A L V N M tgt lv st) (kf : ¬ x < 0 → X p l e d s m args below meth c nL D ad cs A L V N M (pc + 3) lv st) : X p l e d s m args below meth c nL D ad cs A L V N M pc lv (.int x :: st) := fun H locs ls hP hS hv => lv_if_lt C.1 C.2.1 hd ht (fun h => kt h H locs ls hP hS hv) (fun h => kf h H locs ls hP hS hv)
theorem x_icmp_lt (C : Cx p s m args meth c own cc nL ret D ad cs A L) {x y : Int32} {off : Int} (tgt : Nat) (hd : decode cc pc = .ok (.if_icmp .lt off, 3)) (ht : (pc : Int) + off = (tgt : Int)) (kt : x < y → X p l e d s m args below meth c nL D ad cs A L V N M tgt lv st) (kf : ¬ x < y → X p l e d s m args below meth c nL D ad cs A L V N M (pc + 3) lv st) : X p l e d s m args below meth c nL D ad cs A L V N M pc lv (.int y :: .int x :: st) := fun H locs ls hP hS hv => lv_icmp_lt C.1 C.2.1 hd ht (fun h => kt h H locs ls hP hS hv) (fun h => kf h H locs ls hP hS hv)
theorem x_if_ge (C : Cx p s m args meth c own cc nL ret D ad cs A L) {x : Int32} {off : Int} (tgt : Nat) (hd : decode cc pc = .ok (.ifCond .ge off, 3)) (ht : (pc : Int) + off = (tgt : Int)) (kt : 0 ≤ x → X p l e d s m args below meth c nL D ad cs A L V N M tgt lv st) (kf : ¬ 0 ≤ x → X p l e d s m args below meth c nL D ad cs A L V N M (pc + 3) lv st) : X p l e d s m args below meth c nL D ad cs A L V N M pc lv (.int x :: st) := fun H locs ls hP hS hv => lv_if_ge C.1 C.2.1 hd ht (fun h => kt h H locs ls hP hS hv) (fun h => kf h H locs ls hP hS hv)
theorem x_icmp_ge (C : Cx p s m args meth c own cc nL ret D ad cs A L) {x y : Int32} {off : Int} (tgt : Nat) (hd : decode cc pc = .ok (.if_icmp .ge off, 3)) (ht : (pc : Int) + off = (tgt : Int)) (kt : y ≤ x → X p l e d s m args below meth c nL D ad cs A L V N M tgt lv st) (kf : ¬ y ≤ x → X p l e d s m args below meth c nL D ad cs A L V N M (pc + 3) lv st) : X p l e d s m args below meth c nL D ad cs A L V N M pc lv (.int y :: .int x :: st) := fun H locs ls hP hS hv => lv_icmp_ge C.1 C.2.1 hd ht (fun h => kt h H locs ls hP hS hv) (fun h => kf h H locs ls hP hS hv)
theorem x_if_gt (C : Cx p s m args meth c own cc nL ret D ad cs A L) {x : Int32} {off : Int} (tgt : Nat) (hd : decode cc pc = .ok (.ifCond .gt off, 3)) (ht : (pc : Int) + off = (tgt : Int)) (kt : 0 < x → X p l e d s m args below meth c nL D ad cs A L V N M tgt lv st) (kf : ¬ 0 < x → X p l e d s m args below meth c nL D ad cs A L V N M (pc + 3) lv st) : X p l e d s m args below meth c nL D ad cs A L V N M pc lv (.int x :: st) := fun H locs ls hP hS hv => lv_if_gt C.1 C.2.1 hd ht (fun h => kt h H locs ls hP hS hv) (fun h => kf h H locs ls hP hS hv)
theorem x_icmp_gt (C : Cx p s m args meth c own cc nL ret D ad cs A L) {x y : Int32} {off : Int} (tgt : Nat) (hd : decode cc pc = .ok (.if_icmp .gt off, 3)) (ht : (pc : Int) + off = (tgt : Int)) (kt : y < x → X p l e d s m args below meth c nL D ad cs A L V N M tgt lv st) (kf : ¬ y < x → X p l e d s m args below meth c nL D ad cs A L V N M (pc + 3) lv st) : X p l e d s m args below meth c nL D ad cs A L V N M pc lv (.int y :: .int x :: st) := fun H locs ls hP hS hv => lv_icmp_gt C.1 C.2.1 hd ht (fun h => kt h H locs ls hP hS hv) (fun h => kf h H locs ls hP hS hv)
theorem x_if_le (C : Cx p s m args meth c own cc nL ret D ad cs A L) {x : Int32} {off : Int} (tgt : Nat) (hd : decode cc pc = .ok (.ifCond .le off, 3)) (ht : (pc : Int) + off = (tgt : Int)) (kt : x ≤ 0 → X p l e d s m args below meth c nL D ad cs A L V N M tgt lv st) (kf : ¬ x ≤ 0 → X p l e d s m args below meth c nL D ad cs A L V N M (pc + 3) lv st) : X p l e d s m args below meth c nL D ad cs A L V N M pc lv (.int x :: st) := fun H locs ls hP hS hv => lv_if_le C.1 C.2.1 hd ht (fun h => kt h H locs ls hP hS hv) (fun h => kf h H locs ls hP hS hv)
theorem x_icmp_le (C : Cx p s m args meth c own cc nL ret D ad cs A L) {x y : Int32} {off : Int} (tgt : Nat) (hd : decode cc pc = .ok (.if_icmp .le off, 3)) (ht : (pc : Int) + off = (tgt : Int)) (kt : x ≤ y → X p l e d s m args below meth c nL D ad cs A L V N M tgt lv st) (kf : ¬ x ≤ y → X p l e d s m args below meth c nL D ad cs A L V N M (pc + 3) lv st) : X p l e d s m args below meth c nL D ad cs A L V N M pc lv (.int y :: .int x :: st) := fun H locs ls hP hS hv => lv_icmp_le C.1 C.2.1 hd ht (fun h => kt h H locs ls hP hS hv) (fun h => kf h H locs ls hP hS hv)
theorem x_goto (C : Cx p s m args meth c own cc nL ret D ad cs A L) {off : Int} (tgt : Nat) (hd : decode cc pc = .ok (.goto off, 3)) (ht : (pc : Int) + off = (tgt : Int)) (kk : X p l e d s m args below meth c nL D ad cs A L V N M tgt lv st) : X p l e d s m args below meth c nL D ad cs A L V N M pc lv st := fun H locs ls hP hS hv => lv_goto C.1 C.2.1 hd ht (kk H locs ls hP hS hv)
theorem x_tswIn (C : Cx p s m args meth c own cc nL ret D ad cs A L) {dflt lo hi off : Int} {offs : Array Int} {len : Nat} {x kc : Int32} (tgt : Nat) (hx : x = kc) (hd : decode cc pc = .ok (.tableswitch dflt lo hi offs, len)) (h1 : ¬ kc.toInt < lo) (h2 : ¬ hi < kc.toInt) (ho : offs[(kc.toInt - lo).toNat]? = some off) (ht : (pc : Int) + off = (tgt : Int)) (kk : X p l e d s m args below meth c nL D ad cs A L V N M tgt lv st) : X p l e d s m args below meth c nL D ad cs A L V N M pc lv (.int x :: st) := by
  subst hx
  exact fun H locs ls hP hS hv => lv_tableIn C.1 C.2.1 hd h1 h2 ho ht (kk H locs ls hP hS hv)
theorem x_tswOut (C : Cx p s m args meth c own cc nL ret D ad cs A L) {dflt lo hi : Int} {offs : Array Int} {len : Nat} {x : Int32} (tgt : Nat) (hd : decode cc pc = .ok (.tableswitch dflt lo hi offs, len)) (h : x.toInt < lo ∨ hi < x.toInt) (ht : (pc : Int) + dflt = (tgt : Int)) (kk : X p l e d s m args below meth c nL D ad cs A L V N M tgt lv st) : X p l e d s m args below meth c nL D ad cs A L V N M pc lv (.int x :: st) := fun H locs ls hP hS hv => lv_tableOut C.1 C.2.1 hd h ht (kk H locs ls hP hS hv)
theorem x_ldc2 (C : Cx p s m args meth c own cc nL ret D ad cs A L) {index : Nat} {v : Int64} (hw : Cond.constantLong own index v ∈ wl) (hd : decode cc pc = .ok (.ldc2_w index, 3)) (kk : X p l e d s m args below meth c nL D ad cs A L V N M (pc + 3) lv (.long v :: st)) : X p l e d s m args below meth c nL D ad cs A L V N M pc lv st := fun H locs ls hP hS hv => lv_ldc2 C.1 C.2.1 C.2.2.2.1 (C.2.2.2.2.1 _ hw) hd (kk H locs ls hP hS hv)
theorem x_ldcw (C : Cx p s m args meth c own cc nL ret D ad cs A L) {index : Nat} {v : Int32} (hw : Cond.constant own index v ∈ wl) (hd : decode cc pc = .ok (.ldc_w index, 3)) (kk : X p l e d s m args below meth c nL D ad cs A L V N M (pc + 3) lv (.int v :: st)) : X p l e d s m args below meth c nL D ad cs A L V N M pc lv st := fun H locs ls hP hS hv => lv_ldcw C.1 C.2.1 C.2.2.2.1 (C.2.2.2.2.1 _ hw) hd (kk H locs ls hP hS hv)
theorem x_sub (ks : List Nat) (hl : lv_pick lv ks = lv') (kk : X p l e d s m args below meth c nL D ad cs A L V N M pc lv' st) : X p l e d s m args below meth c nL D ad cs A L V N M pc lv st := fun H locs ls hP hS hv => kk H locs ls hP hS (lv_sub hv ks hl)
theorem x_iald (C : Cx p s m args meth c own cc nL ret D ad cs A L) {a : Nat} {i z : Int32} (hz : ard M a i = some z) (ha : a ∈ L) (hk : kd a = 0) (hd : decode cc pc = .ok (.iaload, 1)) (kk : X p l e d s m args below meth c nL D ad cs A L V N M (pc + 1) lv (.int z :: st)) : X p l e d s m args below meth c nL D ad cs A L V N M pc lv (.int i :: .ref (ad a) :: st) := by
  obtain ⟨h1, rfl⟩ := gd hz
  intro H locs ls hP hS hv
  obtain ⟨q, hq, hg⟩ := wsL_get (ad := ad) (cs := cs) (M := M) ha
  rw [cel_0 hk] at hg
  exact va_iald C.1 C.2.1 C.2.2.2.2.2.2.2.1 hP q 0 hg rfl (inb_in h1) hd (kk H locs ls hP hS hv)
theorem x_iast (C : Cx p s m args meth c own cc nL ret D ad cs A L) {a : Nat} {i x : Int32} {M' : Mem} (hz : awr M a i x = some M') (ha : a ∈ L) (hk : kd a = 0) (hd : decode cc pc = .ok (.iastore, 1)) (kk : X p l e d s m args below meth c nL D ad cs A L V N M' (pc + 1) lv st) : X p l e d s m args below meth c nL D ad cs A L V N M pc lv (.int x :: .int i :: .ref (ad a) :: st) := by
  obtain ⟨h1, rfl⟩ := gd hz
  intro H locs ls hP hS hv
  obtain ⟨q, hq, hg⟩ := wsL_get (ad := ad) (cs := cs) (M := M) ha
  rw [cel_0 hk] at hg
  refine va_iast C.1 C.2.1 C.2.2.2.2.2.2.2.1 hP (C.2.2.2.2.2.2.2.2.2.2 M) hS q 0 hg rfl (inb_in h1) hd (fun H1 locs1 hP1 hD1 hS1 => ?_)
  have e1 := wsL_set (ad := ad) (cs := cs) C.2.2.2.2.2.2.2.2.2.1 (M := M) hq (upd (M a) i.toNatClampNeg x)
  rw [cel_0 hk, ← up_eq] at e1
  exact kk H1 locs1 ls (by rw [← e1]; exact hP1) hS1 hv
theorem x_alen (C : Cx p s m args meth c own cc nL ret D ad cs A L) {a : Nat} {v : Int32} (ha : a ∈ L) (hk : kd a = 0) (hw : Int32.ofNat (ln a) = v) (hd : decode cc pc = .ok (.arraylength, 1)) (kk : X p l e d s m args below meth c nL D ad cs A L V N M (pc + 1) lv (.int v :: st)) : X p l e d s m args below meth c nL D ad cs A L V N M pc lv (.ref (ad a) :: st) := by
  intro H locs ls hP hS hv
  obtain ⟨q, hq, hg⟩ := wsL_get (ad := ad) (cs := cs) (M := M) ha
  rw [cel_0 hk] at hg
  exact va_alen C.1 C.2.1 C.2.2.2.2.2.2.2.1 hP q 0 hg rfl hw hd (kk H locs ls hP hS hv)
theorem x_alenq (C : Cx p s m args meth c own cc nL ret D ad cs A L) {a : Nat} {v : Int32} (ha : a ∈ L) (hk : kd a = 1) (hw : Int32.ofNat (ln a) = v) (hd : decode cc pc = .ok (.arraylength, 1)) (kk : X p l e d s m args below meth c nL D ad cs A L V N M (pc + 1) lv (.int v :: st)) : X p l e d s m args below meth c nL D ad cs A L V N M pc lv (.ref (ad a) :: st) := by
  intro H locs ls hP hS hv
  obtain ⟨q, hq, hg⟩ := wsL_get (ad := ad) (cs := cs) (M := M) ha
  rw [cel_1 hk] at hg
  exact va_alen C.1 C.2.1 C.2.2.2.2.2.2.2.1 hP q 1 hg rfl hw hd (kk H locs ls hP hS hv)
theorem x_aald1 (C : Cx p s m args meth c own cc nL ret D ad cs A L) {a z : Nat} {i : Int32} (hz : idx i (ln a) = some z) (ha : a ∈ L) (hk : kd a = 1) (hd : decode cc pc = .ok (.aaload, 1)) (kk : X p l e d s m args below meth c nL D ad cs A L V N M (pc + 1) lv (.ref (ad (a + 1 + 2 * z)) :: st)) : X p l e d s m args below meth c nL D ad cs A L V N M pc lv (.int i :: .ref (ad a) :: st) := by
  obtain ⟨h1, rfl⟩ := gd hz
  intro H locs ls hP hS hv
  obtain ⟨q, hq, hg⟩ := wsL_get (ad := ad) (cs := cs) (M := M) ha
  rw [cel_1 hk] at hg
  exact va_aldq C.1 C.2.1 C.2.2.2.2.2.2.2.1 hP q 1 hg rfl (inb_in h1) hd (kk H locs ls hP hS hv)
theorem x_aald2 (C : Cx p s m args meth c own cc nL ret D ad cs A L) {a z : Nat} {i : Int32} (hz : idx i (ln a) = some z) (ha : a ∈ L) (hk : kd a = 2) (hd : decode cc pc = .ok (.aaload, 1)) (kk : X p l e d s m args below meth c nL D ad cs A L V N M (pc + 1) lv (.ref (ad (a + 1 + z)) :: st)) : X p l e d s m args below meth c nL D ad cs A L V N M pc lv (.int i :: .ref (ad a) :: st) := by
  obtain ⟨h1, rfl⟩ := gd hz
  intro H locs ls hP hS hv
  obtain ⟨q, hq, hg⟩ := wsL_get (ad := ad) (cs := cs) (M := M) ha
  rw [cel_2 hk] at hg
  exact va_aldq C.1 C.2.1 C.2.2.2.2.2.2.2.1 hP q 2 hg rfl (inb_in h1) hd (kk H locs ls hP hS hv)
theorem x_aald3 (C : Cx p s m args meth c own cc nL ret D ad cs A L) {a z : Nat} {i : Int32} (hz : idx i (ln a) = some z) (ha : a ∈ L) (hk : kd a = 3) (hd : decode cc pc = .ok (.aaload, 1)) (kk : X p l e d s m args below meth c nL D ad cs A L V N M (pc + 1) lv (.ref (ad (a + 1 + 3 * z)) :: st)) : X p l e d s m args below meth c nL D ad cs A L V N M pc lv (.int i :: .ref (ad a) :: st) := by
  obtain ⟨h1, rfl⟩ := gd hz
  intro H locs ls hP hS hv
  obtain ⟨q, hq, hg⟩ := wsL_get (ad := ad) (cs := cs) (M := M) ha
  rw [cel_3 hk] at hg
  exact va_aldq C.1 C.2.1 C.2.2.2.2.2.2.2.1 hP q 3 hg rfl (inb_in h1) hd (kk H locs ls hP hS hv)
theorem xg_B_sets (C : Cx p s m args meth c own cc nL ret D ad cs A L) {k index : Nat} (hw : Cond.fieldLink own index R_B "sets" "I" ∈ wl) (ha : k ∈ L) (hk : kd k = 17) (hd : decode cc pc = .ok (.getfield index, 3)) (kk : X p l e d s m args below meth c nL D ad cs A L V N M (pc + 3) lv (.int (M k 0) :: st)) : X p l e d s m args below meth c nL D ad cs A L V N M pc lv (.ref (ad k) :: st) := by
  intro H locs ls hP hS hv
  obtain ⟨q, hq, hg⟩ := wsL_get (ad := ad) (cs := cs) (M := M) ha
  rw [cel_B hk] at hg
  exact va_get (C := R_B) (T := T_B) (N := 4) C.1 C.2.1 C.2.2.2.2.1 u_B C.2.2.2.1 C.2.2.2.2.2.2.2.1 hP q hg rfl 0 (by decide) (C.2.2.2.2.1 _ hw) (fun _ h9 => h9) rfl hd (kk H locs ls hP hS hv)
theorem xp_B_sets (C : Cx p s m args meth c own cc nL ret D ad cs A L) {k index : Nat} {x : Int32} (hw : Cond.fieldLink own index R_B "sets" "I" ∈ wl) (ha : k ∈ L) (hk : kd k = 17) (hd : decode cc pc = .ok (.putfield index, 3)) (kk : X p l e d s m args below meth c nL D ad cs A L V N (up M k 0 x) (pc + 3) lv st) : X p l e d s m args below meth c nL D ad cs A L V N M pc lv (.int x :: .ref (ad k) :: st) := by
  intro H locs ls hP hS hv
  obtain ⟨q, hq, hg⟩ := wsL_get (ad := ad) (cs := cs) (M := M) ha
  rw [cel_B hk] at hg
  refine va_put (C := R_B) (T := T_B) (N := 4) (ty := .int) C.1 C.2.1 C.2.2.2.2.1 u_B t_B t_B_ok n_B C.2.2.2.1 C.2.2.2.2.2.2.2.1 hP (C.2.2.2.2.2.2.2.2.2.2 M) hS q hg rfl 0 (by decide) (C.2.2.2.2.1 _ hw) (fun _ h9 => h9) rfl (by decide +kernel) rfl rfl (Nat.le_of_ble_eq_true rfl) hd (fun H1 locs1 hP1 hD1 hS1 => ?_)
  have e1 := wsL_set (ad := ad) (cs := cs) C.2.2.2.2.2.2.2.2.2.1 (M := M) hq (upd (M k) 0 x)
  rw [cel_B hk, ← up_eq] at e1
  exact kk H1 locs1 ls (by rw [← e1]; exact hP1) hS1 hv
theorem xg_B_first (C : Cx p s m args meth c own cc nL ret D ad cs A L) {k index : Nat} (hw : Cond.fieldLink own index R_B "first" "I" ∈ wl) (ha : k ∈ L) (hk : kd k = 17) (hd : decode cc pc = .ok (.getfield index, 3)) (kk : X p l e d s m args below meth c nL D ad cs A L V N M (pc + 3) lv (.int (M k 1) :: st)) : X p l e d s m args below meth c nL D ad cs A L V N M pc lv (.ref (ad k) :: st) := by
  intro H locs ls hP hS hv
  obtain ⟨q, hq, hg⟩ := wsL_get (ad := ad) (cs := cs) (M := M) ha
  rw [cel_B hk] at hg
  exact va_get (C := R_B) (T := T_B) (N := 4) C.1 C.2.1 C.2.2.2.2.1 u_B C.2.2.2.1 C.2.2.2.2.2.2.2.1 hP q hg rfl 1 (by decide) (C.2.2.2.2.1 _ hw) (fun _ h9 => h9) rfl hd (kk H locs ls hP hS hv)
theorem xp_B_first (C : Cx p s m args meth c own cc nL ret D ad cs A L) {k index : Nat} {x : Int32} (hw : Cond.fieldLink own index R_B "first" "I" ∈ wl) (ha : k ∈ L) (hk : kd k = 17) (hd : decode cc pc = .ok (.putfield index, 3)) (kk : X p l e d s m args below meth c nL D ad cs A L V N (up M k 1 x) (pc + 3) lv st) : X p l e d s m args below meth c nL D ad cs A L V N M pc lv (.int x :: .ref (ad k) :: st) := by
  intro H locs ls hP hS hv
  obtain ⟨q, hq, hg⟩ := wsL_get (ad := ad) (cs := cs) (M := M) ha
  rw [cel_B hk] at hg
  refine va_put (C := R_B) (T := T_B) (N := 4) (ty := .int) C.1 C.2.1 C.2.2.2.2.1 u_B t_B t_B_ok n_B C.2.2.2.1 C.2.2.2.2.2.2.2.1 hP (C.2.2.2.2.2.2.2.2.2.2 M) hS q hg rfl 1 (by decide) (C.2.2.2.2.1 _ hw) (fun _ h9 => h9) rfl (by decide +kernel) rfl rfl (Nat.le_of_ble_eq_true rfl) hd (fun H1 locs1 hP1 hD1 hS1 => ?_)
  have e1 := wsL_set (ad := ad) (cs := cs) C.2.2.2.2.2.2.2.2.2.1 (M := M) hq (upd (M k) 1 x)
  rw [cel_B hk, ← up_eq] at e1
  exact kk H1 locs1 ls (by rw [← e1]; exact hP1) hS1 hv
theorem xg_B_inEach (C : Cx p s m args meth c own cc nL ret D ad cs A L) {k index : Nat} (hw : Cond.fieldLink own index R_B "inEach" "I" ∈ wl) (ha : k ∈ L) (hk : kd k = 17) (hd : decode cc pc = .ok (.getfield index, 3)) (kk : X p l e d s m args below meth c nL D ad cs A L V N M (pc + 3) lv (.int (M k 2) :: st)) : X p l e d s m args below meth c nL D ad cs A L V N M pc lv (.ref (ad k) :: st) := by
  intro H locs ls hP hS hv
  obtain ⟨q, hq, hg⟩ := wsL_get (ad := ad) (cs := cs) (M := M) ha
  rw [cel_B hk] at hg
  exact va_get (C := R_B) (T := T_B) (N := 4) C.1 C.2.1 C.2.2.2.2.1 u_B C.2.2.2.1 C.2.2.2.2.2.2.2.1 hP q hg rfl 2 (by decide) (C.2.2.2.2.1 _ hw) (fun _ h9 => h9) rfl hd (kk H locs ls hP hS hv)
theorem xp_B_inEach (C : Cx p s m args meth c own cc nL ret D ad cs A L) {k index : Nat} {x : Int32} (hw : Cond.fieldLink own index R_B "inEach" "I" ∈ wl) (ha : k ∈ L) (hk : kd k = 17) (hd : decode cc pc = .ok (.putfield index, 3)) (kk : X p l e d s m args below meth c nL D ad cs A L V N (up M k 2 x) (pc + 3) lv st) : X p l e d s m args below meth c nL D ad cs A L V N M pc lv (.int x :: .ref (ad k) :: st) := by
  intro H locs ls hP hS hv
  obtain ⟨q, hq, hg⟩ := wsL_get (ad := ad) (cs := cs) (M := M) ha
  rw [cel_B hk] at hg
  refine va_put (C := R_B) (T := T_B) (N := 4) (ty := .int) C.1 C.2.1 C.2.2.2.2.1 u_B t_B t_B_ok n_B C.2.2.2.1 C.2.2.2.2.2.2.2.1 hP (C.2.2.2.2.2.2.2.2.2.2 M) hS q hg rfl 2 (by decide) (C.2.2.2.2.1 _ hw) (fun _ h9 => h9) rfl (by decide +kernel) rfl rfl (Nat.le_of_ble_eq_true rfl) hd (fun H1 locs1 hP1 hD1 hS1 => ?_)
  have e1 := wsL_set (ad := ad) (cs := cs) C.2.2.2.2.2.2.2.2.2.1 (M := M) hq (upd (M k) 2 x)
  rw [cel_B hk, ← up_eq] at e1
  exact kk H1 locs1 ls (by rw [← e1]; exact hP1) hS1 hv
theorem xg_B_lacking (C : Cx p s m args meth c own cc nL ret D ad cs A L) {k index : Nat} (hw : Cond.fieldLink own index R_B "lacking" "[I" ∈ wl) (ha : k ∈ L) (hk : kd k = 17) (hd : decode cc pc = .ok (.getfield index, 3)) (kk : X p l e d s m args below meth c nL D ad cs A L V N M (pc + 3) lv (.ref (ad (k + 1)) :: st)) : X p l e d s m args below meth c nL D ad cs A L V N M pc lv (.ref (ad k) :: st) := by
  intro H locs ls hP hS hv
  obtain ⟨q, hq, hg⟩ := wsL_get (ad := ad) (cs := cs) (M := M) ha
  rw [cel_B hk] at hg
  exact va_get (C := R_B) (T := T_B) (N := 4) C.1 C.2.1 C.2.2.2.2.1 u_B C.2.2.2.1 C.2.2.2.2.2.2.2.1 hP q hg rfl 3 (by decide) (C.2.2.2.2.1 _ hw) (fun _ h9 => h9) rfl hd (kk H locs ls hP hS hv)
theorem xg_D_who (C : Cx p s m args meth c own cc nL ret D ad cs A L) {k index : Nat} (hw : Cond.fieldLink own index R_D "who" "I" ∈ wl) (ha : k ∈ L) (hk : kd k = 13) (hd : decode cc pc = .ok (.getfield index, 3)) (kk : X p l e d s m args below meth c nL D ad cs A L V N M (pc + 3) lv (.int (M k 0) :: st)) : X p l e d s m args below meth c nL D ad cs A L V N M pc lv (.ref (ad k) :: st) := by
  intro H locs ls hP hS hv
  obtain ⟨q, hq, hg⟩ := wsL_get (ad := ad) (cs := cs) (M := M) ha
  rw [cel_D hk] at hg
  exact va_get (C := R_D) (T := T_D) (N := 6) C.1 C.2.1 C.2.2.2.2.1 u_D C.2.2.2.1 C.2.2.2.2.2.2.2.1 hP q hg rfl 0 (by decide) (C.2.2.2.2.1 _ hw) (fun _ h9 => h9) rfl hd (kk H locs ls hP hS hv)
theorem xp_D_who (C : Cx p s m args meth c own cc nL ret D ad cs A L) {k index : Nat} {x : Int32} (hw : Cond.fieldLink own index R_D "who" "I" ∈ wl) (ha : k ∈ L) (hk : kd k = 13) (hd : decode cc pc = .ok (.putfield index, 3)) (kk : X p l e d s m args below meth c nL D ad cs A L V N (up M k 0 x) (pc + 3) lv st) : X p l e d s m args below meth c nL D ad cs A L V N M pc lv (.int x :: .ref (ad k) :: st) := by
  intro H locs ls hP hS hv
  obtain ⟨q, hq, hg⟩ := wsL_get (ad := ad) (cs := cs) (M := M) ha
  rw [cel_D hk] at hg
  refine va_put (C := R_D) (T := T_D) (N := 6) (ty := .int) C.1 C.2.1 C.2.2.2.2.1 u_D t_D t_D_ok n_D C.2.2.2.1 C.2.2.2.2.2.2.2.1 hP (C.2.2.2.2.2.2.2.2.2.2 M) hS q hg rfl 0 (by decide) (C.2.2.2.2.1 _ hw) (fun _ h9 => h9) rfl (by decide +kernel) rfl rfl (Nat.le_of_ble_eq_true rfl) hd (fun H1 locs1 hP1 hD1 hS1 => ?_)
  have e1 := wsL_set (ad := ad) (cs := cs) C.2.2.2.2.2.2.2.2.2.1 (M := M) hq (upd (M k) 0 x)
  rw [cel_D hk, ← up_eq] at e1
  exact kk H1 locs1 ls (by rw [← e1]; exact hP1) hS1 hv
theorem xg_D_whom (C : Cx p s m args meth c own cc nL ret D ad cs A L) {k index : Nat} (hw : Cond.fieldLink own index R_D "whom" "I" ∈ wl) (ha : k ∈ L) (hk : kd k = 13) (hd : decode cc pc = .ok (.getfield index, 3)) (kk : X p l e d s m args below meth c nL D ad cs A L V N M (pc + 3) lv (.int (M k 1) :: st)) : X p l e d s m args below meth c nL D ad cs A L V N M pc lv (.ref (ad k) :: st) := by
  intro H locs ls hP hS hv
  obtain ⟨q, hq, hg⟩ := wsL_get (ad := ad) (cs := cs) (M := M) ha
  rw [cel_D hk] at hg
  exact va_get (C := R_D) (T := T_D) (N := 6) C.1 C.2.1 C.2.2.2.2.1 u_D C.2.2.2.1 C.2.2.2.2.2.2.2.1 hP q hg rfl 1 (by decide) (C.2.2.2.2.1 _ hw) (fun _ h9 => h9) rfl hd (kk H locs ls hP hS hv)
theorem xp_D_whom (C : Cx p s m args meth c own cc nL ret D ad cs A L) {k index : Nat} {x : Int32} (hw : Cond.fieldLink own index R_D "whom" "I" ∈ wl) (ha : k ∈ L) (hk : kd k = 13) (hd : decode cc pc = .ok (.putfield index, 3)) (kk : X p l e d s m args below meth c nL D ad cs A L V N (up M k 1 x) (pc + 3) lv st) : X p l e d s m args below meth c nL D ad cs A L V N M pc lv (.int x :: .ref (ad k) :: st) := by
  intro H locs ls hP hS hv
  obtain ⟨q, hq, hg⟩ := wsL_get (ad := ad) (cs := cs) (M := M) ha
  rw [cel_D hk] at hg
  refine va_put (C := R_D) (T := T_D) (N := 6) (ty := .int) C.1 C.2.1 C.2.2.2.2.1 u_D t_D t_D_ok n_D C.2.2.2.1 C.2.2.2.2.2.2.2.1 hP (C.2.2.2.2.2.2.2.2.2.2 M) hS q hg rfl 1 (by decide) (C.2.2.2.2.1 _ hw) (fun _ h9 => h9) rfl (by decide +kernel) rfl rfl (Nat.le_of_ble_eq_true rfl) hd (fun H1 locs1 hP1 hD1 hS1 => ?_)
  have e1 := wsL_set (ad := ad) (cs := cs) C.2.2.2.2.2.2.2.2.2.1 (M := M) hq (upd (M k) 1 x)
  rw [cel_D hk, ← up_eq] at e1
  exact kk H1 locs1 ls (by rw [← e1]; exact hP1) hS1 hv
theorem xg_D_sort (C : Cx p s m args meth c own cc nL ret D ad cs A L) {k index : Nat} (hw : Cond.fieldLink own index R_D "sort" "I" ∈ wl) (ha : k ∈ L) (hk : kd k = 13) (hd : decode cc pc = .ok (.getfield index, 3)) (kk : X p l e d s m args below meth c nL D ad cs A L V N M (pc + 3) lv (.int (M k 2) :: st)) : X p l e d s m args below meth c nL D ad cs A L V N M pc lv (.ref (ad k) :: st) := by
  intro H locs ls hP hS hv
  obtain ⟨q, hq, hg⟩ := wsL_get (ad := ad) (cs := cs) (M := M) ha
  rw [cel_D hk] at hg
  exact va_get (C := R_D) (T := T_D) (N := 6) C.1 C.2.1 C.2.2.2.2.1 u_D C.2.2.2.1 C.2.2.2.2.2.2.2.1 hP q hg rfl 2 (by decide) (C.2.2.2.2.1 _ hw) (fun _ h9 => h9) rfl hd (kk H locs ls hP hS hv)
theorem xp_D_sort (C : Cx p s m args meth c own cc nL ret D ad cs A L) {k index : Nat} {x : Int32} (hw : Cond.fieldLink own index R_D "sort" "I" ∈ wl) (ha : k ∈ L) (hk : kd k = 13) (hd : decode cc pc = .ok (.putfield index, 3)) (kk : X p l e d s m args below meth c nL D ad cs A L V N (up M k 2 x) (pc + 3) lv st) : X p l e d s m args below meth c nL D ad cs A L V N M pc lv (.int x :: .ref (ad k) :: st) := by
  intro H locs ls hP hS hv
  obtain ⟨q, hq, hg⟩ := wsL_get (ad := ad) (cs := cs) (M := M) ha
  rw [cel_D hk] at hg
  refine va_put (C := R_D) (T := T_D) (N := 6) (ty := .int) C.1 C.2.1 C.2.2.2.2.1 u_D t_D t_D_ok n_D C.2.2.2.1 C.2.2.2.2.2.2.2.1 hP (C.2.2.2.2.2.2.2.2.2.2 M) hS q hg rfl 2 (by decide) (C.2.2.2.2.1 _ hw) (fun _ h9 => h9) rfl (by decide +kernel) rfl rfl (Nat.le_of_ble_eq_true rfl) hd (fun H1 locs1 hP1 hD1 hS1 => ?_)
  have e1 := wsL_set (ad := ad) (cs := cs) C.2.2.2.2.2.2.2.2.2.1 (M := M) hq (upd (M k) 2 x)
  rw [cel_D hk, ← up_eq] at e1
  exact kk H1 locs1 ls (by rw [← e1]; exact hP1) hS1 hv
theorem xg_D_kisses (C : Cx p s m args meth c own cc nL ret D ad cs A L) {k index : Nat} (hw : Cond.fieldLink own index R_D "kisses" "I" ∈ wl) (ha : k ∈ L) (hk : kd k = 13) (hd : decode cc pc = .ok (.getfield index, 3)) (kk : X p l e d s m args below meth c nL D ad cs A L V N M (pc + 3) lv (.int (M k 3) :: st)) : X p l e d s m args below meth c nL D ad cs A L V N M pc lv (.ref (ad k) :: st) := by
  intro H locs ls hP hS hv
  obtain ⟨q, hq, hg⟩ := wsL_get (ad := ad) (cs := cs) (M := M) ha
  rw [cel_D hk] at hg
  exact va_get (C := R_D) (T := T_D) (N := 6) C.1 C.2.1 C.2.2.2.2.1 u_D C.2.2.2.1 C.2.2.2.2.2.2.2.1 hP q hg rfl 3 (by decide) (C.2.2.2.2.1 _ hw) (fun _ h9 => h9) rfl hd (kk H locs ls hP hS hv)
theorem xp_D_kisses (C : Cx p s m args meth c own cc nL ret D ad cs A L) {k index : Nat} {x : Int32} (hw : Cond.fieldLink own index R_D "kisses" "I" ∈ wl) (ha : k ∈ L) (hk : kd k = 13) (hd : decode cc pc = .ok (.putfield index, 3)) (kk : X p l e d s m args below meth c nL D ad cs A L V N (up M k 3 x) (pc + 3) lv st) : X p l e d s m args below meth c nL D ad cs A L V N M pc lv (.int x :: .ref (ad k) :: st) := by
  intro H locs ls hP hS hv
  obtain ⟨q, hq, hg⟩ := wsL_get (ad := ad) (cs := cs) (M := M) ha
  rw [cel_D hk] at hg
  refine va_put (C := R_D) (T := T_D) (N := 6) (ty := .int) C.1 C.2.1 C.2.2.2.2.1 u_D t_D t_D_ok n_D C.2.2.2.1 C.2.2.2.2.2.2.2.1 hP (C.2.2.2.2.2.2.2.2.2.2 M) hS q hg rfl 3 (by decide) (C.2.2.2.2.1 _ hw) (fun _ h9 => h9) rfl (by decide +kernel) rfl rfl (Nat.le_of_ble_eq_true rfl) hd (fun H1 locs1 hP1 hD1 hS1 => ?_)
  have e1 := wsL_set (ad := ad) (cs := cs) C.2.2.2.2.2.2.2.2.2.1 (M := M) hq (upd (M k) 3 x)
  rw [cel_D hk, ← up_eq] at e1
  exact kk H1 locs1 ls (by rw [← e1]; exact hP1) hS1 hv
theorem xg_D_weeks (C : Cx p s m args meth c own cc nL ret D ad cs A L) {k index : Nat} (hw : Cond.fieldLink own index R_D "weeks" "I" ∈ wl) (ha : k ∈ L) (hk : kd k = 13) (hd : decode cc pc = .ok (.getfield index, 3)) (kk : X p l e d s m args below meth c nL D ad cs A L V N M (pc + 3) lv (.int (M k 4) :: st)) : X p l e d s m args below meth c nL D ad cs A L V N M pc lv (.ref (ad k) :: st) := by
  intro H locs ls hP hS hv
  obtain ⟨q, hq, hg⟩ := wsL_get (ad := ad) (cs := cs) (M := M) ha
  rw [cel_D hk] at hg
  exact va_get (C := R_D) (T := T_D) (N := 6) C.1 C.2.1 C.2.2.2.2.1 u_D C.2.2.2.1 C.2.2.2.2.2.2.2.1 hP q hg rfl 4 (by decide) (C.2.2.2.2.1 _ hw) (fun _ h9 => h9) rfl hd (kk H locs ls hP hS hv)
theorem xp_D_weeks (C : Cx p s m args meth c own cc nL ret D ad cs A L) {k index : Nat} {x : Int32} (hw : Cond.fieldLink own index R_D "weeks" "I" ∈ wl) (ha : k ∈ L) (hk : kd k = 13) (hd : decode cc pc = .ok (.putfield index, 3)) (kk : X p l e d s m args below meth c nL D ad cs A L V N (up M k 4 x) (pc + 3) lv st) : X p l e d s m args below meth c nL D ad cs A L V N M pc lv (.int x :: .ref (ad k) :: st) := by
  intro H locs ls hP hS hv
  obtain ⟨q, hq, hg⟩ := wsL_get (ad := ad) (cs := cs) (M := M) ha
  rw [cel_D hk] at hg
  refine va_put (C := R_D) (T := T_D) (N := 6) (ty := .int) C.1 C.2.1 C.2.2.2.2.1 u_D t_D t_D_ok n_D C.2.2.2.1 C.2.2.2.2.2.2.2.1 hP (C.2.2.2.2.2.2.2.2.2.2 M) hS q hg rfl 4 (by decide) (C.2.2.2.2.1 _ hw) (fun _ h9 => h9) rfl (by decide +kernel) rfl rfl (Nat.le_of_ble_eq_true rfl) hd (fun H1 locs1 hP1 hD1 hS1 => ?_)
  have e1 := wsL_set (ad := ad) (cs := cs) C.2.2.2.2.2.2.2.2.2.1 (M := M) hq (upd (M k) 4 x)
  rw [cel_D hk, ← up_eq] at e1
  exact kk H1 locs1 ls (by rw [← e1]; exact hP1) hS1 hv
theorem xg_D_endorsed (C : Cx p s m args meth c own cc nL ret D ad cs A L) {k index : Nat} (hw : Cond.fieldLink own index R_D "endorsed" "I" ∈ wl) (ha : k ∈ L) (hk : kd k = 13) (hd : decode cc pc = .ok (.getfield index, 3)) (kk : X p l e d s m args below meth c nL D ad cs A L V N M (pc + 3) lv (.int (M k 5) :: st)) : X p l e d s m args below meth c nL D ad cs A L V N M pc lv (.ref (ad k) :: st) := by
  intro H locs ls hP hS hv
  obtain ⟨q, hq, hg⟩ := wsL_get (ad := ad) (cs := cs) (M := M) ha
  rw [cel_D hk] at hg
  exact va_get (C := R_D) (T := T_D) (N := 6) C.1 C.2.1 C.2.2.2.2.1 u_D C.2.2.2.1 C.2.2.2.2.2.2.2.1 hP q hg rfl 5 (by decide) (C.2.2.2.2.1 _ hw) (fun _ h9 => h9) rfl hd (kk H locs ls hP hS hv)
theorem xp_D_endorsed (C : Cx p s m args meth c own cc nL ret D ad cs A L) {k index : Nat} {x : Int32} (hw : Cond.fieldLink own index R_D "endorsed" "I" ∈ wl) (ha : k ∈ L) (hk : kd k = 13) (hd : decode cc pc = .ok (.putfield index, 3)) (kk : X p l e d s m args below meth c nL D ad cs A L V N (up M k 5 x) (pc + 3) lv st) : X p l e d s m args below meth c nL D ad cs A L V N M pc lv (.int x :: .ref (ad k) :: st) := by
  intro H locs ls hP hS hv
  obtain ⟨q, hq, hg⟩ := wsL_get (ad := ad) (cs := cs) (M := M) ha
  rw [cel_D hk] at hg
  refine va_put (C := R_D) (T := T_D) (N := 6) (ty := .int) C.1 C.2.1 C.2.2.2.2.1 u_D t_D t_D_ok n_D C.2.2.2.1 C.2.2.2.2.2.2.2.1 hP (C.2.2.2.2.2.2.2.2.2.2 M) hS q hg rfl 5 (by decide) (C.2.2.2.2.1 _ hw) (fun _ h9 => h9) rfl (by decide +kernel) rfl rfl (Nat.le_of_ble_eq_true rfl) hd (fun H1 locs1 hP1 hD1 hS1 => ?_)
  have e1 := wsL_set (ad := ad) (cs := cs) C.2.2.2.2.2.2.2.2.2.1 (M := M) hq (upd (M k) 5 x)
  rw [cel_D hk, ← up_eq] at e1
  exact kk H1 locs1 ls (by rw [← e1]; exact hP1) hS1 hv
theorem xg_H_deeds (C : Cx p s m args meth c own cc nL ret D ad cs A L) {k index : Nat} (hw : Cond.fieldLink own index R_H "deeds" "I" ∈ wl) (ha : k ∈ L) (hk : kd k = 14) (hd : decode cc pc = .ok (.getfield index, 3)) (kk : X p l e d s m args below meth c nL D ad cs A L V N M (pc + 3) lv (.int (M k 0) :: st)) : X p l e d s m args below meth c nL D ad cs A L V N M pc lv (.ref (ad k) :: st) := by
  intro H locs ls hP hS hv
  obtain ⟨q, hq, hg⟩ := wsL_get (ad := ad) (cs := cs) (M := M) ha
  rw [cel_H hk] at hg
  exact va_get (C := R_H) (T := T_H) (N := 3) C.1 C.2.1 C.2.2.2.2.1 u_H C.2.2.2.1 C.2.2.2.2.2.2.2.1 hP q hg rfl 0 (by decide) (C.2.2.2.2.1 _ hw) (fun _ h9 => h9) rfl hd (kk H locs ls hP hS hv)
theorem xp_H_deeds (C : Cx p s m args meth c own cc nL ret D ad cs A L) {k index : Nat} {x : Int32} (hw : Cond.fieldLink own index R_H "deeds" "I" ∈ wl) (ha : k ∈ L) (hk : kd k = 14) (hd : decode cc pc = .ok (.putfield index, 3)) (kk : X p l e d s m args below meth c nL D ad cs A L V N (up M k 0 x) (pc + 3) lv st) : X p l e d s m args below meth c nL D ad cs A L V N M pc lv (.int x :: .ref (ad k) :: st) := by
  intro H locs ls hP hS hv
  obtain ⟨q, hq, hg⟩ := wsL_get (ad := ad) (cs := cs) (M := M) ha
  rw [cel_H hk] at hg
  refine va_put (C := R_H) (T := T_H) (N := 3) (ty := .int) C.1 C.2.1 C.2.2.2.2.1 u_H t_H t_H_ok n_H C.2.2.2.1 C.2.2.2.2.2.2.2.1 hP (C.2.2.2.2.2.2.2.2.2.2 M) hS q hg rfl 0 (by decide) (C.2.2.2.2.1 _ hw) (fun _ h9 => h9) rfl (by decide +kernel) rfl rfl (Nat.le_of_ble_eq_true rfl) hd (fun H1 locs1 hP1 hD1 hS1 => ?_)
  have e1 := wsL_set (ad := ad) (cs := cs) C.2.2.2.2.2.2.2.2.2.1 (M := M) hq (upd (M k) 0 x)
  rw [cel_H hk, ← up_eq] at e1
  exact kk H1 locs1 ls (by rw [← e1]; exact hP1) hS1 hv
theorem xg_H_counts (C : Cx p s m args meth c own cc nL ret D ad cs A L) {k index : Nat} (hw : Cond.fieldLink own index R_H "counts" "[I" ∈ wl) (ha : k ∈ L) (hk : kd k = 14) (hd : decode cc pc = .ok (.getfield index, 3)) (kk : X p l e d s m args below meth c nL D ad cs A L V N M (pc + 3) lv (.ref (ad (k + 1)) :: st)) : X p l e d s m args below meth c nL D ad cs A L V N M pc lv (.ref (ad k) :: st) := by
  intro H locs ls hP hS hv
  obtain ⟨q, hq, hg⟩ := wsL_get (ad := ad) (cs := cs) (M := M) ha
  rw [cel_H hk] at hg
  exact va_get (C := R_H) (T := T_H) (N := 3) C.1 C.2.1 C.2.2.2.2.1 u_H C.2.2.2.1 C.2.2.2.2.2.2.2.1 hP q hg rfl 1 (by decide) (C.2.2.2.2.1 _ hw) (fun _ h9 => h9) rfl hd (kk H locs ls hP hS hv)
theorem xg_H_pages (C : Cx p s m args meth c own cc nL ret D ad cs A L) {k index : Nat} (hw : Cond.fieldLink own index R_H "pages" "[I" ∈ wl) (ha : k ∈ L) (hk : kd k = 14) (hd : decode cc pc = .ok (.getfield index, 3)) (kk : X p l e d s m args below meth c nL D ad cs A L V N M (pc + 3) lv (.ref (ad (k + 2)) :: st)) : X p l e d s m args below meth c nL D ad cs A L V N M pc lv (.ref (ad k) :: st) := by
  intro H locs ls hP hS hv
  obtain ⟨q, hq, hg⟩ := wsL_get (ad := ad) (cs := cs) (M := M) ha
  rw [cel_H hk] at hg
  exact va_get (C := R_H) (T := T_H) (N := 3) C.1 C.2.1 C.2.2.2.2.1 u_H C.2.2.2.1 C.2.2.2.2.2.2.2.1 hP q hg rfl 2 (by decide) (C.2.2.2.2.1 _ hw) (fun _ h9 => h9) rfl hd (kk H locs ls hP hS hv)
theorem xg_G_found (C : Cx p s m args meth c own cc nL ret D ad cs A L) {k index : Nat} (hw : Cond.fieldLink own index R_G "found" "I" ∈ wl) (ha : k ∈ L) (hk : kd k = 15) (hd : decode cc pc = .ok (.getfield index, 3)) (kk : X p l e d s m args below meth c nL D ad cs A L V N M (pc + 3) lv (.int (M k 0) :: st)) : X p l e d s m args below meth c nL D ad cs A L V N M pc lv (.ref (ad k) :: st) := by
  intro H locs ls hP hS hv
  obtain ⟨q, hq, hg⟩ := wsL_get (ad := ad) (cs := cs) (M := M) ha
  rw [cel_G hk] at hg
  exact va_get (C := R_G) (T := T_G) (N := 7) C.1 C.2.1 C.2.2.2.2.1 u_G C.2.2.2.1 C.2.2.2.2.2.2.2.1 hP q hg rfl 0 (by decide) (C.2.2.2.2.1 _ hw) (fun _ h9 => h9) rfl hd (kk H locs ls hP hS hv)
theorem xp_G_found (C : Cx p s m args meth c own cc nL ret D ad cs A L) {k index : Nat} {x : Int32} (hw : Cond.fieldLink own index R_G "found" "I" ∈ wl) (ha : k ∈ L) (hk : kd k = 15) (hd : decode cc pc = .ok (.putfield index, 3)) (kk : X p l e d s m args below meth c nL D ad cs A L V N (up M k 0 x) (pc + 3) lv st) : X p l e d s m args below meth c nL D ad cs A L V N M pc lv (.int x :: .ref (ad k) :: st) := by
  intro H locs ls hP hS hv
  obtain ⟨q, hq, hg⟩ := wsL_get (ad := ad) (cs := cs) (M := M) ha
  rw [cel_G hk] at hg
  refine va_put (C := R_G) (T := T_G) (N := 7) (ty := .int) C.1 C.2.1 C.2.2.2.2.1 u_G t_G t_G_ok n_G C.2.2.2.1 C.2.2.2.2.2.2.2.1 hP (C.2.2.2.2.2.2.2.2.2.2 M) hS q hg rfl 0 (by decide) (C.2.2.2.2.1 _ hw) (fun _ h9 => h9) rfl (by decide +kernel) rfl rfl (Nat.le_of_ble_eq_true rfl) hd (fun H1 locs1 hP1 hD1 hS1 => ?_)
  have e1 := wsL_set (ad := ad) (cs := cs) C.2.2.2.2.2.2.2.2.2.1 (M := M) hq (upd (M k) 0 x)
  rw [cel_G hk, ← up_eq] at e1
  exact kk H1 locs1 ls (by rw [← e1]; exact hP1) hS1 hv
theorem xg_G_mostCleared (C : Cx p s m args meth c own cc nL ret D ad cs A L) {k index : Nat} (hw : Cond.fieldLink own index R_G "mostCleared" "I" ∈ wl) (ha : k ∈ L) (hk : kd k = 15) (hd : decode cc pc = .ok (.getfield index, 3)) (kk : X p l e d s m args below meth c nL D ad cs A L V N M (pc + 3) lv (.int (M k 1) :: st)) : X p l e d s m args below meth c nL D ad cs A L V N M pc lv (.ref (ad k) :: st) := by
  intro H locs ls hP hS hv
  obtain ⟨q, hq, hg⟩ := wsL_get (ad := ad) (cs := cs) (M := M) ha
  rw [cel_G hk] at hg
  exact va_get (C := R_G) (T := T_G) (N := 7) C.1 C.2.1 C.2.2.2.2.1 u_G C.2.2.2.1 C.2.2.2.2.2.2.2.1 hP q hg rfl 1 (by decide) (C.2.2.2.2.1 _ hw) (fun _ h9 => h9) rfl hd (kk H locs ls hP hS hv)
theorem xp_G_mostCleared (C : Cx p s m args meth c own cc nL ret D ad cs A L) {k index : Nat} {x : Int32} (hw : Cond.fieldLink own index R_G "mostCleared" "I" ∈ wl) (ha : k ∈ L) (hk : kd k = 15) (hd : decode cc pc = .ok (.putfield index, 3)) (kk : X p l e d s m args below meth c nL D ad cs A L V N (up M k 1 x) (pc + 3) lv st) : X p l e d s m args below meth c nL D ad cs A L V N M pc lv (.int x :: .ref (ad k) :: st) := by
  intro H locs ls hP hS hv
  obtain ⟨q, hq, hg⟩ := wsL_get (ad := ad) (cs := cs) (M := M) ha
  rw [cel_G hk] at hg
  refine va_put (C := R_G) (T := T_G) (N := 7) (ty := .int) C.1 C.2.1 C.2.2.2.2.1 u_G t_G t_G_ok n_G C.2.2.2.1 C.2.2.2.2.2.2.2.1 hP (C.2.2.2.2.2.2.2.2.2.2 M) hS q hg rfl 1 (by decide) (C.2.2.2.2.1 _ hw) (fun _ h9 => h9) rfl (by decide +kernel) rfl rfl (Nat.le_of_ble_eq_true rfl) hd (fun H1 locs1 hP1 hD1 hS1 => ?_)
  have e1 := wsL_set (ad := ad) (cs := cs) C.2.2.2.2.2.2.2.2.2.1 (M := M) hq (upd (M k) 1 x)
  rw [cel_G hk, ← up_eq] at e1
  exact kk H1 locs1 ls (by rw [← e1]; exact hP1) hS1 hv
theorem xg_G_bestLeast (C : Cx p s m args meth c own cc nL ret D ad cs A L) {k index : Nat} (hw : Cond.fieldLink own index R_G "bestLeast" "I" ∈ wl) (ha : k ∈ L) (hk : kd k = 15) (hd : decode cc pc = .ok (.getfield index, 3)) (kk : X p l e d s m args below meth c nL D ad cs A L V N M (pc + 3) lv (.int (M k 2) :: st)) : X p l e d s m args below meth c nL D ad cs A L V N M pc lv (.ref (ad k) :: st) := by
  intro H locs ls hP hS hv
  obtain ⟨q, hq, hg⟩ := wsL_get (ad := ad) (cs := cs) (M := M) ha
  rw [cel_G hk] at hg
  exact va_get (C := R_G) (T := T_G) (N := 7) C.1 C.2.1 C.2.2.2.2.1 u_G C.2.2.2.1 C.2.2.2.2.2.2.2.1 hP q hg rfl 2 (by decide) (C.2.2.2.2.1 _ hw) (fun _ h9 => h9) rfl hd (kk H locs ls hP hS hv)
theorem xp_G_bestLeast (C : Cx p s m args meth c own cc nL ret D ad cs A L) {k index : Nat} {x : Int32} (hw : Cond.fieldLink own index R_G "bestLeast" "I" ∈ wl) (ha : k ∈ L) (hk : kd k = 15) (hd : decode cc pc = .ok (.putfield index, 3)) (kk : X p l e d s m args below meth c nL D ad cs A L V N (up M k 2 x) (pc + 3) lv st) : X p l e d s m args below meth c nL D ad cs A L V N M pc lv (.int x :: .ref (ad k) :: st) := by
  intro H locs ls hP hS hv
  obtain ⟨q, hq, hg⟩ := wsL_get (ad := ad) (cs := cs) (M := M) ha
  rw [cel_G hk] at hg
  refine va_put (C := R_G) (T := T_G) (N := 7) (ty := .int) C.1 C.2.1 C.2.2.2.2.1 u_G t_G t_G_ok n_G C.2.2.2.1 C.2.2.2.2.2.2.2.1 hP (C.2.2.2.2.2.2.2.2.2.2 M) hS q hg rfl 2 (by decide) (C.2.2.2.2.1 _ hw) (fun _ h9 => h9) rfl (by decide +kernel) rfl rfl (Nat.le_of_ble_eq_true rfl) hd (fun H1 locs1 hP1 hD1 hS1 => ?_)
  have e1 := wsL_set (ad := ad) (cs := cs) C.2.2.2.2.2.2.2.2.2.1 (M := M) hq (upd (M k) 2 x)
  rw [cel_G hk, ← up_eq] at e1
  exact kk H1 locs1 ls (by rw [← e1]; exact hP1) hS1 hv
theorem xg_G_bestSize (C : Cx p s m args meth c own cc nL ret D ad cs A L) {k index : Nat} (hw : Cond.fieldLink own index R_G "bestSize" "I" ∈ wl) (ha : k ∈ L) (hk : kd k = 15) (hd : decode cc pc = .ok (.getfield index, 3)) (kk : X p l e d s m args below meth c nL D ad cs A L V N M (pc + 3) lv (.int (M k 3) :: st)) : X p l e d s m args below meth c nL D ad cs A L V N M pc lv (.ref (ad k) :: st) := by
  intro H locs ls hP hS hv
  obtain ⟨q, hq, hg⟩ := wsL_get (ad := ad) (cs := cs) (M := M) ha
  rw [cel_G hk] at hg
  exact va_get (C := R_G) (T := T_G) (N := 7) C.1 C.2.1 C.2.2.2.2.1 u_G C.2.2.2.1 C.2.2.2.2.2.2.2.1 hP q hg rfl 3 (by decide) (C.2.2.2.2.1 _ hw) (fun _ h9 => h9) rfl hd (kk H locs ls hP hS hv)
theorem xp_G_bestSize (C : Cx p s m args meth c own cc nL ret D ad cs A L) {k index : Nat} {x : Int32} (hw : Cond.fieldLink own index R_G "bestSize" "I" ∈ wl) (ha : k ∈ L) (hk : kd k = 15) (hd : decode cc pc = .ok (.putfield index, 3)) (kk : X p l e d s m args below meth c nL D ad cs A L V N (up M k 3 x) (pc + 3) lv st) : X p l e d s m args below meth c nL D ad cs A L V N M pc lv (.int x :: .ref (ad k) :: st) := by
  intro H locs ls hP hS hv
  obtain ⟨q, hq, hg⟩ := wsL_get (ad := ad) (cs := cs) (M := M) ha
  rw [cel_G hk] at hg
  refine va_put (C := R_G) (T := T_G) (N := 7) (ty := .int) C.1 C.2.1 C.2.2.2.2.1 u_G t_G t_G_ok n_G C.2.2.2.1 C.2.2.2.2.2.2.2.1 hP (C.2.2.2.2.2.2.2.2.2.2 M) hS q hg rfl 3 (by decide) (C.2.2.2.2.1 _ hw) (fun _ h9 => h9) rfl (by decide +kernel) rfl rfl (Nat.le_of_ble_eq_true rfl) hd (fun H1 locs1 hP1 hD1 hS1 => ?_)
  have e1 := wsL_set (ad := ad) (cs := cs) C.2.2.2.2.2.2.2.2.2.1 (M := M) hq (upd (M k) 3 x)
  rw [cel_G hk, ← up_eq] at e1
  exact kk H1 locs1 ls (by rw [← e1]; exact hP1) hS1 hv
theorem xg_G_best (C : Cx p s m args meth c own cc nL ret D ad cs A L) {k index : Nat} (hw : Cond.fieldLink own index R_G "best" "[I" ∈ wl) (ha : k ∈ L) (hk : kd k = 15) (hd : decode cc pc = .ok (.getfield index, 3)) (kk : X p l e d s m args below meth c nL D ad cs A L V N M (pc + 3) lv (.ref (ad (k + 1)) :: st)) : X p l e d s m args below meth c nL D ad cs A L V N M pc lv (.ref (ad k) :: st) := by
  intro H locs ls hP hS hv
  obtain ⟨q, hq, hg⟩ := wsL_get (ad := ad) (cs := cs) (M := M) ha
  rw [cel_G hk] at hg
  exact va_get (C := R_G) (T := T_G) (N := 7) C.1 C.2.1 C.2.2.2.2.1 u_G C.2.2.2.1 C.2.2.2.2.2.2.2.1 hP q hg rfl 4 (by decide) (C.2.2.2.2.1 _ hw) (fun _ h9 => h9) rfl hd (kk H locs ls hP hS hv)
theorem xg_G_through (C : Cx p s m args meth c own cc nL ret D ad cs A L) {k index : Nat} (hw : Cond.fieldLink own index R_G "through" "[I" ∈ wl) (ha : k ∈ L) (hk : kd k = 15) (hd : decode cc pc = .ok (.getfield index, 3)) (kk : X p l e d s m args below meth c nL D ad cs A L V N M (pc + 3) lv (.ref (ad (k + 2)) :: st)) : X p l e d s m args below meth c nL D ad cs A L V N M pc lv (.ref (ad k) :: st) := by
  intro H locs ls hP hS hv
  obtain ⟨q, hq, hg⟩ := wsL_get (ad := ad) (cs := cs) (M := M) ha
  rw [cel_G hk] at hg
  exact va_get (C := R_G) (T := T_G) (N := 7) C.1 C.2.1 C.2.2.2.2.1 u_G C.2.2.2.1 C.2.2.2.2.2.2.2.1 hP q hg rfl 5 (by decide) (C.2.2.2.2.1 _ hw) (fun _ h9 => h9) rfl hd (kk H locs ls hP hS hv)
theorem xg_G_path (C : Cx p s m args meth c own cc nL ret D ad cs A L) {k index : Nat} (hw : Cond.fieldLink own index R_G "path" "[I" ∈ wl) (ha : k ∈ L) (hk : kd k = 15) (hd : decode cc pc = .ok (.getfield index, 3)) (kk : X p l e d s m args below meth c nL D ad cs A L V N M (pc + 3) lv (.ref (ad (k + 3)) :: st)) : X p l e d s m args below meth c nL D ad cs A L V N M pc lv (.ref (ad k) :: st) := by
  intro H locs ls hP hS hv
  obtain ⟨q, hq, hg⟩ := wsL_get (ad := ad) (cs := cs) (M := M) ha
  rw [cel_G hk] at hg
  exact va_get (C := R_G) (T := T_G) (N := 7) C.1 C.2.1 C.2.2.2.2.1 u_G C.2.2.2.1 C.2.2.2.2.2.2.2.1 hP q hg rfl 6 (by decide) (C.2.2.2.2.1 _ hw) (fun _ h9 => h9) rfl hd (kk H locs ls hP hS hv)
theorem xg_O_size (C : Cx p s m args meth c own cc nL ret D ad cs A L) {k index : Nat} (hw : Cond.fieldLink own index R_O "size" "I" ∈ wl) (ha : k ∈ L) (hk : kd k = 16) (hd : decode cc pc = .ok (.getfield index, 3)) (kk : X p l e d s m args below meth c nL D ad cs A L V N M (pc + 3) lv (.int (M k 0) :: st)) : X p l e d s m args below meth c nL D ad cs A L V N M pc lv (.ref (ad k) :: st) := by
  intro H locs ls hP hS hv
  obtain ⟨q, hq, hg⟩ := wsL_get (ad := ad) (cs := cs) (M := M) ha
  rw [cel_O hk] at hg
  exact va_get (C := R_O) (T := T_O) (N := 4) C.1 C.2.1 C.2.2.2.2.1 u_O C.2.2.2.1 C.2.2.2.2.2.2.2.1 hP q hg rfl 0 (by decide) (C.2.2.2.2.1 _ hw) (fun _ h9 => h9) rfl hd (kk H locs ls hP hS hv)
theorem xp_O_size (C : Cx p s m args meth c own cc nL ret D ad cs A L) {k index : Nat} {x : Int32} (hw : Cond.fieldLink own index R_O "size" "I" ∈ wl) (ha : k ∈ L) (hk : kd k = 16) (hd : decode cc pc = .ok (.putfield index, 3)) (kk : X p l e d s m args below meth c nL D ad cs A L V N (up M k 0 x) (pc + 3) lv st) : X p l e d s m args below meth c nL D ad cs A L V N M pc lv (.int x :: .ref (ad k) :: st) := by
  intro H locs ls hP hS hv
  obtain ⟨q, hq, hg⟩ := wsL_get (ad := ad) (cs := cs) (M := M) ha
  rw [cel_O hk] at hg
  refine va_put (C := R_O) (T := T_O) (N := 4) (ty := .int) C.1 C.2.1 C.2.2.2.2.1 u_O t_O t_O_ok n_O C.2.2.2.1 C.2.2.2.2.2.2.2.1 hP (C.2.2.2.2.2.2.2.2.2.2 M) hS q hg rfl 0 (by decide) (C.2.2.2.2.1 _ hw) (fun _ h9 => h9) rfl (by decide +kernel) rfl rfl (Nat.le_of_ble_eq_true rfl) hd (fun H1 locs1 hP1 hD1 hS1 => ?_)
  have e1 := wsL_set (ad := ad) (cs := cs) C.2.2.2.2.2.2.2.2.2.1 (M := M) hq (upd (M k) 0 x)
  rw [cel_O hk, ← up_eq] at e1
  exact kk H1 locs1 ls (by rw [← e1]; exact hP1) hS1 hv
theorem xg_O_ones (C : Cx p s m args meth c own cc nL ret D ad cs A L) {k index : Nat} (hw : Cond.fieldLink own index R_O "ones" "[I" ∈ wl) (ha : k ∈ L) (hk : kd k = 16) (hd : decode cc pc = .ok (.getfield index, 3)) (kk : X p l e d s m args below meth c nL D ad cs A L V N M (pc + 3) lv (.ref (ad (k + 1)) :: st)) : X p l e d s m args below meth c nL D ad cs A L V N M pc lv (.ref (ad k) :: st) := by
  intro H locs ls hP hS hv
  obtain ⟨q, hq, hg⟩ := wsL_get (ad := ad) (cs := cs) (M := M) ha
  rw [cel_O hk] at hg
  exact va_get (C := R_O) (T := T_O) (N := 4) C.1 C.2.1 C.2.2.2.2.1 u_O C.2.2.2.1 C.2.2.2.2.2.2.2.1 hP q hg rfl 1 (by decide) (C.2.2.2.2.1 _ hw) (fun _ h9 => h9) rfl hd (kk H locs ls hP hS hv)
theorem xg_O_others (C : Cx p s m args meth c own cc nL ret D ad cs A L) {k index : Nat} (hw : Cond.fieldLink own index R_O "others" "[I" ∈ wl) (ha : k ∈ L) (hk : kd k = 16) (hd : decode cc pc = .ok (.getfield index, 3)) (kk : X p l e d s m args below meth c nL D ad cs A L V N M (pc + 3) lv (.ref (ad (k + 2)) :: st)) : X p l e d s m args below meth c nL D ad cs A L V N M pc lv (.ref (ad k) :: st) := by
  intro H locs ls hP hS hv
  obtain ⟨q, hq, hg⟩ := wsL_get (ad := ad) (cs := cs) (M := M) ha
  rw [cel_O hk] at hg
  exact va_get (C := R_O) (T := T_O) (N := 4) C.1 C.2.1 C.2.2.2.2.1 u_O C.2.2.2.1 C.2.2.2.2.2.2.2.1 hP q hg rfl 2 (by decide) (C.2.2.2.2.1 _ hw) (fun _ h9 => h9) rfl hd (kk H locs ls hP hS hv)
theorem xg_O_busy (C : Cx p s m args meth c own cc nL ret D ad cs A L) {k index : Nat} (hw : Cond.fieldLink own index R_O "busy" "[I" ∈ wl) (ha : k ∈ L) (hk : kd k = 16) (hd : decode cc pc = .ok (.getfield index, 3)) (kk : X p l e d s m args below meth c nL D ad cs A L V N M (pc + 3) lv (.ref (ad (k + 3)) :: st)) : X p l e d s m args below meth c nL D ad cs A L V N M pc lv (.ref (ad k) :: st) := by
  intro H locs ls hP hS hv
  obtain ⟨q, hq, hg⟩ := wsL_get (ad := ad) (cs := cs) (M := M) ha
  rw [cel_O hk] at hg
  exact va_get (C := R_O) (T := T_O) (N := 4) C.1 C.2.1 C.2.2.2.2.1 u_O C.2.2.2.1 C.2.2.2.2.2.2.2.1 hP q hg rfl 3 (by decide) (C.2.2.2.2.1 _ hw) (fun _ h9 => h9) rfl hd (kk H locs ls hP hS hv)
theorem xg_S_places (C : Cx p s m args meth c own cc nL ret D ad cs A L) {k index : Nat} (hw : Cond.fieldLink own index R_S "places" "[I" ∈ wl) (ha : k ∈ L) (hk : kd k = 11) (hd : decode cc pc = .ok (.getfield index, 3)) (kk : X p l e d s m args below meth c nL D ad cs A L V N M (pc + 3) lv (.ref (ad (k + 1)) :: st)) : X p l e d s m args below meth c nL D ad cs A L V N M pc lv (.ref (ad k) :: st) := by
  intro H locs ls hP hS hv
  obtain ⟨q, hq, hg⟩ := wsL_get (ad := ad) (cs := cs) (M := M) ha
  rw [cel_S hk] at hg
  exact va_get (C := R_S) (T := T_S) (N := 2) C.1 C.2.1 C.2.2.2.2.1 u_S C.2.2.2.1 C.2.2.2.2.2.2.2.1 hP q hg rfl 0 (by decide) (C.2.2.2.2.1 _ hw) (fun _ h9 => h9) rfl hd (kk H locs ls hP hS hv)
theorem xg_S_size (C : Cx p s m args meth c own cc nL ret D ad cs A L) {k index : Nat} (hw : Cond.fieldLink own index R_S "size" "I" ∈ wl) (ha : k ∈ L) (hk : kd k = 11) (hd : decode cc pc = .ok (.getfield index, 3)) (kk : X p l e d s m args below meth c nL D ad cs A L V N M (pc + 3) lv (.int (M k 1) :: st)) : X p l e d s m args below meth c nL D ad cs A L V N M pc lv (.ref (ad k) :: st) := by
  intro H locs ls hP hS hv
  obtain ⟨q, hq, hg⟩ := wsL_get (ad := ad) (cs := cs) (M := M) ha
  rw [cel_S hk] at hg
  exact va_get (C := R_S) (T := T_S) (N := 2) C.1 C.2.1 C.2.2.2.2.1 u_S C.2.2.2.1 C.2.2.2.2.2.2.2.1 hP q hg rfl 1 (by decide) (C.2.2.2.2.1 _ hw) (fun _ h9 => h9) rfl hd (kk H locs ls hP hS hv)
theorem xp_S_size (C : Cx p s m args meth c own cc nL ret D ad cs A L) {k index : Nat} {x : Int32} (hw : Cond.fieldLink own index R_S "size" "I" ∈ wl) (ha : k ∈ L) (hk : kd k = 11) (hd : decode cc pc = .ok (.putfield index, 3)) (kk : X p l e d s m args below meth c nL D ad cs A L V N (up M k 1 x) (pc + 3) lv st) : X p l e d s m args below meth c nL D ad cs A L V N M pc lv (.int x :: .ref (ad k) :: st) := by
  intro H locs ls hP hS hv
  obtain ⟨q, hq, hg⟩ := wsL_get (ad := ad) (cs := cs) (M := M) ha
  rw [cel_S hk] at hg
  refine va_put (C := R_S) (T := T_S) (N := 2) (ty := .int) C.1 C.2.1 C.2.2.2.2.1 u_S t_S t_S_ok n_S C.2.2.2.1 C.2.2.2.2.2.2.2.1 hP (C.2.2.2.2.2.2.2.2.2.2 M) hS q hg rfl 1 (by decide) (C.2.2.2.2.1 _ hw) (fun _ h9 => h9) rfl (by decide +kernel) rfl rfl (Nat.le_of_ble_eq_true rfl) hd (fun H1 locs1 hP1 hD1 hS1 => ?_)
  have e1 := wsL_set (ad := ad) (cs := cs) C.2.2.2.2.2.2.2.2.2.1 (M := M) hq (upd (M k) 1 x)
  rw [cel_S hk, ← up_eq] at e1
  exact kk H1 locs1 ls (by rw [← e1]; exact hP1) hS1 hv
theorem xg_V_personCount (C : Cx p s m args meth c own cc nL ret D ad cs A L) {k index : Nat} (hw : Cond.fieldLink own index R_V "personCount" "I" ∈ wl) (ha : k ∈ L) (hk : kd k = 12) (hd : decode cc pc = .ok (.getfield index, 3)) (kk : X p l e d s m args below meth c nL D ad cs A L V N M (pc + 3) lv (.int (M k 0) :: st)) : X p l e d s m args below meth c nL D ad cs A L V N M pc lv (.ref (ad k) :: st) := by
  intro H locs ls hP hS hv
  obtain ⟨q, hq, hg⟩ := wsL_get (ad := ad) (cs := cs) (M := M) ha
  rw [cel_V hk] at hg
  exact va_get (C := R_V) (T := T_V) (N := 4) C.1 C.2.1 C.2.2.2.2.1 u_V C.2.2.2.1 C.2.2.2.2.2.2.2.1 hP q hg rfl 0 (by decide) (C.2.2.2.2.1 _ hw) (fun _ h9 => h9) rfl hd (kk H locs ls hP hS hv)
theorem xp_V_personCount (C : Cx p s m args meth c own cc nL ret D ad cs A L) {k index : Nat} {x : Int32} (hw : Cond.fieldLink own index R_V "personCount" "I" ∈ wl) (ha : k ∈ L) (hk : kd k = 12) (hd : decode cc pc = .ok (.putfield index, 3)) (kk : X p l e d s m args below meth c nL D ad cs A L V N (up M k 0 x) (pc + 3) lv st) : X p l e d s m args below meth c nL D ad cs A L V N M pc lv (.int x :: .ref (ad k) :: st) := by
  intro H locs ls hP hS hv
  obtain ⟨q, hq, hg⟩ := wsL_get (ad := ad) (cs := cs) (M := M) ha
  rw [cel_V hk] at hg
  refine va_put (C := R_V) (T := T_V) (N := 4) (ty := .int) C.1 C.2.1 C.2.2.2.2.1 u_V t_V t_V_ok n_V C.2.2.2.1 C.2.2.2.2.2.2.2.1 hP (C.2.2.2.2.2.2.2.2.2.2 M) hS q hg rfl 0 (by decide) (C.2.2.2.2.1 _ hw) (fun _ h9 => h9) rfl (by decide +kernel) rfl rfl (Nat.le_of_ble_eq_true rfl) hd (fun H1 locs1 hP1 hD1 hS1 => ?_)
  have e1 := wsL_set (ad := ad) (cs := cs) C.2.2.2.2.2.2.2.2.2.1 (M := M) hq (upd (M k) 0 x)
  rw [cel_V hk, ← up_eq] at e1
  exact kk H1 locs1 ls (by rw [← e1]; exact hP1) hS1 hv
theorem xg_V_draftCount (C : Cx p s m args meth c own cc nL ret D ad cs A L) {k index : Nat} (hw : Cond.fieldLink own index R_V "draftCount" "I" ∈ wl) (ha : k ∈ L) (hk : kd k = 12) (hd : decode cc pc = .ok (.getfield index, 3)) (kk : X p l e d s m args below meth c nL D ad cs A L V N M (pc + 3) lv (.int (M k 1) :: st)) : X p l e d s m args below meth c nL D ad cs A L V N M pc lv (.ref (ad k) :: st) := by
  intro H locs ls hP hS hv
  obtain ⟨q, hq, hg⟩ := wsL_get (ad := ad) (cs := cs) (M := M) ha
  rw [cel_V hk] at hg
  exact va_get (C := R_V) (T := T_V) (N := 4) C.1 C.2.1 C.2.2.2.2.1 u_V C.2.2.2.1 C.2.2.2.2.2.2.2.1 hP q hg rfl 1 (by decide) (C.2.2.2.2.1 _ hw) (fun _ h9 => h9) rfl hd (kk H locs ls hP hS hv)
theorem xp_V_draftCount (C : Cx p s m args meth c own cc nL ret D ad cs A L) {k index : Nat} {x : Int32} (hw : Cond.fieldLink own index R_V "draftCount" "I" ∈ wl) (ha : k ∈ L) (hk : kd k = 12) (hd : decode cc pc = .ok (.putfield index, 3)) (kk : X p l e d s m args below meth c nL D ad cs A L V N (up M k 1 x) (pc + 3) lv st) : X p l e d s m args below meth c nL D ad cs A L V N M pc lv (.int x :: .ref (ad k) :: st) := by
  intro H locs ls hP hS hv
  obtain ⟨q, hq, hg⟩ := wsL_get (ad := ad) (cs := cs) (M := M) ha
  rw [cel_V hk] at hg
  refine va_put (C := R_V) (T := T_V) (N := 4) (ty := .int) C.1 C.2.1 C.2.2.2.2.1 u_V t_V t_V_ok n_V C.2.2.2.1 C.2.2.2.2.2.2.2.1 hP (C.2.2.2.2.2.2.2.2.2.2 M) hS q hg rfl 1 (by decide) (C.2.2.2.2.1 _ hw) (fun _ h9 => h9) rfl (by decide +kernel) rfl rfl (Nat.le_of_ble_eq_true rfl) hd (fun H1 locs1 hP1 hD1 hS1 => ?_)
  have e1 := wsL_set (ad := ad) (cs := cs) C.2.2.2.2.2.2.2.2.2.1 (M := M) hq (upd (M k) 1 x)
  rw [cel_V hk, ← up_eq] at e1
  exact kk H1 locs1 ls (by rw [← e1]; exact hP1) hS1 hv
theorem xg_V_kinds (C : Cx p s m args meth c own cc nL ret D ad cs A L) {k index : Nat} (hw : Cond.fieldLink own index R_V "kinds" "[I" ∈ wl) (ha : k ∈ L) (hk : kd k = 12) (hd : decode cc pc = .ok (.getfield index, 3)) (kk : X p l e d s m args below meth c nL D ad cs A L V N M (pc + 3) lv (.ref (ad (k + 1)) :: st)) : X p l e d s m args below meth c nL D ad cs A L V N M pc lv (.ref (ad k) :: st) := by
  intro H locs ls hP hS hv
  obtain ⟨q, hq, hg⟩ := wsL_get (ad := ad) (cs := cs) (M := M) ha
  rw [cel_V hk] at hg
  exact va_get (C := R_V) (T := T_V) (N := 4) C.1 C.2.1 C.2.2.2.2.1 u_V C.2.2.2.1 C.2.2.2.2.2.2.2.1 hP q hg rfl 2 (by decide) (C.2.2.2.2.1 _ hw) (fun _ h9 => h9) rfl hd (kk H locs ls hP hS hv)
theorem xg_V_drafts (C : Cx p s m args meth c own cc nL ret D ad cs A L) {k index : Nat} (hw : Cond.fieldLink own index R_V "drafts" "[LKissClearing$Draft;" ∈ wl) (ha : k ∈ L) (hk : kd k = 12) (hd : decode cc pc = .ok (.getfield index, 3)) (kk : X p l e d s m args below meth c nL D ad cs A L V N M (pc + 3) lv (.ref (ad (k + 2)) :: st)) : X p l e d s m args below meth c nL D ad cs A L V N M pc lv (.ref (ad k) :: st) := by
  intro H locs ls hP hS hv
  obtain ⟨q, hq, hg⟩ := wsL_get (ad := ad) (cs := cs) (M := M) ha
  rw [cel_V hk] at hg
  exact va_get (C := R_V) (T := T_V) (N := 4) C.1 C.2.1 C.2.2.2.2.1 u_V C.2.2.2.1 C.2.2.2.2.2.2.2.1 hP q hg rfl 3 (by decide) (C.2.2.2.2.1 _ hw) (fun _ h9 => h9) rfl hd (kk H locs ls hP hS hv)
theorem xg_K_rows (C : Cx p s m args meth c own cc nL ret D ad cs A L) {k index : Nat} (hw : Cond.fieldLink own index R_K "rows" "[LKissClearing$Strip;" ∈ wl) (ha : k ∈ L) (hk : kd k = 10) (hd : decode cc pc = .ok (.getfield index, 3)) (kk : X p l e d s m args below meth c nL D ad cs A L V N M (pc + 3) lv (.ref (ad (k + 1)) :: st)) : X p l e d s m args below meth c nL D ad cs A L V N M pc lv (.ref (ad k) :: st) := by
  intro H locs ls hP hS hv
  obtain ⟨q, hq, hg⟩ := wsL_get (ad := ad) (cs := cs) (M := M) ha
  rw [cel_K hk] at hg
  exact va_get (C := R_K) (T := T_K) (N := 14) C.1 C.2.1 C.2.2.2.2.1 u_K C.2.2.2.1 C.2.2.2.2.2.2.2.1 hP q hg rfl 0 (by decide) (C.2.2.2.2.1 _ hw) (fun _ h9 => h9) rfl hd (kk H locs ls hP hS hv)
theorem xg_K_texts (C : Cx p s m args meth c own cc nL ret D ad cs A L) {k index : Nat} (hw : Cond.fieldLink own index R_K "texts" "[LKissClearing$Strip;" ∈ wl) (ha : k ∈ L) (hk : kd k = 10) (hd : decode cc pc = .ok (.getfield index, 3)) (kk : X p l e d s m args below meth c nL D ad cs A L V N M (pc + 3) lv (.ref (ad (k + 14)) :: st)) : X p l e d s m args below meth c nL D ad cs A L V N M pc lv (.ref (ad k) :: st) := by
  intro H locs ls hP hS hv
  obtain ⟨q, hq, hg⟩ := wsL_get (ad := ad) (cs := cs) (M := M) ha
  rw [cel_K hk] at hg
  exact va_get (C := R_K) (T := T_K) (N := 14) C.1 C.2.1 C.2.2.2.2.1 u_K C.2.2.2.1 C.2.2.2.2.2.2.2.1 hP q hg rfl 1 (by decide) (C.2.2.2.2.1 _ hw) (fun _ h9 => h9) rfl hd (kk H locs ls hP hS hv)
theorem xg_K_now (C : Cx p s m args meth c own cc nL ret D ad cs A L) {k index : Nat} (hw : Cond.fieldLink own index R_K "now" "LKissClearing$Village;" ∈ wl) (ha : k ∈ L) (hk : kd k = 10) (hd : decode cc pc = .ok (.getfield index, 3)) (kk : X p l e d s m args below meth c nL D ad cs A L V N M (pc + 3) lv (.ref (ad (k + 23)) :: st)) : X p l e d s m args below meth c nL D ad cs A L V N M pc lv (.ref (ad k) :: st) := by
  intro H locs ls hP hS hv
  obtain ⟨q, hq, hg⟩ := wsL_get (ad := ad) (cs := cs) (M := M) ha
  rw [cel_K hk] at hg
  exact va_get (C := R_K) (T := T_K) (N := 14) C.1 C.2.1 C.2.2.2.2.1 u_K C.2.2.2.1 C.2.2.2.2.2.2.2.1 hP q hg rfl 2 (by decide) (C.2.2.2.2.1 _ hw) (fun _ h9 => h9) rfl hd (kk H locs ls hP hS hv)
theorem xg_K_sketch (C : Cx p s m args meth c own cc nL ret D ad cs A L) {k index : Nat} (hw : Cond.fieldLink own index R_K "sketch" "LKissClearing$Village;" ∈ wl) (ha : k ∈ L) (hk : kd k = 10) (hd : decode cc pc = .ok (.getfield index, 3)) (kk : X p l e d s m args below meth c nL D ad cs A L V N M (pc + 3) lv (.ref (ad (k + 38)) :: st)) : X p l e d s m args below meth c nL D ad cs A L V N M pc lv (.ref (ad k) :: st) := by
  intro H locs ls hP hS hv
  obtain ⟨q, hq, hg⟩ := wsL_get (ad := ad) (cs := cs) (M := M) ha
  rw [cel_K hk] at hg
  exact va_get (C := R_K) (T := T_K) (N := 14) C.1 C.2.1 C.2.2.2.2.1 u_K C.2.2.2.1 C.2.2.2.2.2.2.2.1 hP q hg rfl 3 (by decide) (C.2.2.2.2.1 _ hw) (fun _ h9 => h9) rfl hd (kk H locs ls hP hS hv)
theorem xg_K_history (C : Cx p s m args meth c own cc nL ret D ad cs A L) {k index : Nat} (hw : Cond.fieldLink own index R_K "history" "LKissClearing$History;" ∈ wl) (ha : k ∈ L) (hk : kd k = 10) (hd : decode cc pc = .ok (.getfield index, 3)) (kk : X p l e d s m args below meth c nL D ad cs A L V N M (pc + 3) lv (.ref (ad (k + 53)) :: st)) : X p l e d s m args below meth c nL D ad cs A L V N M pc lv (.ref (ad k) :: st) := by
  intro H locs ls hP hS hv
  obtain ⟨q, hq, hg⟩ := wsL_get (ad := ad) (cs := cs) (M := M) ha
  rw [cel_K hk] at hg
  exact va_get (C := R_K) (T := T_K) (N := 14) C.1 C.2.1 C.2.2.2.2.1 u_K C.2.2.2.1 C.2.2.2.2.2.2.2.1 hP q hg rfl 4 (by decide) (C.2.2.2.2.1 _ hw) (fun _ h9 => h9) rfl hd (kk H locs ls hP hS hv)
theorem xg_K_kept (C : Cx p s m args meth c own cc nL ret D ad cs A L) {k index : Nat} (hw : Cond.fieldLink own index R_K "kept" "[LKissClearing$History;" ∈ wl) (ha : k ∈ L) (hk : kd k = 10) (hd : decode cc pc = .ok (.getfield index, 3)) (kk : X p l e d s m args below meth c nL D ad cs A L V N M (pc + 3) lv (.ref (ad (k + 56)) :: st)) : X p l e d s m args below meth c nL D ad cs A L V N M pc lv (.ref (ad k) :: st) := by
  intro H locs ls hP hS hv
  obtain ⟨q, hq, hg⟩ := wsL_get (ad := ad) (cs := cs) (M := M) ha
  rw [cel_K hk] at hg
  exact va_get (C := R_K) (T := T_K) (N := 14) C.1 C.2.1 C.2.2.2.2.1 u_K C.2.2.2.1 C.2.2.2.2.2.2.2.1 hP q hg rfl 5 (by decide) (C.2.2.2.2.1 _ hw) (fun _ h9 => h9) rfl hd (kk H locs ls hP hS hv)
theorem xg_K_rings (C : Cx p s m args meth c own cc nL ret D ad cs A L) {k index : Nat} (hw : Cond.fieldLink own index R_K "rings" "LKissClearing$Rings;" ∈ wl) (ha : k ∈ L) (hk : kd k = 10) (hd : decode cc pc = .ok (.getfield index, 3)) (kk : X p l e d s m args below meth c nL D ad cs A L V N M (pc + 3) lv (.ref (ad (k + 66)) :: st)) : X p l e d s m args below meth c nL D ad cs A L V N M pc lv (.ref (ad k) :: st) := by
  intro H locs ls hP hS hv
  obtain ⟨q, hq, hg⟩ := wsL_get (ad := ad) (cs := cs) (M := M) ha
  rw [cel_K hk] at hg
  exact va_get (C := R_K) (T := T_K) (N := 14) C.1 C.2.1 C.2.2.2.2.1 u_K C.2.2.2.1 C.2.2.2.2.2.2.2.1 hP q hg rfl 6 (by decide) (C.2.2.2.2.1 _ hw) (fun _ h9 => h9) rfl hd (kk H locs ls hP hS hv)
theorem xg_K_meetings (C : Cx p s m args meth c own cc nL ret D ad cs A L) {k index : Nat} (hw : Cond.fieldLink own index R_K "meetings" "LKissClearing$Rounds;" ∈ wl) (ha : k ∈ L) (hk : kd k = 10) (hd : decode cc pc = .ok (.getfield index, 3)) (kk : X p l e d s m args below meth c nL D ad cs A L V N M (pc + 3) lv (.ref (ad (k + 70)) :: st)) : X p l e d s m args below meth c nL D ad cs A L V N M pc lv (.ref (ad k) :: st) := by
  intro H locs ls hP hS hv
  obtain ⟨q, hq, hg⟩ := wsL_get (ad := ad) (cs := cs) (M := M) ha
  rw [cel_K hk] at hg
  exact va_get (C := R_K) (T := T_K) (N := 14) C.1 C.2.1 C.2.2.2.2.1 u_K C.2.2.2.1 C.2.2.2.2.2.2.2.1 hP q hg rfl 7 (by decide) (C.2.2.2.2.1 _ hw) (fun _ h9 => h9) rfl hd (kk H locs ls hP hS hv)
theorem xg_K_fitting (C : Cx p s m args meth c own cc nL ret D ad cs A L) {k index : Nat} (hw : Cond.fieldLink own index R_K "fitting" "LKissClearing$Blushes;" ∈ wl) (ha : k ∈ L) (hk : kd k = 10) (hd : decode cc pc = .ok (.getfield index, 3)) (kk : X p l e d s m args below meth c nL D ad cs A L V N M (pc + 3) lv (.ref (ad (k + 74)) :: st)) : X p l e d s m args below meth c nL D ad cs A L V N M pc lv (.ref (ad k) :: st) := by
  intro H locs ls hP hS hv
  obtain ⟨q, hq, hg⟩ := wsL_get (ad := ad) (cs := cs) (M := M) ha
  rw [cel_K hk] at hg
  exact va_get (C := R_K) (T := T_K) (N := 14) C.1 C.2.1 C.2.2.2.2.1 u_K C.2.2.2.1 C.2.2.2.2.2.2.2.1 hP q hg rfl 8 (by decide) (C.2.2.2.2.1 _ hw) (fun _ h9 => h9) rfl hd (kk H locs ls hP hS hv)
theorem xg_K_timesFound (C : Cx p s m args meth c own cc nL ret D ad cs A L) {k index : Nat} (hw : Cond.fieldLink own index R_K "timesFound" "[I" ∈ wl) (ha : k ∈ L) (hk : kd k = 10) (hd : decode cc pc = .ok (.getfield index, 3)) (kk : X p l e d s m args below meth c nL D ad cs A L V N M (pc + 3) lv (.ref (ad (k + 76)) :: st)) : X p l e d s m args below meth c nL D ad cs A L V N M pc lv (.ref (ad k) :: st) := by
  intro H locs ls hP hS hv
  obtain ⟨q, hq, hg⟩ := wsL_get (ad := ad) (cs := cs) (M := M) ha
  rw [cel_K hk] at hg
  exact va_get (C := R_K) (T := T_K) (N := 14) C.1 C.2.1 C.2.2.2.2.1 u_K C.2.2.2.1 C.2.2.2.2.2.2.2.1 hP q hg rfl 9 (by decide) (C.2.2.2.2.1 _ hw) (fun _ h9 => h9) rfl hd (kk H locs ls hP hS hv)
theorem xg_K_latestFinding (C : Cx p s m args meth c own cc nL ret D ad cs A L) {k index : Nat} (hw : Cond.fieldLink own index R_K "latestFinding" "I" ∈ wl) (ha : k ∈ L) (hk : kd k = 10) (hd : decode cc pc = .ok (.getfield index, 3)) (kk : X p l e d s m args below meth c nL D ad cs A L V N M (pc + 3) lv (.int (M k 10) :: st)) : X p l e d s m args below meth c nL D ad cs A L V N M pc lv (.ref (ad k) :: st) := by
  intro H locs ls hP hS hv
  obtain ⟨q, hq, hg⟩ := wsL_get (ad := ad) (cs := cs) (M := M) ha
  rw [cel_K hk] at hg
  exact va_get (C := R_K) (T := T_K) (N := 14) C.1 C.2.1 C.2.2.2.2.1 u_K C.2.2.2.1 C.2.2.2.2.2.2.2.1 hP q hg rfl 10 (by decide) (C.2.2.2.2.1 _ hw) (fun _ h9 => h9) rfl hd (kk H locs ls hP hS hv)
theorem xp_K_latestFinding (C : Cx p s m args meth c own cc nL ret D ad cs A L) {k index : Nat} {x : Int32} (hw : Cond.fieldLink own index R_K "latestFinding" "I" ∈ wl) (ha : k ∈ L) (hk : kd k = 10) (hd : decode cc pc = .ok (.putfield index, 3)) (kk : X p l e d s m args below meth c nL D ad cs A L V N (up M k 10 x) (pc + 3) lv st) : X p l e d s m args below meth c nL D ad cs A L V N M pc lv (.int x :: .ref (ad k) :: st) := by
  intro H locs ls hP hS hv
  obtain ⟨q, hq, hg⟩ := wsL_get (ad := ad) (cs := cs) (M := M) ha
  rw [cel_K hk] at hg
  refine va_put (C := R_K) (T := T_K) (N := 14) (ty := .int) C.1 C.2.1 C.2.2.2.2.1 u_K t_K t_K_ok n_K C.2.2.2.1 C.2.2.2.2.2.2.2.1 hP (C.2.2.2.2.2.2.2.2.2.2 M) hS q hg rfl 10 (by decide) (C.2.2.2.2.1 _ hw) (fun _ h9 => h9) rfl (by decide +kernel) rfl rfl (Nat.le_of_ble_eq_true rfl) hd (fun H1 locs1 hP1 hD1 hS1 => ?_)
  have e1 := wsL_set (ad := ad) (cs := cs) C.2.2.2.2.2.2.2.2.2.1 (M := M) hq (upd (M k) 10 x)
  rw [cel_K hk, ← up_eq] at e1
  exact kk H1 locs1 ls (by rw [← e1]; exact hP1) hS1 hv
theorem xg_K_latestAsked (C : Cx p s m args meth c own cc nL ret D ad cs A L) {k index : Nat} (hw : Cond.fieldLink own index R_K "latestAsked" "I" ∈ wl) (ha : k ∈ L) (hk : kd k = 10) (hd : decode cc pc = .ok (.getfield index, 3)) (kk : X p l e d s m args below meth c nL D ad cs A L V N M (pc + 3) lv (.int (M k 11) :: st)) : X p l e d s m args below meth c nL D ad cs A L V N M pc lv (.ref (ad k) :: st) := by
  intro H locs ls hP hS hv
  obtain ⟨q, hq, hg⟩ := wsL_get (ad := ad) (cs := cs) (M := M) ha
  rw [cel_K hk] at hg
  exact va_get (C := R_K) (T := T_K) (N := 14) C.1 C.2.1 C.2.2.2.2.1 u_K C.2.2.2.1 C.2.2.2.2.2.2.2.1 hP q hg rfl 11 (by decide) (C.2.2.2.2.1 _ hw) (fun _ h9 => h9) rfl hd (kk H locs ls hP hS hv)
theorem xp_K_latestAsked (C : Cx p s m args meth c own cc nL ret D ad cs A L) {k index : Nat} {x : Int32} (hw : Cond.fieldLink own index R_K "latestAsked" "I" ∈ wl) (ha : k ∈ L) (hk : kd k = 10) (hd : decode cc pc = .ok (.putfield index, 3)) (kk : X p l e d s m args below meth c nL D ad cs A L V N (up M k 11 x) (pc + 3) lv st) : X p l e d s m args below meth c nL D ad cs A L V N M pc lv (.int x :: .ref (ad k) :: st) := by
  intro H locs ls hP hS hv
  obtain ⟨q, hq, hg⟩ := wsL_get (ad := ad) (cs := cs) (M := M) ha
  rw [cel_K hk] at hg
  refine va_put (C := R_K) (T := T_K) (N := 14) (ty := .int) C.1 C.2.1 C.2.2.2.2.1 u_K t_K t_K_ok n_K C.2.2.2.1 C.2.2.2.2.2.2.2.1 hP (C.2.2.2.2.2.2.2.2.2.2 M) hS q hg rfl 11 (by decide) (C.2.2.2.2.1 _ hw) (fun _ h9 => h9) rfl (by decide +kernel) rfl rfl (Nat.le_of_ble_eq_true rfl) hd (fun H1 locs1 hP1 hD1 hS1 => ?_)
  have e1 := wsL_set (ad := ad) (cs := cs) C.2.2.2.2.2.2.2.2.2.1 (M := M) hq (upd (M k) 11 x)
  rw [cel_K hk, ← up_eq] at e1
  exact kk H1 locs1 ls (by rw [← e1]; exact hP1) hS1 hv
theorem xg_K_latestUpper (C : Cx p s m args meth c own cc nL ret D ad cs A L) {k index : Nat} (hw : Cond.fieldLink own index R_K "latestUpper" "J" ∈ wl) (ha : k ∈ L) (hk : kd k = 10) (hd : decode cc pc = .ok (.getfield index, 3)) (kk : X p l e d s m args below meth c nL D ad cs A L V N M (pc + 3) lv (.long (M k 12).toInt64 :: st)) : X p l e d s m args below meth c nL D ad cs A L V N M pc lv (.ref (ad k) :: st) := by
  intro H locs ls hP hS hv
  obtain ⟨q, hq, hg⟩ := wsL_get (ad := ad) (cs := cs) (M := M) ha
  rw [cel_K hk] at hg
  exact va_get (C := R_K) (T := T_K) (N := 14) C.1 C.2.1 C.2.2.2.2.1 u_K C.2.2.2.1 C.2.2.2.2.2.2.2.1 hP q hg rfl 12 (by decide) (C.2.2.2.2.1 _ hw) (fun _ h9 => h9) rfl hd (kk H locs ls hP hS hv)
theorem xp_K_latestUpper (C : Cx p s m args meth c own cc nL ret D ad cs A L) {k index : Nat} {x : Int32} (hw : Cond.fieldLink own index R_K "latestUpper" "J" ∈ wl) (ha : k ∈ L) (hk : kd k = 10) (hd : decode cc pc = .ok (.putfield index, 3)) (kk : X p l e d s m args below meth c nL D ad cs A L V N (up M k 12 x) (pc + 3) lv st) : X p l e d s m args below meth c nL D ad cs A L V N M pc lv (.long x.toInt64 :: .ref (ad k) :: st) := by
  intro H locs ls hP hS hv
  obtain ⟨q, hq, hg⟩ := wsL_get (ad := ad) (cs := cs) (M := M) ha
  rw [cel_K hk] at hg
  refine va_put (C := R_K) (T := T_K) (N := 14) (ty := .long) C.1 C.2.1 C.2.2.2.2.1 u_K t_K t_K_ok n_K C.2.2.2.1 C.2.2.2.2.2.2.2.1 hP (C.2.2.2.2.2.2.2.2.2.2 M) hS q hg rfl 12 (by decide) (C.2.2.2.2.1 _ hw) (fun _ h9 => h9) rfl (by decide +kernel) rfl rfl (Nat.le_of_ble_eq_true rfl) hd (fun H1 locs1 hP1 hD1 hS1 => ?_)
  have e1 := wsL_set (ad := ad) (cs := cs) C.2.2.2.2.2.2.2.2.2.1 (M := M) hq (upd (M k) 12 x)
  rw [cel_K hk, ← up_eq] at e1
  exact kk H1 locs1 ls (by rw [← e1]; exact hP1) hS1 hv
theorem xg_K_latestLower (C : Cx p s m args meth c own cc nL ret D ad cs A L) {k index : Nat} (hw : Cond.fieldLink own index R_K "latestLower" "J" ∈ wl) (ha : k ∈ L) (hk : kd k = 10) (hd : decode cc pc = .ok (.getfield index, 3)) (kk : X p l e d s m args below meth c nL D ad cs A L V N M (pc + 3) lv (.long (M k 13).toInt64 :: st)) : X p l e d s m args below meth c nL D ad cs A L V N M pc lv (.ref (ad k) :: st) := by
  intro H locs ls hP hS hv
  obtain ⟨q, hq, hg⟩ := wsL_get (ad := ad) (cs := cs) (M := M) ha
  rw [cel_K hk] at hg
  exact va_get (C := R_K) (T := T_K) (N := 14) C.1 C.2.1 C.2.2.2.2.1 u_K C.2.2.2.1 C.2.2.2.2.2.2.2.1 hP q hg rfl 13 (by decide) (C.2.2.2.2.1 _ hw) (fun _ h9 => h9) rfl hd (kk H locs ls hP hS hv)
theorem xp_K_latestLower (C : Cx p s m args meth c own cc nL ret D ad cs A L) {k index : Nat} {x : Int32} (hw : Cond.fieldLink own index R_K "latestLower" "J" ∈ wl) (ha : k ∈ L) (hk : kd k = 10) (hd : decode cc pc = .ok (.putfield index, 3)) (kk : X p l e d s m args below meth c nL D ad cs A L V N (up M k 13 x) (pc + 3) lv st) : X p l e d s m args below meth c nL D ad cs A L V N M pc lv (.long x.toInt64 :: .ref (ad k) :: st) := by
  intro H locs ls hP hS hv
  obtain ⟨q, hq, hg⟩ := wsL_get (ad := ad) (cs := cs) (M := M) ha
  rw [cel_K hk] at hg
  refine va_put (C := R_K) (T := T_K) (N := 14) (ty := .long) C.1 C.2.1 C.2.2.2.2.1 u_K t_K t_K_ok n_K C.2.2.2.1 C.2.2.2.2.2.2.2.1 hP (C.2.2.2.2.2.2.2.2.2.2 M) hS q hg rfl 13 (by decide) (C.2.2.2.2.1 _ hw) (fun _ h9 => h9) rfl (by decide +kernel) rfl rfl (Nat.le_of_ble_eq_true rfl) hd (fun H1 locs1 hP1 hD1 hS1 => ?_)
  have e1 := wsL_set (ad := ad) (cs := cs) C.2.2.2.2.2.2.2.2.2.1 (M := M) hq (upd (M k) 13 x)
  rw [cel_K hk, ← up_eq] at e1
  exact kk H1 locs1 ls (by rw [← e1]; exact hP1) hS1 hv
theorem xg_M_row (C : Cx p s m args meth c own cc nL ret D ad cs A L) {k index : Nat} (hw : Cond.fieldLink own index R_M "row" "[I" ∈ wl) (ha : k ∈ L) (hk : kd k = 18) (hd : decode cc pc = .ok (.getfield index, 3)) (kk : X p l e d s m args below meth c nL D ad cs A L V N M (pc + 3) lv (.ref (ad (k + 1)) :: st)) : X p l e d s m args below meth c nL D ad cs A L V N M pc lv (.ref (ad k) :: st) := by
  intro H locs ls hP hS hv
  obtain ⟨q, hq, hg⟩ := wsL_get (ad := ad) (cs := cs) (M := M) ha
  rw [cel_M hk] at hg
  exact va_get (C := R_M) (T := T_M) (N := 31) C.1 C.2.1 C.2.2.2.2.1 u_M C.2.2.2.1 C.2.2.2.2.2.2.2.1 hP q hg rfl 0 (by decide) (C.2.2.2.2.1 _ hw) (fun _ h9 => h9) rfl hd (kk H locs ls hP hS hv)
theorem xg_M_persons (C : Cx p s m args meth c own cc nL ret D ad cs A L) {k index : Nat} (hw : Cond.fieldLink own index R_M "persons" "I" ∈ wl) (ha : k ∈ L) (hk : kd k = 18) (hd : decode cc pc = .ok (.getfield index, 3)) (kk : X p l e d s m args below meth c nL D ad cs A L V N M (pc + 3) lv (.int (M k 1) :: st)) : X p l e d s m args below meth c nL D ad cs A L V N M pc lv (.ref (ad k) :: st) := by
  intro H locs ls hP hS hv
  obtain ⟨q, hq, hg⟩ := wsL_get (ad := ad) (cs := cs) (M := M) ha
  rw [cel_M hk] at hg
  exact va_get (C := R_M) (T := T_M) (N := 31) C.1 C.2.1 C.2.2.2.2.1 u_M C.2.2.2.1 C.2.2.2.2.2.2.2.1 hP q hg rfl 1 (by decide) (C.2.2.2.2.1 _ hw) (fun _ h9 => h9) rfl hd (kk H locs ls hP hS hv)
theorem xp_M_persons (C : Cx p s m args meth c own cc nL ret D ad cs A L) {k index : Nat} {x : Int32} (hw : Cond.fieldLink own index R_M "persons" "I" ∈ wl) (ha : k ∈ L) (hk : kd k = 18) (hd : decode cc pc = .ok (.putfield index, 3)) (kk : X p l e d s m args below meth c nL D ad cs A L V N (up M k 1 x) (pc + 3) lv st) : X p l e d s m args below meth c nL D ad cs A L V N M pc lv (.int x :: .ref (ad k) :: st) := by
  intro H locs ls hP hS hv
  obtain ⟨q, hq, hg⟩ := wsL_get (ad := ad) (cs := cs) (M := M) ha
  rw [cel_M hk] at hg
  refine va_put (C := R_M) (T := T_M) (N := 31) (ty := .int) C.1 C.2.1 C.2.2.2.2.1 u_M t_M t_M_ok n_M C.2.2.2.1 C.2.2.2.2.2.2.2.1 hP (C.2.2.2.2.2.2.2.2.2.2 M) hS q hg rfl 1 (by decide) (C.2.2.2.2.1 _ hw) (fun _ h9 => h9) rfl (by decide +kernel) rfl rfl (Nat.le_of_ble_eq_true rfl) hd (fun H1 locs1 hP1 hD1 hS1 => ?_)
  have e1 := wsL_set (ad := ad) (cs := cs) C.2.2.2.2.2.2.2.2.2.1 (M := M) hq (upd (M k) 1 x)
  rw [cel_M hk, ← up_eq] at e1
  exact kk H1 locs1 ls (by rw [← e1]; exact hP1) hS1 hv
theorem xg_M_kinds (C : Cx p s m args meth c own cc nL ret D ad cs A L) {k index : Nat} (hw : Cond.fieldLink own index R_M "kinds" "[I" ∈ wl) (ha : k ∈ L) (hk : kd k = 18) (hd : decode cc pc = .ok (.getfield index, 3)) (kk : X p l e d s m args below meth c nL D ad cs A L V N M (pc + 3) lv (.ref (ad (k + 2)) :: st)) : X p l e d s m args below meth c nL D ad cs A L V N M pc lv (.ref (ad k) :: st) := by
  intro H locs ls hP hS hv
  obtain ⟨q, hq, hg⟩ := wsL_get (ad := ad) (cs := cs) (M := M) ha
  rw [cel_M hk] at hg
  exact va_get (C := R_M) (T := T_M) (N := 31) C.1 C.2.1 C.2.2.2.2.1 u_M C.2.2.2.1 C.2.2.2.2.2.2.2.1 hP q hg rfl 2 (by decide) (C.2.2.2.2.1 _ hw) (fun _ h9 => h9) rfl hd (kk H locs ls hP hS hv)
theorem xg_M_sizes (C : Cx p s m args meth c own cc nL ret D ad cs A L) {k index : Nat} (hw : Cond.fieldLink own index R_M "sizes" "[I" ∈ wl) (ha : k ∈ L) (hk : kd k = 18) (hd : decode cc pc = .ok (.getfield index, 3)) (kk : X p l e d s m args below meth c nL D ad cs A L V N M (pc + 3) lv (.ref (ad (k + 3)) :: st)) : X p l e d s m args below meth c nL D ad cs A L V N M pc lv (.ref (ad k) :: st) := by
  intro H locs ls hP hS hv
  obtain ⟨q, hq, hg⟩ := wsL_get (ad := ad) (cs := cs) (M := M) ha
  rw [cel_M hk] at hg
  exact va_get (C := R_M) (T := T_M) (N := 31) C.1 C.2.1 C.2.2.2.2.1 u_M C.2.2.2.1 C.2.2.2.2.2.2.2.1 hP q hg rfl 3 (by decide) (C.2.2.2.2.1 _ hw) (fun _ h9 => h9) rfl hd (kk H locs ls hP hS hv)
theorem xg_M_items (C : Cx p s m args meth c own cc nL ret D ad cs A L) {k index : Nat} (hw : Cond.fieldLink own index R_M "items" "[I" ∈ wl) (ha : k ∈ L) (hk : kd k = 18) (hd : decode cc pc = .ok (.getfield index, 3)) (kk : X p l e d s m args below meth c nL D ad cs A L V N M (pc + 3) lv (.ref (ad (k + 4)) :: st)) : X p l e d s m args below meth c nL D ad cs A L V N M pc lv (.ref (ad k) :: st) := by
  intro H locs ls hP hS hv
  obtain ⟨q, hq, hg⟩ := wsL_get (ad := ad) (cs := cs) (M := M) ha
  rw [cel_M hk] at hg
  exact va_get (C := R_M) (T := T_M) (N := 31) C.1 C.2.1 C.2.2.2.2.1 u_M C.2.2.2.1 C.2.2.2.2.2.2.2.1 hP q hg rfl 4 (by decide) (C.2.2.2.2.1 _ hw) (fun _ h9 => h9) rfl hd (kk H locs ls hP hS hv)
theorem xg_M_lengths (C : Cx p s m args meth c own cc nL ret D ad cs A L) {k index : Nat} (hw : Cond.fieldLink own index R_M "lengths" "[I" ∈ wl) (ha : k ∈ L) (hk : kd k = 18) (hd : decode cc pc = .ok (.getfield index, 3)) (kk : X p l e d s m args below meth c nL D ad cs A L V N M (pc + 3) lv (.ref (ad (k + 5)) :: st)) : X p l e d s m args below meth c nL D ad cs A L V N M pc lv (.ref (ad k) :: st) := by
  intro H locs ls hP hS hv
  obtain ⟨q, hq, hg⟩ := wsL_get (ad := ad) (cs := cs) (M := M) ha
  rw [cel_M hk] at hg
  exact va_get (C := R_M) (T := T_M) (N := 31) C.1 C.2.1 C.2.2.2.2.1 u_M C.2.2.2.1 C.2.2.2.2.2.2.2.1 hP q hg rfl 5 (by decide) (C.2.2.2.2.1 _ hw) (fun _ h9 => h9) rfl hd (kk H locs ls hP hS hv)
theorem xg_M_bytes (C : Cx p s m args meth c own cc nL ret D ad cs A L) {k index : Nat} (hw : Cond.fieldLink own index R_M "bytes" "[I" ∈ wl) (ha : k ∈ L) (hk : kd k = 18) (hd : decode cc pc = .ok (.getfield index, 3)) (kk : X p l e d s m args below meth c nL D ad cs A L V N M (pc + 3) lv (.ref (ad (k + 6)) :: st)) : X p l e d s m args below meth c nL D ad cs A L V N M pc lv (.ref (ad k) :: st) := by
  intro H locs ls hP hS hv
  obtain ⟨q, hq, hg⟩ := wsL_get (ad := ad) (cs := cs) (M := M) ha
  rw [cel_M hk] at hg
  exact va_get (C := R_M) (T := T_M) (N := 31) C.1 C.2.1 C.2.2.2.2.1 u_M C.2.2.2.1 C.2.2.2.2.2.2.2.1 hP q hg rfl 6 (by decide) (C.2.2.2.2.1 _ hw) (fun _ h9 => h9) rfl hd (kk H locs ls hP hS hv)
theorem xg_M_asked (C : Cx p s m args meth c own cc nL ret D ad cs A L) {k index : Nat} (hw : Cond.fieldLink own index R_M "asked" "I" ∈ wl) (ha : k ∈ L) (hk : kd k = 18) (hd : decode cc pc = .ok (.getfield index, 3)) (kk : X p l e d s m args below meth c nL D ad cs A L V N M (pc + 3) lv (.int (M k 7) :: st)) : X p l e d s m args below meth c nL D ad cs A L V N M pc lv (.ref (ad k) :: st) := by
  intro H locs ls hP hS hv
  obtain ⟨q, hq, hg⟩ := wsL_get (ad := ad) (cs := cs) (M := M) ha
  rw [cel_M hk] at hg
  exact va_get (C := R_M) (T := T_M) (N := 31) C.1 C.2.1 C.2.2.2.2.1 u_M C.2.2.2.1 C.2.2.2.2.2.2.2.1 hP q hg rfl 7 (by decide) (C.2.2.2.2.1 _ hw) (fun _ h9 => h9) rfl hd (kk H locs ls hP hS hv)
theorem xp_M_asked (C : Cx p s m args meth c own cc nL ret D ad cs A L) {k index : Nat} {x : Int32} (hw : Cond.fieldLink own index R_M "asked" "I" ∈ wl) (ha : k ∈ L) (hk : kd k = 18) (hd : decode cc pc = .ok (.putfield index, 3)) (kk : X p l e d s m args below meth c nL D ad cs A L V N (up M k 7 x) (pc + 3) lv st) : X p l e d s m args below meth c nL D ad cs A L V N M pc lv (.int x :: .ref (ad k) :: st) := by
  intro H locs ls hP hS hv
  obtain ⟨q, hq, hg⟩ := wsL_get (ad := ad) (cs := cs) (M := M) ha
  rw [cel_M hk] at hg
  refine va_put (C := R_M) (T := T_M) (N := 31) (ty := .int) C.1 C.2.1 C.2.2.2.2.1 u_M t_M t_M_ok n_M C.2.2.2.1 C.2.2.2.2.2.2.2.1 hP (C.2.2.2.2.2.2.2.2.2.2 M) hS q hg rfl 7 (by decide) (C.2.2.2.2.1 _ hw) (fun _ h9 => h9) rfl (by decide +kernel) rfl rfl (Nat.le_of_ble_eq_true rfl) hd (fun H1 locs1 hP1 hD1 hS1 => ?_)
  have e1 := wsL_set (ad := ad) (cs := cs) C.2.2.2.2.2.2.2.2.2.1 (M := M) hq (upd (M k) 7 x)
  rw [cel_M hk, ← up_eq] at e1
  exact kk H1 locs1 ls (by rw [← e1]; exact hP1) hS1 hv
theorem xg_M_upper (C : Cx p s m args meth c own cc nL ret D ad cs A L) {k index : Nat} (hw : Cond.fieldLink own index R_M "upper" "J" ∈ wl) (ha : k ∈ L) (hk : kd k = 18) (hd : decode cc pc = .ok (.getfield index, 3)) (kk : X p l e d s m args below meth c nL D ad cs A L V N M (pc + 3) lv (.long (M k 8).toInt64 :: st)) : X p l e d s m args below meth c nL D ad cs A L V N M pc lv (.ref (ad k) :: st) := by
  intro H locs ls hP hS hv
  obtain ⟨q, hq, hg⟩ := wsL_get (ad := ad) (cs := cs) (M := M) ha
  rw [cel_M hk] at hg
  exact va_get (C := R_M) (T := T_M) (N := 31) C.1 C.2.1 C.2.2.2.2.1 u_M C.2.2.2.1 C.2.2.2.2.2.2.2.1 hP q hg rfl 8 (by decide) (C.2.2.2.2.1 _ hw) (fun _ h9 => h9) rfl hd (kk H locs ls hP hS hv)
theorem xp_M_upper (C : Cx p s m args meth c own cc nL ret D ad cs A L) {k index : Nat} {x : Int32} (hw : Cond.fieldLink own index R_M "upper" "J" ∈ wl) (ha : k ∈ L) (hk : kd k = 18) (hd : decode cc pc = .ok (.putfield index, 3)) (kk : X p l e d s m args below meth c nL D ad cs A L V N (up M k 8 x) (pc + 3) lv st) : X p l e d s m args below meth c nL D ad cs A L V N M pc lv (.long x.toInt64 :: .ref (ad k) :: st) := by
  intro H locs ls hP hS hv
  obtain ⟨q, hq, hg⟩ := wsL_get (ad := ad) (cs := cs) (M := M) ha
  rw [cel_M hk] at hg
  refine va_put (C := R_M) (T := T_M) (N := 31) (ty := .long) C.1 C.2.1 C.2.2.2.2.1 u_M t_M t_M_ok n_M C.2.2.2.1 C.2.2.2.2.2.2.2.1 hP (C.2.2.2.2.2.2.2.2.2.2 M) hS q hg rfl 8 (by decide) (C.2.2.2.2.1 _ hw) (fun _ h9 => h9) rfl (by decide +kernel) rfl rfl (Nat.le_of_ble_eq_true rfl) hd (fun H1 locs1 hP1 hD1 hS1 => ?_)
  have e1 := wsL_set (ad := ad) (cs := cs) C.2.2.2.2.2.2.2.2.2.1 (M := M) hq (upd (M k) 8 x)
  rw [cel_M hk, ← up_eq] at e1
  exact kk H1 locs1 ls (by rw [← e1]; exact hP1) hS1 hv
theorem xg_M_lower (C : Cx p s m args meth c own cc nL ret D ad cs A L) {k index : Nat} (hw : Cond.fieldLink own index R_M "lower" "J" ∈ wl) (ha : k ∈ L) (hk : kd k = 18) (hd : decode cc pc = .ok (.getfield index, 3)) (kk : X p l e d s m args below meth c nL D ad cs A L V N M (pc + 3) lv (.long (M k 9).toInt64 :: st)) : X p l e d s m args below meth c nL D ad cs A L V N M pc lv (.ref (ad k) :: st) := by
  intro H locs ls hP hS hv
  obtain ⟨q, hq, hg⟩ := wsL_get (ad := ad) (cs := cs) (M := M) ha
  rw [cel_M hk] at hg
  exact va_get (C := R_M) (T := T_M) (N := 31) C.1 C.2.1 C.2.2.2.2.1 u_M C.2.2.2.1 C.2.2.2.2.2.2.2.1 hP q hg rfl 9 (by decide) (C.2.2.2.2.1 _ hw) (fun _ h9 => h9) rfl hd (kk H locs ls hP hS hv)
theorem xp_M_lower (C : Cx p s m args meth c own cc nL ret D ad cs A L) {k index : Nat} {x : Int32} (hw : Cond.fieldLink own index R_M "lower" "J" ∈ wl) (ha : k ∈ L) (hk : kd k = 18) (hd : decode cc pc = .ok (.putfield index, 3)) (kk : X p l e d s m args below meth c nL D ad cs A L V N (up M k 9 x) (pc + 3) lv st) : X p l e d s m args below meth c nL D ad cs A L V N M pc lv (.long x.toInt64 :: .ref (ad k) :: st) := by
  intro H locs ls hP hS hv
  obtain ⟨q, hq, hg⟩ := wsL_get (ad := ad) (cs := cs) (M := M) ha
  rw [cel_M hk] at hg
  refine va_put (C := R_M) (T := T_M) (N := 31) (ty := .long) C.1 C.2.1 C.2.2.2.2.1 u_M t_M t_M_ok n_M C.2.2.2.1 C.2.2.2.2.2.2.2.1 hP (C.2.2.2.2.2.2.2.2.2.2 M) hS q hg rfl 9 (by decide) (C.2.2.2.2.1 _ hw) (fun _ h9 => h9) rfl (by decide +kernel) rfl rfl (Nat.le_of_ble_eq_true rfl) hd (fun H1 locs1 hP1 hD1 hS1 => ?_)
  have e1 := wsL_set (ad := ad) (cs := cs) C.2.2.2.2.2.2.2.2.2.1 (M := M) hq (upd (M k) 9 x)
  rw [cel_M hk, ← up_eq] at e1
  exact kk H1 locs1 ls (by rw [← e1]; exact hP1) hS1 hv
theorem xg_M_finding (C : Cx p s m args meth c own cc nL ret D ad cs A L) {k index : Nat} (hw : Cond.fieldLink own index R_M "finding" "I" ∈ wl) (ha : k ∈ L) (hk : kd k = 18) (hd : decode cc pc = .ok (.getfield index, 3)) (kk : X p l e d s m args below meth c nL D ad cs A L V N M (pc + 3) lv (.int (M k 10) :: st)) : X p l e d s m args below meth c nL D ad cs A L V N M pc lv (.ref (ad k) :: st) := by
  intro H locs ls hP hS hv
  obtain ⟨q, hq, hg⟩ := wsL_get (ad := ad) (cs := cs) (M := M) ha
  rw [cel_M hk] at hg
  exact va_get (C := R_M) (T := T_M) (N := 31) C.1 C.2.1 C.2.2.2.2.1 u_M C.2.2.2.1 C.2.2.2.2.2.2.2.1 hP q hg rfl 10 (by decide) (C.2.2.2.2.1 _ hw) (fun _ h9 => h9) rfl hd (kk H locs ls hP hS hv)
theorem xp_M_finding (C : Cx p s m args meth c own cc nL ret D ad cs A L) {k index : Nat} {x : Int32} (hw : Cond.fieldLink own index R_M "finding" "I" ∈ wl) (ha : k ∈ L) (hk : kd k = 18) (hd : decode cc pc = .ok (.putfield index, 3)) (kk : X p l e d s m args below meth c nL D ad cs A L V N (up M k 10 x) (pc + 3) lv st) : X p l e d s m args below meth c nL D ad cs A L V N M pc lv (.int x :: .ref (ad k) :: st) := by
  intro H locs ls hP hS hv
  obtain ⟨q, hq, hg⟩ := wsL_get (ad := ad) (cs := cs) (M := M) ha
  rw [cel_M hk] at hg
  refine va_put (C := R_M) (T := T_M) (N := 31) (ty := .int) C.1 C.2.1 C.2.2.2.2.1 u_M t_M t_M_ok n_M C.2.2.2.1 C.2.2.2.2.2.2.2.1 hP (C.2.2.2.2.2.2.2.2.2.2 M) hS q hg rfl 10 (by decide) (C.2.2.2.2.1 _ hw) (fun _ h9 => h9) rfl (by decide +kernel) rfl rfl (Nat.le_of_ble_eq_true rfl) hd (fun H1 locs1 hP1 hD1 hS1 => ?_)
  have e1 := wsL_set (ad := ad) (cs := cs) C.2.2.2.2.2.2.2.2.2.1 (M := M) hq (upd (M k) 10 x)
  rw [cel_M hk, ← up_eq] at e1
  exact kk H1 locs1 ls (by rw [← e1]; exact hP1) hS1 hv
theorem xg_M_findings (C : Cx p s m args meth c own cc nL ret D ad cs A L) {k index : Nat} (hw : Cond.fieldLink own index R_M "findings" "[I" ∈ wl) (ha : k ∈ L) (hk : kd k = 18) (hd : decode cc pc = .ok (.getfield index, 3)) (kk : X p l e d s m args below meth c nL D ad cs A L V N M (pc + 3) lv (.ref (ad (k + 7)) :: st)) : X p l e d s m args below meth c nL D ad cs A L V N M pc lv (.ref (ad k) :: st) := by
  intro H locs ls hP hS hv
  obtain ⟨q, hq, hg⟩ := wsL_get (ad := ad) (cs := cs) (M := M) ha
  rw [cel_M hk] at hg
  exact va_get (C := R_M) (T := T_M) (N := 31) C.1 C.2.1 C.2.2.2.2.1 u_M C.2.2.2.1 C.2.2.2.2.2.2.2.1 hP q hg rfl 11 (by decide) (C.2.2.2.2.1 _ hw) (fun _ h9 => h9) rfl hd (kk H locs ls hP hS hv)
theorem xg_M_from (C : Cx p s m args meth c own cc nL ret D ad cs A L) {k index : Nat} (hw : Cond.fieldLink own index R_M "from" "I" ∈ wl) (ha : k ∈ L) (hk : kd k = 18) (hd : decode cc pc = .ok (.getfield index, 3)) (kk : X p l e d s m args below meth c nL D ad cs A L V N M (pc + 3) lv (.int (M k 12) :: st)) : X p l e d s m args below meth c nL D ad cs A L V N M pc lv (.ref (ad k) :: st) := by
  intro H locs ls hP hS hv
  obtain ⟨q, hq, hg⟩ := wsL_get (ad := ad) (cs := cs) (M := M) ha
  rw [cel_M hk] at hg
  exact va_get (C := R_M) (T := T_M) (N := 31) C.1 C.2.1 C.2.2.2.2.1 u_M C.2.2.2.1 C.2.2.2.2.2.2.2.1 hP q hg rfl 12 (by decide) (C.2.2.2.2.1 _ hw) (fun _ h9 => h9) rfl hd (kk H locs ls hP hS hv)
theorem xp_M_from (C : Cx p s m args meth c own cc nL ret D ad cs A L) {k index : Nat} {x : Int32} (hw : Cond.fieldLink own index R_M "from" "I" ∈ wl) (ha : k ∈ L) (hk : kd k = 18) (hd : decode cc pc = .ok (.putfield index, 3)) (kk : X p l e d s m args below meth c nL D ad cs A L V N (up M k 12 x) (pc + 3) lv st) : X p l e d s m args below meth c nL D ad cs A L V N M pc lv (.int x :: .ref (ad k) :: st) := by
  intro H locs ls hP hS hv
  obtain ⟨q, hq, hg⟩ := wsL_get (ad := ad) (cs := cs) (M := M) ha
  rw [cel_M hk] at hg
  refine va_put (C := R_M) (T := T_M) (N := 31) (ty := .int) C.1 C.2.1 C.2.2.2.2.1 u_M t_M t_M_ok n_M C.2.2.2.1 C.2.2.2.2.2.2.2.1 hP (C.2.2.2.2.2.2.2.2.2.2 M) hS q hg rfl 12 (by decide) (C.2.2.2.2.1 _ hw) (fun _ h9 => h9) rfl (by decide +kernel) rfl rfl (Nat.le_of_ble_eq_true rfl) hd (fun H1 locs1 hP1 hD1 hS1 => ?_)
  have e1 := wsL_set (ad := ad) (cs := cs) C.2.2.2.2.2.2.2.2.2.1 (M := M) hq (upd (M k) 12 x)
  rw [cel_M hk, ← up_eq] at e1
  exact kk H1 locs1 ls (by rw [← e1]; exact hP1) hS1 hv
theorem xg_M_place (C : Cx p s m args meth c own cc nL ret D ad cs A L) {k index : Nat} (hw : Cond.fieldLink own index R_M "place" "I" ∈ wl) (ha : k ∈ L) (hk : kd k = 18) (hd : decode cc pc = .ok (.getfield index, 3)) (kk : X p l e d s m args below meth c nL D ad cs A L V N M (pc + 3) lv (.int (M k 13) :: st)) : X p l e d s m args below meth c nL D ad cs A L V N M pc lv (.ref (ad k) :: st) := by
  intro H locs ls hP hS hv
  obtain ⟨q, hq, hg⟩ := wsL_get (ad := ad) (cs := cs) (M := M) ha
  rw [cel_M hk] at hg
  exact va_get (C := R_M) (T := T_M) (N := 31) C.1 C.2.1 C.2.2.2.2.1 u_M C.2.2.2.1 C.2.2.2.2.2.2.2.1 hP q hg rfl 13 (by decide) (C.2.2.2.2.1 _ hw) (fun _ h9 => h9) rfl hd (kk H locs ls hP hS hv)
theorem xp_M_place (C : Cx p s m args meth c own cc nL ret D ad cs A L) {k index : Nat} {x : Int32} (hw : Cond.fieldLink own index R_M "place" "I" ∈ wl) (ha : k ∈ L) (hk : kd k = 18) (hd : decode cc pc = .ok (.putfield index, 3)) (kk : X p l e d s m args below meth c nL D ad cs A L V N (up M k 13 x) (pc + 3) lv st) : X p l e d s m args below meth c nL D ad cs A L V N M pc lv (.int x :: .ref (ad k) :: st) := by
  intro H locs ls hP hS hv
  obtain ⟨q, hq, hg⟩ := wsL_get (ad := ad) (cs := cs) (M := M) ha
  rw [cel_M hk] at hg
  refine va_put (C := R_M) (T := T_M) (N := 31) (ty := .int) C.1 C.2.1 C.2.2.2.2.1 u_M t_M t_M_ok n_M C.2.2.2.1 C.2.2.2.2.2.2.2.1 hP (C.2.2.2.2.2.2.2.2.2.2 M) hS q hg rfl 13 (by decide) (C.2.2.2.2.1 _ hw) (fun _ h9 => h9) rfl (by decide +kernel) rfl rfl (Nat.le_of_ble_eq_true rfl) hd (fun H1 locs1 hP1 hD1 hS1 => ?_)
  have e1 := wsL_set (ad := ad) (cs := cs) C.2.2.2.2.2.2.2.2.2.1 (M := M) hq (upd (M k) 13 x)
  rw [cel_M hk, ← up_eq] at e1
  exact kk H1 locs1 ls (by rw [← e1]; exact hP1) hS1 hv
theorem xg_M_end (C : Cx p s m args meth c own cc nL ret D ad cs A L) {k index : Nat} (hw : Cond.fieldLink own index R_M "end" "I" ∈ wl) (ha : k ∈ L) (hk : kd k = 18) (hd : decode cc pc = .ok (.getfield index, 3)) (kk : X p l e d s m args below meth c nL D ad cs A L V N M (pc + 3) lv (.int (M k 14) :: st)) : X p l e d s m args below meth c nL D ad cs A L V N M pc lv (.ref (ad k) :: st) := by
  intro H locs ls hP hS hv
  obtain ⟨q, hq, hg⟩ := wsL_get (ad := ad) (cs := cs) (M := M) ha
  rw [cel_M hk] at hg
  exact va_get (C := R_M) (T := T_M) (N := 31) C.1 C.2.1 C.2.2.2.2.1 u_M C.2.2.2.1 C.2.2.2.2.2.2.2.1 hP q hg rfl 14 (by decide) (C.2.2.2.2.1 _ hw) (fun _ h9 => h9) rfl hd (kk H locs ls hP hS hv)
theorem xp_M_end (C : Cx p s m args meth c own cc nL ret D ad cs A L) {k index : Nat} {x : Int32} (hw : Cond.fieldLink own index R_M "end" "I" ∈ wl) (ha : k ∈ L) (hk : kd k = 18) (hd : decode cc pc = .ok (.putfield index, 3)) (kk : X p l e d s m args below meth c nL D ad cs A L V N (up M k 14 x) (pc + 3) lv st) : X p l e d s m args below meth c nL D ad cs A L V N M pc lv (.int x :: .ref (ad k) :: st) := by
  intro H locs ls hP hS hv
  obtain ⟨q, hq, hg⟩ := wsL_get (ad := ad) (cs := cs) (M := M) ha
  rw [cel_M hk] at hg
  refine va_put (C := R_M) (T := T_M) (N := 31) (ty := .int) C.1 C.2.1 C.2.2.2.2.1 u_M t_M t_M_ok n_M C.2.2.2.1 C.2.2.2.2.2.2.2.1 hP (C.2.2.2.2.2.2.2.2.2.2 M) hS q hg rfl 14 (by decide) (C.2.2.2.2.1 _ hw) (fun _ h9 => h9) rfl (by decide +kernel) rfl rfl (Nat.le_of_ble_eq_true rfl) hd (fun H1 locs1 hP1 hD1 hS1 => ?_)
  have e1 := wsL_set (ad := ad) (cs := cs) C.2.2.2.2.2.2.2.2.2.1 (M := M) hq (upd (M k) 14 x)
  rw [cel_M hk, ← up_eq] at e1
  exact kk H1 locs1 ls (by rw [← e1]; exact hP1) hS1 hv
theorem xg_M_readKinds (C : Cx p s m args meth c own cc nL ret D ad cs A L) {k index : Nat} (hw : Cond.fieldLink own index R_M "readKinds" "[I" ∈ wl) (ha : k ∈ L) (hk : kd k = 18) (hd : decode cc pc = .ok (.getfield index, 3)) (kk : X p l e d s m args below meth c nL D ad cs A L V N M (pc + 3) lv (.ref (ad (k + 8)) :: st)) : X p l e d s m args below meth c nL D ad cs A L V N M pc lv (.ref (ad k) :: st) := by
  intro H locs ls hP hS hv
  obtain ⟨q, hq, hg⟩ := wsL_get (ad := ad) (cs := cs) (M := M) ha
  rw [cel_M hk] at hg
  exact va_get (C := R_M) (T := T_M) (N := 31) C.1 C.2.1 C.2.2.2.2.1 u_M C.2.2.2.1 C.2.2.2.2.2.2.2.1 hP q hg rfl 15 (by decide) (C.2.2.2.2.1 _ hw) (fun _ h9 => h9) rfl hd (kk H locs ls hP hS hv)
theorem xg_M_readPersons (C : Cx p s m args meth c own cc nL ret D ad cs A L) {k index : Nat} (hw : Cond.fieldLink own index R_M "readPersons" "I" ∈ wl) (ha : k ∈ L) (hk : kd k = 18) (hd : decode cc pc = .ok (.getfield index, 3)) (kk : X p l e d s m args below meth c nL D ad cs A L V N M (pc + 3) lv (.int (M k 16) :: st)) : X p l e d s m args below meth c nL D ad cs A L V N M pc lv (.ref (ad k) :: st) := by
  intro H locs ls hP hS hv
  obtain ⟨q, hq, hg⟩ := wsL_get (ad := ad) (cs := cs) (M := M) ha
  rw [cel_M hk] at hg
  exact va_get (C := R_M) (T := T_M) (N := 31) C.1 C.2.1 C.2.2.2.2.1 u_M C.2.2.2.1 C.2.2.2.2.2.2.2.1 hP q hg rfl 16 (by decide) (C.2.2.2.2.1 _ hw) (fun _ h9 => h9) rfl hd (kk H locs ls hP hS hv)
theorem xp_M_readPersons (C : Cx p s m args meth c own cc nL ret D ad cs A L) {k index : Nat} {x : Int32} (hw : Cond.fieldLink own index R_M "readPersons" "I" ∈ wl) (ha : k ∈ L) (hk : kd k = 18) (hd : decode cc pc = .ok (.putfield index, 3)) (kk : X p l e d s m args below meth c nL D ad cs A L V N (up M k 16 x) (pc + 3) lv st) : X p l e d s m args below meth c nL D ad cs A L V N M pc lv (.int x :: .ref (ad k) :: st) := by
  intro H locs ls hP hS hv
  obtain ⟨q, hq, hg⟩ := wsL_get (ad := ad) (cs := cs) (M := M) ha
  rw [cel_M hk] at hg
  refine va_put (C := R_M) (T := T_M) (N := 31) (ty := .int) C.1 C.2.1 C.2.2.2.2.1 u_M t_M t_M_ok n_M C.2.2.2.1 C.2.2.2.2.2.2.2.1 hP (C.2.2.2.2.2.2.2.2.2.2 M) hS q hg rfl 16 (by decide) (C.2.2.2.2.1 _ hw) (fun _ h9 => h9) rfl (by decide +kernel) rfl rfl (Nat.le_of_ble_eq_true rfl) hd (fun H1 locs1 hP1 hD1 hS1 => ?_)
  have e1 := wsL_set (ad := ad) (cs := cs) C.2.2.2.2.2.2.2.2.2.1 (M := M) hq (upd (M k) 16 x)
  rw [cel_M hk, ← up_eq] at e1
  exact kk H1 locs1 ls (by rw [← e1]; exact hP1) hS1 hv
theorem xg_M_readDrafts (C : Cx p s m args meth c own cc nL ret D ad cs A L) {k index : Nat} (hw : Cond.fieldLink own index R_M "readDrafts" "[I" ∈ wl) (ha : k ∈ L) (hk : kd k = 18) (hd : decode cc pc = .ok (.getfield index, 3)) (kk : X p l e d s m args below meth c nL D ad cs A L V N M (pc + 3) lv (.ref (ad (k + 9)) :: st)) : X p l e d s m args below meth c nL D ad cs A L V N M pc lv (.ref (ad k) :: st) := by
  intro H locs ls hP hS hv
  obtain ⟨q, hq, hg⟩ := wsL_get (ad := ad) (cs := cs) (M := M) ha
  rw [cel_M hk] at hg
  exact va_get (C := R_M) (T := T_M) (N := 31) C.1 C.2.1 C.2.2.2.2.1 u_M C.2.2.2.1 C.2.2.2.2.2.2.2.1 hP q hg rfl 17 (by decide) (C.2.2.2.2.1 _ hw) (fun _ h9 => h9) rfl hd (kk H locs ls hP hS hv)
theorem xg_M_readMany (C : Cx p s m args meth c own cc nL ret D ad cs A L) {k index : Nat} (hw : Cond.fieldLink own index R_M "readMany" "I" ∈ wl) (ha : k ∈ L) (hk : kd k = 18) (hd : decode cc pc = .ok (.getfield index, 3)) (kk : X p l e d s m args below meth c nL D ad cs A L V N M (pc + 3) lv (.int (M k 18) :: st)) : X p l e d s m args below meth c nL D ad cs A L V N M pc lv (.ref (ad k) :: st) := by
  intro H locs ls hP hS hv
  obtain ⟨q, hq, hg⟩ := wsL_get (ad := ad) (cs := cs) (M := M) ha
  rw [cel_M hk] at hg
  exact va_get (C := R_M) (T := T_M) (N := 31) C.1 C.2.1 C.2.2.2.2.1 u_M C.2.2.2.1 C.2.2.2.2.2.2.2.1 hP q hg rfl 18 (by decide) (C.2.2.2.2.1 _ hw) (fun _ h9 => h9) rfl hd (kk H locs ls hP hS hv)
theorem xp_M_readMany (C : Cx p s m args meth c own cc nL ret D ad cs A L) {k index : Nat} {x : Int32} (hw : Cond.fieldLink own index R_M "readMany" "I" ∈ wl) (ha : k ∈ L) (hk : kd k = 18) (hd : decode cc pc = .ok (.putfield index, 3)) (kk : X p l e d s m args below meth c nL D ad cs A L V N (up M k 18 x) (pc + 3) lv st) : X p l e d s m args below meth c nL D ad cs A L V N M pc lv (.int x :: .ref (ad k) :: st) := by
  intro H locs ls hP hS hv
  obtain ⟨q, hq, hg⟩ := wsL_get (ad := ad) (cs := cs) (M := M) ha
  rw [cel_M hk] at hg
  refine va_put (C := R_M) (T := T_M) (N := 31) (ty := .int) C.1 C.2.1 C.2.2.2.2.1 u_M t_M t_M_ok n_M C.2.2.2.1 C.2.2.2.2.2.2.2.1 hP (C.2.2.2.2.2.2.2.2.2.2 M) hS q hg rfl 18 (by decide) (C.2.2.2.2.1 _ hw) (fun _ h9 => h9) rfl (by decide +kernel) rfl rfl (Nat.le_of_ble_eq_true rfl) hd (fun H1 locs1 hP1 hD1 hS1 => ?_)
  have e1 := wsL_set (ad := ad) (cs := cs) C.2.2.2.2.2.2.2.2.2.1 (M := M) hq (upd (M k) 18 x)
  rw [cel_M hk, ← up_eq] at e1
  exact kk H1 locs1 ls (by rw [← e1]; exact hP1) hS1 hv
theorem xg_M_tried (C : Cx p s m args meth c own cc nL ret D ad cs A L) {k index : Nat} (hw : Cond.fieldLink own index R_M "tried" "[I" ∈ wl) (ha : k ∈ L) (hk : kd k = 18) (hd : decode cc pc = .ok (.getfield index, 3)) (kk : X p l e d s m args below meth c nL D ad cs A L V N M (pc + 3) lv (.ref (ad (k + 10)) :: st)) : X p l e d s m args below meth c nL D ad cs A L V N M pc lv (.ref (ad k) :: st) := by
  intro H locs ls hP hS hv
  obtain ⟨q, hq, hg⟩ := wsL_get (ad := ad) (cs := cs) (M := M) ha
  rw [cel_M hk] at hg
  exact va_get (C := R_M) (T := T_M) (N := 31) C.1 C.2.1 C.2.2.2.2.1 u_M C.2.2.2.1 C.2.2.2.2.2.2.2.1 hP q hg rfl 19 (by decide) (C.2.2.2.2.1 _ hw) (fun _ h9 => h9) rfl hd (kk H locs ls hP hS hv)
theorem xg_M_chain (C : Cx p s m args meth c own cc nL ret D ad cs A L) {k index : Nat} (hw : Cond.fieldLink own index R_M "chain" "[I" ∈ wl) (ha : k ∈ L) (hk : kd k = 18) (hd : decode cc pc = .ok (.getfield index, 3)) (kk : X p l e d s m args below meth c nL D ad cs A L V N M (pc + 3) lv (.ref (ad (k + 11)) :: st)) : X p l e d s m args below meth c nL D ad cs A L V N M pc lv (.ref (ad k) :: st) := by
  intro H locs ls hP hS hv
  obtain ⟨q, hq, hg⟩ := wsL_get (ad := ad) (cs := cs) (M := M) ha
  rw [cel_M hk] at hg
  exact va_get (C := R_M) (T := T_M) (N := 31) C.1 C.2.1 C.2.2.2.2.1 u_M C.2.2.2.1 C.2.2.2.2.2.2.2.1 hP q hg rfl 20 (by decide) (C.2.2.2.2.1 _ hw) (fun _ h9 => h9) rfl hd (kk H locs ls hP hS hv)
theorem xg_M_chainMany (C : Cx p s m args meth c own cc nL ret D ad cs A L) {k index : Nat} (hw : Cond.fieldLink own index R_M "chainMany" "I" ∈ wl) (ha : k ∈ L) (hk : kd k = 18) (hd : decode cc pc = .ok (.getfield index, 3)) (kk : X p l e d s m args below meth c nL D ad cs A L V N M (pc + 3) lv (.int (M k 21) :: st)) : X p l e d s m args below meth c nL D ad cs A L V N M pc lv (.ref (ad k) :: st) := by
  intro H locs ls hP hS hv
  obtain ⟨q, hq, hg⟩ := wsL_get (ad := ad) (cs := cs) (M := M) ha
  rw [cel_M hk] at hg
  exact va_get (C := R_M) (T := T_M) (N := 31) C.1 C.2.1 C.2.2.2.2.1 u_M C.2.2.2.1 C.2.2.2.2.2.2.2.1 hP q hg rfl 21 (by decide) (C.2.2.2.2.1 _ hw) (fun _ h9 => h9) rfl hd (kk H locs ls hP hS hv)
theorem xp_M_chainMany (C : Cx p s m args meth c own cc nL ret D ad cs A L) {k index : Nat} {x : Int32} (hw : Cond.fieldLink own index R_M "chainMany" "I" ∈ wl) (ha : k ∈ L) (hk : kd k = 18) (hd : decode cc pc = .ok (.putfield index, 3)) (kk : X p l e d s m args below meth c nL D ad cs A L V N (up M k 21 x) (pc + 3) lv st) : X p l e d s m args below meth c nL D ad cs A L V N M pc lv (.int x :: .ref (ad k) :: st) := by
  intro H locs ls hP hS hv
  obtain ⟨q, hq, hg⟩ := wsL_get (ad := ad) (cs := cs) (M := M) ha
  rw [cel_M hk] at hg
  refine va_put (C := R_M) (T := T_M) (N := 31) (ty := .int) C.1 C.2.1 C.2.2.2.2.1 u_M t_M t_M_ok n_M C.2.2.2.1 C.2.2.2.2.2.2.2.1 hP (C.2.2.2.2.2.2.2.2.2.2 M) hS q hg rfl 21 (by decide) (C.2.2.2.2.1 _ hw) (fun _ h9 => h9) rfl (by decide +kernel) rfl rfl (Nat.le_of_ble_eq_true rfl) hd (fun H1 locs1 hP1 hD1 hS1 => ?_)
  have e1 := wsL_set (ad := ad) (cs := cs) C.2.2.2.2.2.2.2.2.2.1 (M := M) hq (upd (M k) 21 x)
  rw [cel_M hk, ← up_eq] at e1
  exact kk H1 locs1 ls (by rw [← e1]; exact hP1) hS1 hv
theorem xg_M_best (C : Cx p s m args meth c own cc nL ret D ad cs A L) {k index : Nat} (hw : Cond.fieldLink own index R_M "best" "[I" ∈ wl) (ha : k ∈ L) (hk : kd k = 18) (hd : decode cc pc = .ok (.getfield index, 3)) (kk : X p l e d s m args below meth c nL D ad cs A L V N M (pc + 3) lv (.ref (ad (k + 12)) :: st)) : X p l e d s m args below meth c nL D ad cs A L V N M pc lv (.ref (ad k) :: st) := by
  intro H locs ls hP hS hv
  obtain ⟨q, hq, hg⟩ := wsL_get (ad := ad) (cs := cs) (M := M) ha
  rw [cel_M hk] at hg
  exact va_get (C := R_M) (T := T_M) (N := 31) C.1 C.2.1 C.2.2.2.2.1 u_M C.2.2.2.1 C.2.2.2.2.2.2.2.1 hP q hg rfl 22 (by decide) (C.2.2.2.2.1 _ hw) (fun _ h9 => h9) rfl hd (kk H locs ls hP hS hv)
theorem xg_M_bestMany (C : Cx p s m args meth c own cc nL ret D ad cs A L) {k index : Nat} (hw : Cond.fieldLink own index R_M "bestMany" "I" ∈ wl) (ha : k ∈ L) (hk : kd k = 18) (hd : decode cc pc = .ok (.getfield index, 3)) (kk : X p l e d s m args below meth c nL D ad cs A L V N M (pc + 3) lv (.int (M k 23) :: st)) : X p l e d s m args below meth c nL D ad cs A L V N M pc lv (.ref (ad k) :: st) := by
  intro H locs ls hP hS hv
  obtain ⟨q, hq, hg⟩ := wsL_get (ad := ad) (cs := cs) (M := M) ha
  rw [cel_M hk] at hg
  exact va_get (C := R_M) (T := T_M) (N := 31) C.1 C.2.1 C.2.2.2.2.1 u_M C.2.2.2.1 C.2.2.2.2.2.2.2.1 hP q hg rfl 23 (by decide) (C.2.2.2.2.1 _ hw) (fun _ h9 => h9) rfl hd (kk H locs ls hP hS hv)
theorem xp_M_bestMany (C : Cx p s m args meth c own cc nL ret D ad cs A L) {k index : Nat} {x : Int32} (hw : Cond.fieldLink own index R_M "bestMany" "I" ∈ wl) (ha : k ∈ L) (hk : kd k = 18) (hd : decode cc pc = .ok (.putfield index, 3)) (kk : X p l e d s m args below meth c nL D ad cs A L V N (up M k 23 x) (pc + 3) lv st) : X p l e d s m args below meth c nL D ad cs A L V N M pc lv (.int x :: .ref (ad k) :: st) := by
  intro H locs ls hP hS hv
  obtain ⟨q, hq, hg⟩ := wsL_get (ad := ad) (cs := cs) (M := M) ha
  rw [cel_M hk] at hg
  refine va_put (C := R_M) (T := T_M) (N := 31) (ty := .int) C.1 C.2.1 C.2.2.2.2.1 u_M t_M t_M_ok n_M C.2.2.2.1 C.2.2.2.2.2.2.2.1 hP (C.2.2.2.2.2.2.2.2.2.2 M) hS q hg rfl 23 (by decide) (C.2.2.2.2.1 _ hw) (fun _ h9 => h9) rfl (by decide +kernel) rfl rfl (Nat.le_of_ble_eq_true rfl) hd (fun H1 locs1 hP1 hD1 hS1 => ?_)
  have e1 := wsL_set (ad := ad) (cs := cs) C.2.2.2.2.2.2.2.2.2.1 (M := M) hq (upd (M k) 23 x)
  rw [cel_M hk, ← up_eq] at e1
  exact kk H1 locs1 ls (by rw [← e1]; exact hP1) hS1 hv
theorem xg_M_bestBy (C : Cx p s m args meth c own cc nL ret D ad cs A L) {k index : Nat} (hw : Cond.fieldLink own index R_M "bestBy" "I" ∈ wl) (ha : k ∈ L) (hk : kd k = 18) (hd : decode cc pc = .ok (.getfield index, 3)) (kk : X p l e d s m args below meth c nL D ad cs A L V N M (pc + 3) lv (.int (M k 24) :: st)) : X p l e d s m args below meth c nL D ad cs A L V N M pc lv (.ref (ad k) :: st) := by
  intro H locs ls hP hS hv
  obtain ⟨q, hq, hg⟩ := wsL_get (ad := ad) (cs := cs) (M := M) ha
  rw [cel_M hk] at hg
  exact va_get (C := R_M) (T := T_M) (N := 31) C.1 C.2.1 C.2.2.2.2.1 u_M C.2.2.2.1 C.2.2.2.2.2.2.2.1 hP q hg rfl 24 (by decide) (C.2.2.2.2.1 _ hw) (fun _ h9 => h9) rfl hd (kk H locs ls hP hS hv)
theorem xp_M_bestBy (C : Cx p s m args meth c own cc nL ret D ad cs A L) {k index : Nat} {x : Int32} (hw : Cond.fieldLink own index R_M "bestBy" "I" ∈ wl) (ha : k ∈ L) (hk : kd k = 18) (hd : decode cc pc = .ok (.putfield index, 3)) (kk : X p l e d s m args below meth c nL D ad cs A L V N (up M k 24 x) (pc + 3) lv st) : X p l e d s m args below meth c nL D ad cs A L V N M pc lv (.int x :: .ref (ad k) :: st) := by
  intro H locs ls hP hS hv
  obtain ⟨q, hq, hg⟩ := wsL_get (ad := ad) (cs := cs) (M := M) ha
  rw [cel_M hk] at hg
  refine va_put (C := R_M) (T := T_M) (N := 31) (ty := .int) C.1 C.2.1 C.2.2.2.2.1 u_M t_M t_M_ok n_M C.2.2.2.1 C.2.2.2.2.2.2.2.1 hP (C.2.2.2.2.2.2.2.2.2.2 M) hS q hg rfl 24 (by decide) (C.2.2.2.2.1 _ hw) (fun _ h9 => h9) rfl (by decide +kernel) rfl rfl (Nat.le_of_ble_eq_true rfl) hd (fun H1 locs1 hP1 hD1 hS1 => ?_)
  have e1 := wsL_set (ad := ad) (cs := cs) C.2.2.2.2.2.2.2.2.2.1 (M := M) hq (upd (M k) 24 x)
  rw [cel_M hk, ← up_eq] at e1
  exact kk H1 locs1 ls (by rw [← e1]; exact hP1) hS1 hv
theorem xg_M_met (C : Cx p s m args meth c own cc nL ret D ad cs A L) {k index : Nat} (hw : Cond.fieldLink own index R_M "met" "[I" ∈ wl) (ha : k ∈ L) (hk : kd k = 18) (hd : decode cc pc = .ok (.getfield index, 3)) (kk : X p l e d s m args below meth c nL D ad cs A L V N M (pc + 3) lv (.ref (ad (k + 13)) :: st)) : X p l e d s m args below meth c nL D ad cs A L V N M pc lv (.ref (ad k) :: st) := by
  intro H locs ls hP hS hv
  obtain ⟨q, hq, hg⟩ := wsL_get (ad := ad) (cs := cs) (M := M) ha
  rw [cel_M hk] at hg
  exact va_get (C := R_M) (T := T_M) (N := 31) C.1 C.2.1 C.2.2.2.2.1 u_M C.2.2.2.1 C.2.2.2.2.2.2.2.1 hP q hg rfl 25 (by decide) (C.2.2.2.2.1 _ hw) (fun _ h9 => h9) rfl hd (kk H locs ls hP hS hv)
theorem xg_M_metMany (C : Cx p s m args meth c own cc nL ret D ad cs A L) {k index : Nat} (hw : Cond.fieldLink own index R_M "metMany" "I" ∈ wl) (ha : k ∈ L) (hk : kd k = 18) (hd : decode cc pc = .ok (.getfield index, 3)) (kk : X p l e d s m args below meth c nL D ad cs A L V N M (pc + 3) lv (.int (M k 26) :: st)) : X p l e d s m args below meth c nL D ad cs A L V N M pc lv (.ref (ad k) :: st) := by
  intro H locs ls hP hS hv
  obtain ⟨q, hq, hg⟩ := wsL_get (ad := ad) (cs := cs) (M := M) ha
  rw [cel_M hk] at hg
  exact va_get (C := R_M) (T := T_M) (N := 31) C.1 C.2.1 C.2.2.2.2.1 u_M C.2.2.2.1 C.2.2.2.2.2.2.2.1 hP q hg rfl 26 (by decide) (C.2.2.2.2.1 _ hw) (fun _ h9 => h9) rfl hd (kk H locs ls hP hS hv)
theorem xp_M_metMany (C : Cx p s m args meth c own cc nL ret D ad cs A L) {k index : Nat} {x : Int32} (hw : Cond.fieldLink own index R_M "metMany" "I" ∈ wl) (ha : k ∈ L) (hk : kd k = 18) (hd : decode cc pc = .ok (.putfield index, 3)) (kk : X p l e d s m args below meth c nL D ad cs A L V N (up M k 26 x) (pc + 3) lv st) : X p l e d s m args below meth c nL D ad cs A L V N M pc lv (.int x :: .ref (ad k) :: st) := by
  intro H locs ls hP hS hv
  obtain ⟨q, hq, hg⟩ := wsL_get (ad := ad) (cs := cs) (M := M) ha
  rw [cel_M hk] at hg
  refine va_put (C := R_M) (T := T_M) (N := 31) (ty := .int) C.1 C.2.1 C.2.2.2.2.1 u_M t_M t_M_ok n_M C.2.2.2.1 C.2.2.2.2.2.2.2.1 hP (C.2.2.2.2.2.2.2.2.2.2 M) hS q hg rfl 26 (by decide) (C.2.2.2.2.1 _ hw) (fun _ h9 => h9) rfl (by decide +kernel) rfl rfl (Nat.le_of_ble_eq_true rfl) hd (fun H1 locs1 hP1 hD1 hS1 => ?_)
  have e1 := wsL_set (ad := ad) (cs := cs) C.2.2.2.2.2.2.2.2.2.1 (M := M) hq (upd (M k) 26 x)
  rw [cel_M hk, ← up_eq] at e1
  exact kk H1 locs1 ls (by rw [← e1]; exact hP1) hS1 hv
theorem xg_M_round (C : Cx p s m args meth c own cc nL ret D ad cs A L) {k index : Nat} (hw : Cond.fieldLink own index R_M "round" "[I" ∈ wl) (ha : k ∈ L) (hk : kd k = 18) (hd : decode cc pc = .ok (.getfield index, 3)) (kk : X p l e d s m args below meth c nL D ad cs A L V N M (pc + 3) lv (.ref (ad (k + 14)) :: st)) : X p l e d s m args below meth c nL D ad cs A L V N M pc lv (.ref (ad k) :: st) := by
  intro H locs ls hP hS hv
  obtain ⟨q, hq, hg⟩ := wsL_get (ad := ad) (cs := cs) (M := M) ha
  rw [cel_M hk] at hg
  exact va_get (C := R_M) (T := T_M) (N := 31) C.1 C.2.1 C.2.2.2.2.1 u_M C.2.2.2.1 C.2.2.2.2.2.2.2.1 hP q hg rfl 27 (by decide) (C.2.2.2.2.1 _ hw) (fun _ h9 => h9) rfl hd (kk H locs ls hP hS hv)
theorem xg_M_blushesMany (C : Cx p s m args meth c own cc nL ret D ad cs A L) {k index : Nat} (hw : Cond.fieldLink own index R_M "blushesMany" "I" ∈ wl) (ha : k ∈ L) (hk : kd k = 18) (hd : decode cc pc = .ok (.getfield index, 3)) (kk : X p l e d s m args below meth c nL D ad cs A L V N M (pc + 3) lv (.int (M k 28) :: st)) : X p l e d s m args below meth c nL D ad cs A L V N M pc lv (.ref (ad k) :: st) := by
  intro H locs ls hP hS hv
  obtain ⟨q, hq, hg⟩ := wsL_get (ad := ad) (cs := cs) (M := M) ha
  rw [cel_M hk] at hg
  exact va_get (C := R_M) (T := T_M) (N := 31) C.1 C.2.1 C.2.2.2.2.1 u_M C.2.2.2.1 C.2.2.2.2.2.2.2.1 hP q hg rfl 28 (by decide) (C.2.2.2.2.1 _ hw) (fun _ h9 => h9) rfl hd (kk H locs ls hP hS hv)
theorem xp_M_blushesMany (C : Cx p s m args meth c own cc nL ret D ad cs A L) {k index : Nat} {x : Int32} (hw : Cond.fieldLink own index R_M "blushesMany" "I" ∈ wl) (ha : k ∈ L) (hk : kd k = 18) (hd : decode cc pc = .ok (.putfield index, 3)) (kk : X p l e d s m args below meth c nL D ad cs A L V N (up M k 28 x) (pc + 3) lv st) : X p l e d s m args below meth c nL D ad cs A L V N M pc lv (.int x :: .ref (ad k) :: st) := by
  intro H locs ls hP hS hv
  obtain ⟨q, hq, hg⟩ := wsL_get (ad := ad) (cs := cs) (M := M) ha
  rw [cel_M hk] at hg
  refine va_put (C := R_M) (T := T_M) (N := 31) (ty := .int) C.1 C.2.1 C.2.2.2.2.1 u_M t_M t_M_ok n_M C.2.2.2.1 C.2.2.2.2.2.2.2.1 hP (C.2.2.2.2.2.2.2.2.2.2 M) hS q hg rfl 28 (by decide) (C.2.2.2.2.1 _ hw) (fun _ h9 => h9) rfl (by decide +kernel) rfl rfl (Nat.le_of_ble_eq_true rfl) hd (fun H1 locs1 hP1 hD1 hS1 => ?_)
  have e1 := wsL_set (ad := ad) (cs := cs) C.2.2.2.2.2.2.2.2.2.1 (M := M) hq (upd (M k) 28 x)
  rw [cel_M hk, ← up_eq] at e1
  exact kk H1 locs1 ls (by rw [← e1]; exact hP1) hS1 hv
theorem xg_M_blushesFirst (C : Cx p s m args meth c own cc nL ret D ad cs A L) {k index : Nat} (hw : Cond.fieldLink own index R_M "blushesFirst" "I" ∈ wl) (ha : k ∈ L) (hk : kd k = 18) (hd : decode cc pc = .ok (.getfield index, 3)) (kk : X p l e d s m args below meth c nL D ad cs A L V N M (pc + 3) lv (.int (M k 29) :: st)) : X p l e d s m args below meth c nL D ad cs A L V N M pc lv (.ref (ad k) :: st) := by
  intro H locs ls hP hS hv
  obtain ⟨q, hq, hg⟩ := wsL_get (ad := ad) (cs := cs) (M := M) ha
  rw [cel_M hk] at hg
  exact va_get (C := R_M) (T := T_M) (N := 31) C.1 C.2.1 C.2.2.2.2.1 u_M C.2.2.2.1 C.2.2.2.2.2.2.2.1 hP q hg rfl 29 (by decide) (C.2.2.2.2.1 _ hw) (fun _ h9 => h9) rfl hd (kk H locs ls hP hS hv)
theorem xp_M_blushesFirst (C : Cx p s m args meth c own cc nL ret D ad cs A L) {k index : Nat} {x : Int32} (hw : Cond.fieldLink own index R_M "blushesFirst" "I" ∈ wl) (ha : k ∈ L) (hk : kd k = 18) (hd : decode cc pc = .ok (.putfield index, 3)) (kk : X p l e d s m args below meth c nL D ad cs A L V N (up M k 29 x) (pc + 3) lv st) : X p l e d s m args below meth c nL D ad cs A L V N M pc lv (.int x :: .ref (ad k) :: st) := by
  intro H locs ls hP hS hv
  obtain ⟨q, hq, hg⟩ := wsL_get (ad := ad) (cs := cs) (M := M) ha
  rw [cel_M hk] at hg
  refine va_put (C := R_M) (T := T_M) (N := 31) (ty := .int) C.1 C.2.1 C.2.2.2.2.1 u_M t_M t_M_ok n_M C.2.2.2.1 C.2.2.2.2.2.2.2.1 hP (C.2.2.2.2.2.2.2.2.2.2 M) hS q hg rfl 29 (by decide) (C.2.2.2.2.1 _ hw) (fun _ h9 => h9) rfl (by decide +kernel) rfl rfl (Nat.le_of_ble_eq_true rfl) hd (fun H1 locs1 hP1 hD1 hS1 => ?_)
  have e1 := wsL_set (ad := ad) (cs := cs) C.2.2.2.2.2.2.2.2.2.1 (M := M) hq (upd (M k) 29 x)
  rw [cel_M hk, ← up_eq] at e1
  exact kk H1 locs1 ls (by rw [← e1]; exact hP1) hS1 hv
theorem xg_M_blushesSure (C : Cx p s m args meth c own cc nL ret D ad cs A L) {k index : Nat} (hw : Cond.fieldLink own index R_M "blushesSure" "I" ∈ wl) (ha : k ∈ L) (hk : kd k = 18) (hd : decode cc pc = .ok (.getfield index, 3)) (kk : X p l e d s m args below meth c nL D ad cs A L V N M (pc + 3) lv (.int (M k 30) :: st)) : X p l e d s m args below meth c nL D ad cs A L V N M pc lv (.ref (ad k) :: st) := by
  intro H locs ls hP hS hv
  obtain ⟨q, hq, hg⟩ := wsL_get (ad := ad) (cs := cs) (M := M) ha
  rw [cel_M hk] at hg
  exact va_get (C := R_M) (T := T_M) (N := 31) C.1 C.2.1 C.2.2.2.2.1 u_M C.2.2.2.1 C.2.2.2.2.2.2.2.1 hP q hg rfl 30 (by decide) (C.2.2.2.2.1 _ hw) (fun _ h9 => h9) rfl hd (kk H locs ls hP hS hv)
theorem xp_M_blushesSure (C : Cx p s m args meth c own cc nL ret D ad cs A L) {k index : Nat} {x : Int32} (hw : Cond.fieldLink own index R_M "blushesSure" "I" ∈ wl) (ha : k ∈ L) (hk : kd k = 18) (hd : decode cc pc = .ok (.putfield index, 3)) (kk : X p l e d s m args below meth c nL D ad cs A L V N (up M k 30 x) (pc + 3) lv st) : X p l e d s m args below meth c nL D ad cs A L V N M pc lv (.int x :: .ref (ad k) :: st) := by
  intro H locs ls hP hS hv
  obtain ⟨q, hq, hg⟩ := wsL_get (ad := ad) (cs := cs) (M := M) ha
  rw [cel_M hk] at hg
  refine va_put (C := R_M) (T := T_M) (N := 31) (ty := .int) C.1 C.2.1 C.2.2.2.2.1 u_M t_M t_M_ok n_M C.2.2.2.1 C.2.2.2.2.2.2.2.1 hP (C.2.2.2.2.2.2.2.2.2.2 M) hS q hg rfl 30 (by decide) (C.2.2.2.2.1 _ hw) (fun _ h9 => h9) rfl (by decide +kernel) rfl rfl (Nat.le_of_ble_eq_true rfl) hd (fun H1 locs1 hP1 hD1 hS1 => ?_)
  have e1 := wsL_set (ad := ad) (cs := cs) C.2.2.2.2.2.2.2.2.2.1 (M := M) hq (upd (M k) 30 x)
  rw [cel_M hk, ← up_eq] at e1
  exact kk H1 locs1 ls (by rw [← e1]; exact hP1) hS1 hv
end XL
