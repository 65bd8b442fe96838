/-! THE CLAIM OUT OF ONE WALK OF THE LAW'S BODY. Your part is whole_start (and what it stands on); all else here is the same for every law, but numbers. -/
def R_law : String := "KissClearingLaw"
def lw_P (b : Addr) (xs : List Int32) (args : Array Value) (s : State) : Prop := args = #[.ref b] ∧ s.IntsAt b xs ∧ xs.length ≤ 3072 ∧ (Jvm.Cond.and given_1 narrow_1).before args s = true
def lw_Q (_ : Array Value) (s : State) (o : Outcome) (t : State) : Prop := o = .returned (some (.int 1)) ∧ Framed s o t [] 600000 7302250
def lw_Z (below : List Frame) (a : Array Value) (s : State) : State → Prop := fun t => ∃ o, t.status = .running ∧ Ended t below o ∧ lw_Q a s o t
/-- the law's own end, with 1 on the stack, nothing written that was there before, its room as the claim has it -/
theorem lw_ret {p : Program} {l : Launch} {e : Env} {s : State} {m : MethodId} {below : List Frame} {meth : Method} {c : Code} {b : Nat} (hx : p.tables.exec = Jvm.exec) (hb : c.code = code) (hr : meth.sig.returnType = ret) (hlocks : meth.locks = false) {pc : Nat} {H : Heap} {ls : Array Slot} (hdg : decode code pc = .ok (.ireturn, 1)) : W p l e room_1 s m #[Value.ref b] below meth c H [] 600000 7302250 (lw_Z below #[Value.ref b] s) (F0 m pc ls [.int 1]) := by
  intro T hT X
  obtain ⟨fs, hret, hrun, hended, hW, hframe⟩ := X.leave (v := some (.int 1)) (hlocks := hlocks) (fun h => by rw [hr] at h; cases h)
  have hmeth' : T.vm.method? m = some meth := X.method'
  refine ⟨T.setFrames fs, ?_, .returned (some (.int 1)), hrun, hended, rfl, ⟨_, rfl⟩, hW, hframe⟩
  jvm_step X.here [X.here.top, hx, hb, hdg, hmeth', hr, ret, narrow_b1]
  (try refine ⟨rfl, ?_⟩); (try refine ⟨rfl, ?_⟩)
  first | (intro acts; rw [hret _ acts rfl rfl rfl]) | rw [hret _ _ rfl rfl rfl]
  exact Steps.refl _
/-- what holds at the law's entry: the machine, the code, the tables' words (any of lw_tbl by 'hts w (by decide +kernel)'), the script of L ints xs at the cell b, what the Statement gives of the start (any of its parts by flat_of_before) -/
def lw_At (p : Program) (s : State) (m : MethodId) (meth : Method) (c : Code) (b L : Nat) (xs : Nat → Int32) : Prop :=
  p.tables.exec = Jvm.exec ∧ c.code = code ∧ meth.sig.returnType = ret ∧ c.maxLocals = 4 ∧ s.vm.findClass R_law = some m.cls ∧ (∀ w ∈ lw_tbl, w.before #[Value.ref b] s = true) ∧ va_X b L xs s s.heap ∧ b < s.heap.size ∧ meth.locks = false ∧ (Jvm.Cond.and given_1 narrow_1).before #[Value.ref b] s = true
/-! the law's walk -/
def AX (ad : Nat → Nat) : Nat → Prop := fun q => ∃ k, k ∈ LX ∧ q = ad k
def AM (ad : Nat → Nat) : Nat → Prop := fun q => ∃ k, k ∈ LM ∧ q = ad k
def AL (s : State) : Nat → Prop := fun q => s.heap.size ≤ q
def Cy (p : Program) (s : State) (m : MethodId) (meth : Method) (c : Code) (b L : Nat) (xs : Nat → Int32) (D : va_G) (ad : Nat → Nat) (cs : Nat → ClassId) : Prop :=
  p.tables.exec = Jvm.exec ∧ c.code = code ∧ c.maxLocals = 4 ∧ s.vm.findClass R_law = some m.cls ∧ (∀ w ∈ wl, w.before #[Value.ref b] s = true) ∧ meth.sig.returnType = ret ∧ meth.locks = false ∧ va_X b L xs s s.heap ∧ b < s.heap.size ∧ va_K D cls9 (tysL cs) s ∧ (St ad (AX ad) s ∧ St ad (AM ad) s) ∧ (Ev ad cs (AX ad) LX ∧ Ev ad cs (AM ad) LM) ∧ (∀ k, k ∈ LX ∨ k ∈ LM → s.heap.size ≤ ad k) ∧ (∀ k j, k ∈ LX → j ∈ LM → ad k ≠ ad j)
def Y (p : Program) (l : Launch) (e : Env) (s : State) (m : MethodId) (b : Nat) (below : List Frame) (meth : Method) (c : Code) (D : va_G) (ad : Nat → Nat) (cs : Nat → ClassId) (M1 M2 : Mem) (pc : Nat) (lv : List (Nat × Value)) (st : List Value) : Prop :=
  ∀ (H : Heap) (locs : List Loc) (ls : Array Slot), va_P D cls9 (wsL ad cs LX M1) H → va_P D cls9 (wsL ad cs LM M2) H → va_S (AL s) s.heap H locs → lv_has ls 4 lv → W p l e room_1 s m #[Value.ref b] below meth c H locs 600000 7302250 (lw_Z below #[Value.ref b] s) (F0 m pc ls st)
section YL
variable {p : Program} {l : Launch} {e : Env} {s : State} {m : MethodId} {b L : Nat} {xs : Nat → Int32} {below : List Frame} {meth : Method} {c : Code} {D : va_G} {ad : Nat → Nat} {cs : Nat → ClassId} {M1 M2 : Mem} {pc : Nat} {lv lv' : List (Nat × Value)} {st : List Value}

theorem y_iconst (C : Cy p s m meth c b L xs D ad cs) {n : Int} {v : Int32} (hd : decode code pc = .ok (.iconst n, 1)) (hn : Int32.ofInt n = v) (kk : Y p l e s m b below meth c D ad cs M1 M2 (pc + 1) lv (.int v :: st)) : Y p l e s m b below meth c D ad cs M1 M2 pc lv (st) := fun H locs ls hP hQ hS hv => lv_iconst C.1 C.2.1 hd hn (kk H locs ls hP hQ hS hv)
theorem y_bipush (C : Cy p s m meth c b L xs D ad cs) {n : Int} {v : Int32} (hd : decode code pc = .ok (.bipush n, 2)) (hn : (Int8.ofInt n).toInt32 = v) (kk : Y p l e s m b below meth c D ad cs M1 M2 (pc + 2) lv (.int v :: st)) : Y p l e s m b below meth c D ad cs M1 M2 pc lv (st) := fun H locs ls hP hQ hS hv => lv_bipush C.1 C.2.1 hd hn (kk H locs ls hP hQ hS hv)
theorem y_iload_n (C : Cy p s m meth c b L xs D ad cs) {k : Fin 4} {x : Int32} (hd : decode code pc = .ok (.iload_n k, 1)) (q : Nat) (hl : lv[q]? = some ((k : Nat), .int x)) (kk : Y p l e s m b below meth c D ad cs M1 M2 (pc + 1) lv (.int x :: st)) : Y p l e s m b below meth c D ad cs M1 M2 pc lv (st) := fun H locs ls hP hQ hS hv => lv_iload_n C.1 C.2.1 hd rfl (lv_at hv q hl) (kk H locs ls hP hQ hS hv)
theorem y_aload_n (C : Cy p s m meth c b L xs D ad cs) {k : Fin 4} {x : Nat} (hd : decode code pc = .ok (.aload_n k, 1)) (q : Nat) (hl : lv[q]? = some ((k : Nat), .ref x)) (kk : Y p l e s m b below meth c D ad cs M1 M2 (pc + 1) lv (.ref x :: st)) : Y p l e s m b below meth c D ad cs M1 M2 pc lv (st) := fun H locs ls hP hQ hS hv => lv_aload_n C.1 C.2.1 hd rfl (lv_at hv q hl) (kk H locs ls hP hQ hS hv)
theorem y_iadd (C : Cy p s m meth c b L xs D ad cs) {x y : Int32} (hd : decode code pc = .ok (.iadd, 1)) (kk : Y p l e s m b below meth c D ad cs M1 M2 (pc + 1) lv (.int (x + y) :: st)) : Y p l e s m b below meth c D ad cs M1 M2 pc lv (.int y :: .int x :: st) := fun H locs ls hP hQ hS hv => lv_iadd C.1 C.2.1 hd (kk H locs ls hP hQ hS hv)
theorem y_isub (C : Cy p s m meth c b L xs D ad cs) {x y : Int32} (hd : decode code pc = .ok (.isub, 1)) (kk : Y p l e s m b below meth c D ad cs M1 M2 (pc + 1) lv (.int (x - y) :: st)) : Y p l e s m b below meth c D ad cs M1 M2 pc lv (.int y :: .int x :: st) := fun H locs ls hP hQ hS hv => lv_isub C.1 C.2.1 hd (kk H locs ls hP hQ hS hv)
theorem y_iand (C : Cy p s m meth c b L xs D ad cs) {x y : Int32} (hd : decode code pc = .ok (.iand, 1)) (kk : Y p l e s m b below meth c D ad cs M1 M2 (pc + 1) lv (.int (x &&& y) :: st)) : Y p l e s m b below meth c D ad cs M1 M2 pc lv (.int y :: .int x :: st) := fun H locs ls hP hQ hS hv => lv_iand C.1 C.2.1 hd (kk H locs ls hP hQ hS hv)
theorem y_lcmp (C : Cy p s m meth c b L xs D ad cs) {x y : Int64} (hd : decode code pc = .ok (.lcmp, 1)) (kk : Y p l e s m b below meth c D ad cs M1 M2 (pc + 1) lv (.int (lg_cmp x y) :: st)) : Y p l e s m b below meth c D ad cs M1 M2 pc lv (.long y :: .long x :: st) := fun H locs ls hP hQ hS hv => W.lcmp C.1 C.2.1 hd (kk H locs ls hP hQ hS hv)
theorem y_iinc (C : Cy p s m meth c b L xs D ad cs) {i : Nat} {n : Int} {x v : Int32} (hd : decode code pc = .ok (.iinc i n, 3)) (q : Nat) (hk : lv[q]? = some (i, .int x)) (hw : x + Int32.ofInt n = v) (hn : i < 4) (hl : (i, Value.int v) :: lv.filter (fun q => !(q.1 == i) && !(q.1 + 1 == i && q.2.category == 2)) = lv') (kk : Y p l e s m b below meth c D ad cs M1 M2 (pc + 3) lv' st) : Y p l e s m b below meth c D ad cs M1 M2 pc lv st := fun H locs ls hP hQ hS hv => lv_iinc C.1 C.2.1 hd hv hk hw hn hl (fun ls hv => kk H locs ls hP hQ hS hv)
theorem y_sub (ks : List Nat) (hl : lv_pick lv ks = lv') (kk : Y p l e s m b below meth c D ad cs M1 M2 pc lv' st) : Y p l e s m b below meth c D ad cs M1 M2 pc lv st := fun H locs ls hP hQ hS hv => kk H locs ls hP hQ hS (lv_sub hv ks hl)
theorem y_goto (C : Cy p s m meth c b L xs D ad cs) {off : Int} (tgt : Nat) (hd : decode code pc = .ok (.goto off, 3)) (ht : (pc : Int) + off = (tgt : Int)) (kk : Y p l e s m b below meth c D ad cs M1 M2 tgt lv st) : Y p l e s m b below meth c D ad cs M1 M2 pc lv st := fun H locs ls hP hQ hS hv => lv_goto C.1 C.2.1 hd ht (kk H locs ls hP hQ hS hv)
theorem y_icmp_gt (C : Cy p s m meth c b L xs D ad cs) {x y : Int32} {off : Int} (tgt : Nat) (hd : decode code pc = .ok (.if_icmp .gt off, 3)) (ht : (pc : Int) + off = (tgt : Int)) (kt : y < x → Y p l e s m b below meth c D ad cs M1 M2 tgt lv st) (kf : ¬ y < x → Y p l e s m b below meth c D ad cs M1 M2 (pc + 3) lv st) : Y p l e s m b below meth c D ad cs M1 M2 pc lv (.int y :: .int x :: st) := fun H locs ls hP hQ hS hv => lv_icmp_gt C.1 C.2.1 hd ht (fun h => kt h H locs ls hP hQ hS hv) (fun h => kf h H locs ls hP hQ hS hv)
theorem y_icmp_eqT (C : Cy p s m meth c b L xs D ad cs) {x y : Int32} {off : Int} (tgt : Nat) (hd : decode code pc = .ok (.if_icmp .eq off, 3)) (ht : (pc : Int) + off = (tgt : Int)) (hc : x = y) (kk : Y p l e s m b below meth c D ad cs M1 M2 tgt lv st) : Y p l e s m b below meth c D ad cs M1 M2 pc lv (.int y :: .int x :: st) := fun H locs ls hP hQ hS hv => lv_icmp_eq C.1 C.2.1 hd ht (fun _ => kk H locs ls hP hQ hS hv) (fun h => absurd hc h)
theorem y_if_eqT (C : Cy p s m meth c b L xs D ad cs) {x : Int32} {off : Int} (tgt : Nat) (hd : decode code pc = .ok (.ifCond .eq off, 3)) (ht : (pc : Int) + off = (tgt : Int)) (hc : x = 0) (kk : Y p l e s m b below meth c D ad cs M1 M2 tgt lv st) : Y p l e s m b below meth c D ad cs M1 M2 pc lv (.int x :: st) := fun H locs ls hP hQ hS hv => lv_if_eq C.1 C.2.1 hd ht (fun _ => kk H locs ls hP hQ hS hv) (fun h => absurd hc h)
theorem y_tswIn (C : Cy p s m meth c b L xs D ad cs) {dflt lo hi off : Int} {offs : Array Int} {len : Nat} {x kc : Int32} (tgt : Nat) (hx : x = kc) (hd : decode code pc = .ok (.tableswitch dflt lo hi offs, len)) (h1 : ¬ kc.toInt < lo) (h2 : ¬ hi < kc.toInt) (ho : offs[(kc.toInt - lo).toNat]? = some off) (ht : (pc : Int) + off = (tgt : Int)) (kk : Y p l e s m b below meth c D ad cs M1 M2 tgt lv st) : Y p l e s m b below meth c D ad cs M1 M2 pc lv (.int x :: st) := by
  subst hx
  exact fun H locs ls hP hQ hS hv => lv_tableIn C.1 C.2.1 hd h1 h2 ho ht (kk H locs ls hP hQ hS hv)
theorem y_tswOut (C : Cy p s m meth c b L xs D ad cs) {dflt lo hi : Int} {offs : Array Int} {len : Nat} {x : Int32} (tgt : Nat) (hd : decode code pc = .ok (.tableswitch dflt lo hi offs, len)) (h : x.toInt < lo ∨ hi < x.toInt) (ht : (pc : Int) + dflt = (tgt : Int)) (kk : Y p l e s m b below meth c D ad cs M1 M2 tgt lv st) : Y p l e s m b below meth c D ad cs M1 M2 pc lv (.int x :: st) := fun H locs ls hP hQ hS hv => lv_tableOut C.1 C.2.1 hd h ht (kk H locs ls hP hQ hS hv)
theorem y_sld (C : Cy p s m meth c b L xs D ad cs) {i : Int32} (hin : vp_in i L) (hd : decode code pc = .ok (.iaload, 1)) (kk : Y p l e s m b below meth c D ad cs M1 M2 (pc + 1) lv (.int (xs i.toNatClampNeg) :: st)) : Y p l e s m b below meth c D ad cs M1 M2 pc lv (.int i :: .ref b :: st) := fun H locs ls hP hQ hS hv => va_sld C.1 C.2.1 C.2.2.2.2.2.2.2.1 C.2.2.2.2.2.2.2.2.1 (Nat.not_le.mpr C.2.2.2.2.2.2.2.2.1) hS hin hd (kk H locs ls hP hQ hS hv)
theorem y_slen (C : Cy p s m meth c b L xs D ad cs) (hd : decode code pc = .ok (.arraylength, 1)) (kk : Y p l e s m b below meth c D ad cs M1 M2 (pc + 1) lv (.int (nI L) :: st)) : Y p l e s m b below meth c D ad cs M1 M2 pc lv (.ref b :: st) := fun H locs ls hP hQ hS hv => va_slen C.1 C.2.1 C.2.2.2.2.2.2.2.1 C.2.2.2.2.2.2.2.2.1 (Nat.not_le.mpr C.2.2.2.2.2.2.2.2.1) hS hd (kk H locs ls hP hQ hS hv)
theorem y_ret (C : Cy p s m meth c b L xs D ad cs) (hd : decode code pc = .ok (.ireturn, 1)) : Y p l e s m b below meth c D ad cs M1 M2 pc lv [.int 1] := by
  intro H locs ls hP hQ hS hv
  refine va_forget (fun q hq => hS.2.2 q hq) ?_
  exact lw_ret C.1 C.2.1 C.2.2.2.2.2.1 C.2.2.2.2.2.2.1 hd
theorem rm_law {d' maxL : Nat} (h : d' ≤ 1000) (hm : maxL ≤ 21) : (rmD d').frames + 1 ≤ room_1.frames ∧ 8 + (maxL + 11) + (rmD d').locals ≤ room_1.locals := by
  refine ⟨?_, ?_⟩
  · show d' + 1 ≤ 2048
    omega
  · show 8 + (maxL + 11) + 40 * d' ≤ 84000
    omega
theorem St.at {ad : Nat → Nat} {A B : Nat → Prop} {s U : State} {H : Heap} {locs : List Loc} (h : St ad A s) (hAB : ∀ q, A q → B q) (hB : ∀ q, q < s.heap.size → ¬ B q) (hS : va_S B s.heap H locs) (hU : U.heap = H) (hW : s.WarmedH U.vm) : St ad A U := by
  intro t ht
  obtain ⟨h1, h2, h3⟩ := h t ht
  have hk : ∀ a : Nat, a < s.heap.size → ¬ A a → U.heap[a]? = s.heap[a]? := fun a ha hA => by rw [hU]; exact hS.2.1 a ha (hB a ha)
  exact ⟨va_Z.moved hW.alike (h1.kept hk), va_T.moved hW.alike (h2.kept hk), va_Nw.warmF hW h3⟩
theorem y_callX {y : MethodName} {bytes : ByteArray} {maxL n : Nat} {ret' : Option FieldType} {d' k index ci : Nat} {q : vw_C} {As rest : List Value} {M1' : Mem} {V' : Option Value} (C : Cy p s m meth c b L xs D ad cs)
    (hM : Met l y (Cond.code y bytes maxL ret' :: wl) (rmD d') (PX D ad cs (AX ad) LX (.ref (ad k) :: As) M1) (QX D ad cs (AX ad) LX V' M1') 0 0 (AX ad)) (I : MIV y bytes maxL ret' n) (hdd : d' ≤ 1000) (ha : k ∈ LX) (hcl : ∃ fs, cel ad cs k (M1 k) = .inr (ci, fs)) (hc : cls9[ci]? = some q) (hq : q.1 = y.cls) (hl : Cond.methodLink R_law index y ∈ wl) (hd : decode code pc = .ok (.invokevirtual index, 3)) (hn : As.length = n) (hst : st = As.reverse ++ .ref (ad k) :: rest) (hW : (rest.map fun v => v.category).sum ≤ 8)
    (kk : Y p l e s m b below meth c D ad cs M1' M2 (pc + 3) lv (V'.toList ++ rest)) : Y p l e s m b below meth c D ad cs M1 M2 pc lv st := by
  obtain ⟨⟨i1, i2, i3, i4, i5⟩, i6, i7⟩ := I
  obtain ⟨hx, hb, hml, hown, hts, hr, hlk, hX, hbl, hK, hSt, hE, hge, hdis⟩ := C
  intro H locs ls hP hQ hS hv
  subst hst
  obtain ⟨q0, hq0, hg⟩ := wsL_get (ad := ad) (cs := cs) (M := M1) ha
  obtain ⟨fs, hfs⟩ := hcl
  rw [hfs] at hg
  have hrecv := va_recv hK hP hc hg
  rw [hq] at hrecv
  have hAB : ∀ q, AX ad q → AL s q := by
    rintro q ⟨k, hk, rfl⟩
    exact hge k (Or.inl hk)
  have hB : ∀ q, q < s.heap.size → ¬ AL s q := fun q h1 h2 => Nat.not_le.mpr h1 h2
  have hrun := va_runV (H := H) (locs := locs) (cells := 600000) (slots := 7302250) (R := room_1) (As := As) (rest := rest) (C := y.cls) (n := n) (bytes := bytes) (maxL := maxL) (ret := ret') (g := F0 m pc ls (As.reverse ++ .ref (ad k) :: rest)) (e := e) (below := below) (meth := meth) ⟨hx, hb, hml, hown, hts⟩ hM ⟨callB_of n hts (wl_goodIn i1) rfl rfl rfl (hts _ i2) (hts _ hl) i3 (rm_law hdd i4), hts _ i6, hts _ i7⟩ ⟨PX_blind, hrecv, fun U hU hWm => ⟨rfl, by rw [hU]; exact hP, va_K.moved hWm.alike hK, hSt.1.at hAB hB hS hU hWm⟩⟩ rfl hn hv.1 rfl (lv_room hW) hd ⟨Nat.le_refl _, Nat.le_refl _⟩
  intro T hT X0
  obtain ⟨v, st₀, t, T', L', h0, X', hL, e1, e2, ⟨⟨hv', hP1⟩, hz, hkk⟩, stp⟩ := hrun T hT X0
  cases hv'
  rw [h0] at hz hkk
  have hother : va_P D cls9 (wsL ad cs LM M2) T'.heap := by
    refine (hQ).kept (fun j x hx => ?_)
    have hlt := ((hQ) j x hx).lt
    rw [e1]
    refine hkk x.1 hlt ?_
    rintro ⟨k', hk', he⟩
    have : ∃ k2, k2 ∈ LM ∧ x.1 = ad k2 := by
      simp only [wsL, List.getElem?_map] at hx
      cases hj : LM[j]? with
      | none => rw [hj] at hx; cases hx
      | some z => rw [hj] at hx; cases hx; exact ⟨z, List.mem_of_getElem? hj, rfl⟩
    obtain ⟨k2, hk2, he2⟩ := this
    exact hdis k' k2 hk' hk2 (he.symm.trans he2)
  obtain ⟨t2, a1, b1⟩ := kk T'.heap (locs ++ L') ls (by rw [e1]; exact hP1) hother
    ⟨Nat.le_trans hS.1 (by rw [e1]; exact hz), fun q h1 h2 => by rw [e1, hkk q (Nat.lt_of_lt_of_le h1 hS.1) (fun z => h2 (hAB q z))]; exact hS.2.1 q h1 h2, fun q hq => by
      rcases List.mem_append.mp hq with h | h
      · exact hS.2.2 q h
      · exact hAB _ (hL q h)⟩ hv T' rfl X'
  exact ⟨t2, stp t2 a1, b1⟩
theorem y_callM {y : MethodName} {bytes : ByteArray} {maxL n : Nat} {ret' : Option FieldType} {d' k index ci : Nat} {q : vw_C} {As rest : List Value} {M2' : Mem} {V' : Option Value} (C : Cy p s m meth c b L xs D ad cs)
    (hM : Met l y (Cond.code y bytes maxL ret' :: wl) (rmD d') (PX D ad cs (AM ad) LM (.ref (ad k) :: As) M2) (QX D ad cs (AM ad) LM V' M2') 0 0 (AM ad)) (I : MIV y bytes maxL ret' n) (hdd : d' ≤ 1000) (ha : k ∈ LM) (hcl : ∃ fs, cel ad cs k (M2 k) = .inr (ci, fs)) (hc : cls9[ci]? = some q) (hq : q.1 = y.cls) (hl : Cond.methodLink R_law index y ∈ wl) (hd : decode code pc = .ok (.invokevirtual index, 3)) (hn : As.length = n) (hst : st = As.reverse ++ .ref (ad k) :: rest) (hW : (rest.map fun v => v.category).sum ≤ 8)
    (kk : Y p l e s m b below meth c D ad cs M1 M2' (pc + 3) lv (V'.toList ++ rest)) : Y p l e s m b below meth c D ad cs M1 M2 pc lv st := by
  obtain ⟨⟨i1, i2, i3, i4, i5⟩, i6, i7⟩ := I
  obtain ⟨hx, hb, hml, hown, hts, hr, hlk, hX, hbl, hK, hSt, hE, hge, hdis⟩ := C
  intro H locs ls hP hQ hS hv
  subst hst
  obtain ⟨q0, hq0, hg⟩ := wsL_get (ad := ad) (cs := cs) (M := M2) ha
  obtain ⟨fs, hfs⟩ := hcl
  rw [hfs] at hg
  have hrecv := va_recv hK hQ hc hg
  rw [hq] at hrecv
  have hAB : ∀ q, AM ad q → AL s q := by
    rintro q ⟨k, hk, rfl⟩
    exact hge k (Or.inr hk)
  have hB : ∀ q, q < s.heap.size → ¬ AL s q := fun q h1 h2 => Nat.not_le.mpr h1 h2
  have hrun := va_runV (H := H) (locs := locs) (cells := 600000) (slots := 7302250) (R := room_1) (As := As) (rest := rest) (C := y.cls) (n := n) (bytes := bytes) (maxL := maxL) (ret := ret') (g := F0 m pc ls (As.reverse ++ .ref (ad k) :: rest)) (e := e) (below := below) (meth := meth) ⟨hx, hb, hml, hown, hts⟩ hM ⟨callB_of n hts (wl_goodIn i1) rfl rfl rfl (hts _ i2) (hts _ hl) i3 (rm_law hdd i4), hts _ i6, hts _ i7⟩ ⟨PX_blind, hrecv, fun U hU hWm => ⟨rfl, by rw [hU]; exact hQ, va_K.moved hWm.alike hK, hSt.2.at hAB hB hS hU hWm⟩⟩ rfl hn hv.1 rfl (lv_room hW) hd ⟨Nat.le_refl _, Nat.le_refl _⟩
  intro T hT X0
  obtain ⟨v, st₀, t, T', L', h0, X', hL, e1, e2, ⟨⟨hv', hP1⟩, hz, hkk⟩, stp⟩ := hrun T hT X0
  cases hv'
  rw [h0] at hz hkk
  have hother : va_P D cls9 (wsL ad cs LX M1) T'.heap := by
    refine (hP).kept (fun j x hx => ?_)
    have hlt := ((hP) j x hx).lt
    rw [e1]
    refine hkk x.1 hlt ?_
    rintro ⟨k', hk', he⟩
    have : ∃ k2, k2 ∈ LX ∧ x.1 = ad k2 := by
      simp only [wsL, List.getElem?_map] at hx
      cases hj : LX[j]? with
      | none => rw [hj] at hx; cases hx
      | some z => rw [hj] at hx; cases hx; exact ⟨z, List.mem_of_getElem? hj, rfl⟩
    obtain ⟨k2, hk2, he2⟩ := this
    exact hdis k2 k' hk2 hk' (he2.symm.trans he)
  obtain ⟨t2, a1, b1⟩ := kk T'.heap (locs ++ L') ls hother (by rw [e1]; exact hP1)
    ⟨Nat.le_trans hS.1 (by rw [e1]; exact hz), fun q h1 h2 => by rw [e1, hkk q (Nat.lt_of_lt_of_le h1 hS.1) (fun z => h2 (hAB q z))]; exact hS.2.1 q h1 h2, fun q hq => by
      rcases List.mem_append.mp hq with h | h
      · exact hS.2.2 q h
      · exact hAB _ (hL q h)⟩ hv T' rfl X'
  exact ⟨t2, stp t2 a1, b1⟩
end YL
