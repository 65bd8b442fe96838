/-! the start of the law (by program: wip/whole/gen_start.py) -/
theorem z_astore_n {p : Program} {l : Launch} {e : Env} {R : Room} {s : State} {m : MethodId} {args : Array Value} {below : List Frame} {meth : Method} {c : Code} {own : String} {cc : ByteArray} {nL : Nat} {D : va_G} {cs : Nat → ClassId} {A : Nat → Prop} {Q : State → Prop} {cells slots : Nat} {ws : va_W} {pc : Nat} {lv lv' : List (Nat × Value)} {st : List Value} (C : Cz p s m args meth c own cc nL D cs A) {k : Fin 4} {x : Nat} (hd : decode cc pc = .ok (.astore_n k, 1)) (hn : (k : Nat) < nL) (hl : ((k : Nat), Value.ref x) :: lv.filter (fun q => !(q.1 == (k : Nat)) && !(q.1 + 1 == (k : Nat) && q.2.category == 2)) = lv') (kk : Z p l e R s m args below meth c nL D A Q cells slots ws (pc + 1) lv' st) : Z p l e R s m args below meth c nL D A Q cells slots ws pc lv (.ref x :: st) := fun H locs ls hP hD hS hv => lv_astore_n C.1 C.2.1 hd rfl hv hn hl (fun ls hv => kk H locs ls hP hD hS hv)
theorem cs_int {args : Array Value} {s : State} (h : (Cond.arrayClass .int).before args s = true) : ∃ cA, ArrOfT s cA .int ∧ va_RA s cA .int := by
  obtain ⟨cA, kA, comp, h1, h2, h3⟩ := Cond.arrayClass_spec h
  exact ⟨cA, fun n z => ⟨fun k h => (by cases h), kA, h2, comp, h3⟩, h1⟩
theorem cs_ref {s : State} {C : String} (h : va_AO C s) : ∃ cA, ArrOfT s cA (.object C) ∧ va_RA s cA (.object C) := by
  obtain ⟨comp, cA, kA, f4, -, f2, f3, f1⟩ := Cond.arrayOver_spec h
  exact ⟨cA, fun N z => ⟨fun k h => (by cases h), kA, f2, comp, f3⟩, kA, comp, f2, f3, f4, f1⟩
theorem va_at_q {D : va_G} {cl : List vw_C} {a n : Nat} {cA : ClassId} {f g : Nat → Option Nat} {H : Heap} (h : va_at D cl (a, .inl (cA, n, .inr (.inr (.inr (.inr f))))) H) (hfg : ∀ j, j < n → f j = g j) : va_at D cl (a, .inl (cA, n, .inr (.inr (.inr (.inr g))))) H := by
  have e1 : vp_cell cA (n, .inr (.inr (.inr (.inr f)))) = vp_cell cA (n, .inr (.inr (.inr (.inr g)))) := by
    rw [vp_cell_q, vp_cell_q]
    have e2 : (fun j : Fin n => va_rf (f j.val)) = (fun j : Fin n => va_rf (g j.val)) := by
      funext j
      rw [hfg j.val j.isLt]
    unfold arrV
    rw [e2]
  show H[a]? = some (vp_cell cA (n, .inr (.inr (.inr (.inr g)))))
  rw [← e1]
  exact h
theorem law_statics {s : State} {b : Nat} (hts : ∀ w ∈ lw_tbl, w.before #[Value.ref b] s = true) (hgv : (Jvm.Cond.and given_1 narrow_1).before #[Value.ref b] s = true) : ∃ sa : Nat → Nat, ∀ t, t < 5 → va_Z R_K (snm t) "[I" (.ref (sa t)) (AL s) s s.heap ∧ va_T .int (sa t) (ln (80 + t)) (fun j => .int (rov (80 + t) j)) (AL s) s s.heap ∧ va_Nw (.fieldLinkNest (sow t) (six t) R_K (snm t) "[I" R_K) s := by
  have hs := flat_of_before _ hgv
  have hA : ∀ a : Nat, a < s.heap.size → ¬ AL s a := fun a h1 h2 => Nat.not_le.mpr h1 h2
  have hini : (Cond.initialized "KissClearing").before #[Value.ref b] s = true := hts _ (List.mem_filter.mp wN_K).1
  obtain ⟨t0, ht0, hT0⟩ := va_Tof (tm := (.static "KissClearing" "SORT_LETTERS" "[I")) (ty := .int) (N := 3) (f := fun j => .int (rov 80 j)) (A := AL s) (args := #[Value.ref b]) (s := s) (by decide) (hs (.arrayOf (.static "KissClearing" "SORT_LETTERS" "[I") .int) (by decide +kernel)) (va_eqt (hs (.eq (.length (.static "KissClearing" "SORT_LETTERS" "[I")) (.int 3)) (by decide +kernel))) (fun j hj => by
    match j, hj with
    | 0, _ => exact va_eqt (hs (.eq (.elem (.static "KissClearing" "SORT_LETTERS" "[I") (.int 0)) (.int 104)) (by decide +kernel))
    | 1, _ => exact va_eqt (hs (.eq (.elem (.static "KissClearing" "SORT_LETTERS" "[I") (.int 1)) (.int 99)) (by decide +kernel))
    | 2, _ => exact va_eqt (hs (.eq (.elem (.static "KissClearing" "SORT_LETTERS" "[I") (.int 2)) (.int 116)) (by decide +kernel))
    | j + 3, hj => omega) hA
  have hZ0 := va_Zof (A := AL s) (hts (.laysStatic "KissClearing" "SORT_LETTERS" "[I") (in_t2 (List.mem_of_getElem? (i := 114) rfl))) hini ht0 hA
  have hN0 : va_Nw (.fieldLinkNest "KissClearing$Reader" 60 "KissClearing" "SORT_LETTERS" "[I" "KissClearing") s := va_Nw.of rfl (hts _ (in_t2 (List.mem_of_getElem? (i := 113) rfl)))
  obtain ⟨t1, ht1, hT1⟩ := va_Tof (tm := (.static "KissClearing" "KIND_LETTERS" "[I")) (ty := .int) (N := 6) (f := fun j => .int (rov 81 j)) (A := AL s) (args := #[Value.ref b]) (s := s) (by decide) (hs (.arrayOf (.static "KissClearing" "KIND_LETTERS" "[I") .int) (by decide +kernel)) (va_eqt (hs (.eq (.length (.static "KissClearing" "KIND_LETTERS" "[I")) (.int 6)) (by decide +kernel))) (fun j hj => by
    match j, hj with
    | 0, _ => exact va_eqt (hs (.eq (.elem (.static "KissClearing" "KIND_LETTERS" "[I") (.int 0)) (.int 112)) (by decide +kernel))
    | 1, _ => exact va_eqt (hs (.eq (.elem (.static "KissClearing" "KIND_LETTERS" "[I") (.int 1)) (.int 97)) (by decide +kernel))
    | 2, _ => exact va_eqt (hs (.eq (.elem (.static "KissClearing" "KIND_LETTERS" "[I") (.int 2)) (.int 115)) (by decide +kernel))
    | 3, _ => exact va_eqt (hs (.eq (.elem (.static "KissClearing" "KIND_LETTERS" "[I") (.int 3)) (.int 98)) (by decide +kernel))
    | 4, _ => exact va_eqt (hs (.eq (.elem (.static "KissClearing" "KIND_LETTERS" "[I") (.int 4)) (.int 103)) (by decide +kernel))
    | 5, _ => exact va_eqt (hs (.eq (.elem (.static "KissClearing" "KIND_LETTERS" "[I") (.int 5)) (.int 105)) (by decide +kernel))
    | j + 6, hj => omega) hA
  have hZ1 := va_Zof (A := AL s) (hts (.laysStatic "KissClearing" "KIND_LETTERS" "[I") (in_t2 (List.mem_of_getElem? (i := 130) rfl))) hini ht1 hA
  have hN1 : va_Nw (.fieldLinkNest "KissClearing$Reader" 37 "KissClearing" "KIND_LETTERS" "[I" "KissClearing") s := va_Nw.of rfl (hts _ (in_t2 (List.mem_of_getElem? (i := 129) rfl)))
  obtain ⟨t2, ht2, hT2⟩ := va_Tof (tm := (.static "KissClearing" "KIND_ABOVE" "[I")) (ty := .int) (N := 6) (f := fun j => .int (rov 82 j)) (A := AL s) (args := #[Value.ref b]) (s := s) (by decide) (hs (.arrayOf (.static "KissClearing" "KIND_ABOVE" "[I") .int) (by decide +kernel)) (va_eqt (hs (.eq (.length (.static "KissClearing" "KIND_ABOVE" "[I")) (.int 6)) (by decide +kernel))) (fun j hj => by
    match j, hj with
    | 0, _ => exact va_eqt (hs (.eq (.elem (.static "KissClearing" "KIND_ABOVE" "[I") (.int 0)) (.int (-1))) (by decide +kernel))
    | 1, _ => exact va_eqt (hs (.eq (.elem (.static "KissClearing" "KIND_ABOVE" "[I") (.int 1)) (.int 0)) (by decide +kernel))
    | 2, _ => exact va_eqt (hs (.eq (.elem (.static "KissClearing" "KIND_ABOVE" "[I") (.int 2)) (.int 0)) (by decide +kernel))
    | 3, _ => exact va_eqt (hs (.eq (.elem (.static "KissClearing" "KIND_ABOVE" "[I") (.int 3)) (.int 0)) (by decide +kernel))
    | 4, _ => exact va_eqt (hs (.eq (.elem (.static "KissClearing" "KIND_ABOVE" "[I") (.int 4)) (.int 1)) (by decide +kernel))
    | 5, _ => exact va_eqt (hs (.eq (.elem (.static "KissClearing" "KIND_ABOVE" "[I") (.int 5)) (.int 3)) (by decide +kernel))
    | j + 6, hj => omega) hA
  have hZ2 := va_Zof (A := AL s) (hts (.laysStatic "KissClearing" "KIND_ABOVE" "[I") (in_t2 (List.mem_of_getElem? (i := 215) rfl))) hini ht2 hA
  have hN2 : va_Nw (.fieldLinkNest "KissClearing$Village" 45 "KissClearing" "KIND_ABOVE" "[I" "KissClearing") s := va_Nw.of rfl (hts _ (in_t2 (List.mem_of_getElem? (i := 214) rfl)))
  obtain ⟨t3, ht3, hT3⟩ := va_Tof (tm := (.static "KissClearing" "KIND_RESERVES" "[I")) (ty := .int) (N := 6) (f := fun j => .int (rov 83 j)) (A := AL s) (args := #[Value.ref b]) (s := s) (by decide) (hs (.arrayOf (.static "KissClearing" "KIND_RESERVES" "[I") .int) (by decide +kernel)) (va_eqt (hs (.eq (.length (.static "KissClearing" "KIND_RESERVES" "[I")) (.int 6)) (by decide +kernel))) (fun j hj => by
    match j, hj with
    | 0, _ => exact va_eqt (hs (.eq (.elem (.static "KissClearing" "KIND_RESERVES" "[I") (.int 0)) (.int 1)) (by decide +kernel))
    | 1, _ => exact va_eqt (hs (.eq (.elem (.static "KissClearing" "KIND_RESERVES" "[I") (.int 1)) (.int 1)) (by decide +kernel))
    | 2, _ => exact va_eqt (hs (.eq (.elem (.static "KissClearing" "KIND_RESERVES" "[I") (.int 2)) (.int 0)) (by decide +kernel))
    | 3, _ => exact va_eqt (hs (.eq (.elem (.static "KissClearing" "KIND_RESERVES" "[I") (.int 3)) (.int 6)) (by decide +kernel))
    | 4, _ => exact va_eqt (hs (.eq (.elem (.static "KissClearing" "KIND_RESERVES" "[I") (.int 4)) (.int 1)) (by decide +kernel))
    | 5, _ => exact va_eqt (hs (.eq (.elem (.static "KissClearing" "KIND_RESERVES" "[I") (.int 5)) (.int 12)) (by decide +kernel))
    | j + 6, hj => omega) hA
  have hZ3 := va_Zof (A := AL s) (hts (.laysStatic "KissClearing" "KIND_RESERVES" "[I") (in_t2 (List.mem_of_getElem? (i := 178) rfl))) hini ht3 hA
  have hN3 : va_Nw (.fieldLinkNest "KissClearing$Village" 52 "KissClearing" "KIND_RESERVES" "[I" "KissClearing") s := va_Nw.of rfl (hts _ (in_t2 (List.mem_of_getElem? (i := 177) rfl)))
  obtain ⟨t4, ht4, hT4⟩ := va_Tof (tm := (.static "KissClearing" "KIND_GROWTHS" "[I")) (ty := .int) (N := 6) (f := fun j => .int (rov 84 j)) (A := AL s) (args := #[Value.ref b]) (s := s) (by decide) (hs (.arrayOf (.static "KissClearing" "KIND_GROWTHS" "[I") .int) (by decide +kernel)) (va_eqt (hs (.eq (.length (.static "KissClearing" "KIND_GROWTHS" "[I")) (.int 6)) (by decide +kernel))) (fun j hj => by
    match j, hj with
    | 0, _ => exact va_eqt (hs (.eq (.elem (.static "KissClearing" "KIND_GROWTHS" "[I") (.int 0)) (.int 0)) (by decide +kernel))
    | 1, _ => exact va_eqt (hs (.eq (.elem (.static "KissClearing" "KIND_GROWTHS" "[I") (.int 1)) (.int 1)) (by decide +kernel))
    | 2, _ => exact va_eqt (hs (.eq (.elem (.static "KissClearing" "KIND_GROWTHS" "[I") (.int 2)) (.int 0)) (by decide +kernel))
    | 3, _ => exact va_eqt (hs (.eq (.elem (.static "KissClearing" "KIND_GROWTHS" "[I") (.int 3)) (.int 0)) (by decide +kernel))
    | 4, _ => exact va_eqt (hs (.eq (.elem (.static "KissClearing" "KIND_GROWTHS" "[I") (.int 4)) (.int 2)) (by decide +kernel))
    | 5, _ => exact va_eqt (hs (.eq (.elem (.static "KissClearing" "KIND_GROWTHS" "[I") (.int 5)) (.int 0)) (by decide +kernel))
    | j + 6, hj => omega) hA
  have hZ4 := va_Zof (A := AL s) (hts (.laysStatic "KissClearing" "KIND_GROWTHS" "[I") (in_t2 (List.mem_of_getElem? (i := 225) rfl))) hini ht4 hA
  have hN4 : va_Nw (.fieldLinkNest "KissClearing$Village" 55 "KissClearing" "KIND_GROWTHS" "[I" "KissClearing") s := va_Nw.of rfl (hts _ (in_t2 (List.mem_of_getElem? (i := 224) rfl)))
  refine ⟨fun t => match t with | 0 => t0 | 1 => t1 | 2 => t2 | 3 => t3 | _ => t4, fun t ht => ?_⟩
  match t, ht with
  | 0, _ => exact ⟨hZ0, hT0, hN0⟩
  | 1, _ => exact ⟨hZ1, hT1, hN1⟩
  | 2, _ => exact ⟨hZ2, hT2, hN2⟩
  | 3, _ => exact ⟨hZ3, hT3, hN3⟩
  | 4, _ => exact ⟨hZ4, hT4, hN4⟩
  | t + 5, ht => omega
theorem law_nst {s : State} {b : Nat} (hts : ∀ w ∈ lw_tbl, w.before #[Value.ref b] s = true) : Nst s := by
  refine ⟨fun t ht => ?_, ?_, ?_, ?_⟩
  · match t, ht with
    | 0, _ => exact va_Nw.of rfl (hts _ (in_t1 (List.mem_of_getElem? (i := 103) rfl)))
    | 1, _ => exact va_Nw.of rfl (hts _ (in_t1 (List.mem_of_getElem? (i := 121) rfl)))
    | 2, _ => exact va_Nw.of rfl (hts _ (in_t1 (List.mem_of_getElem? (i := 155) rfl)))
    | 3, _ => exact va_Nw.of rfl (hts _ (in_t1 (List.mem_of_getElem? (i := 177) rfl)))
    | 4, _ => exact va_Nw.of rfl (hts _ (in_t1 (List.mem_of_getElem? (i := 33) rfl)))
    | t + 5, ht => omega
  · exact va_AO.of (hts _ (in_t1 (List.mem_of_getElem? (i := 23) rfl)))
  · exact va_AO.of (hts _ (in_t1 (List.mem_of_getElem? (i := 31) rfl)))
  · exact va_AO.of (hts _ (in_t1 (List.mem_of_getElem? (i := 118) rfl)))
