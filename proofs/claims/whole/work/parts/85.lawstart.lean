/-! the start of the law (by program: wip/whole/gen_start.py) -/
theorem ev_of {s : State} {ad : Nat → Nat} {cs : Nat → ClassId} {L : List Nat} (hn : L.Nodup) (hinj : ∀ i j, i ∈ L → j ∈ L → ad i = ad j → i = j) : Ev ad cs (fun q => ∃ k, k ∈ L ∧ q = ad k) L := by
  refine ⟨hn, fun M => ⟨fun i j x y hx hy hxy => ?_, fun k q hq => ?_⟩⟩
  · simp only [wsL, List.getElem?_map] at hx hy
    cases hi : L[i]? with
    | none => rw [hi] at hx; cases hx
    | some a =>
      cases hj : L[j]? with
      | none => rw [hj] at hy; cases hy
      | some b' =>
        rw [hi] at hx; rw [hj] at hy; cases hx; cases hy
        have e1 := hinj a b' (List.mem_of_getElem? hi) (List.mem_of_getElem? hj) hxy
        subst e1
        exact (List.getElem?_inj (List.getElem?_eq_some_iff.mp hi).1 hn).mp (hi.trans hj.symm)
  · simp only [wsL, List.getElem?_map] at hq
    cases hj : L[k]? with
    | none => rw [hj] at hq; cases hq
    | some z => rw [hj] at hq; cases hq; exact ⟨z, List.mem_of_getElem? hj, rfl⟩
set_option maxHeartbeats 8000000 in
set_option maxRecDepth 100000 in
theorem whole_start {p : Program} {e : Env} {s : State} {m : MethodId} {below : List Frame} {meth : Method} {c : Code} (l : Launch) (hflags : l.flags = flags0) {b L : Nat} {xs : Nat → Int32} (hL : L ≤ 3072) (C0 : lw_At p s m meth c b L xs) : W p l e room_1 s m #[Value.ref b] below meth c s.heap [] 0 0 (lw_Z below #[Value.ref b] s) (entryFrame m ([Value.ref b] : List Value).toArray 4) := by
  obtain ⟨hx, hb, hr, hml, hown, hts, hX, hbl, hlocks, hgv⟩ := C0
  have htw : ∀ w ∈ wl, w.before #[Value.ref b] s = true := fun w h => hts w (List.mem_filter.mp h).1
  have hN : Nst s := law_nst hts
  obtain ⟨sa, hsa⟩ := law_statics hts hgv
  obtain ⟨c0, iS0, hKn0⟩ := u_known (C := R_B) (T := T_B) (N := 4) (n := 4) htw u_B (htw _ wE_B)
  obtain ⟨c1, iS1, hKn1⟩ := u_known (C := R_D) (T := T_D) (N := 6) (n := 6) htw u_D (htw _ wE_D)
  obtain ⟨c2, iS2, hKn2⟩ := u_known (C := R_H) (T := T_H) (N := 3) (n := 3) htw u_H (htw _ wE_H)
  obtain ⟨c3, iS3, hKn3⟩ := u_known (C := R_G) (T := T_G) (N := 7) (n := 7) htw u_G (htw _ wE_G)
  obtain ⟨c4, iS4, hKn4⟩ := u_known (C := R_O) (T := T_O) (N := 4) (n := 4) htw u_O (htw _ wE_O)
  obtain ⟨c5, iS5, hKn5⟩ := u_known (C := R_S) (T := T_S) (N := 2) (n := 2) htw u_S (htw _ wE_S)
  obtain ⟨c6, iS6, hKn6⟩ := u_known (C := R_V) (T := T_V) (N := 4) (n := 4) htw u_V (htw _ wE_V)
  obtain ⟨c7, iS7, hKn7⟩ := u_known (C := R_K) (T := T_K) (N := 14) (n := 14) htw u_K (htw _ wE_K)
  obtain ⟨c8, iS8, hKn8⟩ := u_known (C := R_M) (T := T_M) (N := 31) (n := 31) htw u_M (htw _ wE_M)
  obtain ⟨D, hKc⟩ : ∃ D : va_G, ∀ (k : Nat) (q : vw_C), cls9[k]? = some q → u_Kn s q.1 q.2.1 q.2.2 (D.1 k) (D.2 k) := by
    refine ⟨(fun k => match k with | 0 => c0 | 1 => c1 | 2 => c2 | 3 => c3 | 4 => c4 | 5 => c5 | 6 => c6 | 7 => c7 | _ => c8, fun k => match k with | 0 => iS0 | 1 => iS1 | 2 => iS2 | 3 => iS3 | 4 => iS4 | 5 => iS5 | 6 => iS6 | 7 => iS7 | _ => iS8), ?_⟩
    intro k q hq
    match k, hq with
    | 0, hq => cases hq; exact hKn0
    | 1, hq => cases hq; exact hKn1
    | 2, hq => cases hq; exact hKn2
    | 3, hq => cases hq; exact hKn3
    | 4, hq => cases hq; exact hKn4
    | 5, hq => cases hq; exact hKn5
    | 6, hq => cases hq; exact hKn6
    | 7, hq => cases hq; exact hKn7
    | 8, hq => cases hq; exact hKn8
    | k + 9, hq => simp [cls9] at hq
  obtain ⟨x0, hx0⟩ := cs_int (htw _ warr)
  obtain ⟨x1, hx1⟩ := cs_ref hN.2.1
  obtain ⟨x2, hx2⟩ := cs_ref hN.2.2.1
  obtain ⟨x3, hx3⟩ := cs_ref hN.2.2.2
  obtain ⟨cs, hcs⟩ : ∃ cs : Nat → ClassId, ∀ (k : Nat) (q : ClassId × FieldType), (tysL cs)[k]? = some q → ArrOfT s q.1 q.2 ∧ va_RA s q.1 q.2 := by
    refine ⟨fun k => match k with | 0 => x0 | 1 => x1 | 2 => x2 | _ => x3, ?_⟩
    intro k q hq
    match k, hq with
    | 0, hq => cases hq; exact hx0
    | 1, hq => cases hq; exact hx1
    | 2, hq => cases hq; exact hx2
    | 3, hq => cases hq; exact hx3
    | k + 4, hq => simp [tysL] at hq
  have hK : va_K D cls9 (tysL cs) s := ⟨hKc, hcs⟩
  have C : Cz p s m #[Value.ref b] meth c R_law code 4 D cs (AL s) := ⟨hx, hb, hml, hown, htw, hK, hN, fun _ h => h⟩
  rw [lg_entry_eq]
  have hl := lv_entry ([.ref b]) (n := 4) (Nat.le_of_ble_eq_true rfl)
  generalize (lg_sl ([.ref b]) ++ List.replicate (4 - (lg_sl ([.ref b])).length) Slot.unset).toArray = ls at hl ⊢
  have hl : lv_has ls 4 [(0, .ref b)] := hl
  obtain ⟨F, hF⟩ : ∃ F : Nat, FB ≤ F := ⟨FB, Nat.le_refl _⟩
  suffices hz : Z p l e room_1 s m #[Value.ref b] below meth c 4 D (AL s) (lw_Z below #[Value.ref b] s) 0 0 [] 0 [(0, .ref b)] [] by
    exact hz s.heap [] ls (fun k q h => by simp at h) ⟨fun i j x y h => by simp at h, fun k q h => by simp at h⟩ va_S.rf hl
  refine zn_K C [.null, .null, .null, .null, .null, .null, .null, .null, .null, .null, .int 0, .int 0, .long 0, .long 0] wK_L_7 (by decide) (Nat.le_of_ble_eq_true rfl) (Nat.le_of_ble_eq_true rfl) d_law_0 (fun hK0 => ?_)
  refine z_dup C d_law_3 rfl ?_
  refine z_ctor (cells := 1) (slots := 14) (R := room_1) (rest := [.ref hK0]) (wr := []) C (fun sz => cn_K D cs hK0 sz) mi_K_init rfl wI_K_init wL_L_9 rfl rfl ⟨Nat.le_of_ble_eq_true rfl, Nat.le_of_ble_eq_true rfl⟩ rfl rfl (Nat.le_of_ble_eq_true rfl) ⟨Nat.le_of_ble_eq_true rfl, Nat.le_of_ble_eq_true rfl⟩ d_law_4 (fun w1 hw1 => ?_)
  obtain ⟨kq1, kq2, kq3, kq6, kq7, kq8, kq9, kq10, kq11, kq12, kq13, kq14, kq15, kq16, kq17, kq18, kq19, kq20, kq23, kq24, kq25, kq26, kq27, kq28, kq29, kq30, kq31, kq32, kq33, kq34, kq35, kq36, kq37, kq40, kq41, kq42, kq43, kq46, kq47, kq48, kq49, kq52, kq53, kq54, kq55, kq58, kq59, kq60, kq63, kq64, kq67, kq68, kq71, kq72, kq75, kq76, kq79, kq80, kq83, kq84, kq87, kq88, kq91, kq92, kq95, kq96, kq99, kq100, kq103, kq104, kq105, kq108, kq109, kq110, kq113, kq114, rfl⟩ := hw1
  refine z_cast (ws' := [(hK0, .inr (7, [.ref kq1, .ref kq2, .ref kq3, .ref kq20, .ref kq37, .ref kq42, .ref kq43, .ref kq49, .ref kq55, .ref kq59, .int 0, .int 0, .long 0, .long 1])), (kq1, .inl (cs 1, 6, .inr (.inr (.inr (.inr (va_up (va_up (va_up (va_up (va_up (va_up (fun _ => none) 0 (some kq60)) 1 (some kq64)) 2 (some kq68)) 3 (some kq72)) 4 (some kq76)) 5 (some kq80))))))), (kq2, .inl (cs 1, 4, .inr (.inr (.inr (.inr (va_up (va_up (va_up (va_up (fun _ => none) 0 (some kq84)) 1 (some kq88)) 2 (some kq92)) 3 (some kq96))))))), (kq3, .inr (6, [.int 0, .int 0, .ref kq6, .ref kq7])), (kq6, .inl (cs 0, 6, .inl (fun _ => 0))), (kq7, .inl (cs 2, 12, .inr (.inr (.inr (.inr (va_up (va_up (va_up (va_up (va_up (va_up (va_up (va_up (va_up (va_up (va_up (va_up (fun _ => none) 0 (some kq8)) 1 (some kq9)) 2 (some kq10)) 3 (some kq11)) 4 (some kq12)) 5 (some kq13)) 6 (some kq14)) 7 (some kq15)) 8 (some kq16)) 9 (some kq17)) 10 (some kq18)) 11 (some kq19))))))), (kq8, .inr (1, [.int 0, .int 0, .int 0, .int 0, .int 0, .int 0])), (kq9, .inr (1, [.int 0, .int 0, .int 0, .int 0, .int 0, .int 0])), (kq10, .inr (1, [.int 0, .int 0, .int 0, .int 0, .int 0, .int 0])), (kq11, .inr (1, [.int 0, .int 0, .int 0, .int 0, .int 0, .int 0])), (kq12, .inr (1, [.int 0, .int 0, .int 0, .int 0, .int 0, .int 0])), (kq13, .inr (1, [.int 0, .int 0, .int 0, .int 0, .int 0, .int 0])), (kq14, .inr (1, [.int 0, .int 0, .int 0, .int 0, .int 0, .int 0])), (kq15, .inr (1, [.int 0, .int 0, .int 0, .int 0, .int 0, .int 0])), (kq16, .inr (1, [.int 0, .int 0, .int 0, .int 0, .int 0, .int 0])), (kq17, .inr (1, [.int 0, .int 0, .int 0, .int 0, .int 0, .int 0])), (kq18, .inr (1, [.int 0, .int 0, .int 0, .int 0, .int 0, .int 0])), (kq19, .inr (1, [.int 0, .int 0, .int 0, .int 0, .int 0, .int 0])), (kq20, .inr (6, [.int 0, .int 0, .ref kq23, .ref kq24])), (kq23, .inl (cs 0, 6, .inl (fun _ => 0))), (kq24, .inl (cs 2, 12, .inr (.inr (.inr (.inr (va_up (va_up (va_up (va_up (va_up (va_up (va_up (va_up (va_up (va_up (va_up (va_up (fun _ => none) 0 (some kq25)) 1 (some kq26)) 2 (some kq27)) 3 (some kq28)) 4 (some kq29)) 5 (some kq30)) 6 (some kq31)) 7 (some kq32)) 8 (some kq33)) 9 (some kq34)) 10 (some kq35)) 11 (some kq36))))))), (kq25, .inr (1, [.int 0, .int 0, .int 0, .int 0, .int 0, .int 0])), (kq26, .inr (1, [.int 0, .int 0, .int 0, .int 0, .int 0, .int 0])), (kq27, .inr (1, [.int 0, .int 0, .int 0, .int 0, .int 0, .int 0])), (kq28, .inr (1, [.int 0, .int 0, .int 0, .int 0, .int 0, .int 0])), (kq29, .inr (1, [.int 0, .int 0, .int 0, .int 0, .int 0, .int 0])), (kq30, .inr (1, [.int 0, .int 0, .int 0, .int 0, .int 0, .int 0])), (kq31, .inr (1, [.int 0, .int 0, .int 0, .int 0, .int 0, .int 0])), (kq32, .inr (1, [.int 0, .int 0, .int 0, .int 0, .int 0, .int 0])), (kq33, .inr (1, [.int 0, .int 0, .int 0, .int 0, .int 0, .int 0])), (kq34, .inr (1, [.int 0, .int 0, .int 0, .int 0, .int 0, .int 0])), (kq35, .inr (1, [.int 0, .int 0, .int 0, .int 0, .int 0, .int 0])), (kq36, .inr (1, [.int 0, .int 0, .int 0, .int 0, .int 0, .int 0])), (kq37, .inr (2, [.int 0, .ref kq40, .ref kq41])), (kq40, .inl (cs 0, 41, .inl (fun _ => 0))), (kq41, .inl (cs 0, 492, .inl (fun _ => 0))), (kq42, .inl (cs 3, 3, .inr (.inr (.inr (.inr (va_up (va_up (va_up (fun _ => none) 0 (some kq100)) 1 (some kq105)) 2 (some kq110))))))), (kq43, .inr (3, [.int 0, .int 0, .int 0, .int 0, .ref kq46, .ref kq47, .ref kq48])), (kq46, .inl (cs 0, 6, .inl (fun _ => 0))), (kq47, .inl (cs 0, 6, .inl (fun _ => 0))), (kq48, .inl (cs 0, 6, .inl (fun _ => 0))), (kq49, .inr (4, [.int 0, .ref kq52, .ref kq53, .ref kq54])), (kq52, .inl (cs 0, 15, .inl (fun _ => 0))), (kq53, .inl (cs 0, 15, .inl (fun _ => 0))), (kq54, .inl (cs 0, 6, .inl (fun _ => 0))), (kq55, .inr (0, [.int 0, .int (-9), .int 0, .ref kq58])), (kq58, .inl (cs 0, 6, .inl (fun _ => 0))), (kq59, .inl (cs 0, 6, .inl (fun _ => 0))), (kq60, .inr (5, [.ref kq63, .int (-1)])), (kq63, .inl (cs 0, 40, .inl (fun _ => 0))), (kq64, .inr (5, [.ref kq67, .int (-1)])), (kq67, .inl (cs 0, 40, .inl (fun _ => 0))), (kq68, .inr (5, [.ref kq71, .int (-1)])), (kq71, .inl (cs 0, 40, .inl (fun _ => 0))), (kq72, .inr (5, [.ref kq75, .int (-1)])), (kq75, .inl (cs 0, 40, .inl (fun _ => 0))), (kq76, .inr (5, [.ref kq79, .int (-1)])), (kq79, .inl (cs 0, 40, .inl (fun _ => 0))), (kq80, .inr (5, [.ref kq83, .int (-1)])), (kq83, .inl (cs 0, 40, .inl (fun _ => 0))), (kq84, .inr (5, [.ref kq87, .int (-1)])), (kq87, .inl (cs 0, 80, .inl (fun _ => 0))), (kq88, .inr (5, [.ref kq91, .int (-1)])), (kq91, .inl (cs 0, 80, .inl (fun _ => 0))), (kq92, .inr (5, [.ref kq95, .int (-1)])), (kq95, .inl (cs 0, 80, .inl (fun _ => 0))), (kq96, .inr (5, [.ref kq99, .int (-1)])), (kq99, .inl (cs 0, 80, .inl (fun _ => 0))), (kq100, .inr (2, [.int (-1), .ref kq103, .ref kq104])), (kq103, .inl (cs 0, 41, .inl (fun _ => 0))), (kq104, .inl (cs 0, 492, .inl (fun _ => 0))), (kq105, .inr (2, [.int (-1), .ref kq108, .ref kq109])), (kq108, .inl (cs 0, 41, .inl (fun _ => 0))), (kq109, .inl (cs 0, 492, .inl (fun _ => 0))), (kq110, .inr (2, [.int (-1), .ref kq113, .ref kq114])), (kq113, .inl (cs 0, 41, .inl (fun _ => 0))), (kq114, .inl (cs 0, 492, .inl (fun _ => 0)))]) rfl ?_
  refine z_astore_n (lv' := [(1, .ref hK0), (0, .ref b)]) C d_law_7 (by decide) rfl ?_
  refine zn_M C [.null, .int 0, .null, .null, .null, .null, .null, .int 0, .long 0, .long 0, .int 0, .null, .int 0, .int 0, .int 0, .null, .int 0, .null, .int 0, .null, .null, .int 0, .null, .int 0, .int 0, .null, .int 0, .null, .int 0, .int 0, .int 0] wK_L_10 (by decide) (Nat.le_of_ble_eq_true rfl) (Nat.le_of_ble_eq_true rfl) d_law_8 (fun hM0 => ?_)
  refine z_dup C d_law_11 rfl ?_
  refine z_ctor (cells := 78) (slots := 3051) (R := room_1) (rest := [.ref hM0]) (wr := [(hK0, .inr (7, [.ref kq1, .ref kq2, .ref kq3, .ref kq20, .ref kq37, .ref kq42, .ref kq43, .ref kq49, .ref kq55, .ref kq59, .int 0, .int 0, .long 0, .long 1])), (kq1, .inl (cs 1, 6, .inr (.inr (.inr (.inr (va_up (va_up (va_up (va_up (va_up (va_up (fun _ => none) 0 (some kq60)) 1 (some kq64)) 2 (some kq68)) 3 (some kq72)) 4 (some kq76)) 5 (some kq80))))))), (kq2, .inl (cs 1, 4, .inr (.inr (.inr (.inr (va_up (va_up (va_up (va_up (fun _ => none) 0 (some kq84)) 1 (some kq88)) 2 (some kq92)) 3 (some kq96))))))), (kq3, .inr (6, [.int 0, .int 0, .ref kq6, .ref kq7])), (kq6, .inl (cs 0, 6, .inl (fun _ => 0))), (kq7, .inl (cs 2, 12, .inr (.inr (.inr (.inr (va_up (va_up (va_up (va_up (va_up (va_up (va_up (va_up (va_up (va_up (va_up (va_up (fun _ => none) 0 (some kq8)) 1 (some kq9)) 2 (some kq10)) 3 (some kq11)) 4 (some kq12)) 5 (some kq13)) 6 (some kq14)) 7 (some kq15)) 8 (some kq16)) 9 (some kq17)) 10 (some kq18)) 11 (some kq19))))))), (kq8, .inr (1, [.int 0, .int 0, .int 0, .int 0, .int 0, .int 0])), (kq9, .inr (1, [.int 0, .int 0, .int 0, .int 0, .int 0, .int 0])), (kq10, .inr (1, [.int 0, .int 0, .int 0, .int 0, .int 0, .int 0])), (kq11, .inr (1, [.int 0, .int 0, .int 0, .int 0, .int 0, .int 0])), (kq12, .inr (1, [.int 0, .int 0, .int 0, .int 0, .int 0, .int 0])), (kq13, .inr (1, [.int 0, .int 0, .int 0, .int 0, .int 0, .int 0])), (kq14, .inr (1, [.int 0, .int 0, .int 0, .int 0, .int 0, .int 0])), (kq15, .inr (1, [.int 0, .int 0, .int 0, .int 0, .int 0, .int 0])), (kq16, .inr (1, [.int 0, .int 0, .int 0, .int 0, .int 0, .int 0])), (kq17, .inr (1, [.int 0, .int 0, .int 0, .int 0, .int 0, .int 0])), (kq18, .inr (1, [.int 0, .int 0, .int 0, .int 0, .int 0, .int 0])), (kq19, .inr (1, [.int 0, .int 0, .int 0, .int 0, .int 0, .int 0])), (kq20, .inr (6, [.int 0, .int 0, .ref kq23, .ref kq24])), (kq23, .inl (cs 0, 6, .inl (fun _ => 0))), (kq24, .inl (cs 2, 12, .inr (.inr (.inr (.inr (va_up (va_up (va_up (va_up (va_up (va_up (va_up (va_up (va_up (va_up (va_up (va_up (fun _ => none) 0 (some kq25)) 1 (some kq26)) 2 (some kq27)) 3 (some kq28)) 4 (some kq29)) 5 (some kq30)) 6 (some kq31)) 7 (some kq32)) 8 (some kq33)) 9 (some kq34)) 10 (some kq35)) 11 (some kq36))))))), (kq25, .inr (1, [.int 0, .int 0, .int 0, .int 0, .int 0, .int 0])), (kq26, .inr (1, [.int 0, .int 0, .int 0, .int 0, .int 0, .int 0])), (kq27, .inr (1, [.int 0, .int 0, .int 0, .int 0, .int 0, .int 0])), (kq28, .inr (1, [.int 0, .int 0, .int 0, .int 0, .int 0, .int 0])), (kq29, .inr (1, [.int 0, .int 0, .int 0, .int 0, .int 0, .int 0])), (kq30, .inr (1, [.int 0, .int 0, .int 0, .int 0, .int 0, .int 0])), (kq31, .inr (1, [.int 0, .int 0, .int 0, .int 0, .int 0, .int 0])), (kq32, .inr (1, [.int 0, .int 0, .int 0, .int 0, .int 0, .int 0])), (kq33, .inr (1, [.int 0, .int 0, .int 0, .int 0, .int 0, .int 0])), (kq34, .inr (1, [.int 0, .int 0, .int 0, .int 0, .int 0, .int 0])), (kq35, .inr (1, [.int 0, .int 0, .int 0, .int 0, .int 0, .int 0])), (kq36, .inr (1, [.int 0, .int 0, .int 0, .int 0, .int 0, .int 0])), (kq37, .inr (2, [.int 0, .ref kq40, .ref kq41])), (kq40, .inl (cs 0, 41, .inl (fun _ => 0))), (kq41, .inl (cs 0, 492, .inl (fun _ => 0))), (kq42, .inl (cs 3, 3, .inr (.inr (.inr (.inr (va_up (va_up (va_up (fun _ => none) 0 (some kq100)) 1 (some kq105)) 2 (some kq110))))))), (kq43, .inr (3, [.int 0, .int 0, .int 0, .int 0, .ref kq46, .ref kq47, .ref kq48])), (kq46, .inl (cs 0, 6, .inl (fun _ => 0))), (kq47, .inl (cs 0, 6, .inl (fun _ => 0))), (kq48, .inl (cs 0, 6, .inl (fun _ => 0))), (kq49, .inr (4, [.int 0, .ref kq52, .ref kq53, .ref kq54])), (kq52, .inl (cs 0, 15, .inl (fun _ => 0))), (kq53, .inl (cs 0, 15, .inl (fun _ => 0))), (kq54, .inl (cs 0, 6, .inl (fun _ => 0))), (kq55, .inr (0, [.int 0, .int (-9), .int 0, .ref kq58])), (kq58, .inl (cs 0, 6, .inl (fun _ => 0))), (kq59, .inl (cs 0, 6, .inl (fun _ => 0))), (kq60, .inr (5, [.ref kq63, .int (-1)])), (kq63, .inl (cs 0, 40, .inl (fun _ => 0))), (kq64, .inr (5, [.ref kq67, .int (-1)])), (kq67, .inl (cs 0, 40, .inl (fun _ => 0))), (kq68, .inr (5, [.ref kq71, .int (-1)])), (kq71, .inl (cs 0, 40, .inl (fun _ => 0))), (kq72, .inr (5, [.ref kq75, .int (-1)])), (kq75, .inl (cs 0, 40, .inl (fun _ => 0))), (kq76, .inr (5, [.ref kq79, .int (-1)])), (kq79, .inl (cs 0, 40, .inl (fun _ => 0))), (kq80, .inr (5, [.ref kq83, .int (-1)])), (kq83, .inl (cs 0, 40, .inl (fun _ => 0))), (kq84, .inr (5, [.ref kq87, .int (-1)])), (kq87, .inl (cs 0, 80, .inl (fun _ => 0))), (kq88, .inr (5, [.ref kq91, .int (-1)])), (kq91, .inl (cs 0, 80, .inl (fun _ => 0))), (kq92, .inr (5, [.ref kq95, .int (-1)])), (kq95, .inl (cs 0, 80, .inl (fun _ => 0))), (kq96, .inr (5, [.ref kq99, .int (-1)])), (kq99, .inl (cs 0, 80, .inl (fun _ => 0))), (kq100, .inr (2, [.int (-1), .ref kq103, .ref kq104])), (kq103, .inl (cs 0, 41, .inl (fun _ => 0))), (kq104, .inl (cs 0, 492, .inl (fun _ => 0))), (kq105, .inr (2, [.int (-1), .ref kq108, .ref kq109])), (kq108, .inl (cs 0, 41, .inl (fun _ => 0))), (kq109, .inl (cs 0, 492, .inl (fun _ => 0))), (kq110, .inr (2, [.int (-1), .ref kq113, .ref kq114])), (kq113, .inl (cs 0, 41, .inl (fun _ => 0))), (kq114, .inl (cs 0, 492, .inl (fun _ => 0)))]) C (fun sz => cn_M D cs hM0 sz) mi_M_init rfl wI_M_init wL_L_12 rfl rfl ⟨Nat.le_of_ble_eq_true rfl, Nat.le_of_ble_eq_true rfl⟩ rfl rfl (Nat.le_of_ble_eq_true rfl) ⟨Nat.le_of_ble_eq_true rfl, Nat.le_of_ble_eq_true rfl⟩ d_law_12 (fun w2 hw2 => ?_)
  obtain ⟨mq1, mq2, mq3, mq4, mq5, mq6, mq7, mq8, mq9, mq10, mq11, mq12, mq13, mq14, rfl⟩ := hw2
  refine z_cast (ws' := wAll cs hK0 hM0 kq1 kq2 kq3 kq6 kq7 kq8 kq9 kq10 kq11 kq12 kq13 kq14 kq15 kq16 kq17 kq18 kq19 kq20 kq23 kq24 kq25 kq26 kq27 kq28 kq29 kq30 kq31 kq32 kq33 kq34 kq35 kq36 kq37 kq40 kq41 kq42 kq43 kq46 kq47 kq48 kq49 kq52 kq53 kq54 kq55 kq58 kq59 kq60 kq63 kq64 kq67 kq68 kq71 kq72 kq75 kq76 kq79 kq80 kq83 kq84 kq87 kq88 kq91 kq92 kq95 kq96 kq99 kq100 kq103 kq104 kq105 kq108 kq109 kq110 kq113 kq114 mq1 mq2 mq3 mq4 mq5 mq6 mq7 mq8 mq9 mq10 mq11 mq12 mq13 mq14) rfl ?_
  refine z_astore_n (lv' := [(2, .ref hM0), (1, .ref hK0), (0, .ref b)]) C d_law_15 (by decide) rfl ?_
  refine z_iconst (v := 0) C d_law_16 rfl ?_
  refine z_istore_n (lv' := [(3, .int 0), (2, .ref hM0), (1, .ref hK0), (0, .ref b)]) C d_law_17 (by decide) rfl ?_
  intro H locs ls hP hD hS hv
  have hat := wall_at (cs := cs) sa hK0 hM0 kq1 kq2 kq3 kq6 kq7 kq8 kq9 kq10 kq11 kq12 kq13 kq14 kq15 kq16 kq17 kq18 kq19 kq20 kq23 kq24 kq25 kq26 kq27 kq28 kq29 kq30 kq31 kq32 kq33 kq34 kq35 kq36 kq37 kq40 kq41 kq42 kq43 kq46 kq47 kq48 kq49 kq52 kq53 kq54 kq55 kq58 kq59 kq60 kq63 kq64 kq67 kq68 kq71 kq72 kq75 kq76 kq79 kq80 kq83 kq84 kq87 kq88 kq91 kq92 kq95 kq96 kq99 kq100 kq103 kq104 kq105 kq108 kq109 kq110 kq113 kq114 mq1 mq2 mq3 mq4 mq5 mq6 mq7 mq8 mq9 mq10 mq11 mq12 mq13 mq14
  have hP1 := wall_X sa hK0 hM0 kq1 kq2 kq3 kq6 kq7 kq8 kq9 kq10 kq11 kq12 kq13 kq14 kq15 kq16 kq17 kq18 kq19 kq20 kq23 kq24 kq25 kq26 kq27 kq28 kq29 kq30 kq31 kq32 kq33 kq34 kq35 kq36 kq37 kq40 kq41 kq42 kq43 kq46 kq47 kq48 kq49 kq52 kq53 kq54 kq55 kq58 kq59 kq60 kq63 kq64 kq67 kq68 kq71 kq72 kq75 kq76 kq79 kq80 kq83 kq84 kq87 kq88 kq91 kq92 kq95 kq96 kq99 kq100 kq103 kq104 kq105 kq108 kq109 kq110 kq113 kq114 mq1 mq2 mq3 mq4 mq5 mq6 mq7 mq8 mq9 mq10 mq11 mq12 mq13 mq14 hP
  have hP2 := wall_M sa hK0 hM0 kq1 kq2 kq3 kq6 kq7 kq8 kq9 kq10 kq11 kq12 kq13 kq14 kq15 kq16 kq17 kq18 kq19 kq20 kq23 kq24 kq25 kq26 kq27 kq28 kq29 kq30 kq31 kq32 kq33 kq34 kq35 kq36 kq37 kq40 kq41 kq42 kq43 kq46 kq47 kq48 kq49 kq52 kq53 kq54 kq55 kq58 kq59 kq60 kq63 kq64 kq67 kq68 kq71 kq72 kq75 kq76 kq79 kq80 kq83 kq84 kq87 kq88 kq91 kq92 kq95 kq96 kq99 kq100 kq103 kq104 kq105 kq108 kq109 kq110 kq113 kq114 mq1 mq2 mq3 mq4 mq5 mq6 mq7 mq8 mq9 mq10 mq11 mq12 mq13 mq14 hP
  have hv2 : lv_has ls 4 [(0, .ref b), (1, .ref (adl sa hK0 hM0 kq1 kq2 kq3 kq6 kq7 kq8 kq9 kq10 kq11 kq12 kq13 kq14 kq15 kq16 kq17 kq18 kq19 kq20 kq23 kq24 kq25 kq26 kq27 kq28 kq29 kq30 kq31 kq32 kq33 kq34 kq35 kq36 kq37 kq40 kq41 kq42 kq43 kq46 kq47 kq48 kq49 kq52 kq53 kq54 kq55 kq58 kq59 kq60 kq63 kq64 kq67 kq68 kq71 kq72 kq75 kq76 kq79 kq80 kq83 kq84 kq87 kq88 kq91 kq92 kq95 kq96 kq99 kq100 kq103 kq104 kq105 kq108 kq109 kq110 kq113 kq114 mq1 mq2 mq3 mq4 mq5 mq6 mq7 mq8 mq9 mq10 mq11 mq12 mq13 mq14 0)), (2, .ref (adl sa hK0 hM0 kq1 kq2 kq3 kq6 kq7 kq8 kq9 kq10 kq11 kq12 kq13 kq14 kq15 kq16 kq17 kq18 kq19 kq20 kq23 kq24 kq25 kq26 kq27 kq28 kq29 kq30 kq31 kq32 kq33 kq34 kq35 kq36 kq37 kq40 kq41 kq42 kq43 kq46 kq47 kq48 kq49 kq52 kq53 kq54 kq55 kq58 kq59 kq60 kq63 kq64 kq67 kq68 kq71 kq72 kq75 kq76 kq79 kq80 kq83 kq84 kq87 kq88 kq91 kq92 kq95 kq96 kq99 kq100 kq103 kq104 kq105 kq108 kq109 kq110 kq113 kq114 mq1 mq2 mq3 mq4 mq5 mq6 mq7 mq8 mq9 mq10 mq11 mq12 mq13 mq14 100)), (3, .int (nI 0))] := lv_sub hv [3, 2, 1, 0] rfl
  have hsaL : ∀ t, t < 5 → adl sa hK0 hM0 kq1 kq2 kq3 kq6 kq7 kq8 kq9 kq10 kq11 kq12 kq13 kq14 kq15 kq16 kq17 kq18 kq19 kq20 kq23 kq24 kq25 kq26 kq27 kq28 kq29 kq30 kq31 kq32 kq33 kq34 kq35 kq36 kq37 kq40 kq41 kq42 kq43 kq46 kq47 kq48 kq49 kq52 kq53 kq54 kq55 kq58 kq59 kq60 kq63 kq64 kq67 kq68 kq71 kq72 kq75 kq76 kq79 kq80 kq83 kq84 kq87 kq88 kq91 kq92 kq95 kq96 kq99 kq100 kq103 kq104 kq105 kq108 kq109 kq110 kq113 kq114 mq1 mq2 mq3 mq4 mq5 mq6 mq7 mq8 mq9 mq10 mq11 mq12 mq13 mq14 (80 + t) = sa t := by
    intro t ht
    match t, ht with
    | 0, _ => rfl
    | 1, _ => rfl
    | 2, _ => rfl
    | 3, _ => rfl
    | 4, _ => rfl
    | t + 5, ht => omega
  generalize wAll cs hK0 hM0 kq1 kq2 kq3 kq6 kq7 kq8 kq9 kq10 kq11 kq12 kq13 kq14 kq15 kq16 kq17 kq18 kq19 kq20 kq23 kq24 kq25 kq26 kq27 kq28 kq29 kq30 kq31 kq32 kq33 kq34 kq35 kq36 kq37 kq40 kq41 kq42 kq43 kq46 kq47 kq48 kq49 kq52 kq53 kq54 kq55 kq58 kq59 kq60 kq63 kq64 kq67 kq68 kq71 kq72 kq75 kq76 kq79 kq80 kq83 kq84 kq87 kq88 kq91 kq92 kq95 kq96 kq99 kq100 kq103 kq104 kq105 kq108 kq109 kq110 kq113 kq114 mq1 mq2 mq3 mq4 mq5 mq6 mq7 mq8 mq9 mq10 mq11 mq12 mq13 mq14 = wA at hat hD
  generalize adl sa hK0 hM0 kq1 kq2 kq3 kq6 kq7 kq8 kq9 kq10 kq11 kq12 kq13 kq14 kq15 kq16 kq17 kq18 kq19 kq20 kq23 kq24 kq25 kq26 kq27 kq28 kq29 kq30 kq31 kq32 kq33 kq34 kq35 kq36 kq37 kq40 kq41 kq42 kq43 kq46 kq47 kq48 kq49 kq52 kq53 kq54 kq55 kq58 kq59 kq60 kq63 kq64 kq67 kq68 kq71 kq72 kq75 kq76 kq79 kq80 kq83 kq84 kq87 kq88 kq91 kq92 kq95 kq96 kq99 kq100 kq103 kq104 kq105 kq108 kq109 kq110 kq113 kq114 mq1 mq2 mq3 mq4 mq5 mq6 mq7 mq8 mq9 mq10 mq11 mq12 mq13 mq14 = ad at hat hP1 hP2 hv2 hsaL
  have hinj : ∀ i j, (i ∈ LX ∨ i ∈ LM) → (j ∈ LX ∨ j ∈ LM) → ad i = ad j → i = j := by
    intro i j hi hj he
    obtain ⟨e1, h1⟩ := hat i hi
    obtain ⟨e2, h2⟩ := hat j hj
    exact posl_inj i (L_kd hi).1 j (L_kd hj).1 (L_kd hi).2 (L_kd hj).2 (hD.1 _ _ _ _ h1 h2 he)
  have hge : ∀ k, k ∈ LX ∨ k ∈ LM → s.heap.size ≤ ad k := by
    intro k hk
    obtain ⟨e1, h1⟩ := hat k hk
    exact hD.2 _ _ h1
  have hst : ∀ B : Nat → Prop, (∀ q, B q → AL s q) → St ad B s := by
    intro B hB t ht
    obtain ⟨g1, g2, g3⟩ := hsa t ht
    rw [hsaL t ht]
    exact ⟨g1.narrow hB, g2.narrow hB, g3⟩
  have Cy0 : Cy p s m meth c b L xs D ad cs := ⟨hx, hb, hml, hown, htw, hr, hlocks, hX, hbl, hK, ⟨hst _ (by rintro q ⟨k, hk, rfl⟩; exact hge k (Or.inl hk)), hst _ (by rintro q ⟨k, hk, rfl⟩; exact hge k (Or.inr hk))⟩, ⟨ev_of (s := s) LX_nd (fun i j hi hj h => hinj i j (Or.inl hi) (Or.inl hj) h), ev_of (s := s) LM_nd (fun i j hi hj h => hinj i j (Or.inr hi) (Or.inr hj) h)⟩, hge, fun k j hk hj he => by
    have h := hinj k j (Or.inl hk) (Or.inr hj) he
    subst h
    have h1 : k < 77 := List.mem_range.mp hk
    obtain ⟨i, hi, hik⟩ := List.mem_map.mp hj
    omega⟩
  refine W.widen (k := 600000) (n := 7302250) (Nat.le_of_ble_eq_true rfl) (Nat.le_of_ble_eq_true rfl) ?_
  exact law_loop Cy0 hL hF (L + 7) 0 MX0 MM0 (by omega) (by omega) rel_init H locs ls hP1 hP2 hS hv2
