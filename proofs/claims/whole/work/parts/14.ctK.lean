/-! contracts (by program: wip/whole/emit.py) -/
set_option maxHeartbeats 4000000 in
set_option maxRecDepth 100000 in
theorem ct_K_isRingSort {l : Launch} {D : va_G} {ad : Nat → Nat} {cs : Nat → ClassId} {A : Nat → Prop} (E : Ev ad cs A LX) (F : Nat) (M : Mem) (x0 : Int32) (R : Int32)  (hf : K_isRingSort F M x0 = some R) : Met l y_K_isRingSort (Cond.code y_K_isRingSort b_K_isRingSort 1 (some .boolean) :: wl) (rmD 0) (PX D ad cs A LX [.int x0] M) (QX D ad cs A LX (some (.int R)) M) 0 0 A := by
  refine x_enter (lv := [(0, .int x0)]) E mi_K_isRingSort.1 (Nat.le_of_ble_eq_true rfl) rfl (fun p e s m args below meth c C => ?_)
  unfold K_isRingSort at hf
  refine x_iload_n C d_K_isRingSort_0 0 rfl ?_
  refine x_if_eq C 9 d_K_isRingSort_1 (by decide) (fun g1 => ?_) (fun g1 => ?_)
  · replace hf := it g1 hf
    refine x_iconst (v := 1) C d_K_isRingSort_9 rfl ?_
    refine x_goto C 14 d_K_isRingSort_10 (by decide) ?_
    cases hf
    exact x_zret C d_K_isRingSort_14 (Or.inr rfl) rfl rfl
  · replace hf := ie g1 hf
    refine x_iload_n C d_K_isRingSort_4 0 rfl ?_
    refine x_iconst (v := 1) C d_K_isRingSort_5 rfl ?_
    refine x_icmp_ne C 13 d_K_isRingSort_6 (by decide) (fun g2 => ?_) (fun g2 => ?_)
    · replace hf := ie g2 hf
      refine x_iconst (v := 0) C d_K_isRingSort_13 rfl ?_
      cases hf
      exact x_zret C d_K_isRingSort_14 (Or.inl rfl) rfl rfl
    · replace hf := it g2 hf
      refine x_iconst (v := 1) C d_K_isRingSort_9 rfl ?_
      refine x_goto C 14 d_K_isRingSort_10 (by decide) ?_
      cases hf
      exact x_zret C d_K_isRingSort_14 (Or.inr rfl) rfl rfl
set_option maxHeartbeats 4000000 in
set_option maxRecDepth 100000 in
theorem ct_K_all {l : Launch} {D : va_G} {ad : Nat → Nat} {cs : Nat → ClassId} {A : Nat → Prop} (E : Ev ad cs A LX) (F : Nat) (M : Mem) (x1 : Int32) (R : (Int32 × Mem))  (hf : K_all F M x1 = some R) : Met l y_K_all (Cond.code y_K_all b_K_all 2 (some .int) :: wl) (rmD 12) (PX D ad cs A LX [.ref (ad 0), .int x1] M) (QX D ad cs A LX (some (.int R.1)) R.2) 0 0 A := by
  refine x_enter (lv := [(0, .ref (ad 0)), (1, .int x1)]) E mi_K_all.1 (Nat.le_of_ble_eq_true rfl) rfl (fun p e s m args below meth c C => ?_)
  unfold K_all at hf
  refine x_iload_n C d_K_all_0 1 rfl ?_
  obtain ⟨c1, hc1, hf⟩ := bs hf
  refine x_callS (rest := []) (n := 1) C (ct_K_isRingSort E F _ _ _  hc1) mi_K_isRingSort (by decide) wL_K_258 d_K_all_1 rfl rfl (Nat.le_of_ble_eq_true rfl) ?_
  show X _ _ _ _ _ _ _ _ _ _ _ _ _ _ _ _ _ _ _ _ _ [.int c1]
  refine x_if_ne C 9 d_K_all_4 (by decide) (fun g2 => ?_) (fun g2 => ?_)
  · replace hf := ie g2 hf
    refine x_aload_n C d_K_all_9 0 rfl ?_
    refine xg_K_rings C wF_K_42 mc_0 kc_0 d_K_all_10 ?_
    refine x_aload_n C d_K_all_13 0 rfl ?_
    refine xg_K_now C wF_K_21 mc_0 kc_0 d_K_all_14 ?_
    refine x_iload_n C d_K_all_17 1 rfl ?_
    obtain ⟨c3, hc3, hf⟩ := bs hf
    refine x_callV (rest := []) (n := 2) C (ct_G_search E F _ _ _ _ mc_23 kc_23 hc3) mi_G_search (by decide) mc_66 ⟨_, cel_G kc_66⟩ rfl rfl wL_K_261 d_K_all_18 rfl rfl (Nat.le_of_ble_eq_true rfl) ?_
    show X _ _ _ _ _ _ _ _ _ _ _ _ _ _ _ _ _ _ _ _ _ []
    refine x_aload_n C d_K_all_21 0 rfl ?_
    refine x_aload_n C d_K_all_22 0 rfl ?_
    refine xg_K_rings C wF_K_42 mc_0 kc_0 d_K_all_23 ?_
    refine xg_G_mostCleared C wF_K_265 mc_66 kc_66 d_K_all_26 ?_
    refine xp_K_latestAsked (x := (c3 66 1)) C wF_K_68 mc_0 kc_0 d_K_all_29 ?_
    refine x_aload_n C d_K_all_32 0 rfl ?_
    refine xg_K_rings C wF_K_42 mc_0 kc_0 d_K_all_33 ?_
    refine xg_G_found C wF_K_268 mc_66 kc_66 d_K_all_36 ?_
    cases hf
    exact x_iret C d_K_all_39 rfl rfl
  · replace hf := it g2 hf
    refine x_iconst (v := (-1)) C d_K_all_7 rfl ?_
    cases hf
    exact x_iret C d_K_all_8 rfl rfl
set_option maxHeartbeats 4000000 in
set_option maxRecDepth 100000 in
theorem ct_K_asked {l : Launch} {D : va_G} {ad : Nat → Nat} {cs : Nat → ClassId} {A : Nat → Prop} (E : Ev ad cs A LX) (F : Nat) (M : Mem)  (R : Int32)  (hf : K_asked F M = some R) : Met l y_K_asked (Cond.code y_K_asked b_K_asked 1 (some .int) :: wl) (rmD 0) (PX D ad cs A LX [.ref (ad 0)] M) (QX D ad cs A LX (some (.int R)) M) 0 0 A := by
  refine x_enter (lv := [(0, .ref (ad 0))]) E mi_K_asked.1 (Nat.le_of_ble_eq_true rfl) rfl (fun p e s m args below meth c C => ?_)
  unfold K_asked at hf
  refine x_aload_n C d_K_asked_0 0 rfl ?_
  refine xg_K_latestAsked C wF_K_68 mc_0 kc_0 d_K_asked_1 ?_
  cases hf
  exact x_iret C d_K_asked_4 rfl rfl
set_option maxHeartbeats 4000000 in
set_option maxRecDepth 100000 in
theorem ct_K_isRow {l : Launch} {D : va_G} {ad : Nat → Nat} {cs : Nat → ClassId} {A : Nat → Prop} (E : Ev ad cs A LX) (F : Nat) (M : Mem) (x0 : Int32) (R : Int32)  (hf : K_isRow F M x0 = some R) : Met l y_K_isRow (Cond.code y_K_isRow b_K_isRow 1 (some .boolean) :: wl) (rmD 0) (PX D ad cs A LX [.int x0] M) (QX D ad cs A LX (some (.int R)) M) 0 0 A := by
  refine x_enter (lv := [(0, .int x0)]) E mi_K_isRow.1 (Nat.le_of_ble_eq_true rfl) rfl (fun p e s m args below meth c C => ?_)
  unfold K_isRow at hf
  refine x_iload_n C d_K_isRow_0 0 rfl ?_
  refine x_if_lt C 14 d_K_isRow_1 (by decide) (fun g1 => ?_) (fun g1 => ?_)
  · replace hf := it g1 hf
    refine x_iconst (v := 0) C d_K_isRow_14 rfl ?_
    cases hf
    exact x_zret C d_K_isRow_15 (Or.inl rfl) rfl rfl
  · replace hf := ie g1 hf
    refine x_iload_n C d_K_isRow_4 0 rfl ?_
    refine x_bipush (v := 6) C d_K_isRow_5 rfl ?_
    refine x_icmp_ge C 14 d_K_isRow_7 (by decide) (fun g2 => ?_) (fun g2 => ?_)
    · replace hf := it g2 hf
      refine x_iconst (v := 0) C d_K_isRow_14 rfl ?_
      cases hf
      exact x_zret C d_K_isRow_15 (Or.inl rfl) rfl rfl
    · replace hf := ie g2 hf
      refine x_iconst (v := 1) C d_K_isRow_10 rfl ?_
      refine x_goto C 15 d_K_isRow_11 (by decide) ?_
      cases hf
      exact x_zret C d_K_isRow_15 (Or.inr rfl) rfl rfl
set_option maxHeartbeats 4000000 in
set_option maxRecDepth 100000 in
theorem ct_K_refuse {l : Launch} {D : va_G} {ad : Nat → Nat} {cs : Nat → ClassId} {A : Nat → Prop} (E : Ev ad cs A LX) (F : Nat) (M : Mem) (x1 : Int32) (R : (Int32 × Mem))  (hf : K_refuse F M x1 = some R) : Met l y_K_refuse (Cond.code y_K_refuse b_K_refuse 2 (some .int) :: wl) (rmD 0) (PX D ad cs A LX [.ref (ad 0), .int x1] M) (QX D ad cs A LX (some (.int R.1)) R.2) 0 0 A := by
  refine x_enter (lv := [(0, .ref (ad 0)), (1, .int x1)]) E mi_K_refuse.1 (Nat.le_of_ble_eq_true rfl) rfl (fun p e s m args below meth c C => ?_)
  unfold K_refuse at hf
  refine x_aload_n C d_K_refuse_0 0 rfl ?_
  refine x_iload_n C d_K_refuse_1 1 rfl ?_
  refine xp_K_latestFinding (x := x1) C wF_K_64 mc_0 kc_0 d_K_refuse_2 ?_
  refine x_iload_n C d_K_refuse_5 1 rfl ?_
  refine x_iconst (v := 1) C d_K_refuse_6 rfl ?_
  refine x_icmp_lt C 25 d_K_refuse_7 (by decide) (fun g1 => ?_) (fun g1 => ?_)
  · replace hf := it g1 hf
    refine x_bipush (v := (-3)) C d_K_refuse_25 rfl ?_
    cases hf
    exact x_iret C d_K_refuse_27 rfl rfl
  · replace hf := ie g1 hf
    refine x_iload_n C d_K_refuse_10 1 rfl ?_
    refine x_iconst (v := 5) C d_K_refuse_11 rfl ?_
    refine x_icmp_gt C 25 d_K_refuse_12 (by decide) (fun g2 => ?_) (fun g2 => ?_)
    · replace hf := it g2 hf
      refine x_bipush (v := (-3)) C d_K_refuse_25 rfl ?_
      cases hf
      exact x_iret C d_K_refuse_27 rfl rfl
    · replace hf := ie g2 hf
      refine x_aload_n C d_K_refuse_15 0 rfl ?_
      refine xg_K_timesFound C wF_K_60 mc_0 kc_0 d_K_refuse_16 ?_
      refine x_iload_n C d_K_refuse_19 1 rfl ?_
      refine x_dup2 C d_K_refuse_20 rfl rfl ?_
      obtain ⟨t3, ht3, hf⟩ := bs hf
      refine x_iald C ht3 mc_76 kc_76 d_K_refuse_21 ?_
      refine x_iconst (v := 1) C d_K_refuse_22 rfl ?_
      refine x_iadd C d_K_refuse_23 ?_
      obtain ⟨M4, hM4, hf⟩ := bs hf
      refine x_iast C hM4 mc_76 kc_76 d_K_refuse_24 ?_
      refine x_bipush (v := (-3)) C d_K_refuse_25 rfl ?_
      cases hf
      exact x_iret C d_K_refuse_27 rfl rfl
set_option maxHeartbeats 4000000 in
set_option maxRecDepth 100000 in
theorem ct_K_tell {l : Launch} {D : va_G} {ad : Nat → Nat} {cs : Nat → ClassId} {A : Nat → Prop} (E : Ev ad cs A LX) (F : Nat) (M : Mem) (x1 : Int32) (R : (Int32 × Mem))  (hf : K_tell F M x1 = some R) : Met l y_K_tell (Cond.code y_K_tell b_K_tell 2 (some .int) :: wl) (rmD 0) (PX D ad cs A LX [.ref (ad 0), .int x1] M) (QX D ad cs A LX (some (.int R.1)) R.2) 0 0 A := by
  refine x_enter (lv := [(0, .ref (ad 0)), (1, .int x1)]) E mi_K_tell.1 (Nat.le_of_ble_eq_true rfl) rfl (fun p e s m args below meth c C => ?_)
  unfold K_tell at hf
  refine x_aload_n C d_K_tell_0 0 rfl ?_
  refine x_iload_n C d_K_tell_1 1 rfl ?_
  refine xp_K_latestAsked (x := x1) C wF_K_68 mc_0 kc_0 d_K_tell_2 ?_
  refine x_iconst (v := 1) C d_K_tell_5 rfl ?_
  cases hf
  exact x_iret C d_K_tell_6 rfl rfl
set_option maxHeartbeats 4000000 in
set_option maxRecDepth 100000 in
theorem ct_K_at {l : Launch} {D : va_G} {ad : Nat → Nat} {cs : Nat → ClassId} {A : Nat → Prop} (E : Ev ad cs A LX) (F : Nat) (M : Mem) (x1 : Int32) (x2 : Int32) (R : (Int32 × Mem))  (hf : K_at F M x1 x2 = some R) : Met l y_K_at (Cond.code y_K_at b_K_at 4 (some .int) :: wl) (rmD 2) (PX D ad cs A LX [.ref (ad 0), .int x1, .int x2] M) (QX D ad cs A LX (some (.int R.1)) R.2) 0 0 A := by
  refine x_enter (lv := [(0, .ref (ad 0)), (1, .int x1), (2, .int x2)]) E mi_K_at.1 (Nat.le_of_ble_eq_true rfl) rfl (fun p e s m args below meth c C => ?_)
  unfold K_at at hf
  refine x_iload_n C d_K_at_0 1 rfl ?_
  obtain ⟨c1, hc1, hf⟩ := bs hf
  refine x_callS (rest := []) (n := 1) C (ct_K_isRow E F _ _ _  hc1) mi_K_isRow (by decide) wL_K_84 d_K_at_1 rfl rfl (Nat.le_of_ble_eq_true rfl) ?_
  show X _ _ _ _ _ _ _ _ _ _ _ _ _ _ _ _ _ _ _ _ _ [.int c1]
  refine x_if_ne C 9 d_K_at_4 (by decide) (fun g2 => ?_) (fun g2 => ?_)
  · replace hf := ie g2 hf
    refine x_aload_n C d_K_at_9 0 rfl ?_
    refine xg_K_rows C wF_K_11 mc_0 kc_0 d_K_at_10 ?_
    refine x_iload_n C d_K_at_13 1 rfl ?_
    obtain ⟨z3, hz3, hf⟩ := bs hf
    refine x_aald1 C hz3 mc_1 kc_1 d_K_at_14 ?_
    refine x_iload_n C d_K_at_15 2 rfl ?_
    obtain ⟨c4, hc4, hf⟩ := bs hf
    refine x_callV (rest := []) (n := 1) C (ct_S_findingAt E F _ _ _ _ (ma_S kc_1 hz3) (ka_S kc_1 hz3) hc4) mi_S_findingAt (by decide) (ma_S kc_1 hz3) ⟨_, cel_S (ka_S kc_1 hz3)⟩ rfl rfl wL_K_96 d_K_at_16 rfl rfl (Nat.le_of_ble_eq_true rfl) ?_
    show X _ _ _ _ _ _ _ _ _ _ _ _ _ _ _ _ _ _ _ _ _ [.int c4]
    refine x_istore_n (lv' := [(3, .int c4), (0, .ref (ad 0)), (1, .int x1), (2, .int x2)]) C d_K_at_19 (by decide) rfl ?_
    refine x_iload_n C d_K_at_20 0 rfl ?_
    refine x_if_eq C 30 d_K_at_21 (by decide) (fun g5 => ?_) (fun g5 => ?_)
    · replace hf := it g5 hf
      refine x_aload_n C d_K_at_30 1 rfl ?_
      refine x_aload_n C d_K_at_31 1 rfl ?_
      refine xg_K_rows C wF_K_11 mc_0 kc_0 d_K_at_32 ?_
      refine x_iload_n C d_K_at_35 2 rfl ?_
      obtain ⟨z6, hz6, hf⟩ := bs hf
      refine x_aald1 C hz6 mc_1 kc_1 d_K_at_36 ?_
      refine xg_S_places C wF_K_99 (ma_S kc_1 hz6) (ka_S kc_1 hz6) d_K_at_37 ?_
      refine x_iload_n C d_K_at_40 3 rfl ?_
      obtain ⟨t7, ht7, hf⟩ := bs hf
      refine x_iald C ht7 (m_S_places (ka_S kc_1 hz6)) (k_S_places (ka_S kc_1 hz6)) d_K_at_41 ?_
      obtain ⟨c8, hc8, hf⟩ := bs hf
      refine x_callV (rest := []) (n := 1) C (ct_K_tell E F _ _ _  hc8) mi_K_tell (by decide) mc_0 ⟨_, cel_K kc_0⟩ rfl rfl wL_K_102 d_K_at_42 rfl rfl (Nat.le_of_ble_eq_true rfl) ?_
      show X _ _ _ _ _ _ _ _ _ _ _ _ _ _ _ _ _ _ _ _ _ [.int c8.1]
      cases hf
      exact x_iret C d_K_at_45 rfl rfl
    · replace hf := ie g5 hf
      refine x_aload_n C d_K_at_24 1 rfl ?_
      refine x_iload_n C d_K_at_25 0 rfl ?_
      obtain ⟨c9, hc9, hf⟩ := bs hf
      refine x_callV (rest := []) (n := 1) C (ct_K_refuse E F _ _ _  hc9) mi_K_refuse (by decide) mc_0 ⟨_, cel_K kc_0⟩ rfl rfl wL_K_88 d_K_at_26 rfl rfl (Nat.le_of_ble_eq_true rfl) ?_
      show X _ _ _ _ _ _ _ _ _ _ _ _ _ _ _ _ _ _ _ _ _ [.int c9.1]
      cases hf
      exact x_iret C d_K_at_29 rfl rfl
  · replace hf := it g2 hf
    refine x_iconst (v := (-1)) C d_K_at_7 rfl ?_
    cases hf
    exact x_iret C d_K_at_8 rfl rfl
set_option maxHeartbeats 4000000 in
set_option maxRecDepth 100000 in
theorem ct_K_isSort {l : Launch} {D : va_G} {ad : Nat → Nat} {cs : Nat → ClassId} {A : Nat → Prop} (E : Ev ad cs A LX) (F : Nat) (M : Mem) (x0 : Int32) (R : Int32)  (hf : K_isSort F M x0 = some R) : Met l y_K_isSort (Cond.code y_K_isSort b_K_isSort 1 (some .boolean) :: wl) (rmD 0) (PX D ad cs A LX [.int x0] M) (QX D ad cs A LX (some (.int R)) M) 0 0 A := by
  refine x_enter (lv := [(0, .int x0)]) E mi_K_isSort.1 (Nat.le_of_ble_eq_true rfl) rfl (fun p e s m args below meth c C => ?_)
  unfold K_isSort at hf
  refine x_iload_n C d_K_isSort_0 0 rfl ?_
  refine x_if_lt C 13 d_K_isSort_1 (by decide) (fun g1 => ?_) (fun g1 => ?_)
  · replace hf := it g1 hf
    refine x_iconst (v := 0) C d_K_isSort_13 rfl ?_
    cases hf
    exact x_zret C d_K_isSort_14 (Or.inl rfl) rfl rfl
  · replace hf := ie g1 hf
    refine x_iload_n C d_K_isSort_4 0 rfl ?_
    refine x_iconst (v := 3) C d_K_isSort_5 rfl ?_
    refine x_icmp_ge C 13 d_K_isSort_6 (by decide) (fun g2 => ?_) (fun g2 => ?_)
    · replace hf := it g2 hf
      refine x_iconst (v := 0) C d_K_isSort_13 rfl ?_
      cases hf
      exact x_zret C d_K_isSort_14 (Or.inl rfl) rfl rfl
    · replace hf := ie g2 hf
      refine x_iconst (v := 1) C d_K_isSort_9 rfl ?_
      refine x_goto C 14 d_K_isSort_10 (by decide) ?_
      cases hf
      exact x_zret C d_K_isSort_14 (Or.inr rfl) rfl rfl
set_option maxHeartbeats 4000000 in
set_option maxRecDepth 100000 in
theorem ct_K_between {l : Launch} {D : va_G} {ad : Nat → Nat} {cs : Nat → ClassId} {A : Nat → Prop} (E : Ev ad cs A LX) (F : Nat) (M : Mem) (x1 : Int32) (x2 : Int32) (x3 : Int32) (R : Int32)  (hf : K_between F M x1 x2 x3 = some R) : Met l y_K_between (Cond.code y_K_between b_K_between 4 (some .int) :: wl) (rmD 2) (PX D ad cs A LX [.ref (ad 0), .int x1, .int x2, .int x3] M) (QX D ad cs A LX (some (.int R)) M) 0 0 A := by
  refine x_enter (lv := [(0, .ref (ad 0)), (1, .int x1), (2, .int x2), (3, .int x3)]) E mi_K_between.1 (Nat.le_of_ble_eq_true rfl) rfl (fun p e s m args below meth c C => ?_)
  unfold K_between at hf
  refine x_aload_n C d_K_between_0 0 rfl ?_
  refine xg_K_now C wF_K_21 mc_0 kc_0 d_K_between_1 ?_
  refine x_iload_n C d_K_between_4 1 rfl ?_
  refine x_iload_n C d_K_between_5 2 rfl ?_
  obtain ⟨c1, hc1, hf⟩ := bs hf
  refine x_callV (rest := []) (n := 2) C (ct_V_hasTwo E F _ _ _ _ _ mc_23 kc_23 hc1) mi_V_hasTwo (by decide) mc_23 ⟨_, cel_V kc_23⟩ rfl rfl wL_K_183 d_K_between_6 rfl rfl (Nat.le_of_ble_eq_true rfl) ?_
  show X _ _ _ _ _ _ _ _ _ _ _ _ _ _ _ _ _ _ _ _ _ [.int c1]
  refine x_if_eq C 19 d_K_between_9 (by decide) (fun g2 => ?_) (fun g2 => ?_)
  · replace hf := it g2 hf
    refine x_iconst (v := (-1)) C d_K_between_19 rfl ?_
    cases hf
    exact x_iret C d_K_between_20 rfl rfl
  · replace hf := ie g2 hf
    refine x_iload_n C d_K_between_12 3 rfl ?_
    obtain ⟨c3, hc3, hf⟩ := bs hf
    refine x_callS (rest := []) (n := 1) C (ct_K_isSort E F _ _ _  hc3) mi_K_isSort (by decide) wL_K_251 d_K_between_13 rfl rfl (Nat.le_of_ble_eq_true rfl) ?_
    show X _ _ _ _ _ _ _ _ _ _ _ _ _ _ _ _ _ _ _ _ _ [.int c3]
    refine x_if_ne C 21 d_K_between_16 (by decide) (fun g4 => ?_) (fun g4 => ?_)
    · replace hf := ie g4 hf
      refine x_aload_n C d_K_between_21 0 rfl ?_
      refine xg_K_now C wF_K_21 mc_0 kc_0 d_K_between_22 ?_
      refine x_iload_n C d_K_between_25 1 rfl ?_
      refine x_iload_n C d_K_between_26 2 rfl ?_
      refine x_iload_n C d_K_between_27 3 rfl ?_
      obtain ⟨c5, hc5, hf⟩ := bs hf
      refine x_callV (rest := []) (n := 3) C (ct_V_kissesBetween E F _ _ _ _ _ _ mc_23 kc_23 hc5) mi_V_kissesBetween (by decide) mc_23 ⟨_, cel_V kc_23⟩ rfl rfl wL_K_254 d_K_between_28 rfl rfl (Nat.le_of_ble_eq_true rfl) ?_
      show X _ _ _ _ _ _ _ _ _ _ _ _ _ _ _ _ _ _ _ _ _ [.int c5]
      cases hf
      exact x_iret C d_K_between_31 rfl rfl
    · replace hf := it g4 hf
      refine x_iconst (v := (-1)) C d_K_between_19 rfl ?_
      cases hf
      exact x_iret C d_K_between_20 rfl rfl
set_option maxHeartbeats 4000000 in
set_option maxRecDepth 100000 in
theorem ct_K_blushesRefused {l : Launch} {D : va_G} {ad : Nat → Nat} {cs : Nat → ClassId} {A : Nat → Prop} (E : Ev ad cs A LX) (F : Nat) (M : Mem) (x1 : Int32) (R : (Int32 × Mem))  (hf : K_blushesRefused F M x1 = some R) : Met l y_K_blushesRefused (Cond.code y_K_blushesRefused b_K_blushesRefused 2 (some .int) :: wl) (rmD 1) (PX D ad cs A LX [.ref (ad 0), .int x1] M) (QX D ad cs A LX (some (.int R.1)) R.2) 0 0 A := by
  refine x_enter (lv := [(0, .ref (ad 0)), (1, .int x1)]) E mi_K_blushesRefused.1 (Nat.le_of_ble_eq_true rfl) rfl (fun p e s m args below meth c C => ?_)
  unfold K_blushesRefused at hf
  refine x_iload_n C d_K_blushesRefused_0 1 rfl ?_
  obtain ⟨c1, hc1, hf⟩ := bs hf
  refine x_callS (rest := []) (n := 1) C (ct_K_isRow E F _ _ _  hc1) mi_K_isRow (by decide) wL_K_84 d_K_blushesRefused_1 rfl rfl (Nat.le_of_ble_eq_true rfl) ?_
  show X _ _ _ _ _ _ _ _ _ _ _ _ _ _ _ _ _ _ _ _ _ [.int c1]
  refine x_if_ne C 9 d_K_blushesRefused_4 (by decide) (fun g2 => ?_) (fun g2 => ?_)
  · replace hf := ie g2 hf
    refine x_aload_n C d_K_blushesRefused_9 0 rfl ?_
    refine xg_K_now C wF_K_21 mc_0 kc_0 d_K_blushesRefused_10 ?_
    obtain ⟨c3, hc3, hf⟩ := bs hf
    refine x_callV (rest := []) (n := 0) C (ct_V_isEmpty E F _ _ _ mc_23 kc_23 hc3) mi_V_isEmpty (by decide) mc_23 ⟨_, cel_V kc_23⟩ rfl rfl wL_K_231 d_K_blushesRefused_13 rfl rfl (Nat.le_of_ble_eq_true rfl) ?_
    show X _ _ _ _ _ _ _ _ _ _ _ _ _ _ _ _ _ _ _ _ _ [.int c3]
    refine x_if_eq C 22 d_K_blushesRefused_16 (by decide) (fun g4 => ?_) (fun g4 => ?_)
    · replace hf := it g4 hf
      refine x_aload_n C d_K_blushesRefused_22 0 rfl ?_
      refine xg_K_rows C wF_K_11 mc_0 kc_0 d_K_blushesRefused_23 ?_
      refine x_iload_n C d_K_blushesRefused_26 1 rfl ?_
      obtain ⟨z5, hz5, hf⟩ := bs hf
      refine x_aald1 C hz5 mc_1 kc_1 d_K_blushesRefused_27 ?_
      obtain ⟨c6, hc6, hf⟩ := bs hf
      refine x_callV (rest := []) (n := 0) C (ct_S_isMissing E F _ _ _ (ma_S kc_1 hz5) (ka_S kc_1 hz5) hc6) mi_S_isMissing (by decide) (ma_S kc_1 hz5) ⟨_, cel_S (ka_S kc_1 hz5)⟩ rfl rfl wL_K_105 d_K_blushesRefused_28 rfl rfl (Nat.le_of_ble_eq_true rfl) ?_
      show X _ _ _ _ _ _ _ _ _ _ _ _ _ _ _ _ _ _ _ _ _ [.int c6]
      refine x_if_eq C 40 d_K_blushesRefused_31 (by decide) (fun g7 => ?_) (fun g7 => ?_)
      · replace hf := it g7 hf
        refine x_aload_n C d_K_blushesRefused_40 0 rfl ?_
        refine xg_K_rows C wF_K_11 mc_0 kc_0 d_K_blushesRefused_41 ?_
        refine x_iload_n C d_K_blushesRefused_44 1 rfl ?_
        obtain ⟨z8, hz8, hf⟩ := bs hf
        refine x_aald1 C hz8 mc_1 kc_1 d_K_blushesRefused_45 ?_
        refine xg_S_size C wF_K_109 (ma_S kc_1 hz8) (ka_S kc_1 hz8) d_K_blushesRefused_46 ?_
        refine x_aload_n C d_K_blushesRefused_49 0 rfl ?_
        refine xg_K_now C wF_K_21 mc_0 kc_0 d_K_blushesRefused_50 ?_
        refine xg_V_personCount C wF_K_135 mc_23 kc_23 d_K_blushesRefused_53 ?_
        refine x_icmp_eq C 65 d_K_blushesRefused_56 (by decide) (fun g9 => ?_) (fun g9 => ?_)
        · replace hf := it g9 hf
          refine x_iconst (v := 0) C d_K_blushesRefused_65 rfl ?_
          cases hf
          exact x_iret C d_K_blushesRefused_66 rfl rfl
        · replace hf := ie g9 hf
          refine x_aload_n C d_K_blushesRefused_59 0 rfl ?_
          refine x_iconst (v := 5) C d_K_blushesRefused_60 rfl ?_
          obtain ⟨c10, hc10, hf⟩ := bs hf
          refine x_callV (rest := []) (n := 1) C (ct_K_refuse E F _ _ _  hc10) mi_K_refuse (by decide) mc_0 ⟨_, cel_K kc_0⟩ rfl rfl wL_K_88 d_K_blushesRefused_61 rfl rfl (Nat.le_of_ble_eq_true rfl) ?_
          show X _ _ _ _ _ _ _ _ _ _ _ _ _ _ _ _ _ _ _ _ _ [.int c10.1]
          cases hf
          exact x_iret C d_K_blushesRefused_64 rfl rfl
      · replace hf := ie g7 hf
        refine x_aload_n C d_K_blushesRefused_34 0 rfl ?_
        refine x_iconst (v := 1) C d_K_blushesRefused_35 rfl ?_
        obtain ⟨c11, hc11, hf⟩ := bs hf
        refine x_callV (rest := []) (n := 1) C (ct_K_refuse E F _ _ _  hc11) mi_K_refuse (by decide) mc_0 ⟨_, cel_K kc_0⟩ rfl rfl wL_K_88 d_K_blushesRefused_36 rfl rfl (Nat.le_of_ble_eq_true rfl) ?_
        show X _ _ _ _ _ _ _ _ _ _ _ _ _ _ _ _ _ _ _ _ _ [.int c11.1]
        cases hf
        exact x_iret C d_K_blushesRefused_39 rfl rfl
    · replace hf := ie g4 hf
      refine x_bipush (v := (-4)) C d_K_blushesRefused_19 rfl ?_
      cases hf
      exact x_iret C d_K_blushesRefused_21 rfl rfl
  · replace hf := it g2 hf
    refine x_iconst (v := (-1)) C d_K_blushesRefused_7 rfl ?_
    cases hf
    exact x_iret C d_K_blushesRefused_8 rfl rfl
set_option maxHeartbeats 4000000 in
set_option maxRecDepth 100000 in
theorem ct_K_blushes {l : Launch} {D : va_G} {ad : Nat → Nat} {cs : Nat → ClassId} {A : Nat → Prop} (E : Ev ad cs A LX) (F : Nat) (M : Mem) (x1 : Int32) (R : (Int32 × Mem))  (hf : K_blushes F M x1 = some R) : Met l y_K_blushes (Cond.code y_K_blushes b_K_blushes 3 (some .int) :: wl) (rmD 17) (PX D ad cs A LX [.ref (ad 0), .int x1] M) (QX D ad cs A LX (some (.int R.1)) R.2) 0 0 A := by
  refine x_enter (lv := [(0, .ref (ad 0)), (1, .int x1)]) E mi_K_blushes.1 (Nat.le_of_ble_eq_true rfl) rfl (fun p e s m args below meth c C => ?_)
  unfold K_blushes at hf
  refine x_aload_n C d_K_blushes_0 0 rfl ?_
  refine x_iload_n C d_K_blushes_1 1 rfl ?_
  obtain ⟨c1, hc1, hf⟩ := bs hf
  refine x_callV (rest := []) (n := 1) C (ct_K_blushesRefused E F _ _ _  hc1) mi_K_blushesRefused (by decide) mc_0 ⟨_, cel_K kc_0⟩ rfl rfl wL_K_317 d_K_blushes_2 rfl rfl (Nat.le_of_ble_eq_true rfl) ?_
  show X _ _ _ _ _ _ _ _ _ _ _ _ _ _ _ _ _ _ _ _ _ [.int c1.1]
  refine x_istore_n (lv' := [(2, .int c1.1), (0, .ref (ad 0)), (1, .int x1)]) C d_K_blushes_5 (by decide) rfl ?_
  refine x_iload_n C d_K_blushes_6 0 rfl ?_
  refine x_if_eq C 12 d_K_blushes_7 (by decide) (fun g2 => ?_) (fun g2 => ?_)
  · replace hf := it g2 hf
    refine x_aload_n C d_K_blushes_12 1 rfl ?_
    refine xg_K_fitting C wF_K_56 mc_0 kc_0 d_K_blushes_13 ?_
    refine x_aload_n C d_K_blushes_16 1 rfl ?_
    refine xg_K_now C wF_K_21 mc_0 kc_0 d_K_blushes_17 ?_
    refine x_aload_n C d_K_blushes_20 1 rfl ?_
    refine xg_K_rows C wF_K_11 mc_0 kc_0 d_K_blushes_21 ?_
    refine x_iload_n C d_K_blushes_24 2 rfl ?_
    obtain ⟨z3, hz3, hf⟩ := bs hf
    refine x_aald1 C hz3 mc_1 kc_1 d_K_blushes_25 ?_
    refine xg_S_places C wF_K_99 (ma_S kc_1 hz3) (ka_S kc_1 hz3) d_K_blushes_26 ?_
    obtain ⟨c4, hc4, hf⟩ := bs hf
    refine x_callV (rest := []) (n := 2) C (ct_B_search E F _ _ _ _ mc_23 kc_23 (m_S_places (ka_S kc_1 hz3)) (k_S_places (ka_S kc_1 hz3)) hc4) mi_B_search (by decide) mc_74 ⟨_, cel_B kc_74⟩ rfl rfl wL_K_320 d_K_blushes_29 rfl rfl (Nat.le_of_ble_eq_true rfl) ?_
    show X _ _ _ _ _ _ _ _ _ _ _ _ _ _ _ _ _ _ _ _ _ []
    refine x_aload_n C d_K_blushes_32 1 rfl ?_
    refine x_aload_n C d_K_blushes_33 1 rfl ?_
    refine xg_K_fitting C wF_K_56 mc_0 kc_0 d_K_blushes_34 ?_
    refine xg_B_first C wF_K_323 mc_74 kc_74 d_K_blushes_37 ?_
    refine xp_K_latestAsked (x := (c4 74 1)) C wF_K_68 mc_0 kc_0 d_K_blushes_40 ?_
    refine x_aload_n C d_K_blushes_43 1 rfl ?_
    refine xg_K_fitting C wF_K_56 mc_0 kc_0 d_K_blushes_44 ?_
    refine xg_B_sets C wF_K_326 mc_74 kc_74 d_K_blushes_47 ?_
    cases hf
    exact x_iret C d_K_blushes_50 rfl rfl
  · replace hf := ie g2 hf
    refine x_iload_n C d_K_blushes_10 0 rfl ?_
    cases hf
    exact x_iret C d_K_blushes_11 rfl rfl
set_option maxHeartbeats 4000000 in
set_option maxRecDepth 100000 in
theorem lw_K_clear_31 {p : Program} {l : Launch} {e : Env} {s : State} {m : MethodId} {args : Array Value} {below : List Frame} {meth : Method} {c : Code} {D : va_G} {ad : Nat → Nat} {cs : Nat → ClassId} {A : Nat → Prop} {V : Option Value} {N : Mem} (E : Ev ad cs A LX) (C : Cx p s m args meth c "KissClearing" b_K_clear 4 (some .int) D ad cs A LX) (F : Nat) (k2 : Nat) (hm2 : k2 ∈ LX) (hk2 : kd k2 = 11) : ∀ (n : Nat) (M : Mem) (x3 : Int32) (u0 : (Sum (Int32 × Mem) Mem)), L_K_clear_31 F k2 n M x3 = some u0 → (∀ r, u0 = .inl r → V = some (.int r.1) ∧ N = r.2) →  (∀ u, u0 = .inr u → X p l e 3 s m args below meth c 4 D ad cs A LX V N u 67 [(0, .ref (ad 0)), (2, .ref (ad k2))] []) → X p l e 3 s m args below meth c 4 D ad cs A LX V N M 31 [(0, .ref (ad 0)), (2, .ref (ad k2)), (3, .int x3)] [] := by
  intro n
  induction n with
  | zero => intro M x3 u0 hf; cases hf
  | succ n ih =>
    intro M x3 u0 hf Kr Kx
    replace hf : B_K_clear_31 F k2 (L_K_clear_31 F k2 n) M x3 = some u0 := hf
    unfold B_K_clear_31 at hf
    refine x_iload_n C d_K_clear_31 2 rfl ?_
    refine x_aload_n C d_K_clear_32 1 rfl ?_
    refine xg_S_size C wF_K_109 hm2 hk2 d_K_clear_33 ?_
    refine x_icmp_ge C 67 d_K_clear_36 (by decide) (fun g6 => ?_) (fun g6 => ?_)
    · replace hf := it g6 hf
      cases hf
      exact x_sub [0, 1] rfl (Kx _ rfl)
    · replace hf := ie g6 hf
      refine x_aload_n C d_K_clear_39 0 rfl ?_
      refine xg_K_now C wF_K_21 mc_0 kc_0 d_K_clear_40 ?_
      refine x_aload_n C d_K_clear_43 1 rfl ?_
      refine xg_S_places C wF_K_99 hm2 hk2 d_K_clear_44 ?_
      refine x_iload_n C d_K_clear_47 2 rfl ?_
      obtain ⟨t7, ht7, hf⟩ := bs hf
      refine x_iald C ht7 (m_S_places hk2) (k_S_places hk2) d_K_clear_48 ?_
      obtain ⟨c8, hc8, hf⟩ := bs hf
      refine x_callV (rest := []) (n := 1) C (ct_V_hasDraft E F _ _ _ _ mc_23 kc_23 hc8) mi_V_hasDraft (by decide) mc_23 ⟨_, cel_V kc_23⟩ rfl rfl wL_K_145 d_K_clear_49 rfl rfl (Nat.le_of_ble_eq_true rfl) ?_
      show X _ _ _ _ _ _ _ _ _ _ _ _ _ _ _ _ _ _ _ _ _ [.int c8]
      refine x_if_ne C 61 d_K_clear_52 (by decide) (fun g9 => ?_) (fun g9 => ?_)
      · replace hf := ie g9 hf
        refine x_iinc (v := (x3 + 1)) (lv' := [(3, .int (x3 + 1)), (0, .ref (ad 0)), (2, .ref (ad k2))]) C d_K_clear_61 2 rfl rfl (by decide) rfl ?_
        refine x_goto C 31 d_K_clear_64 (by decide) ?_
        refine x_sub [1, 2, 0] rfl ?_
        exact ih _ _ _ hf Kr Kx
      · replace hf := it g9 hf
        refine x_aload_n C d_K_clear_55 0 rfl ?_
        refine x_iconst (v := 3) C d_K_clear_56 rfl ?_
        obtain ⟨c10, hc10, hf⟩ := bs hf
        refine x_callV (rest := []) (n := 1) C (ct_K_refuse E F _ _ _  hc10) mi_K_refuse (by decide) mc_0 ⟨_, cel_K kc_0⟩ rfl rfl wL_K_88 d_K_clear_57 rfl rfl (Nat.le_of_ble_eq_true rfl) ?_
        show X _ _ _ _ _ _ _ _ _ _ _ _ _ _ _ _ _ _ _ _ _ [.int c10.1]
        cases hf
        obtain ⟨hV, hN⟩ := Kr _ rfl
        exact x_iret C d_K_clear_60 hV hN
set_option maxHeartbeats 4000000 in
set_option maxRecDepth 100000 in
theorem ct_K_clear {l : Launch} {D : va_G} {ad : Nat → Nat} {cs : Nat → ClassId} {A : Nat → Prop} (E : Ev ad cs A LX) (F : Nat) (M : Mem) (x1 : Int32) (R : (Int32 × Mem))  (hf : K_clear F M x1 = some R) : Met l y_K_clear (Cond.code y_K_clear b_K_clear 4 (some .int) :: wl) (rmD 3) (PX D ad cs A LX [.ref (ad 0), .int x1] M) (QX D ad cs A LX (some (.int R.1)) R.2) 0 0 A := by
  refine x_enter (lv := [(0, .ref (ad 0)), (1, .int x1)]) E mi_K_clear.1 (Nat.le_of_ble_eq_true rfl) rfl (fun p e s m args below meth c C => ?_)
  unfold K_clear at hf
  refine x_iload_n C d_K_clear_0 1 rfl ?_
  obtain ⟨c1, hc1, hf⟩ := bs hf
  refine x_callS (rest := []) (n := 1) C (ct_K_isRow E F _ _ _  hc1) mi_K_isRow (by decide) wL_K_84 d_K_clear_1 rfl rfl (Nat.le_of_ble_eq_true rfl) ?_
  show X _ _ _ _ _ _ _ _ _ _ _ _ _ _ _ _ _ _ _ _ _ [.int c1]
  refine x_if_ne C 9 d_K_clear_4 (by decide) (fun g2 => ?_) (fun g2 => ?_)
  · replace hf := ie g2 hf
    refine x_aload_n C d_K_clear_9 0 rfl ?_
    refine xg_K_rows C wF_K_11 mc_0 kc_0 d_K_clear_10 ?_
    refine x_iload_n C d_K_clear_13 1 rfl ?_
    obtain ⟨z3, hz3, hf⟩ := bs hf
    refine x_aald1 C hz3 mc_1 kc_1 d_K_clear_14 ?_
    refine x_astore_n (lv' := [(2, .ref (ad (1 + 1 + 2 * z3))), (0, .ref (ad 0)), (1, .int x1)]) C d_K_clear_15 (by decide) rfl ?_
    refine x_aload_n C d_K_clear_16 0 rfl ?_
    obtain ⟨c4, hc4, hf⟩ := bs hf
    refine x_callV (rest := []) (n := 0) C (ct_S_isMissing E F _ _ _ (ma_S kc_1 hz3) (ka_S kc_1 hz3) hc4) mi_S_isMissing (by decide) (ma_S kc_1 hz3) ⟨_, cel_S (ka_S kc_1 hz3)⟩ rfl rfl wL_K_105 d_K_clear_17 rfl rfl (Nat.le_of_ble_eq_true rfl) ?_
    show X _ _ _ _ _ _ _ _ _ _ _ _ _ _ _ _ _ _ _ _ _ [.int c4]
    refine x_if_eq C 29 d_K_clear_20 (by decide) (fun g5 => ?_) (fun g5 => ?_)
    · replace hf := it g5 hf
      refine x_iconst (v := 0) C d_K_clear_29 rfl ?_
      refine x_istore_n (lv' := [(3, .int 0), (2, .ref (ad (1 + 1 + 2 * z3))), (0, .ref (ad 0)), (1, .int x1)]) C d_K_clear_30 (by decide) rfl ?_
      obtain ⟨u11, hu11, hf⟩ := bs hf
      refine x_sub [2, 1, 0] rfl ?_
      refine lw_K_clear_31 E C F _ (ma_S kc_1 hz3) (ka_S kc_1 hz3) _ _ _ _ hu11 (fun r12 hr12 => ?_) (fun w13 hw13 => ?_)
      · subst hr12
        replace hf := se_l hf
        cases hf
        exact ⟨rfl, rfl⟩
      · subst hw13
        replace hf := se_r hf
        refine x_aload_n C d_K_clear_67 0 rfl ?_
        refine xg_K_now C wF_K_21 mc_0 kc_0 d_K_clear_68 ?_
        refine x_aload_n C d_K_clear_71 1 rfl ?_
        refine xg_S_places C wF_K_99 (ma_S kc_1 hz3) (ka_S kc_1 hz3) d_K_clear_72 ?_
        refine x_aload_n C d_K_clear_75 1 rfl ?_
        refine xg_S_size C wF_K_109 (ma_S kc_1 hz3) (ka_S kc_1 hz3) d_K_clear_76 ?_
        obtain ⟨c14, hc14, hf⟩ := bs hf
        refine x_callV (rest := []) (n := 2) C (ct_V_isRing E F _ _ _ _ _ mc_23 kc_23 (m_S_places (ka_S kc_1 hz3)) (k_S_places (ka_S kc_1 hz3)) hc14) mi_V_isRing (by decide) mc_23 ⟨_, cel_V kc_23⟩ rfl rfl wL_K_205 d_K_clear_79 rfl rfl (Nat.le_of_ble_eq_true rfl) ?_
        show X _ _ _ _ _ _ _ _ _ _ _ _ _ _ _ _ _ _ _ _ _ [.int c14]
        refine x_if_ne C 88 d_K_clear_82 (by decide) (fun g15 => ?_) (fun g15 => ?_)
        · replace hf := ie g15 hf
          refine x_aload_n C d_K_clear_88 0 rfl ?_
          refine xg_K_history C wF_K_31 mc_0 kc_0 d_K_clear_89 ?_
          refine x_iconst (v := 1) C d_K_clear_92 rfl ?_
          obtain ⟨c16, hc16, hf⟩ := bs hf
          refine x_callV (rest := []) (n := 1) C (ct_H_isFullFor E F _ _ _ _ mc_53 kc_53 hc16) mi_H_isFullFor (by decide) mc_53 ⟨_, cel_H kc_53⟩ rfl rfl wL_K_189 d_K_clear_93 rfl rfl (Nat.le_of_ble_eq_true rfl) ?_
          show X _ _ _ _ _ _ _ _ _ _ _ _ _ _ _ _ _ _ _ _ _ [.int c16]
          refine x_if_eq C 102 d_K_clear_96 (by decide) (fun g17 => ?_) (fun g17 => ?_)
          · replace hf := it g17 hf
            refine x_aload_n C d_K_clear_102 0 rfl ?_
            refine xg_K_history C wF_K_31 mc_0 kc_0 d_K_clear_103 ?_
            refine x_aload_n C d_K_clear_106 0 rfl ?_
            refine xg_K_now C wF_K_21 mc_0 kc_0 d_K_clear_107 ?_
            obtain ⟨c18, hc18, hf⟩ := bs hf
            refine x_callV (rest := []) (n := 1) C (ct_H_begin E F _ _ _ _ mc_53 kc_53 mc_23 kc_23 hc18) mi_H_begin (by decide) mc_53 ⟨_, cel_H kc_53⟩ rfl rfl wL_K_192 d_K_clear_110 rfl rfl (Nat.le_of_ble_eq_true rfl) ?_
            show X _ _ _ _ _ _ _ _ _ _ _ _ _ _ _ _ _ _ _ _ _ []
            refine x_aload_n C d_K_clear_113 0 rfl ?_
            refine xg_K_now C wF_K_21 mc_0 kc_0 d_K_clear_114 ?_
            refine x_aload_n C d_K_clear_117 1 rfl ?_
            refine xg_S_places C wF_K_99 (ma_S kc_1 hz3) (ka_S kc_1 hz3) d_K_clear_118 ?_
            refine x_aload_n C d_K_clear_121 1 rfl ?_
            refine xg_S_size C wF_K_109 (ma_S kc_1 hz3) (ka_S kc_1 hz3) d_K_clear_122 ?_
            obtain ⟨c19, hc19, hf⟩ := bs hf
            refine x_callV (rest := []) (n := 2) C (ct_V_clearRing E F _ _ _ _ _ mc_23 kc_23 (m_S_places (ka_S kc_1 hz3)) (k_S_places (ka_S kc_1 hz3)) hc19) mi_V_clearRing (by decide) mc_23 ⟨_, cel_V kc_23⟩ rfl rfl wL_K_209 d_K_clear_125 rfl rfl (Nat.le_of_ble_eq_true rfl) ?_
            show X _ _ _ _ _ _ _ _ _ _ _ _ _ _ _ _ _ _ _ _ _ [.int c19.1]
            cases hf
            exact x_iret C d_K_clear_128 rfl rfl
          · replace hf := ie g17 hf
            refine x_bipush (v := (-2)) C d_K_clear_99 rfl ?_
            cases hf
            exact x_iret C d_K_clear_101 rfl rfl
        · replace hf := it g15 hf
          refine x_bipush (v := (-4)) C d_K_clear_85 rfl ?_
          cases hf
          exact x_iret C d_K_clear_87 rfl rfl
    · replace hf := ie g5 hf
      refine x_aload_n C d_K_clear_23 1 rfl ?_
      refine x_iconst (v := 1) C d_K_clear_24 rfl ?_
      obtain ⟨c20, hc20, hf⟩ := bs hf
      refine x_callV (rest := []) (n := 1) C (ct_K_refuse E F _ _ _  hc20) mi_K_refuse (by decide) mc_0 ⟨_, cel_K kc_0⟩ rfl rfl wL_K_88 d_K_clear_25 rfl rfl (Nat.le_of_ble_eq_true rfl) ?_
      show X _ _ _ _ _ _ _ _ _ _ _ _ _ _ _ _ _ _ _ _ _ [.int c20.1]
      cases hf
      exact x_iret C d_K_clear_28 rfl rfl
  · replace hf := it g2 hf
    refine x_iconst (v := (-1)) C d_K_clear_7 rfl ?_
    cases hf
    exact x_iret C d_K_clear_8 rfl rfl
set_option maxHeartbeats 4000000 in
set_option maxRecDepth 100000 in
theorem ct_K_copy {l : Launch} {D : va_G} {ad : Nat → Nat} {cs : Nat → ClassId} {A : Nat → Prop} (E : Ev ad cs A LX) (F : Nat) (M : Mem) (x1 : Int32) (x2 : Int32) (x3 : Int32) (x4 : Int32) (x5 : Int32) (R : (Int32 × Mem))  (hf : K_copy F M x1 x2 x3 x4 x5 = some R) : Met l y_K_copy (Cond.code y_K_copy b_K_copy 6 (some .int) :: wl) (rmD 1) (PX D ad cs A LX [.ref (ad 0), .int x1, .int x2, .int x3, .int x4, .int x5] M) (QX D ad cs A LX (some (.int R.1)) R.2) 0 0 A := by
  refine x_enter (lv := [(0, .ref (ad 0)), (1, .int x1), (2, .int x2), (3, .int x3), (4, .int x4), (5, .int x5)]) E mi_K_copy.1 (Nat.le_of_ble_eq_true rfl) rfl (fun p e s m args below meth c C => ?_)
  unfold K_copy at hf
  refine x_iload_n C d_K_copy_0 1 rfl ?_
  obtain ⟨c1, hc1, hf⟩ := bs hf
  refine x_callS (rest := []) (n := 1) C (ct_K_isRow E F _ _ _  hc1) mi_K_isRow (by decide) wL_K_84 d_K_copy_1 rfl rfl (Nat.le_of_ble_eq_true rfl) ?_
  show X _ _ _ _ _ _ _ _ _ _ _ _ _ _ _ _ _ _ _ _ _ [.int c1]
  refine x_if_eq C 14 d_K_copy_4 (by decide) (fun g2 => ?_) (fun g2 => ?_)
  · replace hf := it g2 hf
    refine x_iconst (v := (-1)) C d_K_copy_14 rfl ?_
    cases hf
    exact x_iret C d_K_copy_15 rfl rfl
  · replace hf := ie g2 hf
    refine x_iload_n C d_K_copy_7 3 rfl ?_
    obtain ⟨c3, hc3, hf⟩ := bs hf
    refine x_callS (rest := []) (n := 1) C (ct_K_isRow E F _ _ _  hc3) mi_K_isRow (by decide) wL_K_84 d_K_copy_8 rfl rfl (Nat.le_of_ble_eq_true rfl) ?_
    show X _ _ _ _ _ _ _ _ _ _ _ _ _ _ _ _ _ _ _ _ _ [.int c3]
    refine x_if_ne C 16 d_K_copy_11 (by decide) (fun g4 => ?_) (fun g4 => ?_)
    · replace hf := ie g4 hf
      refine x_iload C d_K_copy_16 5 rfl ?_
      refine x_if_ge C 27 d_K_copy_18 (by decide) (fun g5 => ?_) (fun g5 => ?_)
      · replace hf := it g5 hf
        refine x_aload_n C d_K_copy_27 0 rfl ?_
        refine xg_K_rows C wF_K_11 mc_0 kc_0 d_K_copy_28 ?_
        refine x_iload_n C d_K_copy_31 1 rfl ?_
        obtain ⟨z6, hz6, hf⟩ := bs hf
        refine x_aald1 C hz6 mc_1 kc_1 d_K_copy_32 ?_
        obtain ⟨c7, hc7, hf⟩ := bs hf
        refine x_callV (rest := []) (n := 0) C (ct_S_isMissing E F _ _ _ (ma_S kc_1 hz6) (ka_S kc_1 hz6) hc7) mi_S_isMissing (by decide) (ma_S kc_1 hz6) ⟨_, cel_S (ka_S kc_1 hz6)⟩ rfl rfl wL_K_105 d_K_copy_33 rfl rfl (Nat.le_of_ble_eq_true rfl) ?_
        show X _ _ _ _ _ _ _ _ _ _ _ _ _ _ _ _ _ _ _ _ _ [.int c7]
        refine x_if_ne C 51 d_K_copy_36 (by decide) (fun g8 => ?_) (fun g8 => ?_)
        · replace hf := ie g8 hf
          refine x_aload_n C d_K_copy_51 0 rfl ?_
          refine x_iconst (v := 1) C d_K_copy_52 rfl ?_
          obtain ⟨c9, hc9, hf⟩ := bs hf
          refine x_callV (rest := []) (n := 1) C (ct_K_refuse E F _ _ _  hc9) mi_K_refuse (by decide) mc_0 ⟨_, cel_K kc_0⟩ rfl rfl wL_K_88 d_K_copy_53 rfl rfl (Nat.le_of_ble_eq_true rfl) ?_
          show X _ _ _ _ _ _ _ _ _ _ _ _ _ _ _ _ _ _ _ _ _ [.int c9.1]
          cases hf
          exact x_iret C d_K_copy_56 rfl rfl
        · replace hf := it g8 hf
          refine x_aload_n C d_K_copy_39 0 rfl ?_
          refine xg_K_rows C wF_K_11 mc_0 kc_0 d_K_copy_40 ?_
          refine x_iload_n C d_K_copy_43 3 rfl ?_
          obtain ⟨z10, hz10, hf⟩ := bs hf
          refine x_aald1 C hz10 mc_1 kc_1 d_K_copy_44 ?_
          obtain ⟨c11, hc11, hf⟩ := bs hf
          refine x_callV (rest := []) (n := 0) C (ct_S_isMissing E F _ _ _ (ma_S kc_1 hz10) (ka_S kc_1 hz10) hc11) mi_S_isMissing (by decide) (ma_S kc_1 hz10) ⟨_, cel_S (ka_S kc_1 hz10)⟩ rfl rfl wL_K_105 d_K_copy_45 rfl rfl (Nat.le_of_ble_eq_true rfl) ?_
          show X _ _ _ _ _ _ _ _ _ _ _ _ _ _ _ _ _ _ _ _ _ [.int c11]
          refine x_if_eq C 57 d_K_copy_48 (by decide) (fun g12 => ?_) (fun g12 => ?_)
          · replace hf := it g12 hf
            refine x_aload_n C d_K_copy_57 0 rfl ?_
            refine xg_K_rows C wF_K_11 mc_0 kc_0 d_K_copy_58 ?_
            refine x_iload_n C d_K_copy_61 1 rfl ?_
            obtain ⟨z13, hz13, hf⟩ := bs hf
            refine x_aald1 C hz13 mc_1 kc_1 d_K_copy_62 ?_
            refine x_iload_n C d_K_copy_63 2 rfl ?_
            refine x_iload C d_K_copy_64 5 rfl ?_
            obtain ⟨c14, hc14, hf⟩ := bs hf
            refine x_callV (rest := []) (n := 2) C (ct_S_hasStretch E F _ _ _ _ _ (ma_S kc_1 hz13) (ka_S kc_1 hz13) hc14) mi_S_hasStretch (by decide) (ma_S kc_1 hz13) ⟨_, cel_S (ka_S kc_1 hz13)⟩ rfl rfl wL_K_112 d_K_copy_66 rfl rfl (Nat.le_of_ble_eq_true rfl) ?_
            show X _ _ _ _ _ _ _ _ _ _ _ _ _ _ _ _ _ _ _ _ _ [.int c14]
            refine x_if_eq C 88 d_K_copy_69 (by decide) (fun g15 => ?_) (fun g15 => ?_)
            · replace hf := it g15 hf
              refine x_aload_n C d_K_copy_88 0 rfl ?_
              refine x_iconst (v := 2) C d_K_copy_89 rfl ?_
              obtain ⟨c16, hc16, hf⟩ := bs hf
              refine x_callV (rest := []) (n := 1) C (ct_K_refuse E F _ _ _  hc16) mi_K_refuse (by decide) mc_0 ⟨_, cel_K kc_0⟩ rfl rfl wL_K_88 d_K_copy_90 rfl rfl (Nat.le_of_ble_eq_true rfl) ?_
              show X _ _ _ _ _ _ _ _ _ _ _ _ _ _ _ _ _ _ _ _ _ [.int c16.1]
              cases hf
              exact x_iret C d_K_copy_93 rfl rfl
            · replace hf := ie g15 hf
              refine x_aload_n C d_K_copy_72 0 rfl ?_
              refine xg_K_rows C wF_K_11 mc_0 kc_0 d_K_copy_73 ?_
              refine x_iload_n C d_K_copy_76 3 rfl ?_
              obtain ⟨z17, hz17, hf⟩ := bs hf
              refine x_aald1 C hz17 mc_1 kc_1 d_K_copy_77 ?_
              refine x_iload C d_K_copy_78 4 rfl ?_
              refine x_iload C d_K_copy_80 5 rfl ?_
              obtain ⟨c18, hc18, hf⟩ := bs hf
              refine x_callV (rest := []) (n := 2) C (ct_S_hasStretch E F _ _ _ _ _ (ma_S kc_1 hz17) (ka_S kc_1 hz17) hc18) mi_S_hasStretch (by decide) (ma_S kc_1 hz17) ⟨_, cel_S (ka_S kc_1 hz17)⟩ rfl rfl wL_K_112 d_K_copy_82 rfl rfl (Nat.le_of_ble_eq_true rfl) ?_
              show X _ _ _ _ _ _ _ _ _ _ _ _ _ _ _ _ _ _ _ _ _ [.int c18]
              refine x_if_ne C 94 d_K_copy_85 (by decide) (fun g19 => ?_) (fun g19 => ?_)
              · replace hf := ie g19 hf
                refine x_aload_n C d_K_copy_94 0 rfl ?_
                refine xg_K_rows C wF_K_11 mc_0 kc_0 d_K_copy_95 ?_
                refine x_iload_n C d_K_copy_98 1 rfl ?_
                obtain ⟨z20, hz20, hf⟩ := bs hf
                refine x_aald1 C hz20 mc_1 kc_1 d_K_copy_99 ?_
                refine xg_S_places C wF_K_99 (ma_S kc_1 hz20) (ka_S kc_1 hz20) d_K_copy_100 ?_
                refine x_iload_n C d_K_copy_103 2 rfl ?_
                refine x_aload_n C d_K_copy_104 0 rfl ?_
                refine xg_K_rows C wF_K_11 mc_0 kc_0 d_K_copy_105 ?_
                refine x_iload_n C d_K_copy_108 3 rfl ?_
                obtain ⟨z21, hz21, hf⟩ := bs hf
                refine x_aald1 C hz21 mc_1 kc_1 d_K_copy_109 ?_
                refine xg_S_places C wF_K_99 (ma_S kc_1 hz21) (ka_S kc_1 hz21) d_K_copy_110 ?_
                refine x_iload C d_K_copy_113 4 rfl ?_
                refine x_iload C d_K_copy_115 5 rfl ?_
                obtain ⟨M22, hM22, hf⟩ := bs hf
                refine x_acp C hM22 wL_K_116 (by decide) (Nat.le_of_ble_eq_true rfl) (m_S_places (ka_S kc_1 hz20)) (k_S_places (ka_S kc_1 hz20)) (m_S_places (ka_S kc_1 hz21)) (k_S_places (ka_S kc_1 hz21)) d_K_copy_117 ?_
                refine x_iconst (v := 1) C d_K_copy_120 rfl ?_
                cases hf
                exact x_iret C d_K_copy_121 rfl rfl
              · replace hf := it g19 hf
                refine x_aload_n C d_K_copy_88 0 rfl ?_
                refine x_iconst (v := 2) C d_K_copy_89 rfl ?_
                obtain ⟨c23, hc23, hf⟩ := bs hf
                refine x_callV (rest := []) (n := 1) C (ct_K_refuse E F _ _ _  hc23) mi_K_refuse (by decide) mc_0 ⟨_, cel_K kc_0⟩ rfl rfl wL_K_88 d_K_copy_90 rfl rfl (Nat.le_of_ble_eq_true rfl) ?_
                show X _ _ _ _ _ _ _ _ _ _ _ _ _ _ _ _ _ _ _ _ _ [.int c23.1]
                cases hf
                exact x_iret C d_K_copy_93 rfl rfl
          · replace hf := ie g12 hf
            refine x_aload_n C d_K_copy_51 0 rfl ?_
            refine x_iconst (v := 1) C d_K_copy_52 rfl ?_
            obtain ⟨c24, hc24, hf⟩ := bs hf
            refine x_callV (rest := []) (n := 1) C (ct_K_refuse E F _ _ _  hc24) mi_K_refuse (by decide) mc_0 ⟨_, cel_K kc_0⟩ rfl rfl wL_K_88 d_K_copy_53 rfl rfl (Nat.le_of_ble_eq_true rfl) ?_
            show X _ _ _ _ _ _ _ _ _ _ _ _ _ _ _ _ _ _ _ _ _ [.int c24.1]
            cases hf
            exact x_iret C d_K_copy_56 rfl rfl
      · replace hf := ie g5 hf
        refine x_aload_n C d_K_copy_21 0 rfl ?_
        refine x_iconst (v := 5) C d_K_copy_22 rfl ?_
        obtain ⟨c25, hc25, hf⟩ := bs hf
        refine x_callV (rest := []) (n := 1) C (ct_K_refuse E F _ _ _  hc25) mi_K_refuse (by decide) mc_0 ⟨_, cel_K kc_0⟩ rfl rfl wL_K_88 d_K_copy_23 rfl rfl (Nat.le_of_ble_eq_true rfl) ?_
        show X _ _ _ _ _ _ _ _ _ _ _ _ _ _ _ _ _ _ _ _ _ [.int c25.1]
        cases hf
        exact x_iret C d_K_copy_26 rfl rfl
    · replace hf := it g4 hf
      refine x_iconst (v := (-1)) C d_K_copy_14 rfl ?_
      cases hf
      exact x_iret C d_K_copy_15 rfl rfl
set_option maxHeartbeats 4000000 in
set_option maxRecDepth 100000 in
theorem lw_K_thoseThere_4 {p : Program} {l : Launch} {e : Env} {s : State} {m : MethodId} {args : Array Value} {below : List Frame} {meth : Method} {c : Code} {D : va_G} {ad : Nat → Nat} {cs : Nat → ClassId} {A : Nat → Prop} {V : Option Value} {N : Mem} (E : Ev ad cs A LX) (C : Cx p s m args meth c "KissClearing" b_K_thoseThere 3 (some .int) D ad cs A LX) (F : Nat) (M : Mem) (k0 : Nat) (hm0 : k0 ∈ LX) (hk0 : kd k0 = 1) : ∀ (n : Nat) (x1 : Int32) (x2 : Int32) (u : Int32), L_K_thoseThere_4 F M k0 n x1 x2 = some u → X p l e 1 s m args below meth c 3 D ad cs A LX V N M 28 [(1, .int u)] [] → X p l e 1 s m args below meth c 3 D ad cs A LX V N M 4 [(0, .ref (ad k0)), (1, .int x1), (2, .int x2)] [] := by
  intro n
  induction n with
  | zero => intro x1 x2 u hf; cases hf
  | succ n ih =>
    intro x1 x2 u hf K
    replace hf : B_K_thoseThere_4 F M k0 (L_K_thoseThere_4 F M k0 n) x1 x2 = some u := hf
    unfold B_K_thoseThere_4 at hf
    refine x_iload_n C d_K_thoseThere_4 2 rfl ?_
    refine x_aload_n C d_K_thoseThere_5 0 rfl ?_
    refine x_alenq (v := (Int32.ofNat (ln k0))) C hm0 hk0 rfl d_K_thoseThere_6 ?_
    refine x_icmp_ge C 28 d_K_thoseThere_7 (by decide) (fun g1 => ?_) (fun g1 => ?_)
    · replace hf := it g1 hf
      cases hf
      exact x_sub [1] rfl K
    · replace hf := ie g1 hf
      refine x_aload_n C d_K_thoseThere_10 0 rfl ?_
      refine x_iload_n C d_K_thoseThere_11 2 rfl ?_
      obtain ⟨z2, hz2, hf⟩ := bs hf
      refine x_aald1 C hz2 hm0 hk0 d_K_thoseThere_12 ?_
      obtain ⟨c3, hc3, hf⟩ := bs hf
      refine x_callV (rest := []) (n := 0) C (ct_S_isMissing E F _ _ _ (ma_S hk0 hz2) (ka_S hk0 hz2) hc3) mi_S_isMissing (by decide) (ma_S hk0 hz2) ⟨_, cel_S (ka_S hk0 hz2)⟩ rfl rfl wL_K_105 d_K_thoseThere_13 rfl rfl (Nat.le_of_ble_eq_true rfl) ?_
      show X _ _ _ _ _ _ _ _ _ _ _ _ _ _ _ _ _ _ _ _ _ [.int c3]
      refine x_if_ne C 22 d_K_thoseThere_16 (by decide) (fun g4 => ?_) (fun g4 => ?_)
      · replace hf := ie g4 hf
        refine x_iinc (v := (x2 + 1)) (lv' := [(2, .int (x2 + 1)), (0, .ref (ad k0)), (1, .int x1)]) C d_K_thoseThere_22 2 rfl rfl (by decide) rfl ?_
        refine x_goto C 4 d_K_thoseThere_25 (by decide) ?_
        refine x_sub [1, 2, 0] rfl ?_
        exact ih _ _ _ hf K
      · replace hf := it g4 hf
        refine x_iinc (v := (x1 + 1)) (lv' := [(1, .int (x1 + 1)), (0, .ref (ad k0)), (2, .int x2)]) C d_K_thoseThere_19 1 rfl rfl (by decide) rfl ?_
        refine x_iinc (v := (x2 + 1)) (lv' := [(2, .int (x2 + 1)), (1, .int (x1 + 1)), (0, .ref (ad k0))]) C d_K_thoseThere_22 2 rfl rfl (by decide) rfl ?_
        refine x_goto C 4 d_K_thoseThere_25 (by decide) ?_
        refine x_sub [2, 1, 0] rfl ?_
        exact ih _ _ _ hf K
set_option maxHeartbeats 4000000 in
set_option maxRecDepth 100000 in
theorem ct_K_thoseThere {l : Launch} {D : va_G} {ad : Nat → Nat} {cs : Nat → ClassId} {A : Nat → Prop} (E : Ev ad cs A LX) (F : Nat) (M : Mem) (k0 : Nat) (R : Int32) (hm0 : k0 ∈ LX) (hk0 : kd k0 = 1) (hf : K_thoseThere F M k0 = some R) : Met l y_K_thoseThere (Cond.code y_K_thoseThere b_K_thoseThere 3 (some .int) :: wl) (rmD 1) (PX D ad cs A LX [.ref (ad k0)] M) (QX D ad cs A LX (some (.int R)) M) 0 0 A := by
  refine x_enter (lv := [(0, .ref (ad k0))]) E mi_K_thoseThere.1 (Nat.le_of_ble_eq_true rfl) rfl (fun p e s m args below meth c C => ?_)
  unfold K_thoseThere at hf
  refine x_iconst (v := 0) C d_K_thoseThere_0 rfl ?_
  refine x_istore_n (lv' := [(1, .int 0), (0, .ref (ad k0))]) C d_K_thoseThere_1 (by decide) rfl ?_
  refine x_iconst (v := 0) C d_K_thoseThere_2 rfl ?_
  refine x_istore_n (lv' := [(2, .int 0), (1, .int 0), (0, .ref (ad k0))]) C d_K_thoseThere_3 (by decide) rfl ?_
  obtain ⟨u5, hu5, hf⟩ := bs hf
  refine x_sub [2, 1, 0] rfl ?_
  refine lw_K_thoseThere_4 E C F _ _ hm0 hk0 _ _ _ _ hu5 ?_
  refine x_iload_n C d_K_thoseThere_28 0 rfl ?_
  cases hf
  exact x_iret C d_K_thoseThere_29 rfl rfl
set_option maxHeartbeats 4000000 in
set_option maxRecDepth 100000 in
theorem lw_K_keptVillages_4 {p : Program} {l : Launch} {e : Env} {s : State} {m : MethodId} {args : Array Value} {below : List Frame} {meth : Method} {c : Code} {D : va_G} {ad : Nat → Nat} {cs : Nat → ClassId} {A : Nat → Prop} {V : Option Value} {N : Mem} (E : Ev ad cs A LX) (C : Cx p s m args meth c "KissClearing" b_K_keptVillages 3 (some .int) D ad cs A LX) (F : Nat) (M : Mem)  : ∀ (n : Nat) (x1 : Int32) (x2 : Int32) (u : Int32), L_K_keptVillages_4 F M n x1 x2 = some u → X p l e 0 s m args below meth c 3 D ad cs A LX V N M 31 [(1, .int u)] [] → X p l e 0 s m args below meth c 3 D ad cs A LX V N M 4 [(0, .ref (ad 0)), (1, .int x1), (2, .int x2)] [] := by
  intro n
  induction n with
  | zero => intro x1 x2 u hf; cases hf
  | succ n ih =>
    intro x1 x2 u hf K
    replace hf : B_K_keptVillages_4 F M (L_K_keptVillages_4 F M n) x1 x2 = some u := hf
    unfold B_K_keptVillages_4 at hf
    refine x_iload_n C d_K_keptVillages_4 2 rfl ?_
    refine x_iconst (v := 3) C d_K_keptVillages_5 rfl ?_
    refine x_icmp_ge C 31 d_K_keptVillages_6 (by decide) (fun g1 => ?_) (fun g1 => ?_)
    · replace hf := it g1 hf
      cases hf
      exact x_sub [1] rfl K
    · replace hf := ie g1 hf
      refine x_aload_n C d_K_keptVillages_9 0 rfl ?_
      refine xg_K_kept C wF_K_35 mc_0 kc_0 d_K_keptVillages_10 ?_
      refine x_iload_n C d_K_keptVillages_13 2 rfl ?_
      obtain ⟨z2, hz2, hf⟩ := bs hf
      refine x_aald3 C hz2 mc_56 kc_56 d_K_keptVillages_14 ?_
      refine xg_H_deeds C wF_K_81 (ma_H kc_56 hz2) (ka_H kc_56 hz2) d_K_keptVillages_15 ?_
      refine x_iconst (v := (-1)) C d_K_keptVillages_18 rfl ?_
      refine x_icmp_eq C 25 d_K_keptVillages_19 (by decide) (fun g3 => ?_) (fun g3 => ?_)
      · replace hf := it g3 hf
        refine x_iinc (v := (x2 + 1)) (lv' := [(2, .int (x2 + 1)), (0, .ref (ad 0)), (1, .int x1)]) C d_K_keptVillages_25 2 rfl rfl (by decide) rfl ?_
        refine x_goto C 4 d_K_keptVillages_28 (by decide) ?_
        refine x_sub [1, 2, 0] rfl ?_
        exact ih _ _ _ hf K
      · replace hf := ie g3 hf
        refine x_iinc (v := (x1 + 1)) (lv' := [(1, .int (x1 + 1)), (0, .ref (ad 0)), (2, .int x2)]) C d_K_keptVillages_22 1 rfl rfl (by decide) rfl ?_
        refine x_iinc (v := (x2 + 1)) (lv' := [(2, .int (x2 + 1)), (1, .int (x1 + 1)), (0, .ref (ad 0))]) C d_K_keptVillages_25 2 rfl rfl (by decide) rfl ?_
        refine x_goto C 4 d_K_keptVillages_28 (by decide) ?_
        refine x_sub [2, 1, 0] rfl ?_
        exact ih _ _ _ hf K
set_option maxHeartbeats 4000000 in
set_option maxRecDepth 100000 in
theorem ct_K_keptVillages {l : Launch} {D : va_G} {ad : Nat → Nat} {cs : Nat → ClassId} {A : Nat → Prop} (E : Ev ad cs A LX) (F : Nat) (M : Mem)  (R : Int32)  (hf : K_keptVillages F M = some R) : Met l y_K_keptVillages (Cond.code y_K_keptVillages b_K_keptVillages 3 (some .int) :: wl) (rmD 0) (PX D ad cs A LX [.ref (ad 0)] M) (QX D ad cs A LX (some (.int R)) M) 0 0 A := by
  refine x_enter (lv := [(0, .ref (ad 0))]) E mi_K_keptVillages.1 (Nat.le_of_ble_eq_true rfl) rfl (fun p e s m args below meth c C => ?_)
  unfold K_keptVillages at hf
  refine x_iconst (v := 0) C d_K_keptVillages_0 rfl ?_
  refine x_istore_n (lv' := [(1, .int 0), (0, .ref (ad 0))]) C d_K_keptVillages_1 (by decide) rfl ?_
  refine x_iconst (v := 0) C d_K_keptVillages_2 rfl ?_
  refine x_istore_n (lv' := [(2, .int 0), (1, .int 0), (0, .ref (ad 0))]) C d_K_keptVillages_3 (by decide) rfl ?_
  obtain ⟨u4, hu4, hf⟩ := bs hf
  refine x_sub [2, 1, 0] rfl ?_
  refine lw_K_keptVillages_4 E C F _ _ _ _ _ hu4 ?_
  refine x_iload_n C d_K_keptVillages_31 0 rfl ?_
  cases hf
  exact x_iret C d_K_keptVillages_32 rfl rfl
set_option maxHeartbeats 4000000 in
set_option maxRecDepth 100000 in
theorem ct_K_howMany {l : Launch} {D : va_G} {ad : Nat → Nat} {cs : Nat → ClassId} {A : Nat → Prop} (E : Ev ad cs A LX) (F : Nat) (M : Mem) (x1 : Int32) (R : Int32)  (hf : K_howMany F M x1 = some R) : Met l y_K_howMany (Cond.code y_K_howMany b_K_howMany 2 (some .int) :: wl) (rmD 4) (PX D ad cs A LX [.ref (ad 0), .int x1] M) (QX D ad cs A LX (some (.int R)) M) 0 0 A := by
  refine x_enter (lv := [(0, .ref (ad 0)), (1, .int x1)]) E mi_K_howMany.1 (Nat.le_of_ble_eq_true rfl) rfl (fun p e s m args below meth c C => ?_)
  unfold K_howMany at hf
  refine x_iload_n C d_K_howMany_0 1 rfl ?_
  rcases Classical.em (x1 = 0) with g1 | g1
  · replace hf := it g1 hf
    refine x_tswIn C 48 g1 d_K_howMany_1 (by decide) (by decide) rfl (by decide) ?_
    refine x_aload_n C d_K_howMany_48 0 rfl ?_
    refine xg_K_now C wF_K_21 mc_0 kc_0 d_K_howMany_49 ?_
    refine xg_V_personCount C wF_K_135 mc_23 kc_23 d_K_howMany_52 ?_
    cases hf
    exact x_iret C d_K_howMany_55 rfl rfl
  · replace hf := ie g1 hf
    rcases Classical.em (x1 = 1) with g2 | g2
    · replace hf := it g2 hf
      refine x_tswIn C 56 g2 d_K_howMany_1 (by decide) (by decide) rfl (by decide) ?_
      refine x_aload_n C d_K_howMany_56 0 rfl ?_
      refine xg_K_now C wF_K_21 mc_0 kc_0 d_K_howMany_57 ?_
      refine xg_V_draftCount C wF_K_186 mc_23 kc_23 d_K_howMany_60 ?_
      cases hf
      exact x_iret C d_K_howMany_63 rfl rfl
    · replace hf := ie g2 hf
      rcases Classical.em (x1 = 2) with g3 | g3
      · replace hf := it g3 hf
        refine x_tswIn C 64 g3 d_K_howMany_1 (by decide) (by decide) rfl (by decide) ?_
        refine x_aload_n C d_K_howMany_64 0 rfl ?_
        refine xg_K_history C wF_K_31 mc_0 kc_0 d_K_howMany_65 ?_
        refine xg_H_deeds C wF_K_81 mc_53 kc_53 d_K_howMany_68 ?_
        cases hf
        exact x_iret C d_K_howMany_71 rfl rfl
      · replace hf := ie g3 hf
        rcases Classical.em (x1 = 3) with g4 | g4
        · replace hf := it g4 hf
          refine x_tswIn C 72 g4 d_K_howMany_1 (by decide) (by decide) rfl (by decide) ?_
          refine x_aload_n C d_K_howMany_72 0 rfl ?_
          refine xg_K_now C wF_K_21 mc_0 kc_0 d_K_howMany_73 ?_
          obtain ⟨c5, hc5, hf⟩ := bs hf
          refine x_callV (rest := []) (n := 0) C (ct_V_openDrafts E F _ _ _ mc_23 kc_23 hc5) mi_V_openDrafts (by decide) mc_23 ⟨_, cel_V kc_23⟩ rfl rfl wL_K_364 d_K_howMany_76 rfl rfl (Nat.le_of_ble_eq_true rfl) ?_
          show X _ _ _ _ _ _ _ _ _ _ _ _ _ _ _ _ _ _ _ _ _ [.int c5]
          cases hf
          exact x_iret C d_K_howMany_79 rfl rfl
        · replace hf := ie g4 hf
          rcases Classical.em (x1 = 4) with g6 | g6
          · replace hf := it g6 hf
            refine x_tswIn C 80 g6 d_K_howMany_1 (by decide) (by decide) rfl (by decide) ?_
            refine x_aload_n C d_K_howMany_80 0 rfl ?_
            refine xg_K_now C wF_K_21 mc_0 kc_0 d_K_howMany_81 ?_
            refine x_iconst (v := 0) C d_K_howMany_84 rfl ?_
            obtain ⟨c7, hc7, hf⟩ := bs hf
            refine x_callV (rest := []) (n := 1) C (ct_V_kissesOfSort E F _ _ _ _ mc_23 kc_23 hc7) mi_V_kissesOfSort (by decide) mc_23 ⟨_, cel_V kc_23⟩ rfl rfl wL_K_283 d_K_howMany_85 rfl rfl (Nat.le_of_ble_eq_true rfl) ?_
            show X _ _ _ _ _ _ _ _ _ _ _ _ _ _ _ _ _ _ _ _ _ [.int c7]
            refine x_aload_n C d_K_howMany_88 0 rfl ?_
            refine xg_K_now C wF_K_21 mc_0 kc_0 d_K_howMany_89 ?_
            refine x_iconst (v := 1) C d_K_howMany_92 rfl ?_
            obtain ⟨c8, hc8, hf⟩ := bs hf
            refine x_callV (rest := [.int c7]) (n := 1) C (ct_V_kissesOfSort E F _ _ _ _ mc_23 kc_23 hc8) mi_V_kissesOfSort (by decide) mc_23 ⟨_, cel_V kc_23⟩ rfl rfl wL_K_283 d_K_howMany_93 rfl rfl (Nat.le_of_ble_eq_true rfl) ?_
            show X _ _ _ _ _ _ _ _ _ _ _ _ _ _ _ _ _ _ _ _ _ [.int c8, .int c7]
            refine x_iadd C d_K_howMany_96 ?_
            refine x_aload_n C d_K_howMany_97 0 rfl ?_
            refine xg_K_now C wF_K_21 mc_0 kc_0 d_K_howMany_98 ?_
            refine x_iconst (v := 2) C d_K_howMany_101 rfl ?_
            obtain ⟨c9, hc9, hf⟩ := bs hf
            refine x_callV (rest := [.int (c7 + c8)]) (n := 1) C (ct_V_kissesOfSort E F _ _ _ _ mc_23 kc_23 hc9) mi_V_kissesOfSort (by decide) mc_23 ⟨_, cel_V kc_23⟩ rfl rfl wL_K_283 d_K_howMany_102 rfl rfl (Nat.le_of_ble_eq_true rfl) ?_
            show X _ _ _ _ _ _ _ _ _ _ _ _ _ _ _ _ _ _ _ _ _ [.int c9, .int (c7 + c8)]
            refine x_iadd C d_K_howMany_105 ?_
            cases hf
            exact x_iret C d_K_howMany_106 rfl rfl
          · replace hf := ie g6 hf
            rcases Classical.em (x1 = 5) with g10 | g10
            · replace hf := it g10 hf
              refine x_tswIn C 107 g10 d_K_howMany_1 (by decide) (by decide) rfl (by decide) ?_
              refine x_aload_n C d_K_howMany_107 0 rfl ?_
              refine xg_K_now C wF_K_21 mc_0 kc_0 d_K_howMany_108 ?_
              refine x_iconst (v := 1) C d_K_howMany_111 rfl ?_
              obtain ⟨c11, hc11, hf⟩ := bs hf
              refine x_callV (rest := []) (n := 1) C (ct_V_personsOfKind E F _ _ _ _ mc_23 kc_23 hc11) mi_V_personsOfKind (by decide) mc_23 ⟨_, cel_V kc_23⟩ rfl rfl wL_K_367 d_K_howMany_112 rfl rfl (Nat.le_of_ble_eq_true rfl) ?_
              show X _ _ _ _ _ _ _ _ _ _ _ _ _ _ _ _ _ _ _ _ _ [.int c11]
              cases hf
              exact x_iret C d_K_howMany_115 rfl rfl
            · replace hf := ie g10 hf
              rcases Classical.em (x1 = 6) with g12 | g12
              · replace hf := it g12 hf
                refine x_tswIn C 116 g12 d_K_howMany_1 (by decide) (by decide) rfl (by decide) ?_
                refine x_aload_n C d_K_howMany_116 0 rfl ?_
                refine xg_K_rows C wF_K_11 mc_0 kc_0 d_K_howMany_117 ?_
                obtain ⟨c13, hc13, hf⟩ := bs hf
                refine x_callS (rest := []) (n := 1) C (ct_K_thoseThere E F _ _ _ mc_1 kc_1 hc13) mi_K_thoseThere (by decide) wL_K_370 d_K_howMany_120 rfl rfl (Nat.le_of_ble_eq_true rfl) ?_
                show X _ _ _ _ _ _ _ _ _ _ _ _ _ _ _ _ _ _ _ _ _ [.int c13]
                cases hf
                exact x_iret C d_K_howMany_123 rfl rfl
              · replace hf := ie g12 hf
                rcases Classical.em (x1 = 7) with g14 | g14
                · replace hf := it g14 hf
                  refine x_tswIn C 124 g14 d_K_howMany_1 (by decide) (by decide) rfl (by decide) ?_
                  refine x_aload_n C d_K_howMany_124 0 rfl ?_
                  refine xg_K_texts C wF_K_15 mc_0 kc_0 d_K_howMany_125 ?_
                  obtain ⟨c15, hc15, hf⟩ := bs hf
                  refine x_callS (rest := []) (n := 1) C (ct_K_thoseThere E F _ _ _ mc_14 kc_14 hc15) mi_K_thoseThere (by decide) wL_K_370 d_K_howMany_128 rfl rfl (Nat.le_of_ble_eq_true rfl) ?_
                  show X _ _ _ _ _ _ _ _ _ _ _ _ _ _ _ _ _ _ _ _ _ [.int c15]
                  cases hf
                  exact x_iret C d_K_howMany_131 rfl rfl
                · replace hf := ie g14 hf
                  have hsw : (x1).toInt < 0 ∨ 7 < (x1).toInt := by
                    have qg1 := lv_neT g1 (a := 0) rfl
                    have qg2 := lv_neT g2 (a := 1) rfl
                    have qg3 := lv_neT g3 (a := 2) rfl
                    have qg4 := lv_neT g4 (a := 3) rfl
                    have qg6 := lv_neT g6 (a := 4) rfl
                    have qg10 := lv_neT g10 (a := 5) rfl
                    have qg12 := lv_neT g12 (a := 6) rfl
                    have qg14 := lv_neT g14 (a := 7) rfl
                    omega
                  refine x_tswOut C 132 d_K_howMany_1 hsw (by decide) ?_
                  refine x_aload_n C d_K_howMany_132 0 rfl ?_
                  obtain ⟨c16, hc16, hf⟩ := bs hf
                  refine x_callV (rest := []) (n := 0) C (ct_K_keptVillages E F _ _  hc16) mi_K_keptVillages (by decide) mc_0 ⟨_, cel_K kc_0⟩ rfl rfl wL_K_374 d_K_howMany_133 rfl rfl (Nat.le_of_ble_eq_true rfl) ?_
                  show X _ _ _ _ _ _ _ _ _ _ _ _ _ _ _ _ _ _ _ _ _ [.int c16]
                  cases hf
                  exact x_iret C d_K_howMany_136 rfl rfl
set_option maxHeartbeats 4000000 in
set_option maxRecDepth 100000 in
theorem ct_K_count {l : Launch} {D : va_G} {ad : Nat → Nat} {cs : Nat → ClassId} {A : Nat → Prop} (E : Ev ad cs A LX) (F : Nat) (M : Mem) (x1 : Int32) (R : Int32)  (hf : K_count F M x1 = some R) : Met l y_K_count (Cond.code y_K_count b_K_count 2 (some .int) :: wl) (rmD 5) (PX D ad cs A LX [.ref (ad 0), .int x1] M) (QX D ad cs A LX (some (.int R)) M) 0 0 A := by
  refine x_enter (lv := [(0, .ref (ad 0)), (1, .int x1)]) E mi_K_count.1 (Nat.le_of_ble_eq_true rfl) rfl (fun p e s m args below meth c C => ?_)
  unfold K_count at hf
  refine x_iload_n C d_K_count_0 1 rfl ?_
  refine x_if_lt C 10 d_K_count_1 (by decide) (fun g1 => ?_) (fun g1 => ?_)
  · replace hf := it g1 hf
    refine x_iconst (v := (-1)) C d_K_count_10 rfl ?_
    cases hf
    exact x_iret C d_K_count_11 rfl rfl
  · replace hf := ie g1 hf
    refine x_iload_n C d_K_count_4 1 rfl ?_
    refine x_bipush (v := 9) C d_K_count_5 rfl ?_
    refine x_icmp_lt C 12 d_K_count_7 (by decide) (fun g2 => ?_) (fun g2 => ?_)
    · replace hf := it g2 hf
      refine x_aload_n C d_K_count_12 0 rfl ?_
      refine x_iload_n C d_K_count_13 1 rfl ?_
      obtain ⟨c3, hc3, hf⟩ := bs hf
      refine x_callV (rest := []) (n := 1) C (ct_K_howMany E F _ _ _  hc3) mi_K_howMany (by decide) mc_0 ⟨_, cel_K kc_0⟩ rfl rfl wL_K_341 d_K_count_14 rfl rfl (Nat.le_of_ble_eq_true rfl) ?_
      show X _ _ _ _ _ _ _ _ _ _ _ _ _ _ _ _ _ _ _ _ _ [.int c3]
      cases hf
      exact x_iret C d_K_count_17 rfl rfl
    · replace hf := ie g2 hf
      refine x_iconst (v := (-1)) C d_K_count_10 rfl ?_
      cases hf
      exact x_iret C d_K_count_11 rfl rfl
set_option maxHeartbeats 4000000 in
set_option maxRecDepth 100000 in
theorem ct_K_ofPerson {l : Launch} {D : va_G} {ad : Nat → Nat} {cs : Nat → ClassId} {A : Nat → Prop} (E : Ev ad cs A LX) (F : Nat) (M : Mem) (x1 : Int32) (x2 : Int32) (R : Int32)  (hf : K_ofPerson F M x1 x2 = some R) : Met l y_K_ofPerson (Cond.code y_K_ofPerson b_K_ofPerson 3 (some .int) :: wl) (rmD 3) (PX D ad cs A LX [.ref (ad 0), .int x1, .int x2] M) (QX D ad cs A LX (some (.int R)) M) 0 0 A := by
  refine x_enter (lv := [(0, .ref (ad 0)), (1, .int x1), (2, .int x2)]) E mi_K_ofPerson.1 (Nat.le_of_ble_eq_true rfl) rfl (fun p e s m args below meth c C => ?_)
  unfold K_ofPerson at hf
  refine x_iload_n C d_K_ofPerson_0 2 rfl ?_
  rcases Classical.em (x2 = 0) with g1 | g1
  · replace hf := it g1 hf
    refine x_tswIn C 32 g1 d_K_ofPerson_1 (by decide) (by decide) rfl (by decide) ?_
    refine x_aload_n C d_K_ofPerson_32 0 rfl ?_
    refine xg_K_now C wF_K_21 mc_0 kc_0 d_K_ofPerson_33 ?_
    refine x_iload_n C d_K_ofPerson_36 1 rfl ?_
    obtain ⟨c2, hc2, hf⟩ := bs hf
    refine x_callV (rest := []) (n := 1) C (ct_V_kindOf E F _ _ _ _ mc_23 kc_23 hc2) mi_V_kindOf (by decide) mc_23 ⟨_, cel_V kc_23⟩ rfl rfl wL_K_352 d_K_ofPerson_37 rfl rfl (Nat.le_of_ble_eq_true rfl) ?_
    show X _ _ _ _ _ _ _ _ _ _ _ _ _ _ _ _ _ _ _ _ _ [.int c2]
    cases hf
    exact x_iret C d_K_ofPerson_40 rfl rfl
  · replace hf := ie g1 hf
    rcases Classical.em (x2 = 1) with g3 | g3
    · replace hf := it g3 hf
      refine x_tswIn C 41 g3 d_K_ofPerson_1 (by decide) (by decide) rfl (by decide) ?_
      refine x_aload_n C d_K_ofPerson_41 0 rfl ?_
      refine xg_K_now C wF_K_21 mc_0 kc_0 d_K_ofPerson_42 ?_
      refine x_iload_n C d_K_ofPerson_45 1 rfl ?_
      obtain ⟨c4, hc4, hf⟩ := bs hf
      refine x_callV (rest := []) (n := 1) C (ct_V_owing E F _ _ _ _ mc_23 kc_23 hc4) mi_V_owing (by decide) mc_23 ⟨_, cel_V kc_23⟩ rfl rfl wL_K_169 d_K_ofPerson_46 rfl rfl (Nat.le_of_ble_eq_true rfl) ?_
      show X _ _ _ _ _ _ _ _ _ _ _ _ _ _ _ _ _ _ _ _ _ [.int c4]
      cases hf
      exact x_iret C d_K_ofPerson_49 rfl rfl
    · replace hf := ie g3 hf
      rcases Classical.em (x2 = 2) with g5 | g5
      · replace hf := it g5 hf
        refine x_tswIn C 50 g5 d_K_ofPerson_1 (by decide) (by decide) rfl (by decide) ?_
        refine x_aload_n C d_K_ofPerson_50 0 rfl ?_
        refine xg_K_now C wF_K_21 mc_0 kc_0 d_K_ofPerson_51 ?_
        refine x_iload_n C d_K_ofPerson_54 1 rfl ?_
        refine x_iconst (v := 0) C d_K_ofPerson_55 rfl ?_
        obtain ⟨c6, hc6, hf⟩ := bs hf
        refine x_callV (rest := []) (n := 2) C (ct_V_owed E F _ _ _ _ _ mc_23 kc_23 hc6) mi_V_owed (by decide) mc_23 ⟨_, cel_V kc_23⟩ rfl rfl wL_K_163 d_K_ofPerson_56 rfl rfl (Nat.le_of_ble_eq_true rfl) ?_
        show X _ _ _ _ _ _ _ _ _ _ _ _ _ _ _ _ _ _ _ _ _ [.int c6]
        cases hf
        exact x_iret C d_K_ofPerson_59 rfl rfl
      · replace hf := ie g5 hf
        rcases Classical.em (x2 = 3) with g7 | g7
        · replace hf := it g7 hf
          refine x_tswIn C 60 g7 d_K_ofPerson_1 (by decide) (by decide) rfl (by decide) ?_
          refine x_aload_n C d_K_ofPerson_60 0 rfl ?_
          refine xg_K_now C wF_K_21 mc_0 kc_0 d_K_ofPerson_61 ?_
          refine x_iload_n C d_K_ofPerson_64 1 rfl ?_
          obtain ⟨c8, hc8, hf⟩ := bs hf
          refine x_callV (rest := []) (n := 1) C (ct_V_reserve E F _ _ _ _ mc_23 kc_23 hc8) mi_V_reserve (by decide) mc_23 ⟨_, cel_V kc_23⟩ rfl rfl wL_K_166 d_K_ofPerson_65 rfl rfl (Nat.le_of_ble_eq_true rfl) ?_
          show X _ _ _ _ _ _ _ _ _ _ _ _ _ _ _ _ _ _ _ _ _ [.int c8]
          cases hf
          exact x_iret C d_K_ofPerson_68 rfl rfl
        · replace hf := ie g7 hf
          have hsw : (x2).toInt < 0 ∨ 3 < (x2).toInt := by
            have qg1 := lv_neT g1 (a := 0) rfl
            have qg3 := lv_neT g3 (a := 1) rfl
            have qg5 := lv_neT g5 (a := 2) rfl
            have qg7 := lv_neT g7 (a := 3) rfl
            omega
          refine x_tswOut C 69 d_K_ofPerson_1 hsw (by decide) ?_
          refine x_aload_n C d_K_ofPerson_69 0 rfl ?_
          refine xg_K_now C wF_K_21 mc_0 kc_0 d_K_ofPerson_70 ?_
          refine x_iconst (v := 1) C d_K_ofPerson_73 rfl ?_
          refine x_iload_n C d_K_ofPerson_74 1 rfl ?_
          refine x_ishl C d_K_ofPerson_75 ?_
          obtain ⟨c9, hc9, hf⟩ := bs hf
          refine x_callV (rest := []) (n := 1) C (ct_V_owedByAny E F _ _ _ _ mc_23 kc_23 hc9) mi_V_owedByAny (by decide) mc_23 ⟨_, cel_V kc_23⟩ rfl rfl wL_K_314 d_K_ofPerson_76 rfl rfl (Nat.le_of_ble_eq_true rfl) ?_
          show X _ _ _ _ _ _ _ _ _ _ _ _ _ _ _ _ _ _ _ _ _ [.int c9]
          obtain ⟨c10, hc10, hf⟩ := bs hf
          refine x_callS (rest := []) (n := 1) C (ct_J_bitCount E F _ _ _  hc10) mi_J_bitCount (by decide) wL_K_289 d_K_ofPerson_79 rfl rfl (Nat.le_of_ble_eq_true rfl) ?_
          show X _ _ _ _ _ _ _ _ _ _ _ _ _ _ _ _ _ _ _ _ _ [.int c10]
          cases hf
          exact x_iret C d_K_ofPerson_82 rfl rfl
set_option maxHeartbeats 4000000 in
set_option maxRecDepth 100000 in
theorem ct_K_ofDraft {l : Launch} {D : va_G} {ad : Nat → Nat} {cs : Nat → ClassId} {A : Nat → Prop} (E : Ev ad cs A LX) (F : Nat) (M : Mem) (x1 : Int32) (x2 : Int32) (R : Int32)  (hf : K_ofDraft F M x1 x2 = some R) : Met l y_K_ofDraft (Cond.code y_K_ofDraft b_K_ofDraft 4 (some .int) :: wl) (rmD 0) (PX D ad cs A LX [.ref (ad 0), .int x1, .int x2] M) (QX D ad cs A LX (some (.int R)) M) 0 0 A := by
  refine x_enter (lv := [(0, .ref (ad 0)), (1, .int x1), (2, .int x2)]) E mi_K_ofDraft.1 (Nat.le_of_ble_eq_true rfl) rfl (fun p e s m args below meth c C => ?_)
  unfold K_ofDraft at hf
  refine x_aload_n C d_K_ofDraft_0 0 rfl ?_
  refine xg_K_now C wF_K_21 mc_0 kc_0 d_K_ofDraft_1 ?_
  refine xg_V_drafts C wF_K_213 mc_23 kc_23 d_K_ofDraft_4 ?_
  refine x_iload_n C d_K_ofDraft_7 1 rfl ?_
  obtain ⟨z1, hz1, hf⟩ := bs hf
  refine x_aald2 C hz1 mc_25 kc_25 d_K_ofDraft_8 ?_
  refine x_astore_n (lv' := [(3, .ref (ad (25 + 1 + z1))), (0, .ref (ad 0)), (1, .int x1), (2, .int x2)]) C d_K_ofDraft_9 (by decide) rfl ?_
  refine x_iload_n C d_K_ofDraft_10 3 rfl ?_
  rcases Classical.em (x2 = 0) with g2 | g2
  · replace hf := it g2 hf
    refine x_tswIn C 44 g2 d_K_ofDraft_11 (by decide) (by decide) rfl (by decide) ?_
    refine x_aload_n C d_K_ofDraft_44 0 rfl ?_
    refine xg_D_who C wF_K_217 (ma_D kc_25 hz1) (ka_D kc_25 hz1) d_K_ofDraft_45 ?_
    cases hf
    exact x_iret C d_K_ofDraft_48 rfl rfl
  · replace hf := ie g2 hf
    rcases Classical.em (x2 = 1) with g3 | g3
    · replace hf := it g3 hf
      refine x_tswIn C 49 g3 d_K_ofDraft_11 (by decide) (by decide) rfl (by decide) ?_
      refine x_aload_n C d_K_ofDraft_49 0 rfl ?_
      refine xg_D_whom C wF_K_228 (ma_D kc_25 hz1) (ka_D kc_25 hz1) d_K_ofDraft_50 ?_
      cases hf
      exact x_iret C d_K_ofDraft_53 rfl rfl
    · replace hf := ie g3 hf
      rcases Classical.em (x2 = 2) with g4 | g4
      · replace hf := it g4 hf
        refine x_tswIn C 54 g4 d_K_ofDraft_11 (by decide) (by decide) rfl (by decide) ?_
        refine x_aload_n C d_K_ofDraft_54 0 rfl ?_
        refine xg_D_sort C wF_K_355 (ma_D kc_25 hz1) (ka_D kc_25 hz1) d_K_ofDraft_55 ?_
        cases hf
        exact x_iret C d_K_ofDraft_58 rfl rfl
      · replace hf := ie g4 hf
        rcases Classical.em (x2 = 3) with g5 | g5
        · replace hf := it g5 hf
          refine x_tswIn C 59 g5 d_K_ofDraft_11 (by decide) (by decide) rfl (by decide) ?_
          refine x_aload_n C d_K_ofDraft_59 0 rfl ?_
          refine xg_D_kisses C wF_K_358 (ma_D kc_25 hz1) (ka_D kc_25 hz1) d_K_ofDraft_60 ?_
          cases hf
          exact x_iret C d_K_ofDraft_63 rfl rfl
        · replace hf := ie g5 hf
          rcases Classical.em (x2 = 4) with g6 | g6
          · replace hf := it g6 hf
            refine x_tswIn C 64 g6 d_K_ofDraft_11 (by decide) (by decide) rfl (by decide) ?_
            refine x_aload_n C d_K_ofDraft_64 0 rfl ?_
            refine xg_D_weeks C wF_K_361 (ma_D kc_25 hz1) (ka_D kc_25 hz1) d_K_ofDraft_65 ?_
            cases hf
            exact x_iret C d_K_ofDraft_68 rfl rfl
          · replace hf := ie g6 hf
            have hsw : (x2).toInt < 0 ∨ 4 < (x2).toInt := by
              have qg2 := lv_neT g2 (a := 0) rfl
              have qg3 := lv_neT g3 (a := 1) rfl
              have qg4 := lv_neT g4 (a := 2) rfl
              have qg5 := lv_neT g5 (a := 3) rfl
              have qg6 := lv_neT g6 (a := 4) rfl
              omega
            refine x_tswOut C 69 d_K_ofDraft_11 hsw (by decide) ?_
            refine x_aload_n C d_K_ofDraft_69 0 rfl ?_
            refine xg_D_endorsed C wF_K_225 (ma_D kc_25 hz1) (ka_D kc_25 hz1) d_K_ofDraft_70 ?_
            cases hf
            exact x_iret C d_K_ofDraft_73 rfl rfl
set_option maxHeartbeats 4000000 in
set_option maxRecDepth 100000 in
theorem lw_K_digest_6 {p : Program} {l : Launch} {e : Env} {s : State} {m : MethodId} {args : Array Value} {below : List Frame} {meth : Method} {c : Code} {D : va_G} {ad : Nat → Nat} {cs : Nat → ClassId} {A : Nat → Prop} {V : Option Value} {N : Mem} (E : Ev ad cs A LX) (C : Cx p s m args meth c "KissClearing" b_K_digest 5 (some .long) D ad cs A LX) (F : Nat) (M : Mem)  : ∀ (n : Nat) (x1 : Int64) (x3 : Int32) (u : Int64), L_K_digest_6 F M n x1 x3 = some u → X p l e 5 s m args below meth c 5 D ad cs A LX V N M 31 [(0, .ref (ad 0)), (1, .long u)] [] → X p l e 5 s m args below meth c 5 D ad cs A LX V N M 6 [(0, .ref (ad 0)), (1, .long x1), (3, .int x3)] [] := by
  intro n
  induction n with
  | zero => intro x1 x3 u hf; cases hf
  | succ n ih =>
    intro x1 x3 u hf K
    replace hf : B_K_digest_6 F M (L_K_digest_6 F M n) x1 x3 = some u := hf
    unfold B_K_digest_6 at hf
    refine x_iload_n C d_K_digest_6 2 rfl ?_
    refine x_bipush (v := 9) C d_K_digest_7 rfl ?_
    refine x_icmp_ge C 31 d_K_digest_9 (by decide) (fun g1 => ?_) (fun g1 => ?_)
    · replace hf := it g1 hf
      cases hf
      exact x_sub [0, 1] rfl K
    · replace hf := ie g1 hf
      refine x_ldc2 C wJ_K_346 d_K_digest_12 ?_
      refine x_lload_n C d_K_digest_15 1 rfl ?_
      refine x_lmul C d_K_digest_16 ?_
      refine x_aload_n C d_K_digest_17 0 rfl ?_
      refine x_iload_n C d_K_digest_18 2 rfl ?_
      obtain ⟨c2, hc2, hf⟩ := bs hf
      refine x_callV (rest := [.long (31 * x1)]) (n := 1) C (ct_K_howMany E F _ _ _  hc2) mi_K_howMany (by decide) mc_0 ⟨_, cel_K kc_0⟩ rfl rfl wL_K_341 d_K_digest_19 rfl rfl (Nat.le_of_ble_eq_true rfl) ?_
      show X _ _ _ _ _ _ _ _ _ _ _ _ _ _ _ _ _ _ _ _ _ [.int c2, .long (31 * x1)]
      refine x_i2l C d_K_digest_22 ?_
      refine x_ladd C d_K_digest_23 ?_
      refine x_lstore_n (lv' := [(1, .long ((31 * x1) + ((c2).toInt64))), (0, .ref (ad 0)), (3, .int x3)]) C d_K_digest_24 (by decide) rfl ?_
      refine x_iinc (v := (x3 + 1)) (lv' := [(3, .int (x3 + 1)), (1, .long ((31 * x1) + ((c2).toInt64))), (0, .ref (ad 0))]) C d_K_digest_25 2 rfl rfl (by decide) rfl ?_
      refine x_goto C 6 d_K_digest_28 (by decide) ?_
      refine x_sub [2, 1, 0] rfl ?_
      exact ih _ _ _ hf K
set_option maxHeartbeats 4000000 in
set_option maxRecDepth 100000 in
theorem lw_K_digest_47 {p : Program} {l : Launch} {e : Env} {s : State} {m : MethodId} {args : Array Value} {below : List Frame} {meth : Method} {c : Code} {D : va_G} {ad : Nat → Nat} {cs : Nat → ClassId} {A : Nat → Prop} {V : Option Value} {N : Mem} (E : Ev ad cs A LX) (C : Cx p s m args meth c "KissClearing" b_K_digest 5 (some .long) D ad cs A LX) (F : Nat) (M : Mem) (x3 : Int32) : ∀ (n : Nat) (x1 : Int64) (x4 : Int32) (u : Int64), L_K_digest_47 F M x3 n x1 x4 = some u → X p l e 5 s m args below meth c 5 D ad cs A LX V N M 74 [(0, .ref (ad 0)), (1, .long u), (3, .int x3)] [] → X p l e 5 s m args below meth c 5 D ad cs A LX V N M 47 [(0, .ref (ad 0)), (1, .long x1), (3, .int x3), (4, .int x4)] [] := by
  intro n
  induction n with
  | zero => intro x1 x4 u hf; cases hf
  | succ n ih =>
    intro x1 x4 u hf K
    replace hf : B_K_digest_47 F M x3 (L_K_digest_47 F M x3 n) x1 x4 = some u := hf
    unfold B_K_digest_47 at hf
    refine x_iload C d_K_digest_47 3 rfl ?_
    refine x_iconst (v := 5) C d_K_digest_49 rfl ?_
    refine x_icmp_ge C 74 d_K_digest_50 (by decide) (fun g5 => ?_) (fun g5 => ?_)
    · replace hf := it g5 hf
      cases hf
      exact x_sub [0, 1, 2] rfl K
    · replace hf := ie g5 hf
      refine x_ldc2 C wJ_K_346 d_K_digest_53 ?_
      refine x_lload_n C d_K_digest_56 1 rfl ?_
      refine x_lmul C d_K_digest_57 ?_
      refine x_aload_n C d_K_digest_58 0 rfl ?_
      refine x_iload_n C d_K_digest_59 2 rfl ?_
      refine x_iload C d_K_digest_60 3 rfl ?_
      obtain ⟨c6, hc6, hf⟩ := bs hf
      refine x_callV (rest := [.long (31 * x1)]) (n := 2) C (ct_K_ofPerson E F _ _ _ _  hc6) mi_K_ofPerson (by decide) mc_0 ⟨_, cel_K kc_0⟩ rfl rfl wL_K_141 d_K_digest_62 rfl rfl (Nat.le_of_ble_eq_true rfl) ?_
      show X _ _ _ _ _ _ _ _ _ _ _ _ _ _ _ _ _ _ _ _ _ [.int c6, .long (31 * x1)]
      refine x_i2l C d_K_digest_65 ?_
      refine x_ladd C d_K_digest_66 ?_
      refine x_lstore_n (lv' := [(1, .long ((31 * x1) + ((c6).toInt64))), (0, .ref (ad 0)), (3, .int x3), (4, .int x4)]) C d_K_digest_67 (by decide) rfl ?_
      refine x_iinc (v := (x4 + 1)) (lv' := [(4, .int (x4 + 1)), (1, .long ((31 * x1) + ((c6).toInt64))), (0, .ref (ad 0)), (3, .int x3)]) C d_K_digest_68 3 rfl rfl (by decide) rfl ?_
      refine x_goto C 47 d_K_digest_71 (by decide) ?_
      refine x_sub [2, 1, 3, 0] rfl ?_
      exact ih _ _ _ hf K
set_option maxHeartbeats 4000000 in
set_option maxRecDepth 100000 in
theorem lw_K_digest_33 {p : Program} {l : Launch} {e : Env} {s : State} {m : MethodId} {args : Array Value} {below : List Frame} {meth : Method} {c : Code} {D : va_G} {ad : Nat → Nat} {cs : Nat → ClassId} {A : Nat → Prop} {V : Option Value} {N : Mem} (E : Ev ad cs A LX) (C : Cx p s m args meth c "KissClearing" b_K_digest 5 (some .long) D ad cs A LX) (F : Nat) (M : Mem)  : ∀ (n : Nat) (x1 : Int64) (x3 : Int32) (u : Int64), L_K_digest_33 F M n x1 x3 = some u → X p l e 5 s m args below meth c 5 D ad cs A LX V N M 80 [(0, .ref (ad 0)), (1, .long u)] [] → X p l e 5 s m args below meth c 5 D ad cs A LX V N M 33 [(0, .ref (ad 0)), (1, .long x1), (3, .int x3)] [] := by
  intro n
  induction n with
  | zero => intro x1 x3 u hf; cases hf
  | succ n ih =>
    intro x1 x3 u hf K
    replace hf : B_K_digest_33 F M (L_K_digest_33 F M n) x1 x3 = some u := hf
    unfold B_K_digest_33 at hf
    refine x_iload_n C d_K_digest_33 2 rfl ?_
    refine x_aload_n C d_K_digest_34 0 rfl ?_
    refine xg_K_now C wF_K_21 mc_0 kc_0 d_K_digest_35 ?_
    refine xg_V_personCount C wF_K_135 mc_23 kc_23 d_K_digest_38 ?_
    refine x_icmp_ge C 80 d_K_digest_41 (by decide) (fun g4 => ?_) (fun g4 => ?_)
    · replace hf := it g4 hf
      cases hf
      exact x_sub [0, 1] rfl K
    · replace hf := ie g4 hf
      refine x_iconst (v := 0) C d_K_digest_44 rfl ?_
      refine x_istore (lv' := [(4, .int 0), (0, .ref (ad 0)), (1, .long x1), (3, .int x3)]) C d_K_digest_45 (by decide) rfl ?_
      obtain ⟨u7, hu7, hf⟩ := bs hf
      refine x_sub [1, 2, 3, 0] rfl ?_
      refine lw_K_digest_47 E C F _ _ _ _ _ _ hu7 ?_
      refine x_iinc (v := (x3 + 1)) (lv' := [(3, .int (x3 + 1)), (0, .ref (ad 0)), (1, .long u7)]) C d_K_digest_74 2 rfl rfl (by decide) rfl ?_
      refine x_goto C 33 d_K_digest_77 (by decide) ?_
      refine x_sub [1, 2, 0] rfl ?_
      exact ih _ _ _ hf K
set_option maxHeartbeats 4000000 in
set_option maxRecDepth 100000 in
theorem lw_K_digest_96 {p : Program} {l : Launch} {e : Env} {s : State} {m : MethodId} {args : Array Value} {below : List Frame} {meth : Method} {c : Code} {D : va_G} {ad : Nat → Nat} {cs : Nat → ClassId} {A : Nat → Prop} {V : Option Value} {N : Mem} (E : Ev ad cs A LX) (C : Cx p s m args meth c "KissClearing" b_K_digest 5 (some .long) D ad cs A LX) (F : Nat) (M : Mem) (x3 : Int32) : ∀ (n : Nat) (x1 : Int64) (x4 : Int32) (u : Int64), L_K_digest_96 F M x3 n x1 x4 = some u → X p l e 5 s m args below meth c 5 D ad cs A LX V N M 124 [(0, .ref (ad 0)), (1, .long u), (3, .int x3)] [] → X p l e 5 s m args below meth c 5 D ad cs A LX V N M 96 [(0, .ref (ad 0)), (1, .long x1), (3, .int x3), (4, .int x4)] [] := by
  intro n
  induction n with
  | zero => intro x1 x4 u hf; cases hf
  | succ n ih =>
    intro x1 x4 u hf K
    replace hf : B_K_digest_96 F M x3 (L_K_digest_96 F M x3 n) x1 x4 = some u := hf
    unfold B_K_digest_96 at hf
    refine x_iload C d_K_digest_96 3 rfl ?_
    refine x_bipush (v := 6) C d_K_digest_98 rfl ?_
    refine x_icmp_ge C 124 d_K_digest_100 (by decide) (fun g10 => ?_) (fun g10 => ?_)
    · replace hf := it g10 hf
      cases hf
      exact x_sub [0, 1, 2] rfl K
    · replace hf := ie g10 hf
      refine x_ldc2 C wJ_K_346 d_K_digest_103 ?_
      refine x_lload_n C d_K_digest_106 1 rfl ?_
      refine x_lmul C d_K_digest_107 ?_
      refine x_aload_n C d_K_digest_108 0 rfl ?_
      refine x_iload_n C d_K_digest_109 2 rfl ?_
      refine x_iload C d_K_digest_110 3 rfl ?_
      obtain ⟨c11, hc11, hf⟩ := bs hf
      refine x_callV (rest := [.long (31 * x1)]) (n := 2) C (ct_K_ofDraft E F _ _ _ _  hc11) mi_K_ofDraft (by decide) mc_0 ⟨_, cel_K kc_0⟩ rfl rfl wL_K_148 d_K_digest_112 rfl rfl (Nat.le_of_ble_eq_true rfl) ?_
      show X _ _ _ _ _ _ _ _ _ _ _ _ _ _ _ _ _ _ _ _ _ [.int c11, .long (31 * x1)]
      refine x_i2l C d_K_digest_115 ?_
      refine x_ladd C d_K_digest_116 ?_
      refine x_lstore_n (lv' := [(1, .long ((31 * x1) + ((c11).toInt64))), (0, .ref (ad 0)), (3, .int x3), (4, .int x4)]) C d_K_digest_117 (by decide) rfl ?_
      refine x_iinc (v := (x4 + 1)) (lv' := [(4, .int (x4 + 1)), (1, .long ((31 * x1) + ((c11).toInt64))), (0, .ref (ad 0)), (3, .int x3)]) C d_K_digest_118 3 rfl rfl (by decide) rfl ?_
      refine x_goto C 96 d_K_digest_121 (by decide) ?_
      refine x_sub [2, 1, 3, 0] rfl ?_
      exact ih _ _ _ hf K
set_option maxHeartbeats 4000000 in
set_option maxRecDepth 100000 in
theorem lw_K_digest_82 {p : Program} {l : Launch} {e : Env} {s : State} {m : MethodId} {args : Array Value} {below : List Frame} {meth : Method} {c : Code} {D : va_G} {ad : Nat → Nat} {cs : Nat → ClassId} {A : Nat → Prop} {V : Option Value} {N : Mem} (E : Ev ad cs A LX) (C : Cx p s m args meth c "KissClearing" b_K_digest 5 (some .long) D ad cs A LX) (F : Nat) (M : Mem)  : ∀ (n : Nat) (x1 : Int64) (x3 : Int32) (u : Int64), L_K_digest_82 F M n x1 x3 = some u → X p l e 5 s m args below meth c 5 D ad cs A LX V N M 130 [(0, .ref (ad 0)), (1, .long u)] [] → X p l e 5 s m args below meth c 5 D ad cs A LX V N M 82 [(0, .ref (ad 0)), (1, .long x1), (3, .int x3)] [] := by
  intro n
  induction n with
  | zero => intro x1 x3 u hf; cases hf
  | succ n ih =>
    intro x1 x3 u hf K
    replace hf : B_K_digest_82 F M (L_K_digest_82 F M n) x1 x3 = some u := hf
    unfold B_K_digest_82 at hf
    refine x_iload_n C d_K_digest_82 2 rfl ?_
    refine x_aload_n C d_K_digest_83 0 rfl ?_
    refine xg_K_now C wF_K_21 mc_0 kc_0 d_K_digest_84 ?_
    refine xg_V_draftCount C wF_K_186 mc_23 kc_23 d_K_digest_87 ?_
    refine x_icmp_ge C 130 d_K_digest_90 (by decide) (fun g9 => ?_) (fun g9 => ?_)
    · replace hf := it g9 hf
      cases hf
      exact x_sub [0, 1] rfl K
    · replace hf := ie g9 hf
      refine x_iconst (v := 0) C d_K_digest_93 rfl ?_
      refine x_istore (lv' := [(4, .int 0), (0, .ref (ad 0)), (1, .long x1), (3, .int x3)]) C d_K_digest_94 (by decide) rfl ?_
      obtain ⟨u12, hu12, hf⟩ := bs hf
      refine x_sub [1, 2, 3, 0] rfl ?_
      refine lw_K_digest_96 E C F _ _ _ _ _ _ hu12 ?_
      refine x_iinc (v := (x3 + 1)) (lv' := [(3, .int (x3 + 1)), (0, .ref (ad 0)), (1, .long u12)]) C d_K_digest_124 2 rfl rfl (by decide) rfl ?_
      refine x_goto C 82 d_K_digest_127 (by decide) ?_
      refine x_sub [1, 2, 0] rfl ?_
      exact ih _ _ _ hf K
set_option maxHeartbeats 4000000 in
set_option maxRecDepth 100000 in
theorem lw_K_digest_132 {p : Program} {l : Launch} {e : Env} {s : State} {m : MethodId} {args : Array Value} {below : List Frame} {meth : Method} {c : Code} {D : va_G} {ad : Nat → Nat} {cs : Nat → ClassId} {A : Nat → Prop} {V : Option Value} {N : Mem} (E : Ev ad cs A LX) (C : Cx p s m args meth c "KissClearing" b_K_digest 5 (some .long) D ad cs A LX) (F : Nat) (M : Mem)  : ∀ (n : Nat) (x1 : Int64) (x3 : Int32) (u : Int64), L_K_digest_132 F M n x1 x3 = some u → X p l e 5 s m args below meth c 5 D ad cs A LX V N M 160 [(0, .ref (ad 0)), (1, .long u)] [] → X p l e 5 s m args below meth c 5 D ad cs A LX V N M 132 [(0, .ref (ad 0)), (1, .long x1), (3, .int x3)] [] := by
  intro n
  induction n with
  | zero => intro x1 x3 u hf; cases hf
  | succ n ih =>
    intro x1 x3 u hf K
    replace hf : B_K_digest_132 F M (L_K_digest_132 F M n) x1 x3 = some u := hf
    unfold B_K_digest_132 at hf
    refine x_iload_n C d_K_digest_132 2 rfl ?_
    refine x_iconst (v := 3) C d_K_digest_133 rfl ?_
    refine x_icmp_ge C 160 d_K_digest_134 (by decide) (fun g14 => ?_) (fun g14 => ?_)
    · replace hf := it g14 hf
      cases hf
      exact x_sub [0, 1] rfl K
    · replace hf := ie g14 hf
      refine x_ldc2 C wJ_K_346 d_K_digest_137 ?_
      refine x_lload_n C d_K_digest_140 1 rfl ?_
      refine x_lmul C d_K_digest_141 ?_
      refine x_aload_n C d_K_digest_142 0 rfl ?_
      refine xg_K_kept C wF_K_35 mc_0 kc_0 d_K_digest_143 ?_
      refine x_iload_n C d_K_digest_146 2 rfl ?_
      obtain ⟨z15, hz15, hf⟩ := bs hf
      refine x_aald3 C hz15 mc_56 kc_56 d_K_digest_147 ?_
      refine xg_H_deeds C wF_K_81 (ma_H kc_56 hz15) (ka_H kc_56 hz15) d_K_digest_148 ?_
      refine x_i2l C d_K_digest_151 ?_
      refine x_ladd C d_K_digest_152 ?_
      refine x_lstore_n (lv' := [(1, .long ((31 * x1) + (((M (56 + 1 + 3 * z15) 0)).toInt64))), (0, .ref (ad 0)), (3, .int x3)]) C d_K_digest_153 (by decide) rfl ?_
      refine x_iinc (v := (x3 + 1)) (lv' := [(3, .int (x3 + 1)), (1, .long ((31 * x1) + (((M (56 + 1 + 3 * z15) 0)).toInt64))), (0, .ref (ad 0))]) C d_K_digest_154 2 rfl rfl (by decide) rfl ?_
      refine x_goto C 132 d_K_digest_157 (by decide) ?_
      refine x_sub [2, 1, 0] rfl ?_
      exact ih _ _ _ hf K
set_option maxHeartbeats 4000000 in
set_option maxRecDepth 100000 in
theorem lw_K_digest_162 {p : Program} {l : Launch} {e : Env} {s : State} {m : MethodId} {args : Array Value} {below : List Frame} {meth : Method} {c : Code} {D : va_G} {ad : Nat → Nat} {cs : Nat → ClassId} {A : Nat → Prop} {V : Option Value} {N : Mem} (E : Ev ad cs A LX) (C : Cx p s m args meth c "KissClearing" b_K_digest 5 (some .long) D ad cs A LX) (F : Nat) (M : Mem)  : ∀ (n : Nat) (x1 : Int64) (x3 : Int32) (u : Int64), L_K_digest_162 F M n x1 x3 = some u → X p l e 5 s m args below meth c 5 D ad cs A LX V N M 185 [(0, .ref (ad 0)), (1, .long u)] [] → X p l e 5 s m args below meth c 5 D ad cs A LX V N M 162 [(0, .ref (ad 0)), (1, .long x1), (3, .int x3)] [] := by
  intro n
  induction n with
  | zero => intro x1 x3 u hf; cases hf
  | succ n ih =>
    intro x1 x3 u hf K
    replace hf : B_K_digest_162 F M (L_K_digest_162 F M n) x1 x3 = some u := hf
    unfold B_K_digest_162 at hf
    refine x_iload_n C d_K_digest_162 2 rfl ?_
    refine x_bipush (v := 6) C d_K_digest_163 rfl ?_
    refine x_icmp_ge C 185 d_K_digest_165 (by decide) (fun g17 => ?_) (fun g17 => ?_)
    · replace hf := it g17 hf
      cases hf
      exact x_sub [0, 1] rfl K
    · replace hf := ie g17 hf
      refine x_aload_n C d_K_digest_168 0 rfl ?_
      refine xg_K_rows C wF_K_11 mc_0 kc_0 d_K_digest_169 ?_
      refine x_iload_n C d_K_digest_172 2 rfl ?_
      obtain ⟨z18, hz18, hf⟩ := bs hf
      refine x_aald1 C hz18 mc_1 kc_1 d_K_digest_173 ?_
      refine x_lload_n C d_K_digest_174 1 rfl ?_
      obtain ⟨c19, hc19, hf⟩ := bs hf
      refine x_callV (rest := []) (n := 1) C (ct_S_mixedInto E F _ _ _ _ (ma_S kc_1 hz18) (ka_S kc_1 hz18) hc19) mi_S_mixedInto (by decide) (ma_S kc_1 hz18) ⟨_, cel_S (ka_S kc_1 hz18)⟩ rfl rfl wL_K_348 d_K_digest_175 rfl rfl (Nat.le_of_ble_eq_true rfl) ?_
      show X _ _ _ _ _ _ _ _ _ _ _ _ _ _ _ _ _ _ _ _ _ [.long c19]
      refine x_lstore_n (lv' := [(1, .long c19), (0, .ref (ad 0)), (3, .int x3)]) C d_K_digest_178 (by decide) rfl ?_
      refine x_iinc (v := (x3 + 1)) (lv' := [(3, .int (x3 + 1)), (1, .long c19), (0, .ref (ad 0))]) C d_K_digest_179 2 rfl rfl (by decide) rfl ?_
      refine x_goto C 162 d_K_digest_182 (by decide) ?_
      refine x_sub [2, 1, 0] rfl ?_
      exact ih _ _ _ hf K
set_option maxHeartbeats 4000000 in
set_option maxRecDepth 100000 in
theorem lw_K_digest_187 {p : Program} {l : Launch} {e : Env} {s : State} {m : MethodId} {args : Array Value} {below : List Frame} {meth : Method} {c : Code} {D : va_G} {ad : Nat → Nat} {cs : Nat → ClassId} {A : Nat → Prop} {V : Option Value} {N : Mem} (E : Ev ad cs A LX) (C : Cx p s m args meth c "KissClearing" b_K_digest 5 (some .long) D ad cs A LX) (F : Nat) (M : Mem)  : ∀ (n : Nat) (x1 : Int64) (x3 : Int32) (u : Int64), L_K_digest_187 F M n x1 x3 = some u → X p l e 5 s m args below meth c 5 D ad cs A LX V N M 209 [(1, .long u)] [] → X p l e 5 s m args below meth c 5 D ad cs A LX V N M 187 [(0, .ref (ad 0)), (1, .long x1), (3, .int x3)] [] := by
  intro n
  induction n with
  | zero => intro x1 x3 u hf; cases hf
  | succ n ih =>
    intro x1 x3 u hf K
    replace hf : B_K_digest_187 F M (L_K_digest_187 F M n) x1 x3 = some u := hf
    unfold B_K_digest_187 at hf
    refine x_iload_n C d_K_digest_187 2 rfl ?_
    refine x_iconst (v := 4) C d_K_digest_188 rfl ?_
    refine x_icmp_ge C 209 d_K_digest_189 (by decide) (fun g21 => ?_) (fun g21 => ?_)
    · replace hf := it g21 hf
      cases hf
      exact x_sub [1] rfl K
    · replace hf := ie g21 hf
      refine x_aload_n C d_K_digest_192 0 rfl ?_
      refine xg_K_texts C wF_K_15 mc_0 kc_0 d_K_digest_193 ?_
      refine x_iload_n C d_K_digest_196 2 rfl ?_
      obtain ⟨z22, hz22, hf⟩ := bs hf
      refine x_aald1 C hz22 mc_14 kc_14 d_K_digest_197 ?_
      refine x_lload_n C d_K_digest_198 1 rfl ?_
      obtain ⟨c23, hc23, hf⟩ := bs hf
      refine x_callV (rest := []) (n := 1) C (ct_S_mixedInto E F _ _ _ _ (ma_S kc_14 hz22) (ka_S kc_14 hz22) hc23) mi_S_mixedInto (by decide) (ma_S kc_14 hz22) ⟨_, cel_S (ka_S kc_14 hz22)⟩ rfl rfl wL_K_348 d_K_digest_199 rfl rfl (Nat.le_of_ble_eq_true rfl) ?_
      show X _ _ _ _ _ _ _ _ _ _ _ _ _ _ _ _ _ _ _ _ _ [.long c23]
      refine x_lstore_n (lv' := [(1, .long c23), (0, .ref (ad 0)), (3, .int x3)]) C d_K_digest_202 (by decide) rfl ?_
      refine x_iinc (v := (x3 + 1)) (lv' := [(3, .int (x3 + 1)), (1, .long c23), (0, .ref (ad 0))]) C d_K_digest_203 2 rfl rfl (by decide) rfl ?_
      refine x_goto C 187 d_K_digest_206 (by decide) ?_
      refine x_sub [2, 1, 0] rfl ?_
      exact ih _ _ _ hf K
set_option maxHeartbeats 4000000 in
set_option maxRecDepth 100000 in
theorem ct_K_digest {l : Launch} {D : va_G} {ad : Nat → Nat} {cs : Nat → ClassId} {A : Nat → Prop} (E : Ev ad cs A LX) (F : Nat) (M : Mem)  (R : Int64)  (hf : K_digest F M = some R) : Met l y_K_digest (Cond.code y_K_digest b_K_digest 5 (some .long) :: wl) (rmD 5) (PX D ad cs A LX [.ref (ad 0)] M) (QX D ad cs A LX (some (.long R)) M) 0 0 A := by
  refine x_enter (lv := [(0, .ref (ad 0))]) E mi_K_digest.1 (Nat.le_of_ble_eq_true rfl) rfl (fun p e s m args below meth c C => ?_)
  unfold K_digest at hf
  refine x_ldc2 C wJ_K_344 d_K_digest_0 ?_
  refine x_lstore_n (lv' := [(1, .long 17), (0, .ref (ad 0))]) C d_K_digest_3 (by decide) rfl ?_
  refine x_iconst (v := 0) C d_K_digest_4 rfl ?_
  refine x_istore_n (lv' := [(3, .int 0), (1, .long 17), (0, .ref (ad 0))]) C d_K_digest_5 (by decide) rfl ?_
  obtain ⟨u3, hu3, hf⟩ := bs hf
  refine x_sub [2, 1, 0] rfl ?_
  refine lw_K_digest_6 E C F _ _ _ _ _ hu3 ?_
  refine x_iconst (v := 0) C d_K_digest_31 rfl ?_
  refine x_istore_n (lv' := [(3, .int 0), (0, .ref (ad 0)), (1, .long u3)]) C d_K_digest_32 (by decide) rfl ?_
  obtain ⟨u8, hu8, hf⟩ := bs hf
  refine x_sub [1, 2, 0] rfl ?_
  refine lw_K_digest_33 E C F _ _ _ _ _ hu8 ?_
  refine x_iconst (v := 0) C d_K_digest_80 rfl ?_
  refine x_istore_n (lv' := [(3, .int 0), (0, .ref (ad 0)), (1, .long u8)]) C d_K_digest_81 (by decide) rfl ?_
  obtain ⟨u13, hu13, hf⟩ := bs hf
  refine x_sub [1, 2, 0] rfl ?_
  refine lw_K_digest_82 E C F _ _ _ _ _ hu13 ?_
  refine x_iconst (v := 0) C d_K_digest_130 rfl ?_
  refine x_istore_n (lv' := [(3, .int 0), (0, .ref (ad 0)), (1, .long u13)]) C d_K_digest_131 (by decide) rfl ?_
  obtain ⟨u16, hu16, hf⟩ := bs hf
  refine x_sub [1, 2, 0] rfl ?_
  refine lw_K_digest_132 E C F _ _ _ _ _ hu16 ?_
  refine x_iconst (v := 0) C d_K_digest_160 rfl ?_
  refine x_istore_n (lv' := [(3, .int 0), (0, .ref (ad 0)), (1, .long u16)]) C d_K_digest_161 (by decide) rfl ?_
  obtain ⟨u20, hu20, hf⟩ := bs hf
  refine x_sub [1, 2, 0] rfl ?_
  refine lw_K_digest_162 E C F _ _ _ _ _ hu20 ?_
  refine x_iconst (v := 0) C d_K_digest_185 rfl ?_
  refine x_istore_n (lv' := [(3, .int 0), (0, .ref (ad 0)), (1, .long u20)]) C d_K_digest_186 (by decide) rfl ?_
  obtain ⟨u24, hu24, hf⟩ := bs hf
  refine x_sub [1, 2, 0] rfl ?_
  refine lw_K_digest_187 E C F _ _ _ _ _ hu24 ?_
  refine x_lload_n C d_K_digest_209 0 rfl ?_
  cases hf
  exact x_lret C d_K_digest_210 rfl rfl
set_option maxHeartbeats 4000000 in
set_option maxRecDepth 100000 in
theorem ct_K_draft {l : Launch} {D : va_G} {ad : Nat → Nat} {cs : Nat → ClassId} {A : Nat → Prop} (E : Ev ad cs A LX) (F : Nat) (M : Mem) (x1 : Int32) (x2 : Int32) (R : (Int32 × Mem))  (hf : K_draft F M x1 x2 = some R) : Met l y_K_draft (Cond.code y_K_draft b_K_draft 3 (some .int) :: wl) (rmD 1) (PX D ad cs A LX [.ref (ad 0), .int x1, .int x2] M) (QX D ad cs A LX (some (.int R.1)) R.2) 0 0 A := by
  refine x_enter (lv := [(0, .ref (ad 0)), (1, .int x1), (2, .int x2)]) E mi_K_draft.1 (Nat.le_of_ble_eq_true rfl) rfl (fun p e s m args below meth c C => ?_)
  unfold K_draft at hf
  refine x_aload_n C d_K_draft_0 0 rfl ?_
  refine xg_K_now C wF_K_21 mc_0 kc_0 d_K_draft_1 ?_
  refine x_iload_n C d_K_draft_4 1 rfl ?_
  obtain ⟨c1, hc1, hf⟩ := bs hf
  refine x_callV (rest := []) (n := 1) C (ct_V_hasDraft E F _ _ _ _ mc_23 kc_23 hc1) mi_V_hasDraft (by decide) mc_23 ⟨_, cel_V kc_23⟩ rfl rfl wL_K_145 d_K_draft_5 rfl rfl (Nat.le_of_ble_eq_true rfl) ?_
  show X _ _ _ _ _ _ _ _ _ _ _ _ _ _ _ _ _ _ _ _ _ [.int c1]
  refine x_if_eq C 21 d_K_draft_8 (by decide) (fun g2 => ?_) (fun g2 => ?_)
  · replace hf := it g2 hf
    refine x_iconst (v := (-1)) C d_K_draft_21 rfl ?_
    cases hf
    exact x_iret C d_K_draft_22 rfl rfl
  · replace hf := ie g2 hf
    refine x_iload_n C d_K_draft_11 2 rfl ?_
    refine x_if_lt C 21 d_K_draft_12 (by decide) (fun g3 => ?_) (fun g3 => ?_)
    · replace hf := it g3 hf
      refine x_iconst (v := (-1)) C d_K_draft_21 rfl ?_
      cases hf
      exact x_iret C d_K_draft_22 rfl rfl
    · replace hf := ie g3 hf
      refine x_iload_n C d_K_draft_15 2 rfl ?_
      refine x_bipush (v := 6) C d_K_draft_16 rfl ?_
      refine x_icmp_lt C 23 d_K_draft_18 (by decide) (fun g4 => ?_) (fun g4 => ?_)
      · replace hf := it g4 hf
        refine x_aload_n C d_K_draft_23 0 rfl ?_
        refine x_aload_n C d_K_draft_24 0 rfl ?_
        refine x_iload_n C d_K_draft_25 1 rfl ?_
        refine x_iload_n C d_K_draft_26 2 rfl ?_
        obtain ⟨c5, hc5, hf⟩ := bs hf
        refine x_callV (rest := [.ref (ad 0)]) (n := 2) C (ct_K_ofDraft E F _ _ _ _  hc5) mi_K_ofDraft (by decide) mc_0 ⟨_, cel_K kc_0⟩ rfl rfl wL_K_148 d_K_draft_27 rfl rfl (Nat.le_of_ble_eq_true rfl) ?_
        show X _ _ _ _ _ _ _ _ _ _ _ _ _ _ _ _ _ _ _ _ _ [.int c5, .ref (ad 0)]
        obtain ⟨c6, hc6, hf⟩ := bs hf
        refine x_callV (rest := []) (n := 1) C (ct_K_tell E F _ _ _  hc6) mi_K_tell (by decide) mc_0 ⟨_, cel_K kc_0⟩ rfl rfl wL_K_102 d_K_draft_30 rfl rfl (Nat.le_of_ble_eq_true rfl) ?_
        show X _ _ _ _ _ _ _ _ _ _ _ _ _ _ _ _ _ _ _ _ _ [.int c6.1]
        cases hf
        exact x_iret C d_K_draft_33 rfl rfl
      · replace hf := ie g4 hf
        refine x_iconst (v := (-1)) C d_K_draft_21 rfl ?_
        cases hf
        exact x_iret C d_K_draft_22 rfl rfl
set_option maxHeartbeats 4000000 in
set_option maxRecDepth 100000 in
theorem ct_K_endorse {l : Launch} {D : va_G} {ad : Nat → Nat} {cs : Nat → ClassId} {A : Nat → Prop} (E : Ev ad cs A LX) (F : Nat) (M : Mem) (x1 : Int32) (x2 : Int32) (R : (Int32 × Mem))  (hf : K_endorse F M x1 x2 = some R) : Met l y_K_endorse (Cond.code y_K_endorse b_K_endorse 4 (some .int) :: wl) (rmD 3) (PX D ad cs A LX [.ref (ad 0), .int x1, .int x2] M) (QX D ad cs A LX (some (.int R.1)) R.2) 0 0 A := by
  refine x_enter (lv := [(0, .ref (ad 0)), (1, .int x1), (2, .int x2)]) E mi_K_endorse.1 (Nat.le_of_ble_eq_true rfl) rfl (fun p e s m args below meth c C => ?_)
  unfold K_endorse at hf
  refine x_aload_n C d_K_endorse_0 0 rfl ?_
  refine xg_K_now C wF_K_21 mc_0 kc_0 d_K_endorse_1 ?_
  refine x_iload_n C d_K_endorse_4 1 rfl ?_
  obtain ⟨c1, hc1, hf⟩ := bs hf
  refine x_callV (rest := []) (n := 1) C (ct_V_hasDraft E F _ _ _ _ mc_23 kc_23 hc1) mi_V_hasDraft (by decide) mc_23 ⟨_, cel_V kc_23⟩ rfl rfl wL_K_145 d_K_endorse_5 rfl rfl (Nat.le_of_ble_eq_true rfl) ?_
  show X _ _ _ _ _ _ _ _ _ _ _ _ _ _ _ _ _ _ _ _ _ [.int c1]
  refine x_if_eq C 22 d_K_endorse_8 (by decide) (fun g2 => ?_) (fun g2 => ?_)
  · replace hf := it g2 hf
    refine x_iconst (v := (-1)) C d_K_endorse_22 rfl ?_
    cases hf
    exact x_iret C d_K_endorse_23 rfl rfl
  · replace hf := ie g2 hf
    refine x_aload_n C d_K_endorse_11 0 rfl ?_
    refine xg_K_now C wF_K_21 mc_0 kc_0 d_K_endorse_12 ?_
    refine x_iload_n C d_K_endorse_15 2 rfl ?_
    obtain ⟨c3, hc3, hf⟩ := bs hf
    refine x_callV (rest := []) (n := 1) C (ct_V_hasPerson E F _ _ _ _ mc_23 kc_23 hc3) mi_V_hasPerson (by decide) mc_23 ⟨_, cel_V kc_23⟩ rfl rfl wL_K_138 d_K_endorse_16 rfl rfl (Nat.le_of_ble_eq_true rfl) ?_
    show X _ _ _ _ _ _ _ _ _ _ _ _ _ _ _ _ _ _ _ _ _ [.int c3]
    refine x_if_ne C 24 d_K_endorse_19 (by decide) (fun g4 => ?_) (fun g4 => ?_)
    · replace hf := ie g4 hf
      refine x_aload_n C d_K_endorse_24 0 rfl ?_
      refine xg_K_now C wF_K_21 mc_0 kc_0 d_K_endorse_25 ?_
      refine xg_V_drafts C wF_K_213 mc_23 kc_23 d_K_endorse_28 ?_
      refine x_iload_n C d_K_endorse_31 1 rfl ?_
      obtain ⟨z5, hz5, hf⟩ := bs hf
      refine x_aald2 C hz5 mc_25 kc_25 d_K_endorse_32 ?_
      refine x_astore_n (lv' := [(3, .ref (ad (25 + 1 + z5))), (0, .ref (ad 0)), (1, .int x1), (2, .int x2)]) C d_K_endorse_33 (by decide) rfl ?_
      refine x_aload_n C d_K_endorse_34 0 rfl ?_
      refine xg_D_who C wF_K_217 (ma_D kc_25 hz5) (ka_D kc_25 hz5) d_K_endorse_35 ?_
      refine x_iload_n C d_K_endorse_38 3 rfl ?_
      refine x_icmp_ne C 44 d_K_endorse_39 (by decide) (fun g6 => ?_) (fun g6 => ?_)
      · replace hf := ie g6 hf
        refine x_aload_n C d_K_endorse_44 0 rfl ?_
        obtain ⟨c7, hc7, hf⟩ := bs hf
        refine x_callV (rest := []) (n := 0) C (ct_D_isOpen E F _ _ _ (ma_D kc_25 hz5) (ka_D kc_25 hz5) hc7) mi_D_isOpen (by decide) (ma_D kc_25 hz5) ⟨_, cel_D (ka_D kc_25 hz5)⟩ rfl rfl wL_K_222 d_K_endorse_45 rfl rfl (Nat.le_of_ble_eq_true rfl) ?_
        show X _ _ _ _ _ _ _ _ _ _ _ _ _ _ _ _ _ _ _ _ _ [.int c7]
        refine x_if_eq C 67 d_K_endorse_48 (by decide) (fun g8 => ?_) (fun g8 => ?_)
        · replace hf := it g8 hf
          refine x_bipush (v := (-4)) C d_K_endorse_67 rfl ?_
          cases hf
          exact x_iret C d_K_endorse_69 rfl rfl
        · replace hf := ie g8 hf
          refine x_aload_n C d_K_endorse_51 0 rfl ?_
          refine xg_D_endorsed C wF_K_225 (ma_D kc_25 hz5) (ka_D kc_25 hz5) d_K_endorse_52 ?_
          refine x_iconst (v := 2) C d_K_endorse_55 rfl ?_
          refine x_icmp_ge C 67 d_K_endorse_56 (by decide) (fun g9 => ?_) (fun g9 => ?_)
          · replace hf := it g9 hf
            refine x_bipush (v := (-4)) C d_K_endorse_67 rfl ?_
            cases hf
            exact x_iret C d_K_endorse_69 rfl rfl
          · replace hf := ie g9 hf
            refine x_aload_n C d_K_endorse_59 0 rfl ?_
            refine xg_D_whom C wF_K_228 (ma_D kc_25 hz5) (ka_D kc_25 hz5) d_K_endorse_60 ?_
            refine x_iload_n C d_K_endorse_63 3 rfl ?_
            refine x_icmp_ne C 70 d_K_endorse_64 (by decide) (fun g10 => ?_) (fun g10 => ?_)
            · replace hf := ie g10 hf
              refine x_aload_n C d_K_endorse_70 1 rfl ?_
              refine xg_K_history C wF_K_31 mc_0 kc_0 d_K_endorse_71 ?_
              refine x_iconst (v := 1) C d_K_endorse_74 rfl ?_
              obtain ⟨c11, hc11, hf⟩ := bs hf
              refine x_callV (rest := []) (n := 1) C (ct_H_isFullFor E F _ _ _ _ mc_53 kc_53 hc11) mi_H_isFullFor (by decide) mc_53 ⟨_, cel_H kc_53⟩ rfl rfl wL_K_189 d_K_endorse_75 rfl rfl (Nat.le_of_ble_eq_true rfl) ?_
              show X _ _ _ _ _ _ _ _ _ _ _ _ _ _ _ _ _ _ _ _ _ [.int c11]
              refine x_if_eq C 84 d_K_endorse_78 (by decide) (fun g12 => ?_) (fun g12 => ?_)
              · replace hf := it g12 hf
                refine x_aload_n C d_K_endorse_84 1 rfl ?_
                refine xg_K_history C wF_K_31 mc_0 kc_0 d_K_endorse_85 ?_
                refine x_aload_n C d_K_endorse_88 1 rfl ?_
                refine xg_K_now C wF_K_21 mc_0 kc_0 d_K_endorse_89 ?_
                obtain ⟨c13, hc13, hf⟩ := bs hf
                refine x_callV (rest := []) (n := 1) C (ct_H_begin E F _ _ _ _ mc_53 kc_53 mc_23 kc_23 hc13) mi_H_begin (by decide) mc_53 ⟨_, cel_H kc_53⟩ rfl rfl wL_K_192 d_K_endorse_92 rfl rfl (Nat.le_of_ble_eq_true rfl) ?_
                show X _ _ _ _ _ _ _ _ _ _ _ _ _ _ _ _ _ _ _ _ _ []
                refine x_aload_n C d_K_endorse_95 0 rfl ?_
                refine x_iload_n C d_K_endorse_96 3 rfl ?_
                refine xp_D_whom (x := x2) C wF_K_228 (ma_D kc_25 hz5) (ka_D kc_25 hz5) d_K_endorse_97 ?_
                refine x_aload_n C d_K_endorse_100 0 rfl ?_
                refine x_dup C d_K_endorse_101 rfl ?_
                refine xg_D_endorsed C wF_K_225 (ma_D kc_25 hz5) (ka_D kc_25 hz5) d_K_endorse_102 ?_
                refine x_iconst (v := 1) C d_K_endorse_105 rfl ?_
                refine x_iadd C d_K_endorse_106 ?_
                refine xp_D_endorsed (x := (((up c13 (25 + 1 + z5) 1 x2) (25 + 1 + z5) 5) + 1)) C wF_K_225 (ma_D kc_25 hz5) (ka_D kc_25 hz5) d_K_endorse_107 ?_
                refine x_aload_n C d_K_endorse_110 0 rfl ?_
                refine xg_D_endorsed C wF_K_225 (ma_D kc_25 hz5) (ka_D kc_25 hz5) d_K_endorse_111 ?_
                cases hf
                exact x_iret C d_K_endorse_114 rfl rfl
              · replace hf := ie g12 hf
                refine x_bipush (v := (-2)) C d_K_endorse_81 rfl ?_
                cases hf
                exact x_iret C d_K_endorse_83 rfl rfl
            · replace hf := it g10 hf
              refine x_bipush (v := (-4)) C d_K_endorse_67 rfl ?_
              cases hf
              exact x_iret C d_K_endorse_69 rfl rfl
      · replace hf := it g6 hf
        refine x_iconst (v := (-1)) C d_K_endorse_42 rfl ?_
        cases hf
        exact x_iret C d_K_endorse_43 rfl rfl
    · replace hf := it g4 hf
      refine x_iconst (v := (-1)) C d_K_endorse_22 rfl ?_
      cases hf
      exact x_iret C d_K_endorse_23 rfl rfl
set_option maxHeartbeats 4000000 in
set_option maxRecDepth 100000 in
theorem ct_K_falls {l : Launch} {D : va_G} {ad : Nat → Nat} {cs : Nat → ClassId} {A : Nat → Prop} (E : Ev ad cs A LX) (F : Nat) (M : Mem) (x1 : Int32) (R : Int32)  (hf : K_falls F M x1 = some R) : Met l y_K_falls (Cond.code y_K_falls b_K_falls 2 (some .int) :: wl) (rmD 4) (PX D ad cs A LX [.ref (ad 0), .int x1] M) (QX D ad cs A LX (some (.int R)) M) 0 0 A := by
  refine x_enter (lv := [(0, .ref (ad 0)), (1, .int x1)]) E mi_K_falls.1 (Nat.le_of_ble_eq_true rfl) rfl (fun p e s m args below meth c C => ?_)
  unfold K_falls at hf
  refine x_aload_n C d_K_falls_0 0 rfl ?_
  refine xg_K_now C wF_K_21 mc_0 kc_0 d_K_falls_1 ?_
  refine x_iload_n C d_K_falls_4 1 rfl ?_
  obtain ⟨c1, hc1, hf⟩ := bs hf
  refine x_callV (rest := []) (n := 1) C (ct_V_hasPerson E F _ _ _ _ mc_23 kc_23 hc1) mi_V_hasPerson (by decide) mc_23 ⟨_, cel_V kc_23⟩ rfl rfl wL_K_138 d_K_falls_5 rfl rfl (Nat.le_of_ble_eq_true rfl) ?_
  show X _ _ _ _ _ _ _ _ _ _ _ _ _ _ _ _ _ _ _ _ _ [.int c1]
  refine x_if_ne C 13 d_K_falls_8 (by decide) (fun g2 => ?_) (fun g2 => ?_)
  · replace hf := ie g2 hf
    refine x_aload_n C d_K_falls_13 0 rfl ?_
    refine xg_K_now C wF_K_21 mc_0 kc_0 d_K_falls_14 ?_
    refine x_iload_n C d_K_falls_17 1 rfl ?_
    refine x_iconst (v := (-1)) C d_K_falls_18 rfl ?_
    obtain ⟨c3, hc3, hf⟩ := bs hf
    refine x_callV (rest := []) (n := 2) C (ct_V_fallen E F _ _ _ _ _ mc_23 kc_23 hc3) mi_V_fallen (by decide) mc_23 ⟨_, cel_V kc_23⟩ rfl rfl wL_K_286 d_K_falls_19 rfl rfl (Nat.le_of_ble_eq_true rfl) ?_
    show X _ _ _ _ _ _ _ _ _ _ _ _ _ _ _ _ _ _ _ _ _ [.int c3]
    cases hf
    exact x_iret C d_K_falls_22 rfl rfl
  · replace hf := it g2 hf
    refine x_iconst (v := (-1)) C d_K_falls_11 rfl ?_
    cases hf
    exact x_iret C d_K_falls_12 rfl rfl
set_option maxHeartbeats 4000000 in
set_option maxRecDepth 100000 in
theorem ct_K_isText {l : Launch} {D : va_G} {ad : Nat → Nat} {cs : Nat → ClassId} {A : Nat → Prop} (E : Ev ad cs A LX) (F : Nat) (M : Mem) (x0 : Int32) (R : Int32)  (hf : K_isText F M x0 = some R) : Met l y_K_isText (Cond.code y_K_isText b_K_isText 1 (some .boolean) :: wl) (rmD 0) (PX D ad cs A LX [.int x0] M) (QX D ad cs A LX (some (.int R)) M) 0 0 A := by
  refine x_enter (lv := [(0, .int x0)]) E mi_K_isText.1 (Nat.le_of_ble_eq_true rfl) rfl (fun p e s m args below meth c C => ?_)
  unfold K_isText at hf
  refine x_iload_n C d_K_isText_0 0 rfl ?_
  refine x_if_lt C 13 d_K_isText_1 (by decide) (fun g1 => ?_) (fun g1 => ?_)
  · replace hf := it g1 hf
    refine x_iconst (v := 0) C d_K_isText_13 rfl ?_
    cases hf
    exact x_zret C d_K_isText_14 (Or.inl rfl) rfl rfl
  · replace hf := ie g1 hf
    refine x_iload_n C d_K_isText_4 0 rfl ?_
    refine x_iconst (v := 4) C d_K_isText_5 rfl ?_
    refine x_icmp_ge C 13 d_K_isText_6 (by decide) (fun g2 => ?_) (fun g2 => ?_)
    · replace hf := it g2 hf
      refine x_iconst (v := 0) C d_K_isText_13 rfl ?_
      cases hf
      exact x_zret C d_K_isText_14 (Or.inl rfl) rfl rfl
    · replace hf := ie g2 hf
      refine x_iconst (v := 1) C d_K_isText_9 rfl ?_
      refine x_goto C 14 d_K_isText_10 (by decide) ?_
      cases hf
      exact x_zret C d_K_isText_14 (Or.inr rfl) rfl rfl
set_option maxHeartbeats 4000000 in
set_option maxRecDepth 100000 in
theorem ct_K_fault {l : Launch} {D : va_G} {ad : Nat → Nat} {cs : Nat → ClassId} {A : Nat → Prop} (E : Ev ad cs A LX) (F : Nat) (M : Mem) (x1 : Int32) (R : (Int32 × Mem))  (hf : K_fault F M x1 = some R) : Met l y_K_fault (Cond.code y_K_fault b_K_fault 2 (some .int) :: wl) (rmD 4) (PX D ad cs A LX [.ref (ad 0), .int x1] M) (QX D ad cs A LX (some (.int R.1)) R.2) 0 0 A := by
  refine x_enter (lv := [(0, .ref (ad 0)), (1, .int x1)]) E mi_K_fault.1 (Nat.le_of_ble_eq_true rfl) rfl (fun p e s m args below meth c C => ?_)
  unfold K_fault at hf
  refine x_iload_n C d_K_fault_0 1 rfl ?_
  obtain ⟨c1, hc1, hf⟩ := bs hf
  refine x_callS (rest := []) (n := 1) C (ct_K_isText E F _ _ _  hc1) mi_K_isText (by decide) wL_K_122 d_K_fault_1 rfl rfl (Nat.le_of_ble_eq_true rfl) ?_
  show X _ _ _ _ _ _ _ _ _ _ _ _ _ _ _ _ _ _ _ _ _ [.int c1]
  refine x_if_ne C 9 d_K_fault_4 (by decide) (fun g2 => ?_) (fun g2 => ?_)
  · replace hf := ie g2 hf
    refine x_aload_n C d_K_fault_9 0 rfl ?_
    refine xg_K_texts C wF_K_15 mc_0 kc_0 d_K_fault_10 ?_
    refine x_iload_n C d_K_fault_13 1 rfl ?_
    obtain ⟨z3, hz3, hf⟩ := bs hf
    refine x_aald1 C hz3 mc_14 kc_14 d_K_fault_14 ?_
    obtain ⟨c4, hc4, hf⟩ := bs hf
    refine x_callV (rest := []) (n := 0) C (ct_S_isMissing E F _ _ _ (ma_S kc_14 hz3) (ka_S kc_14 hz3) hc4) mi_S_isMissing (by decide) (ma_S kc_14 hz3) ⟨_, cel_S (ka_S kc_14 hz3)⟩ rfl rfl wL_K_105 d_K_fault_15 rfl rfl (Nat.le_of_ble_eq_true rfl) ?_
    show X _ _ _ _ _ _ _ _ _ _ _ _ _ _ _ _ _ _ _ _ _ [.int c4]
    refine x_if_eq C 27 d_K_fault_18 (by decide) (fun g5 => ?_) (fun g5 => ?_)
    · replace hf := it g5 hf
      refine x_aload_n C d_K_fault_27 0 rfl ?_
      refine xg_K_texts C wF_K_15 mc_0 kc_0 d_K_fault_28 ?_
      refine x_iload_n C d_K_fault_31 1 rfl ?_
      obtain ⟨z6, hz6, hf⟩ := bs hf
      refine x_aald1 C hz6 mc_14 kc_14 d_K_fault_32 ?_
      refine x_aload_n C d_K_fault_33 0 rfl ?_
      refine xg_K_sketch C wF_K_25 mc_0 kc_0 d_K_fault_34 ?_
      obtain ⟨c7, hc7, hf⟩ := bs hf
      refine x_callS (rest := []) (n := 2) C (ct_R_faultOf E F _ _ _ _ (ma_S kc_14 hz6) (ka_S kc_14 hz6) mc_38 kc_38 hc7) mi_R_faultOf (by decide) wL_K_125 d_K_fault_37 rfl rfl (Nat.le_of_ble_eq_true rfl) ?_
      show X _ _ _ _ _ _ _ _ _ _ _ _ _ _ _ _ _ _ _ _ _ [.int c7.1]
      cases hf
      exact x_iret C d_K_fault_40 rfl rfl
    · replace hf := ie g5 hf
      refine x_aload_n C d_K_fault_21 0 rfl ?_
      refine x_iconst (v := 1) C d_K_fault_22 rfl ?_
      obtain ⟨c8, hc8, hf⟩ := bs hf
      refine x_callV (rest := []) (n := 1) C (ct_K_refuse E F _ _ _  hc8) mi_K_refuse (by decide) mc_0 ⟨_, cel_K kc_0⟩ rfl rfl wL_K_88 d_K_fault_23 rfl rfl (Nat.le_of_ble_eq_true rfl) ?_
      show X _ _ _ _ _ _ _ _ _ _ _ _ _ _ _ _ _ _ _ _ _ [.int c8.1]
      cases hf
      exact x_iret C d_K_fault_26 rfl rfl
  · replace hf := it g2 hf
    refine x_iconst (v := (-1)) C d_K_fault_7 rfl ?_
    cases hf
    exact x_iret C d_K_fault_8 rfl rfl
set_option maxHeartbeats 4000000 in
set_option maxRecDepth 100000 in
theorem ct_K_finding {l : Launch} {D : va_G} {ad : Nat → Nat} {cs : Nat → ClassId} {A : Nat → Prop} (E : Ev ad cs A LX) (F : Nat) (M : Mem)  (R : Int32)  (hf : K_finding F M = some R) : Met l y_K_finding (Cond.code y_K_finding b_K_finding 1 (some .int) :: wl) (rmD 0) (PX D ad cs A LX [.ref (ad 0)] M) (QX D ad cs A LX (some (.int R)) M) 0 0 A := by
  refine x_enter (lv := [(0, .ref (ad 0))]) E mi_K_finding.1 (Nat.le_of_ble_eq_true rfl) rfl (fun p e s m args below meth c C => ?_)
  unfold K_finding at hf
  refine x_aload_n C d_K_finding_0 0 rfl ?_
  refine xg_K_latestFinding C wF_K_64 mc_0 kc_0 d_K_finding_1 ?_
  cases hf
  exact x_iret C d_K_finding_4 rfl rfl
set_option maxHeartbeats 4000000 in
set_option maxRecDepth 100000 in
theorem ct_K_findings {l : Launch} {D : va_G} {ad : Nat → Nat} {cs : Nat → ClassId} {A : Nat → Prop} (E : Ev ad cs A LX) (F : Nat) (M : Mem) (x1 : Int32) (R : Int32)  (hf : K_findings F M x1 = some R) : Met l y_K_findings (Cond.code y_K_findings b_K_findings 2 (some .int) :: wl) (rmD 0) (PX D ad cs A LX [.ref (ad 0), .int x1] M) (QX D ad cs A LX (some (.int R)) M) 0 0 A := by
  refine x_enter (lv := [(0, .ref (ad 0)), (1, .int x1)]) E mi_K_findings.1 (Nat.le_of_ble_eq_true rfl) rfl (fun p e s m args below meth c C => ?_)
  unfold K_findings at hf
  refine x_iload_n C d_K_findings_0 1 rfl ?_
  refine x_iconst (v := 1) C d_K_findings_1 rfl ?_
  refine x_icmp_lt C 10 d_K_findings_2 (by decide) (fun g1 => ?_) (fun g1 => ?_)
  · replace hf := it g1 hf
    refine x_iconst (v := (-1)) C d_K_findings_10 rfl ?_
    cases hf
    exact x_iret C d_K_findings_11 rfl rfl
  · replace hf := ie g1 hf
    refine x_iload_n C d_K_findings_5 1 rfl ?_
    refine x_iconst (v := 5) C d_K_findings_6 rfl ?_
    refine x_icmp_le C 12 d_K_findings_7 (by decide) (fun g2 => ?_) (fun g2 => ?_)
    · replace hf := it g2 hf
      refine x_aload_n C d_K_findings_12 0 rfl ?_
      refine xg_K_timesFound C wF_K_60 mc_0 kc_0 d_K_findings_13 ?_
      refine x_iload_n C d_K_findings_16 1 rfl ?_
      obtain ⟨t3, ht3, hf⟩ := bs hf
      refine x_iald C ht3 mc_76 kc_76 d_K_findings_17 ?_
      cases hf
      exact x_iret C d_K_findings_18 rfl rfl
    · replace hf := ie g2 hf
      refine x_iconst (v := (-1)) C d_K_findings_10 rfl ?_
      cases hf
      exact x_iret C d_K_findings_11 rfl rfl
set_option maxHeartbeats 4000000 in
set_option maxRecDepth 100000 in
theorem ct_K_firstGain {l : Launch} {D : va_G} {ad : Nat → Nat} {cs : Nat → ClassId} {A : Nat → Prop} (E : Ev ad cs A LX) (F : Nat) (M : Mem) (k0 : Nat) (R : Int32) (hm0 : k0 ∈ LX) (hk0 : kd k0 = 0) (hf : K_firstGain F M k0 = some R) : Met l y_K_firstGain (Cond.code y_K_firstGain b_K_firstGain 1 (some .int) :: wl) (rmD 0) (PX D ad cs A LX [.ref (ad k0)] M) (QX D ad cs A LX (some (.int R)) M) 0 0 A := by
  refine x_enter (lv := [(0, .ref (ad k0))]) E mi_K_firstGain.1 (Nat.le_of_ble_eq_true rfl) rfl (fun p e s m args below meth c C => ?_)
  unfold K_firstGain at hf
  refine x_aload_n C d_K_firstGain_0 0 rfl ?_
  refine x_alen (v := (Int32.ofNat (ln k0))) C hm0 hk0 rfl d_K_firstGain_1 ?_
  refine x_bipush (v := 6) C d_K_firstGain_2 rfl ?_
  refine x_icmp_ge C 10 d_K_firstGain_4 (by decide) (fun g1 => ?_) (fun g1 => ?_)
  · replace hf := it g1 hf
    refine x_aload_n C d_K_firstGain_10 0 rfl ?_
    refine x_iconst (v := 0) C d_K_firstGain_11 rfl ?_
    obtain ⟨t2, ht2, hf⟩ := bs hf
    refine x_iald C ht2 hm0 hk0 d_K_firstGain_12 ?_
    refine x_i2l C d_K_firstGain_13 ?_
    refine x_aload_n C d_K_firstGain_14 0 rfl ?_
    refine x_iconst (v := 2) C d_K_firstGain_15 rfl ?_
    obtain ⟨t3, ht3, hf⟩ := bs hf
    refine x_iald C ht3 hm0 hk0 d_K_firstGain_16 ?_
    refine x_i2l C d_K_firstGain_17 ?_
    refine x_lmul C d_K_firstGain_18 ?_
    refine x_ldc2 C wJ_K_380 d_K_firstGain_19 ?_
    refine x_lcmp C d_K_firstGain_22 ?_
    refine x_if_le C 28 d_K_firstGain_23 (by decide) (fun g4 => ?_) (fun g4 => ?_)
    · replace hf := it g4 hf
      refine x_aload_n C d_K_firstGain_28 0 rfl ?_
      refine x_iconst (v := 1) C d_K_firstGain_29 rfl ?_
      obtain ⟨t5, ht5, hf⟩ := bs hf
      refine x_iald C ht5 hm0 hk0 d_K_firstGain_30 ?_
      refine x_i2l C d_K_firstGain_31 ?_
      refine x_aload_n C d_K_firstGain_32 0 rfl ?_
      refine x_iconst (v := 4) C d_K_firstGain_33 rfl ?_
      obtain ⟨t6, ht6, hf⟩ := bs hf
      refine x_iald C ht6 hm0 hk0 d_K_firstGain_34 ?_
      refine x_i2l C d_K_firstGain_35 ?_
      refine x_lmul C d_K_firstGain_36 ?_
      refine x_ldc2 C wJ_K_380 d_K_firstGain_37 ?_
      refine x_lcmp C d_K_firstGain_40 ?_
      refine x_if_le C 46 d_K_firstGain_41 (by decide) (fun g7 => ?_) (fun g7 => ?_)
      · replace hf := it g7 hf
        refine x_aload_n C d_K_firstGain_46 0 rfl ?_
        refine x_iconst (v := 3) C d_K_firstGain_47 rfl ?_
        obtain ⟨t8, ht8, hf⟩ := bs hf
        refine x_iald C ht8 hm0 hk0 d_K_firstGain_48 ?_
        refine x_i2l C d_K_firstGain_49 ?_
        refine x_aload_n C d_K_firstGain_50 0 rfl ?_
        refine x_iconst (v := 5) C d_K_firstGain_51 rfl ?_
        obtain ⟨t9, ht9, hf⟩ := bs hf
        refine x_iald C ht9 hm0 hk0 d_K_firstGain_52 ?_
        refine x_i2l C d_K_firstGain_53 ?_
        refine x_lmul C d_K_firstGain_54 ?_
        refine x_ldc2 C wJ_K_380 d_K_firstGain_55 ?_
        refine x_lcmp C d_K_firstGain_58 ?_
        refine x_if_le C 64 d_K_firstGain_59 (by decide) (fun g10 => ?_) (fun g10 => ?_)
        · replace hf := it g10 hf
          refine x_aload_n C d_K_firstGain_64 0 rfl ?_
          refine x_iconst (v := 0) C d_K_firstGain_65 rfl ?_
          obtain ⟨t11, ht11, hf⟩ := bs hf
          refine x_iald C ht11 hm0 hk0 d_K_firstGain_66 ?_
          refine x_i2l C d_K_firstGain_67 ?_
          refine x_aload_n C d_K_firstGain_68 0 rfl ?_
          refine x_iconst (v := 3) C d_K_firstGain_69 rfl ?_
          obtain ⟨t12, ht12, hf⟩ := bs hf
          refine x_iald C ht12 hm0 hk0 d_K_firstGain_70 ?_
          refine x_i2l C d_K_firstGain_71 ?_
          refine x_lmul C d_K_firstGain_72 ?_
          refine x_aload_n C d_K_firstGain_73 0 rfl ?_
          refine x_iconst (v := 4) C d_K_firstGain_74 rfl ?_
          obtain ⟨t13, ht13, hf⟩ := bs hf
          refine x_iald C ht13 hm0 hk0 d_K_firstGain_75 ?_
          refine x_i2l C d_K_firstGain_76 ?_
          refine x_lmul C d_K_firstGain_77 ?_
          refine x_ldc2 C wJ_K_382 d_K_firstGain_78 ?_
          refine x_lcmp C d_K_firstGain_81 ?_
          refine x_if_le C 87 d_K_firstGain_82 (by decide) (fun g14 => ?_) (fun g14 => ?_)
          · replace hf := it g14 hf
            refine x_aload_n C d_K_firstGain_87 0 rfl ?_
            refine x_iconst (v := 1) C d_K_firstGain_88 rfl ?_
            obtain ⟨t15, ht15, hf⟩ := bs hf
            refine x_iald C ht15 hm0 hk0 d_K_firstGain_89 ?_
            refine x_i2l C d_K_firstGain_90 ?_
            refine x_aload_n C d_K_firstGain_91 0 rfl ?_
            refine x_iconst (v := 5) C d_K_firstGain_92 rfl ?_
            obtain ⟨t16, ht16, hf⟩ := bs hf
            refine x_iald C ht16 hm0 hk0 d_K_firstGain_93 ?_
            refine x_i2l C d_K_firstGain_94 ?_
            refine x_lmul C d_K_firstGain_95 ?_
            refine x_aload_n C d_K_firstGain_96 0 rfl ?_
            refine x_iconst (v := 2) C d_K_firstGain_97 rfl ?_
            obtain ⟨t17, ht17, hf⟩ := bs hf
            refine x_iald C ht17 hm0 hk0 d_K_firstGain_98 ?_
            refine x_i2l C d_K_firstGain_99 ?_
            refine x_lmul C d_K_firstGain_100 ?_
            refine x_ldc2 C wJ_K_382 d_K_firstGain_101 ?_
            refine x_lcmp C d_K_firstGain_104 ?_
            refine x_if_le C 110 d_K_firstGain_105 (by decide) (fun g18 => ?_) (fun g18 => ?_)
            · replace hf := it g18 hf
              refine x_bipush (v := (-9)) C d_K_firstGain_110 rfl ?_
              cases hf
              exact x_iret C d_K_firstGain_112 rfl rfl
            · replace hf := ie g18 hf
              refine x_iconst (v := 4) C d_K_firstGain_108 rfl ?_
              cases hf
              exact x_iret C d_K_firstGain_109 rfl rfl
          · replace hf := ie g14 hf
            refine x_iconst (v := 3) C d_K_firstGain_85 rfl ?_
            cases hf
            exact x_iret C d_K_firstGain_86 rfl rfl
        · replace hf := ie g10 hf
          refine x_iconst (v := 2) C d_K_firstGain_62 rfl ?_
          cases hf
          exact x_iret C d_K_firstGain_63 rfl rfl
      · replace hf := ie g7 hf
        refine x_iconst (v := 1) C d_K_firstGain_44 rfl ?_
        cases hf
        exact x_iret C d_K_firstGain_45 rfl rfl
    · replace hf := ie g4 hf
      refine x_iconst (v := 0) C d_K_firstGain_26 rfl ?_
      cases hf
      exact x_iret C d_K_firstGain_27 rfl rfl
  · replace hf := ie g1 hf
    refine x_bipush (v := (-9)) C d_K_firstGain_7 rfl ?_
    cases hf
    exact x_iret C d_K_firstGain_9 rfl rfl
set_option maxHeartbeats 4000000 in
set_option maxRecDepth 100000 in
theorem lw_K_gain_46 {p : Program} {l : Launch} {e : Env} {s : State} {m : MethodId} {args : Array Value} {below : List Frame} {meth : Method} {c : Code} {D : va_G} {ad : Nat → Nat} {cs : Nat → ClassId} {A : Nat → Prop} {V : Option Value} {N : Mem} (E : Ev ad cs A LX) (C : Cx p s m args meth c "KissClearing" b_K_gain 4 (some .int) D ad cs A LX) (F : Nat) (k2 : Nat) (hm2 : k2 ∈ LX) (hk2 : kd k2 = 11) : ∀ (n : Nat) (M : Mem) (x3 : Int32) (u0 : (Sum (Int32 × Mem) Mem)), L_K_gain_46 F k2 n M x3 = some u0 → (∀ r, u0 = .inl r → V = some (.int r.1) ∧ N = r.2) →  (∀ u, u0 = .inr u → X p l e 1 s m args below meth c 4 D ad cs A LX V N u 86 [(2, .ref (ad k2))] []) → X p l e 1 s m args below meth c 4 D ad cs A LX V N M 46 [(0, .ref (ad 0)), (2, .ref (ad k2)), (3, .int x3)] [] := by
  intro n
  induction n with
  | zero => intro M x3 u0 hf; cases hf
  | succ n ih =>
    intro M x3 u0 hf Kr Kx
    replace hf : B_K_gain_46 F k2 (L_K_gain_46 F k2 n) M x3 = some u0 := hf
    unfold B_K_gain_46 at hf
    refine x_iload_n C d_K_gain_46 2 rfl ?_
    refine x_bipush (v := 6) C d_K_gain_47 rfl ?_
    refine x_icmp_ge C 86 d_K_gain_49 (by decide) (fun g7 => ?_) (fun g7 => ?_)
    · replace hf := it g7 hf
      cases hf
      exact x_sub [1] rfl (Kx _ rfl)
    · replace hf := ie g7 hf
      refine x_aload_n C d_K_gain_52 1 rfl ?_
      refine xg_S_places C wF_K_99 hm2 hk2 d_K_gain_53 ?_
      refine x_iload_n C d_K_gain_56 2 rfl ?_
      obtain ⟨t8, ht8, hf⟩ := bs hf
      refine x_iald C ht8 (m_S_places hk2) (k_S_places hk2) d_K_gain_57 ?_
      refine x_iconst (v := 1) C d_K_gain_58 rfl ?_
      refine x_icmp_lt C 74 d_K_gain_59 (by decide) (fun g9 => ?_) (fun g9 => ?_)
      · replace hf := it g9 hf
        refine x_aload_n C d_K_gain_74 0 rfl ?_
        refine x_iconst (v := 3) C d_K_gain_75 rfl ?_
        obtain ⟨c10, hc10, hf⟩ := bs hf
        refine x_callV (rest := []) (n := 1) C (ct_K_refuse E F _ _ _  hc10) mi_K_refuse (by decide) mc_0 ⟨_, cel_K kc_0⟩ rfl rfl wL_K_88 d_K_gain_76 rfl rfl (Nat.le_of_ble_eq_true rfl) ?_
        show X _ _ _ _ _ _ _ _ _ _ _ _ _ _ _ _ _ _ _ _ _ [.int c10.1]
        cases hf
        obtain ⟨hV, hN⟩ := Kr _ rfl
        exact x_iret C d_K_gain_79 hV hN
      · replace hf := ie g9 hf
        refine x_aload_n C d_K_gain_62 1 rfl ?_
        refine xg_S_places C wF_K_99 hm2 hk2 d_K_gain_63 ?_
        refine x_iload_n C d_K_gain_66 2 rfl ?_
        obtain ⟨t11, ht11, hf⟩ := bs hf
        refine x_iald C ht11 (m_S_places hk2) (k_S_places hk2) d_K_gain_67 ?_
        refine x_sipush (v := 9999) C d_K_gain_68 rfl ?_
        refine x_icmp_le C 80 d_K_gain_71 (by decide) (fun g12 => ?_) (fun g12 => ?_)
        · replace hf := it g12 hf
          refine x_iinc (v := (x3 + 1)) (lv' := [(3, .int (x3 + 1)), (0, .ref (ad 0)), (2, .ref (ad k2))]) C d_K_gain_80 2 rfl rfl (by decide) rfl ?_
          refine x_goto C 46 d_K_gain_83 (by decide) ?_
          refine x_sub [1, 2, 0] rfl ?_
          exact ih _ _ _ hf Kr Kx
        · replace hf := ie g12 hf
          refine x_aload_n C d_K_gain_74 0 rfl ?_
          refine x_iconst (v := 3) C d_K_gain_75 rfl ?_
          obtain ⟨c13, hc13, hf⟩ := bs hf
          refine x_callV (rest := []) (n := 1) C (ct_K_refuse E F _ _ _  hc13) mi_K_refuse (by decide) mc_0 ⟨_, cel_K kc_0⟩ rfl rfl wL_K_88 d_K_gain_76 rfl rfl (Nat.le_of_ble_eq_true rfl) ?_
          show X _ _ _ _ _ _ _ _ _ _ _ _ _ _ _ _ _ _ _ _ _ [.int c13.1]
          cases hf
          obtain ⟨hV, hN⟩ := Kr _ rfl
          exact x_iret C d_K_gain_79 hV hN
set_option maxHeartbeats 4000000 in
set_option maxRecDepth 100000 in
theorem ct_K_gain {l : Launch} {D : va_G} {ad : Nat → Nat} {cs : Nat → ClassId} {A : Nat → Prop} (E : Ev ad cs A LX) (F : Nat) (M : Mem) (x1 : Int32) (R : (Int32 × Mem))  (hf : K_gain F M x1 = some R) : Met l y_K_gain (Cond.code y_K_gain b_K_gain 4 (some .int) :: wl) (rmD 1) (PX D ad cs A LX [.ref (ad 0), .int x1] M) (QX D ad cs A LX (some (.int R.1)) R.2) 0 0 A := by
  refine x_enter (lv := [(0, .ref (ad 0)), (1, .int x1)]) E mi_K_gain.1 (Nat.le_of_ble_eq_true rfl) rfl (fun p e s m args below meth c C => ?_)
  unfold K_gain at hf
  refine x_iload_n C d_K_gain_0 1 rfl ?_
  obtain ⟨c1, hc1, hf⟩ := bs hf
  refine x_callS (rest := []) (n := 1) C (ct_K_isRow E F _ _ _  hc1) mi_K_isRow (by decide) wL_K_84 d_K_gain_1 rfl rfl (Nat.le_of_ble_eq_true rfl) ?_
  show X _ _ _ _ _ _ _ _ _ _ _ _ _ _ _ _ _ _ _ _ _ [.int c1]
  refine x_if_ne C 9 d_K_gain_4 (by decide) (fun g2 => ?_) (fun g2 => ?_)
  · replace hf := ie g2 hf
    refine x_aload_n C d_K_gain_9 0 rfl ?_
    refine xg_K_rows C wF_K_11 mc_0 kc_0 d_K_gain_10 ?_
    refine x_iload_n C d_K_gain_13 1 rfl ?_
    obtain ⟨z3, hz3, hf⟩ := bs hf
    refine x_aald1 C hz3 mc_1 kc_1 d_K_gain_14 ?_
    refine x_astore_n (lv' := [(2, .ref (ad (1 + 1 + 2 * z3))), (0, .ref (ad 0)), (1, .int x1)]) C d_K_gain_15 (by decide) rfl ?_
    refine x_aload_n C d_K_gain_16 0 rfl ?_
    obtain ⟨c4, hc4, hf⟩ := bs hf
    refine x_callV (rest := []) (n := 0) C (ct_S_isMissing E F _ _ _ (ma_S kc_1 hz3) (ka_S kc_1 hz3) hc4) mi_S_isMissing (by decide) (ma_S kc_1 hz3) ⟨_, cel_S (ka_S kc_1 hz3)⟩ rfl rfl wL_K_105 d_K_gain_17 rfl rfl (Nat.le_of_ble_eq_true rfl) ?_
    show X _ _ _ _ _ _ _ _ _ _ _ _ _ _ _ _ _ _ _ _ _ [.int c4]
    refine x_if_eq C 29 d_K_gain_20 (by decide) (fun g5 => ?_) (fun g5 => ?_)
    · replace hf := it g5 hf
      refine x_aload_n C d_K_gain_29 0 rfl ?_
      refine xg_S_size C wF_K_109 (ma_S kc_1 hz3) (ka_S kc_1 hz3) d_K_gain_30 ?_
      refine x_bipush (v := 6) C d_K_gain_33 rfl ?_
      refine x_icmp_eq C 44 d_K_gain_35 (by decide) (fun g6 => ?_) (fun g6 => ?_)
      · replace hf := it g6 hf
        refine x_iconst (v := 0) C d_K_gain_44 rfl ?_
        refine x_istore_n (lv' := [(3, .int 0), (2, .ref (ad (1 + 1 + 2 * z3))), (0, .ref (ad 0)), (1, .int x1)]) C d_K_gain_45 (by decide) rfl ?_
        obtain ⟨u14, hu14, hf⟩ := bs hf
        refine x_sub [2, 1, 0] rfl ?_
        refine lw_K_gain_46 E C F _ (ma_S kc_1 hz3) (ka_S kc_1 hz3) _ _ _ _ hu14 (fun r15 hr15 => ?_) (fun w16 hw16 => ?_)
        · subst hr15
          replace hf := se_l hf
          cases hf
          exact ⟨rfl, rfl⟩
        · subst hw16
          replace hf := se_r hf
          refine x_aload_n C d_K_gain_86 0 rfl ?_
          refine xg_S_places C wF_K_99 (ma_S kc_1 hz3) (ka_S kc_1 hz3) d_K_gain_87 ?_
          obtain ⟨c17, hc17, hf⟩ := bs hf
          refine x_callS (rest := []) (n := 1) C (ct_K_firstGain E F _ _ _ (m_S_places (ka_S kc_1 hz3)) (k_S_places (ka_S kc_1 hz3)) hc17) mi_K_firstGain (by decide) wL_K_310 d_K_gain_90 rfl rfl (Nat.le_of_ble_eq_true rfl) ?_
          show X _ _ _ _ _ _ _ _ _ _ _ _ _ _ _ _ _ _ _ _ _ [.int c17]
          cases hf
          exact x_iret C d_K_gain_93 rfl rfl
      · replace hf := ie g6 hf
        refine x_aload_n C d_K_gain_38 1 rfl ?_
        refine x_iconst (v := 5) C d_K_gain_39 rfl ?_
        obtain ⟨c18, hc18, hf⟩ := bs hf
        refine x_callV (rest := []) (n := 1) C (ct_K_refuse E F _ _ _  hc18) mi_K_refuse (by decide) mc_0 ⟨_, cel_K kc_0⟩ rfl rfl wL_K_88 d_K_gain_40 rfl rfl (Nat.le_of_ble_eq_true rfl) ?_
        show X _ _ _ _ _ _ _ _ _ _ _ _ _ _ _ _ _ _ _ _ _ [.int c18.1]
        cases hf
        exact x_iret C d_K_gain_43 rfl rfl
    · replace hf := ie g5 hf
      refine x_aload_n C d_K_gain_23 1 rfl ?_
      refine x_iconst (v := 1) C d_K_gain_24 rfl ?_
      obtain ⟨c19, hc19, hf⟩ := bs hf
      refine x_callV (rest := []) (n := 1) C (ct_K_refuse E F _ _ _  hc19) mi_K_refuse (by decide) mc_0 ⟨_, cel_K kc_0⟩ rfl rfl wL_K_88 d_K_gain_25 rfl rfl (Nat.le_of_ble_eq_true rfl) ?_
      show X _ _ _ _ _ _ _ _ _ _ _ _ _ _ _ _ _ _ _ _ _ [.int c19.1]
      cases hf
      exact x_iret C d_K_gain_28 rfl rfl
  · replace hf := it g2 hf
    refine x_iconst (v := (-1)) C d_K_gain_7 rfl ?_
    cases hf
    exact x_iret C d_K_gain_8 rfl rfl
set_option maxHeartbeats 4000000 in
set_option maxRecDepth 100000 in
theorem lw_K_greatestCommon_7 {p : Program} {l : Launch} {e : Env} {s : State} {m : MethodId} {args : Array Value} {below : List Frame} {meth : Method} {c : Code} {D : va_G} {ad : Nat → Nat} {cs : Nat → ClassId} {A : Nat → Prop} {V : Option Value} {N : Mem} (E : Ev ad cs A LX) (C : Cx p s m args meth c "KissClearing" b_K_greatestCommon 3 (some .int) D ad cs A LX) (F : Nat) (M : Mem) (x0 : Int32) (x1 : Int32) : ∀ (n : Nat) (x2 : Int32) (u0 : (Sum Int32 Unit)), L_K_greatestCommon_7 F M x0 x1 n x2 = some u0 → (∀ r, u0 = .inl r → V = some (.int r) ∧ N = M) →  (∀ u, u0 = .inr u → X p l e 1 s m args below meth c 3 D ad cs A LX V N M 32 [] []) → X p l e 1 s m args below meth c 3 D ad cs A LX V N M 7 [(0, .int x0), (1, .int x1), (2, .int x2)] [] := by
  intro n
  induction n with
  | zero => intro x2 u0 hf; cases hf
  | succ n ih =>
    intro x2 u0 hf Kr Kx
    replace hf : B_K_greatestCommon_7 F M x0 x1 (L_K_greatestCommon_7 F M x0 x1 n) x2 = some u0 := hf
    unfold B_K_greatestCommon_7 at hf
    refine x_iload_n C d_K_greatestCommon_7 2 rfl ?_
    refine x_iconst (v := 1) C d_K_greatestCommon_8 rfl ?_
    refine x_icmp_le C 32 d_K_greatestCommon_9 (by decide) (fun g1 => ?_) (fun g1 => ?_)
    · replace hf := it g1 hf
      cases hf
      exact x_sub [] rfl (Kx _ rfl)
    · replace hf := ie g1 hf
      refine x_iload_n C d_K_greatestCommon_12 0 rfl ?_
      refine x_iload_n C d_K_greatestCommon_13 2 rfl ?_
      obtain ⟨t2, ht2, hf⟩ := bs hf
      refine x_irem C ht2 d_K_greatestCommon_14 ?_
      refine x_if_ne C 26 d_K_greatestCommon_15 (by decide) (fun g3 => ?_) (fun g3 => ?_)
      · replace hf := ie g3 hf
        refine x_iinc (v := (x2 + (-1))) (lv' := [(2, .int (x2 + (-1))), (0, .int x0), (1, .int x1)]) C d_K_greatestCommon_26 2 rfl rfl (by decide) rfl ?_
        refine x_goto C 7 d_K_greatestCommon_29 (by decide) ?_
        refine x_sub [1, 2, 0] rfl ?_
        exact ih _ _ hf Kr Kx
      · replace hf := it g3 hf
        refine x_iload_n C d_K_greatestCommon_18 1 rfl ?_
        refine x_iload_n C d_K_greatestCommon_19 2 rfl ?_
        obtain ⟨t4, ht4, hf⟩ := bs hf
        refine x_irem C ht4 d_K_greatestCommon_20 ?_
        refine x_if_ne C 26 d_K_greatestCommon_21 (by decide) (fun g5 => ?_) (fun g5 => ?_)
        · replace hf := ie g5 hf
          refine x_iinc (v := (x2 + (-1))) (lv' := [(2, .int (x2 + (-1))), (0, .int x0), (1, .int x1)]) C d_K_greatestCommon_26 2 rfl rfl (by decide) rfl ?_
          refine x_goto C 7 d_K_greatestCommon_29 (by decide) ?_
          refine x_sub [1, 2, 0] rfl ?_
          exact ih _ _ hf Kr Kx
        · replace hf := it g5 hf
          refine x_iload_n C d_K_greatestCommon_24 2 rfl ?_
          cases hf
          obtain ⟨hV, hN⟩ := Kr _ rfl
          exact x_iret C d_K_greatestCommon_25 hV hN
set_option maxHeartbeats 4000000 in
set_option maxRecDepth 100000 in
theorem ct_K_greatestCommon {l : Launch} {D : va_G} {ad : Nat → Nat} {cs : Nat → ClassId} {A : Nat → Prop} (E : Ev ad cs A LX) (F : Nat) (M : Mem) (x0 : Int32) (x1 : Int32) (R : Int32)  (hf : K_greatestCommon F M x0 x1 = some R) : Met l y_K_greatestCommon (Cond.code y_K_greatestCommon b_K_greatestCommon 3 (some .int) :: wl) (rmD 1) (PX D ad cs A LX [.int x0, .int x1] M) (QX D ad cs A LX (some (.int R)) M) 0 0 A := by
  refine x_enter (lv := [(0, .int x0), (1, .int x1)]) E mi_K_greatestCommon.1 (Nat.le_of_ble_eq_true rfl) rfl (fun p e s m args below meth c C => ?_)
  unfold K_greatestCommon at hf
  refine x_iload_n C d_K_greatestCommon_0 0 rfl ?_
  refine x_bipush (v := 6) C d_K_greatestCommon_1 rfl ?_
  refine x_min C wL_K_384 (by decide) (Nat.le_of_ble_eq_true rfl) d_K_greatestCommon_3 ?_
  refine x_istore_n (lv' := [(2, .int (if 6 < x0 then 6 else x0)), (0, .int x0), (1, .int x1)]) C d_K_greatestCommon_6 (by decide) rfl ?_
  obtain ⟨u6, hu6, hf⟩ := bs hf
  refine x_sub [1, 2, 0] rfl ?_
  refine lw_K_greatestCommon_7 E C F _ _ _ _ _ _ hu6 (fun r7 hr7 => ?_) (fun w8 hw8 => ?_)
  · subst hr7
    replace hf := se_l hf
    cases hf
    exact ⟨rfl, rfl⟩
  · subst hw8
    replace hf := se_r hf
    refine x_iconst (v := 1) C d_K_greatestCommon_32 rfl ?_
    cases hf
    exact x_iret C d_K_greatestCommon_33 rfl rfl
set_option maxHeartbeats 4000000 in
set_option maxRecDepth 100000 in
theorem ct_K_isKeptPlace {l : Launch} {D : va_G} {ad : Nat → Nat} {cs : Nat → ClassId} {A : Nat → Prop} (E : Ev ad cs A LX) (F : Nat) (M : Mem) (x0 : Int32) (R : Int32)  (hf : K_isKeptPlace F M x0 = some R) : Met l y_K_isKeptPlace (Cond.code y_K_isKeptPlace b_K_isKeptPlace 1 (some .boolean) :: wl) (rmD 0) (PX D ad cs A LX [.int x0] M) (QX D ad cs A LX (some (.int R)) M) 0 0 A := by
  refine x_enter (lv := [(0, .int x0)]) E mi_K_isKeptPlace.1 (Nat.le_of_ble_eq_true rfl) rfl (fun p e s m args below meth c C => ?_)
  unfold K_isKeptPlace at hf
  refine x_iload_n C d_K_isKeptPlace_0 0 rfl ?_
  refine x_if_lt C 13 d_K_isKeptPlace_1 (by decide) (fun g1 => ?_) (fun g1 => ?_)
  · replace hf := it g1 hf
    refine x_iconst (v := 0) C d_K_isKeptPlace_13 rfl ?_
    cases hf
    exact x_zret C d_K_isKeptPlace_14 (Or.inl rfl) rfl rfl
  · replace hf := ie g1 hf
    refine x_iload_n C d_K_isKeptPlace_4 0 rfl ?_
    refine x_iconst (v := 3) C d_K_isKeptPlace_5 rfl ?_
    refine x_icmp_ge C 13 d_K_isKeptPlace_6 (by decide) (fun g2 => ?_) (fun g2 => ?_)
    · replace hf := it g2 hf
      refine x_iconst (v := 0) C d_K_isKeptPlace_13 rfl ?_
      cases hf
      exact x_zret C d_K_isKeptPlace_14 (Or.inl rfl) rfl rfl
    · replace hf := ie g2 hf
      refine x_iconst (v := 1) C d_K_isKeptPlace_9 rfl ?_
      refine x_goto C 14 d_K_isKeptPlace_10 (by decide) ?_
      cases hf
      exact x_zret C d_K_isKeptPlace_14 (Or.inr rfl) rfl rfl
set_option maxHeartbeats 4000000 in
set_option maxRecDepth 100000 in
theorem ct_K_keep {l : Launch} {D : va_G} {ad : Nat → Nat} {cs : Nat → ClassId} {A : Nat → Prop} (E : Ev ad cs A LX) (F : Nat) (M : Mem) (x1 : Int32) (R : (Int32 × Mem))  (hf : K_keep F M x1 = some R) : Met l y_K_keep (Cond.code y_K_keep b_K_keep 2 (some .int) :: wl) (rmD 2) (PX D ad cs A LX [.ref (ad 0), .int x1] M) (QX D ad cs A LX (some (.int R.1)) R.2) 0 0 A := by
  refine x_enter (lv := [(0, .ref (ad 0)), (1, .int x1)]) E mi_K_keep.1 (Nat.le_of_ble_eq_true rfl) rfl (fun p e s m args below meth c C => ?_)
  unfold K_keep at hf
  refine x_iload_n C d_K_keep_0 1 rfl ?_
  obtain ⟨c1, hc1, hf⟩ := bs hf
  refine x_callS (rest := []) (n := 1) C (ct_K_isKeptPlace E F _ _ _  hc1) mi_K_isKeptPlace (by decide) wL_K_242 d_K_keep_1 rfl rfl (Nat.le_of_ble_eq_true rfl) ?_
  show X _ _ _ _ _ _ _ _ _ _ _ _ _ _ _ _ _ _ _ _ _ [.int c1]
  refine x_if_ne C 9 d_K_keep_4 (by decide) (fun g2 => ?_) (fun g2 => ?_)
  · replace hf := ie g2 hf
    refine x_aload_n C d_K_keep_9 0 rfl ?_
    refine xg_K_now C wF_K_21 mc_0 kc_0 d_K_keep_10 ?_
    obtain ⟨c3, hc3, hf⟩ := bs hf
    refine x_callV (rest := []) (n := 0) C (ct_V_isEmpty E F _ _ _ mc_23 kc_23 hc3) mi_V_isEmpty (by decide) mc_23 ⟨_, cel_V kc_23⟩ rfl rfl wL_K_231 d_K_keep_13 rfl rfl (Nat.le_of_ble_eq_true rfl) ?_
    show X _ _ _ _ _ _ _ _ _ _ _ _ _ _ _ _ _ _ _ _ _ [.int c3]
    refine x_if_eq C 22 d_K_keep_16 (by decide) (fun g4 => ?_) (fun g4 => ?_)
    · replace hf := it g4 hf
      refine x_aload_n C d_K_keep_22 0 rfl ?_
      refine xg_K_history C wF_K_31 mc_0 kc_0 d_K_keep_23 ?_
      refine x_aload_n C d_K_keep_26 0 rfl ?_
      refine xg_K_now C wF_K_21 mc_0 kc_0 d_K_keep_27 ?_
      obtain ⟨c5, hc5, hf⟩ := bs hf
      refine x_callV (rest := []) (n := 1) C (ct_H_save E F _ _ _ _ mc_53 kc_53 mc_23 kc_23 hc5) mi_H_save (by decide) mc_53 ⟨_, cel_H kc_53⟩ rfl rfl wL_K_245 d_K_keep_30 rfl rfl (Nat.le_of_ble_eq_true rfl) ?_
      show X _ _ _ _ _ _ _ _ _ _ _ _ _ _ _ _ _ _ _ _ _ []
      refine x_aload_n C d_K_keep_33 0 rfl ?_
      refine xg_K_kept C wF_K_35 mc_0 kc_0 d_K_keep_34 ?_
      refine x_iload_n C d_K_keep_37 1 rfl ?_
      obtain ⟨z6, hz6, hf⟩ := bs hf
      refine x_aald3 C hz6 mc_56 kc_56 d_K_keep_38 ?_
      refine x_aload_n C d_K_keep_39 0 rfl ?_
      refine xg_K_history C wF_K_31 mc_0 kc_0 d_K_keep_40 ?_
      obtain ⟨c7, hc7, hf⟩ := bs hf
      refine x_callV (rest := []) (n := 1) C (ct_H_becomeLike E F _ _ _ _ (ma_H kc_56 hz6) (ka_H kc_56 hz6) mc_53 kc_53 hc7) mi_H_becomeLike (by decide) (ma_H kc_56 hz6) ⟨_, cel_H (ka_H kc_56 hz6)⟩ rfl rfl wL_K_248 d_K_keep_43 rfl rfl (Nat.le_of_ble_eq_true rfl) ?_
      show X _ _ _ _ _ _ _ _ _ _ _ _ _ _ _ _ _ _ _ _ _ []
      refine x_aload_n C d_K_keep_46 0 rfl ?_
      refine xg_K_history C wF_K_31 mc_0 kc_0 d_K_keep_47 ?_
      refine xg_H_deeds C wF_K_81 mc_53 kc_53 d_K_keep_50 ?_
      cases hf
      exact x_iret C d_K_keep_53 rfl rfl
    · replace hf := ie g4 hf
      refine x_bipush (v := (-4)) C d_K_keep_19 rfl ?_
      cases hf
      exact x_iret C d_K_keep_21 rfl rfl
  · replace hf := it g2 hf
    refine x_iconst (v := (-1)) C d_K_keep_7 rfl ?_
    cases hf
    exact x_iret C d_K_keep_8 rfl rfl
set_option maxHeartbeats 4000000 in
set_option maxRecDepth 100000 in
theorem ct_K_lay {l : Launch} {D : va_G} {ad : Nat → Nat} {cs : Nat → ClassId} {A : Nat → Prop} (E : Ev ad cs A LX) (F : Nat) (M : Mem) (x1 : Int32) (x2 : Int32) (x3 : Int32) (R : (Int32 × Mem))  (hf : K_lay F M x1 x2 x3 = some R) : Met l y_K_lay (Cond.code y_K_lay b_K_lay 6 (some .int) :: wl) (rmD 2) (PX D ad cs A LX [.ref (ad 0), .int x1, .int x2, .int x3] M) (QX D ad cs A LX (some (.int R.1)) R.2) 0 0 A := by
  refine x_enter (lv := [(0, .ref (ad 0)), (1, .int x1), (2, .int x2), (3, .int x3)]) E mi_K_lay.1 (Nat.le_of_ble_eq_true rfl) rfl (fun p e s m args below meth c C => ?_)
  unfold K_lay at hf
  refine x_iload_n C d_K_lay_0 1 rfl ?_
  obtain ⟨c1, hc1, hf⟩ := bs hf
  refine x_callS (rest := []) (n := 1) C (ct_K_isRow E F _ _ _  hc1) mi_K_isRow (by decide) wL_K_84 d_K_lay_1 rfl rfl (Nat.le_of_ble_eq_true rfl) ?_
  show X _ _ _ _ _ _ _ _ _ _ _ _ _ _ _ _ _ _ _ _ _ [.int c1]
  refine x_if_ne C 9 d_K_lay_4 (by decide) (fun g2 => ?_) (fun g2 => ?_)
  · replace hf := ie g2 hf
    refine x_aload_n C d_K_lay_9 0 rfl ?_
    refine xg_K_rows C wF_K_11 mc_0 kc_0 d_K_lay_10 ?_
    refine x_iload_n C d_K_lay_13 1 rfl ?_
    obtain ⟨z3, hz3, hf⟩ := bs hf
    refine x_aald1 C hz3 mc_1 kc_1 d_K_lay_14 ?_
    refine x_iload_n C d_K_lay_15 2 rfl ?_
    obtain ⟨c4, hc4, hf⟩ := bs hf
    refine x_callV (rest := []) (n := 1) C (ct_S_findingAt E F _ _ _ _ (ma_S kc_1 hz3) (ka_S kc_1 hz3) hc4) mi_S_findingAt (by decide) (ma_S kc_1 hz3) ⟨_, cel_S (ka_S kc_1 hz3)⟩ rfl rfl wL_K_96 d_K_lay_16 rfl rfl (Nat.le_of_ble_eq_true rfl) ?_
    show X _ _ _ _ _ _ _ _ _ _ _ _ _ _ _ _ _ _ _ _ _ [.int c4]
    refine x_istore (lv' := [(4, .int c4), (0, .ref (ad 0)), (1, .int x1), (2, .int x2), (3, .int x3)]) C d_K_lay_19 (by decide) rfl ?_
    refine x_iload C d_K_lay_21 0 rfl ?_
    refine x_if_eq C 33 d_K_lay_23 (by decide) (fun g5 => ?_) (fun g5 => ?_)
    · replace hf := it g5 hf
      refine x_aload_n C d_K_lay_33 1 rfl ?_
      refine xg_K_rows C wF_K_11 mc_0 kc_0 d_K_lay_34 ?_
      refine x_iload_n C d_K_lay_37 2 rfl ?_
      obtain ⟨z6, hz6, hf⟩ := bs hf
      refine x_aald1 C hz6 mc_1 kc_1 d_K_lay_38 ?_
      refine xg_S_places C wF_K_99 (ma_S kc_1 hz6) (ka_S kc_1 hz6) d_K_lay_39 ?_
      refine x_iload_n C d_K_lay_42 3 rfl ?_
      obtain ⟨t7, ht7, hf⟩ := bs hf
      refine x_iald C ht7 (m_S_places (ka_S kc_1 hz6)) (k_S_places (ka_S kc_1 hz6)) d_K_lay_43 ?_
      refine x_istore (lv' := [(5, .int t7), (4, .int c4), (0, .ref (ad 0)), (1, .int x1), (2, .int x2), (3, .int x3)]) C d_K_lay_44 (by decide) rfl ?_
      refine x_aload_n C d_K_lay_46 2 rfl ?_
      refine xg_K_rows C wF_K_11 mc_0 kc_0 d_K_lay_47 ?_
      refine x_iload_n C d_K_lay_50 3 rfl ?_
      obtain ⟨z8, hz8, hf⟩ := bs hf
      refine x_aald1 C hz8 mc_1 kc_1 d_K_lay_51 ?_
      refine xg_S_places C wF_K_99 (ma_S kc_1 hz8) (ka_S kc_1 hz8) d_K_lay_52 ?_
      refine x_iload_n C d_K_lay_55 4 rfl ?_
      refine x_iload_n C d_K_lay_56 5 rfl ?_
      obtain ⟨M9, hM9, hf⟩ := bs hf
      refine x_iast C hM9 (m_S_places (ka_S kc_1 hz8)) (k_S_places (ka_S kc_1 hz8)) d_K_lay_57 ?_
      refine x_aload_n C d_K_lay_58 2 rfl ?_
      refine x_iload C d_K_lay_59 0 rfl ?_
      obtain ⟨c10, hc10, hf⟩ := bs hf
      refine x_callV (rest := []) (n := 1) C (ct_K_tell E F _ _ _  hc10) mi_K_tell (by decide) mc_0 ⟨_, cel_K kc_0⟩ rfl rfl wL_K_102 d_K_lay_61 rfl rfl (Nat.le_of_ble_eq_true rfl) ?_
      show X _ _ _ _ _ _ _ _ _ _ _ _ _ _ _ _ _ _ _ _ _ [.int c10.1]
      cases hf
      exact x_iret C d_K_lay_64 rfl rfl
    · replace hf := ie g5 hf
      refine x_aload_n C d_K_lay_26 1 rfl ?_
      refine x_iload C d_K_lay_27 0 rfl ?_
      obtain ⟨c11, hc11, hf⟩ := bs hf
      refine x_callV (rest := []) (n := 1) C (ct_K_refuse E F _ _ _  hc11) mi_K_refuse (by decide) mc_0 ⟨_, cel_K kc_0⟩ rfl rfl wL_K_88 d_K_lay_29 rfl rfl (Nat.le_of_ble_eq_true rfl) ?_
      show X _ _ _ _ _ _ _ _ _ _ _ _ _ _ _ _ _ _ _ _ _ [.int c11.1]
      cases hf
      exact x_iret C d_K_lay_32 rfl rfl
  · replace hf := it g2 hf
    refine x_iconst (v := (-1)) C d_K_lay_7 rfl ?_
    cases hf
    exact x_iret C d_K_lay_8 rfl rfl
set_option maxHeartbeats 4000000 in
set_option maxRecDepth 100000 in
theorem lw_K_left_34 {p : Program} {l : Launch} {e : Env} {s : State} {m : MethodId} {args : Array Value} {below : List Frame} {meth : Method} {c : Code} {D : va_G} {ad : Nat → Nat} {cs : Nat → ClassId} {A : Nat → Prop} {V : Option Value} {N : Mem} (E : Ev ad cs A LX) (C : Cx p s m args meth c "KissClearing" b_K_left 3 (some .int) D ad cs A LX) (F : Nat) (x1 : Int32) : ∀ (n : Nat) (M : Mem) (x2 : Int32) (u : (Int32 × Mem)), L_K_left_34 F x1 n M x2 = some u → X p l e 12 s m args below meth c 3 D ad cs A LX V N u.2 90 [(0, .ref (ad 0)), (1, .int x1), (2, .int u.1)] [] → X p l e 12 s m args below meth c 3 D ad cs A LX V N M 34 [(0, .ref (ad 0)), (1, .int x1), (2, .int x2)] [] := by
  intro n
  induction n with
  | zero => intro M x2 u hf; cases hf
  | succ n ih =>
    intro M x2 u hf K
    replace hf : B_K_left_34 F x1 (L_K_left_34 F x1 n) M x2 = some u := hf
    unfold B_K_left_34 at hf
    refine x_aload_n C d_K_left_34 0 rfl ?_
    refine xg_K_rings C wF_K_42 mc_0 kc_0 d_K_left_35 ?_
    refine xg_G_found C wF_K_268 mc_66 kc_66 d_K_left_38 ?_
    refine x_if_le C 90 d_K_left_41 (by decide) (fun g5 => ?_) (fun g5 => ?_)
    · replace hf := it g5 hf
      cases hf
      exact x_sub [0, 1, 2] rfl K
    · replace hf := ie g5 hf
      refine x_iload_n C d_K_left_44 2 rfl ?_
      refine x_bipush (v := 12) C d_K_left_45 rfl ?_
      refine x_icmp_ge C 90 d_K_left_47 (by decide) (fun g6 => ?_) (fun g6 => ?_)
      · replace hf := it g6 hf
        cases hf
        exact x_sub [0, 1, 2] rfl K
      · replace hf := ie g6 hf
        refine x_aload_n C d_K_left_50 0 rfl ?_
        refine xg_K_sketch C wF_K_25 mc_0 kc_0 d_K_left_51 ?_
        refine x_aload_n C d_K_left_54 0 rfl ?_
        refine xg_K_rings C wF_K_42 mc_0 kc_0 d_K_left_55 ?_
        refine xg_G_best C wF_K_274 mc_66 kc_66 d_K_left_58 ?_
        refine x_aload_n C d_K_left_61 0 rfl ?_
        refine xg_K_rings C wF_K_42 mc_0 kc_0 d_K_left_62 ?_
        refine xg_G_bestSize C wF_K_271 mc_66 kc_66 d_K_left_65 ?_
        obtain ⟨c7, hc7, hf⟩ := bs hf
        refine x_callV (rest := []) (n := 2) C (ct_V_clearRing E F _ _ _ _ _ mc_38 kc_38 mc_67 kc_67 hc7) mi_V_clearRing (by decide) mc_38 ⟨_, cel_V kc_38⟩ rfl rfl wL_K_209 d_K_left_68 rfl rfl (Nat.le_of_ble_eq_true rfl) ?_
        show X _ _ _ _ _ _ _ _ _ _ _ _ _ _ _ _ _ _ _ _ _ [.int c7.1]
        refine x_pop C d_K_left_71 rfl ?_
        refine x_iinc (v := (x2 + 1)) (lv' := [(2, .int (x2 + 1)), (0, .ref (ad 0)), (1, .int x1)]) C d_K_left_72 2 rfl rfl (by decide) rfl ?_
        refine x_aload_n C d_K_left_75 1 rfl ?_
        refine xg_K_rings C wF_K_42 mc_0 kc_0 d_K_left_76 ?_
        refine x_aload_n C d_K_left_79 1 rfl ?_
        refine xg_K_sketch C wF_K_25 mc_0 kc_0 d_K_left_80 ?_
        refine x_iload_n C d_K_left_83 2 rfl ?_
        obtain ⟨c8, hc8, hf⟩ := bs hf
        refine x_callV (rest := []) (n := 2) C (ct_G_search E F _ _ _ _ mc_38 kc_38 hc8) mi_G_search (by decide) mc_66 ⟨_, cel_G kc_66⟩ rfl rfl wL_K_261 d_K_left_84 rfl rfl (Nat.le_of_ble_eq_true rfl) ?_
        show X _ _ _ _ _ _ _ _ _ _ _ _ _ _ _ _ _ _ _ _ _ []
        refine x_goto C 34 d_K_left_87 (by decide) ?_
        refine x_sub [1, 2, 0] rfl ?_
        exact ih _ _ _ hf K
set_option maxHeartbeats 4000000 in
set_option maxRecDepth 100000 in
theorem ct_K_left {l : Launch} {D : va_G} {ad : Nat → Nat} {cs : Nat → ClassId} {A : Nat → Prop} (E : Ev ad cs A LX) (F : Nat) (M : Mem) (x1 : Int32) (R : (Int32 × Mem))  (hf : K_left F M x1 = some R) : Met l y_K_left (Cond.code y_K_left b_K_left 3 (some .int) :: wl) (rmD 12) (PX D ad cs A LX [.ref (ad 0), .int x1] M) (QX D ad cs A LX (some (.int R.1)) R.2) 0 0 A := by
  refine x_enter (lv := [(0, .ref (ad 0)), (1, .int x1)]) E mi_K_left.1 (Nat.le_of_ble_eq_true rfl) rfl (fun p e s m args below meth c C => ?_)
  unfold K_left at hf
  refine x_iload_n C d_K_left_0 1 rfl ?_
  obtain ⟨c1, hc1, hf⟩ := bs hf
  refine x_callS (rest := []) (n := 1) C (ct_K_isRingSort E F _ _ _  hc1) mi_K_isRingSort (by decide) wL_K_258 d_K_left_1 rfl rfl (Nat.le_of_ble_eq_true rfl) ?_
  show X _ _ _ _ _ _ _ _ _ _ _ _ _ _ _ _ _ _ _ _ _ [.int c1]
  refine x_if_ne C 9 d_K_left_4 (by decide) (fun g2 => ?_) (fun g2 => ?_)
  · replace hf := ie g2 hf
    refine x_aload_n C d_K_left_9 0 rfl ?_
    refine xg_K_sketch C wF_K_25 mc_0 kc_0 d_K_left_10 ?_
    refine x_aload_n C d_K_left_13 0 rfl ?_
    refine xg_K_now C wF_K_21 mc_0 kc_0 d_K_left_14 ?_
    obtain ⟨c3, hc3, hf⟩ := bs hf
    refine x_callV (rest := []) (n := 1) C (ct_V_becomeLike E F _ _ _ _ mc_38 kc_38 mc_23 kc_23 hc3) mi_V_becomeLike (by decide) mc_38 ⟨_, cel_V kc_38⟩ rfl rfl wL_K_131 d_K_left_17 rfl rfl (Nat.le_of_ble_eq_true rfl) ?_
    show X _ _ _ _ _ _ _ _ _ _ _ _ _ _ _ _ _ _ _ _ _ []
    refine x_iconst (v := 0) C d_K_left_20 rfl ?_
    refine x_istore_n (lv' := [(2, .int 0), (0, .ref (ad 0)), (1, .int x1)]) C d_K_left_21 (by decide) rfl ?_
    refine x_aload_n C d_K_left_22 1 rfl ?_
    refine xg_K_rings C wF_K_42 mc_0 kc_0 d_K_left_23 ?_
    refine x_aload_n C d_K_left_26 1 rfl ?_
    refine xg_K_sketch C wF_K_25 mc_0 kc_0 d_K_left_27 ?_
    refine x_iload_n C d_K_left_30 2 rfl ?_
    obtain ⟨c4, hc4, hf⟩ := bs hf
    refine x_callV (rest := []) (n := 2) C (ct_G_search E F _ _ _ _ mc_38 kc_38 hc4) mi_G_search (by decide) mc_66 ⟨_, cel_G kc_66⟩ rfl rfl wL_K_261 d_K_left_31 rfl rfl (Nat.le_of_ble_eq_true rfl) ?_
    show X _ _ _ _ _ _ _ _ _ _ _ _ _ _ _ _ _ _ _ _ _ []
    obtain ⟨u9, hu9, hf⟩ := bs hf
    refine x_sub [1, 2, 0] rfl ?_
    refine lw_K_left_34 E C F _ _ _ _ _ hu9 ?_
    refine x_aload_n C d_K_left_90 0 rfl ?_
    refine x_iload_n C d_K_left_91 2 rfl ?_
    refine xp_K_latestAsked (x := u9.1) C wF_K_68 mc_0 kc_0 d_K_left_92 ?_
    refine x_aload_n C d_K_left_95 0 rfl ?_
    refine xg_K_sketch C wF_K_25 mc_0 kc_0 d_K_left_96 ?_
    refine x_iload_n C d_K_left_99 1 rfl ?_
    obtain ⟨c10, hc10, hf⟩ := bs hf
    refine x_callV (rest := []) (n := 1) C (ct_V_kissesOfSort E F _ _ _ _ mc_38 kc_38 hc10) mi_V_kissesOfSort (by decide) mc_38 ⟨_, cel_V kc_38⟩ rfl rfl wL_K_283 d_K_left_100 rfl rfl (Nat.le_of_ble_eq_true rfl) ?_
    show X _ _ _ _ _ _ _ _ _ _ _ _ _ _ _ _ _ _ _ _ _ [.int c10]
    cases hf
    exact x_iret C d_K_left_103 rfl rfl
  · replace hf := it g2 hf
    refine x_iconst (v := (-1)) C d_K_left_7 rfl ?_
    cases hf
    exact x_iret C d_K_left_8 rfl rfl
set_option maxHeartbeats 4000000 in
set_option maxRecDepth 100000 in
theorem lw_K_lots_67 {p : Program} {l : Launch} {e : Env} {s : State} {m : MethodId} {args : Array Value} {below : List Frame} {meth : Method} {c : Code} {D : va_G} {ad : Nat → Nat} {cs : Nat → ClassId} {A : Nat → Prop} {V : Option Value} {N : Mem} (E : Ev ad cs A LX) (C : Cx p s m args meth c "KissClearing" b_K_lots 10 (some .int) D ad cs A LX) (F : Nat) (x1 : Int32) (x3 : Int32) : ∀ (n : Nat) (M : Mem) (x4 : Int64) (x6 : Int32) (x7 : Int32) (u : (Int32 × Mem)), L_K_lots_67 F x1 x3 n M x4 x6 x7 = some u → X p l e 4 s m args below meth c 10 D ad cs A LX V N u.2 161 [(6, .int u.1)] [] → X p l e 4 s m args below meth c 10 D ad cs A LX V N M 67 [(0, .ref (ad 0)), (1, .int x1), (3, .int x3), (4, .long x4), (6, .int x6), (7, .int x7)] [] := by
  intro n
  induction n with
  | zero => intro M x4 x6 x7 u hf; cases hf
  | succ n ih =>
    intro M x4 x6 x7 u hf K
    replace hf : B_K_lots_67 F x1 x3 (L_K_lots_67 F x1 x3 n) M x4 x6 x7 = some u := hf
    unfold B_K_lots_67 at hf
    refine x_iload C d_K_lots_67 5 rfl ?_
    refine x_iload_n C d_K_lots_69 1 rfl ?_
    refine x_icmp_ge C 161 d_K_lots_70 (by decide) (fun g8 => ?_) (fun g8 => ?_)
    · replace hf := it g8 hf
      cases hf
      exact x_sub [4] rfl K
    · replace hf := ie g8 hf
      refine x_ldc2 C wJ_K_337 d_K_lots_73 ?_
      refine x_lload C d_K_lots_76 3 rfl ?_
      refine x_lmul C d_K_lots_78 ?_
      refine x_ldc2 C wJ_K_335 d_K_lots_79 ?_
      obtain ⟨t9, ht9, hf⟩ := bs hf
      refine x_lrem C ht9 d_K_lots_82 ?_
      refine x_lstore (lv' := [(4, .long t9), (0, .ref (ad 0)), (1, .int x1), (3, .int x3), (6, .int x6), (7, .int x7)]) C d_K_lots_83 (by decide) rfl ?_
      refine x_lload C d_K_lots_85 0 rfl ?_
      refine x_iload_n C d_K_lots_87 3 rfl ?_
      refine x_i2l C d_K_lots_88 ?_
      obtain ⟨t10, ht10, hf⟩ := bs hf
      refine x_lrem C ht10 d_K_lots_89 ?_
      refine x_l2i C d_K_lots_90 ?_
      refine x_istore (lv' := [(8, .int ((t10).toInt32)), (4, .long t9), (0, .ref (ad 0)), (1, .int x1), (3, .int x3), (6, .int x6), (7, .int x7)]) C d_K_lots_91 (by decide) rfl ?_
      refine x_iload C d_K_lots_93 0 rfl ?_
      refine x_iconst (v := 1) C d_K_lots_95 rfl ?_
      refine x_iadd C d_K_lots_96 ?_
      refine x_i2l C d_K_lots_97 ?_
      refine x_lload C d_K_lots_98 1 rfl ?_
      refine x_ldc2 C wJ_K_339 d_K_lots_100 ?_
      obtain ⟨t11, ht11, hf⟩ := bs hf
      refine x_ldiv C ht11 d_K_lots_103 ?_
      refine x_iload_n C d_K_lots_104 4 rfl ?_
      refine x_iconst (v := 1) C d_K_lots_105 rfl ?_
      refine x_isub C d_K_lots_106 ?_
      refine x_i2l C d_K_lots_107 ?_
      obtain ⟨t12, ht12, hf⟩ := bs hf
      refine x_lrem C ht12 d_K_lots_108 ?_
      refine x_ladd C d_K_lots_109 ?_
      refine x_iload_n C d_K_lots_110 4 rfl ?_
      refine x_i2l C d_K_lots_111 ?_
      obtain ⟨t13, ht13, hf⟩ := bs hf
      refine x_lrem C ht13 d_K_lots_112 ?_
      refine x_l2i C d_K_lots_113 ?_
      refine x_istore (lv' := [(9, .int ((t13).toInt32)), (8, .int ((t10).toInt32)), (4, .long t9), (0, .ref (ad 0)), (1, .int x1), (3, .int x3), (6, .int x6), (7, .int x7)]) C d_K_lots_114 (by decide) rfl ?_
      refine x_aload_n C d_K_lots_116 3 rfl ?_
      refine xg_K_history C wF_K_31 mc_0 kc_0 d_K_lots_117 ?_
      refine x_aload_n C d_K_lots_120 3 rfl ?_
      refine xg_K_now C wF_K_21 mc_0 kc_0 d_K_lots_121 ?_
      obtain ⟨c14, hc14, hf⟩ := bs hf
      refine x_callV (rest := []) (n := 1) C (ct_H_begin E F _ _ _ _ mc_53 kc_53 mc_23 kc_23 hc14) mi_H_begin (by decide) mc_53 ⟨_, cel_H kc_53⟩ rfl rfl wL_K_192 d_K_lots_124 rfl rfl (Nat.le_of_ble_eq_true rfl) ?_
      show X _ _ _ _ _ _ _ _ _ _ _ _ _ _ _ _ _ _ _ _ _ []
      refine x_aload_n C d_K_lots_127 3 rfl ?_
      refine xg_K_now C wF_K_21 mc_0 kc_0 d_K_lots_128 ?_
      refine x_iload C d_K_lots_131 1 rfl ?_
      refine x_iload C d_K_lots_133 0 rfl ?_
      obtain ⟨c15, hc15, hf⟩ := bs hf
      refine x_callV (rest := []) (n := 2) C (ct_V_netTwo E F _ _ _ _ _ mc_23 kc_23 hc15) mi_V_netTwo (by decide) mc_23 ⟨_, cel_V kc_23⟩ rfl rfl wL_K_199 d_K_lots_135 rfl rfl (Nat.le_of_ble_eq_true rfl) ?_
      show X _ _ _ _ _ _ _ _ _ _ _ _ _ _ _ _ _ _ _ _ _ [.int c15.1]
      refine x_pop C d_K_lots_138 rfl ?_
      refine x_iload C d_K_lots_139 6 rfl ?_
      refine x_aload_n C d_K_lots_141 3 rfl ?_
      refine xg_K_now C wF_K_21 mc_0 kc_0 d_K_lots_142 ?_
      refine x_iload C d_K_lots_145 1 rfl ?_
      refine x_iload C d_K_lots_147 0 rfl ?_
      obtain ⟨c16, hc16, hf⟩ := bs hf
      refine x_callV (rest := [.int x6]) (n := 2) C (ct_V_payTwo E F _ _ _ _ _ mc_23 kc_23 hc16) mi_V_payTwo (by decide) mc_23 ⟨_, cel_V kc_23⟩ rfl rfl wL_K_202 d_K_lots_149 rfl rfl (Nat.le_of_ble_eq_true rfl) ?_
      show X _ _ _ _ _ _ _ _ _ _ _ _ _ _ _ _ _ _ _ _ _ [.int c16.1, .int x6]
      refine x_iadd C d_K_lots_152 ?_
      refine x_istore (lv' := [(6, .int (x6 + c16.1)), (9, .int ((t13).toInt32)), (8, .int ((t10).toInt32)), (4, .long t9), (0, .ref (ad 0)), (1, .int x1), (3, .int x3), (7, .int x7)]) C d_K_lots_153 (by decide) rfl ?_
      refine x_iinc (v := (x7 + 1)) (lv' := [(7, .int (x7 + 1)), (6, .int (x6 + c16.1)), (9, .int ((t13).toInt32)), (8, .int ((t10).toInt32)), (4, .long t9), (0, .ref (ad 0)), (1, .int x1), (3, .int x3)]) C d_K_lots_155 7 rfl rfl (by decide) rfl ?_
      refine x_goto C 67 d_K_lots_158 (by decide) ?_
      refine x_sub [5, 6, 7, 4, 1, 0] rfl ?_
      exact ih _ _ _ _ _ hf K
set_option maxHeartbeats 4000000 in
set_option maxRecDepth 100000 in
theorem ct_K_lots {l : Launch} {D : va_G} {ad : Nat → Nat} {cs : Nat → ClassId} {A : Nat → Prop} (E : Ev ad cs A LX) (F : Nat) (M : Mem) (x1 : Int32) (x2 : Int32) (R : (Int32 × Mem))  (hf : K_lots F M x1 x2 = some R) : Met l y_K_lots (Cond.code y_K_lots b_K_lots 10 (some .int) :: wl) (rmD 4) (PX D ad cs A LX [.ref (ad 0), .int x1, .int x2] M) (QX D ad cs A LX (some (.int R.1)) R.2) 0 0 A := by
  refine x_enter (lv := [(0, .ref (ad 0)), (1, .int x1), (2, .int x2)]) E mi_K_lots.1 (Nat.le_of_ble_eq_true rfl) rfl (fun p e s m args below meth c C => ?_)
  unfold K_lots at hf
  refine x_iload_n C d_K_lots_0 1 rfl ?_
  refine x_iconst (v := 1) C d_K_lots_1 rfl ?_
  refine x_icmp_lt C 25 d_K_lots_2 (by decide) (fun g1 => ?_) (fun g1 => ?_)
  · replace hf := it g1 hf
    refine x_iconst (v := (-1)) C d_K_lots_25 rfl ?_
    cases hf
    exact x_iret C d_K_lots_26 rfl rfl
  · replace hf := ie g1 hf
    refine x_iload_n C d_K_lots_5 1 rfl ?_
    refine x_bipush (v := 20) C d_K_lots_6 rfl ?_
    refine x_icmp_gt C 25 d_K_lots_8 (by decide) (fun g2 => ?_) (fun g2 => ?_)
    · replace hf := it g2 hf
      refine x_iconst (v := (-1)) C d_K_lots_25 rfl ?_
      cases hf
      exact x_iret C d_K_lots_26 rfl rfl
    · replace hf := ie g2 hf
      refine x_iload_n C d_K_lots_11 2 rfl ?_
      refine x_iconst (v := 1) C d_K_lots_12 rfl ?_
      refine x_icmp_lt C 25 d_K_lots_13 (by decide) (fun g3 => ?_) (fun g3 => ?_)
      · replace hf := it g3 hf
        refine x_iconst (v := (-1)) C d_K_lots_25 rfl ?_
        cases hf
        exact x_iret C d_K_lots_26 rfl rfl
      · replace hf := ie g3 hf
        refine x_iload_n C d_K_lots_16 2 rfl ?_
        refine x_i2l C d_K_lots_17 ?_
        refine x_ldc2 C wJ_K_335 d_K_lots_18 ?_
        refine x_lcmp C d_K_lots_21 ?_
        refine x_if_lt C 27 d_K_lots_22 (by decide) (fun g4 => ?_) (fun g4 => ?_)
        · replace hf := it g4 hf
          refine x_aload_n C d_K_lots_27 0 rfl ?_
          refine xg_K_now C wF_K_21 mc_0 kc_0 d_K_lots_28 ?_
          refine xg_V_personCount C wF_K_135 mc_23 kc_23 d_K_lots_31 ?_
          refine x_istore_n (lv' := [(3, .int (M 23 0)), (0, .ref (ad 0)), (1, .int x1), (2, .int x2)]) C d_K_lots_34 (by decide) rfl ?_
          refine x_iload_n C d_K_lots_35 0 rfl ?_
          refine x_iconst (v := 2) C d_K_lots_36 rfl ?_
          refine x_icmp_ge C 43 d_K_lots_37 (by decide) (fun g5 => ?_) (fun g5 => ?_)
          · replace hf := it g5 hf
            refine x_aload_n C d_K_lots_43 1 rfl ?_
            refine xg_K_history C wF_K_31 mc_0 kc_0 d_K_lots_44 ?_
            refine x_iload_n C d_K_lots_47 2 rfl ?_
            obtain ⟨c6, hc6, hf⟩ := bs hf
            refine x_callV (rest := []) (n := 1) C (ct_H_isFullFor E F _ _ _ _ mc_53 kc_53 hc6) mi_H_isFullFor (by decide) mc_53 ⟨_, cel_H kc_53⟩ rfl rfl wL_K_189 d_K_lots_48 rfl rfl (Nat.le_of_ble_eq_true rfl) ?_
            show X _ _ _ _ _ _ _ _ _ _ _ _ _ _ _ _ _ _ _ _ _ [.int c6]
            refine x_if_eq C 57 d_K_lots_51 (by decide) (fun g7 => ?_) (fun g7 => ?_)
            · replace hf := it g7 hf
              refine x_iload_n C d_K_lots_57 3 rfl ?_
              refine x_i2l C d_K_lots_58 ?_
              refine x_lstore (lv' := [(4, .long ((x2).toInt64)), (3, .int (M 23 0)), (0, .ref (ad 0)), (1, .int x1), (2, .int x2)]) C d_K_lots_59 (by decide) rfl ?_
              refine x_iconst (v := 0) C d_K_lots_61 rfl ?_
              refine x_istore (lv' := [(6, .int 0), (4, .long ((x2).toInt64)), (3, .int (M 23 0)), (0, .ref (ad 0)), (1, .int x1), (2, .int x2)]) C d_K_lots_62 (by decide) rfl ?_
              refine x_iconst (v := 0) C d_K_lots_64 rfl ?_
              refine x_istore (lv' := [(7, .int 0), (6, .int 0), (4, .long ((x2).toInt64)), (3, .int (M 23 0)), (0, .ref (ad 0)), (1, .int x1), (2, .int x2)]) C d_K_lots_65 (by decide) rfl ?_
              obtain ⟨u17, hu17, hf⟩ := bs hf
              refine x_sub [4, 5, 3, 2, 1, 0] rfl ?_
              refine lw_K_lots_67 E C F _ _ _ _ _ _ _ _ hu17 ?_
              refine x_iload C d_K_lots_161 0 rfl ?_
              cases hf
              exact x_iret C d_K_lots_163 rfl rfl
            · replace hf := ie g7 hf
              refine x_bipush (v := (-2)) C d_K_lots_54 rfl ?_
              cases hf
              exact x_iret C d_K_lots_56 rfl rfl
          · replace hf := ie g5 hf
            refine x_bipush (v := (-4)) C d_K_lots_40 rfl ?_
            cases hf
            exact x_iret C d_K_lots_42 rfl rfl
        · replace hf := ie g4 hf
          refine x_iconst (v := (-1)) C d_K_lots_25 rfl ?_
          cases hf
          exact x_iret C d_K_lots_26 rfl rfl
set_option maxHeartbeats 4000000 in
set_option maxRecDepth 100000 in
theorem ct_K_lower {l : Launch} {D : va_G} {ad : Nat → Nat} {cs : Nat → ClassId} {A : Nat → Prop} (E : Ev ad cs A LX) (F : Nat) (M : Mem)  (R : Int64)  (hf : K_lower F M = some R) : Met l y_K_lower (Cond.code y_K_lower b_K_lower 1 (some .long) :: wl) (rmD 0) (PX D ad cs A LX [.ref (ad 0)] M) (QX D ad cs A LX (some (.long R)) M) 0 0 A := by
  refine x_enter (lv := [(0, .ref (ad 0))]) E mi_K_lower.1 (Nat.le_of_ble_eq_true rfl) rfl (fun p e s m args below meth c C => ?_)
  unfold K_lower at hf
  refine x_aload_n C d_K_lower_0 0 rfl ?_
  refine xg_K_latestLower C wF_K_75 mc_0 kc_0 d_K_lower_1 ?_
  cases hf
  exact x_lret C d_K_lower_4 rfl rfl
set_option maxHeartbeats 4000000 in
set_option maxRecDepth 100000 in
theorem ct_K_ringsThrough {l : Launch} {D : va_G} {ad : Nat → Nat} {cs : Nat → ClassId} {A : Nat → Prop} (E : Ev ad cs A LX) (F : Nat) (M : Mem) (x1 : Int32) (R : (Int32 × Mem))  (hf : K_ringsThrough F M x1 = some R) : Met l y_K_ringsThrough (Cond.code y_K_ringsThrough b_K_ringsThrough 3 (some .int) :: wl) (rmD 12) (PX D ad cs A LX [.ref (ad 0), .int x1] M) (QX D ad cs A LX (some (.int R.1)) R.2) 0 0 A := by
  refine x_enter (lv := [(0, .ref (ad 0)), (1, .int x1)]) E mi_K_ringsThrough.1 (Nat.le_of_ble_eq_true rfl) rfl (fun p e s m args below meth c C => ?_)
  unfold K_ringsThrough at hf
  refine x_aload_n C d_K_ringsThrough_0 0 rfl ?_
  refine xg_K_rings C wF_K_42 mc_0 kc_0 d_K_ringsThrough_1 ?_
  refine x_aload_n C d_K_ringsThrough_4 0 rfl ?_
  refine xg_K_now C wF_K_21 mc_0 kc_0 d_K_ringsThrough_5 ?_
  refine x_iconst (v := 0) C d_K_ringsThrough_8 rfl ?_
  obtain ⟨c1, hc1, hf⟩ := bs hf
  refine x_callV (rest := []) (n := 2) C (ct_G_search E F _ _ _ _ mc_23 kc_23 hc1) mi_G_search (by decide) mc_66 ⟨_, cel_G kc_66⟩ rfl rfl wL_K_261 d_K_ringsThrough_9 rfl rfl (Nat.le_of_ble_eq_true rfl) ?_
  show X _ _ _ _ _ _ _ _ _ _ _ _ _ _ _ _ _ _ _ _ _ []
  refine x_aload_n C d_K_ringsThrough_12 0 rfl ?_
  refine xg_K_rings C wF_K_42 mc_0 kc_0 d_K_ringsThrough_13 ?_
  refine xg_G_through C wF_K_377 mc_66 kc_66 d_K_ringsThrough_16 ?_
  refine x_iload_n C d_K_ringsThrough_19 1 rfl ?_
  obtain ⟨t2, ht2, hf⟩ := bs hf
  refine x_iald C ht2 mc_68 kc_68 d_K_ringsThrough_20 ?_
  refine x_istore_n (lv' := [(2, .int t2), (0, .ref (ad 0)), (1, .int x1)]) C d_K_ringsThrough_21 (by decide) rfl ?_
  refine x_aload_n C d_K_ringsThrough_22 1 rfl ?_
  refine xg_K_rings C wF_K_42 mc_0 kc_0 d_K_ringsThrough_23 ?_
  refine x_aload_n C d_K_ringsThrough_26 1 rfl ?_
  refine xg_K_now C wF_K_21 mc_0 kc_0 d_K_ringsThrough_27 ?_
  refine x_iconst (v := 1) C d_K_ringsThrough_30 rfl ?_
  obtain ⟨c3, hc3, hf⟩ := bs hf
  refine x_callV (rest := []) (n := 2) C (ct_G_search E F _ _ _ _ mc_23 kc_23 hc3) mi_G_search (by decide) mc_66 ⟨_, cel_G kc_66⟩ rfl rfl wL_K_261 d_K_ringsThrough_31 rfl rfl (Nat.le_of_ble_eq_true rfl) ?_
  show X _ _ _ _ _ _ _ _ _ _ _ _ _ _ _ _ _ _ _ _ _ []
  refine x_iload_n C d_K_ringsThrough_34 0 rfl ?_
  refine x_aload_n C d_K_ringsThrough_35 1 rfl ?_
  refine xg_K_rings C wF_K_42 mc_0 kc_0 d_K_ringsThrough_36 ?_
  refine xg_G_through C wF_K_377 mc_66 kc_66 d_K_ringsThrough_39 ?_
  refine x_iload_n C d_K_ringsThrough_42 2 rfl ?_
  obtain ⟨t4, ht4, hf⟩ := bs hf
  refine x_iald C ht4 mc_68 kc_68 d_K_ringsThrough_43 ?_
  refine x_iadd C d_K_ringsThrough_44 ?_
  cases hf
  exact x_iret C d_K_ringsThrough_45 rfl rfl
set_option maxHeartbeats 4000000 in
set_option maxRecDepth 100000 in
theorem ct_K_mark {l : Launch} {D : va_G} {ad : Nat → Nat} {cs : Nat → ClassId} {A : Nat → Prop} (E : Ev ad cs A LX) (F : Nat) (M : Mem) (x1 : Int32) (x2 : Int32) (R : (Int32 × Mem))  (hf : K_mark F M x1 x2 = some R) : Met l y_K_mark (Cond.code y_K_mark b_K_mark 3 (some .int) :: wl) (rmD 13) (PX D ad cs A LX [.ref (ad 0), .int x1, .int x2] M) (QX D ad cs A LX (some (.int R.1)) R.2) 0 0 A := by
  refine x_enter (lv := [(0, .ref (ad 0)), (1, .int x1), (2, .int x2)]) E mi_K_mark.1 (Nat.le_of_ble_eq_true rfl) rfl (fun p e s m args below meth c C => ?_)
  unfold K_mark at hf
  refine x_aload_n C d_K_mark_0 0 rfl ?_
  refine xg_K_now C wF_K_21 mc_0 kc_0 d_K_mark_1 ?_
  refine x_iload_n C d_K_mark_4 1 rfl ?_
  obtain ⟨c1, hc1, hf⟩ := bs hf
  refine x_callV (rest := []) (n := 1) C (ct_V_hasPerson E F _ _ _ _ mc_23 kc_23 hc1) mi_V_hasPerson (by decide) mc_23 ⟨_, cel_V kc_23⟩ rfl rfl wL_K_138 d_K_mark_5 rfl rfl (Nat.le_of_ble_eq_true rfl) ?_
  show X _ _ _ _ _ _ _ _ _ _ _ _ _ _ _ _ _ _ _ _ _ [.int c1]
  refine x_if_eq C 21 d_K_mark_8 (by decide) (fun g2 => ?_) (fun g2 => ?_)
  · replace hf := it g2 hf
    refine x_iconst (v := (-1)) C d_K_mark_21 rfl ?_
    cases hf
    exact x_iret C d_K_mark_22 rfl rfl
  · replace hf := ie g2 hf
    refine x_iload_n C d_K_mark_11 2 rfl ?_
    refine x_if_le C 21 d_K_mark_12 (by decide) (fun g3 => ?_) (fun g3 => ?_)
    · replace hf := it g3 hf
      refine x_iconst (v := (-1)) C d_K_mark_21 rfl ?_
      cases hf
      exact x_iret C d_K_mark_22 rfl rfl
    · replace hf := ie g3 hf
      refine x_iload_n C d_K_mark_15 2 rfl ?_
      refine x_bipush (v := 6) C d_K_mark_16 rfl ?_
      refine x_icmp_lt C 23 d_K_mark_18 (by decide) (fun g4 => ?_) (fun g4 => ?_)
      · replace hf := it g4 hf
        refine x_aload_n C d_K_mark_23 0 rfl ?_
        refine xg_K_now C wF_K_21 mc_0 kc_0 d_K_mark_24 ?_
        refine x_iload_n C d_K_mark_27 1 rfl ?_
        refine x_iload_n C d_K_mark_28 2 rfl ?_
        obtain ⟨c5, hc5, hf⟩ := bs hf
        refine x_callV (rest := []) (n := 2) C (ct_V_isOfKind E F _ _ _ _ _ mc_23 kc_23 hc5) mi_V_isOfKind (by decide) mc_23 ⟨_, cel_V kc_23⟩ rfl rfl wL_K_151 d_K_mark_29 rfl rfl (Nat.le_of_ble_eq_true rfl) ?_
        show X _ _ _ _ _ _ _ _ _ _ _ _ _ _ _ _ _ _ _ _ _ [.int c5]
        refine x_if_ne C 41 d_K_mark_32 (by decide) (fun g6 => ?_) (fun g6 => ?_)
        · replace hf := ie g6 hf
          refine x_iload_n C d_K_mark_41 2 rfl ?_
          rcases Classical.em (x2 = 1) with g7 | g7
          · replace hf := it g7 hf
            refine x_tswIn C 72 g7 d_K_mark_42 (by decide) (by decide) rfl (by decide) ?_
            refine x_aload_n C d_K_mark_72 0 rfl ?_
            refine xg_K_now C wF_K_21 mc_0 kc_0 d_K_mark_73 ?_
            refine x_iload_n C d_K_mark_76 1 rfl ?_
            obtain ⟨c8, hc8, hf⟩ := bs hf
            refine x_callV (rest := []) (n := 1) C (ct_V_openOwedTo E F _ _ _ _ mc_23 kc_23 hc8) mi_V_openOwedTo (by decide) mc_23 ⟨_, cel_V kc_23⟩ rfl rfl wL_K_154 d_K_mark_77 rfl rfl (Nat.le_of_ble_eq_true rfl) ?_
            show X _ _ _ _ _ _ _ _ _ _ _ _ _ _ _ _ _ _ _ _ _ [.int c8]
            refine x_aload_n C d_K_mark_80 0 rfl ?_
            refine xg_K_now C wF_K_21 mc_0 kc_0 d_K_mark_81 ?_
            refine x_iload_n C d_K_mark_84 1 rfl ?_
            obtain ⟨c9, hc9, hf⟩ := bs hf
            refine x_callV (rest := [.int c8]) (n := 1) C (ct_V_growthFor E F _ _ _ _ mc_23 kc_23 hc9) mi_V_growthFor (by decide) mc_23 ⟨_, cel_V kc_23⟩ rfl rfl wL_K_157 d_K_mark_85 rfl rfl (Nat.le_of_ble_eq_true rfl) ?_
            show X _ _ _ _ _ _ _ _ _ _ _ _ _ _ _ _ _ _ _ _ _ [.int c9, .int c8]
            refine x_imul C d_K_mark_88 ?_
            cases hf
            exact x_iret C d_K_mark_89 rfl rfl
          · replace hf := ie g7 hf
            rcases Classical.em (x2 = 2) with g10 | g10
            · replace hf := it g10 hf
              refine x_tswIn C 90 g10 d_K_mark_42 (by decide) (by decide) rfl (by decide) ?_
              refine x_aload_n C d_K_mark_90 0 rfl ?_
              refine xg_K_now C wF_K_21 mc_0 kc_0 d_K_mark_91 ?_
              refine x_iload_n C d_K_mark_94 1 rfl ?_
              obtain ⟨c11, hc11, hf⟩ := bs hf
              refine x_callV (rest := []) (n := 1) C (ct_V_openOn E F _ _ _ _ mc_23 kc_23 hc11) mi_V_openOn (by decide) mc_23 ⟨_, cel_V kc_23⟩ rfl rfl wL_K_160 d_K_mark_95 rfl rfl (Nat.le_of_ble_eq_true rfl) ?_
              show X _ _ _ _ _ _ _ _ _ _ _ _ _ _ _ _ _ _ _ _ _ [.int c11]
              cases hf
              exact x_iret C d_K_mark_98 rfl rfl
            · replace hf := ie g10 hf
              rcases Classical.em (x2 = 3) with g12 | g12
              · replace hf := it g12 hf
                refine x_tswIn C 99 g12 d_K_mark_42 (by decide) (by decide) rfl (by decide) ?_
                refine x_iconst (v := 0) C d_K_mark_99 rfl ?_
                refine x_aload_n C d_K_mark_100 0 rfl ?_
                refine xg_K_now C wF_K_21 mc_0 kc_0 d_K_mark_101 ?_
                refine x_iload_n C d_K_mark_104 1 rfl ?_
                refine x_iconst (v := 0) C d_K_mark_105 rfl ?_
                obtain ⟨c13, hc13, hf⟩ := bs hf
                refine x_callV (rest := [.int 0]) (n := 2) C (ct_V_owed E F _ _ _ _ _ mc_23 kc_23 hc13) mi_V_owed (by decide) mc_23 ⟨_, cel_V kc_23⟩ rfl rfl wL_K_163 d_K_mark_106 rfl rfl (Nat.le_of_ble_eq_true rfl) ?_
                show X _ _ _ _ _ _ _ _ _ _ _ _ _ _ _ _ _ _ _ _ _ [.int c13, .int 0]
                refine x_aload_n C d_K_mark_109 0 rfl ?_
                refine xg_K_now C wF_K_21 mc_0 kc_0 d_K_mark_110 ?_
                refine x_iload_n C d_K_mark_113 1 rfl ?_
                obtain ⟨c14, hc14, hf⟩ := bs hf
                refine x_callV (rest := [.int c13, .int 0]) (n := 1) C (ct_V_reserve E F _ _ _ _ mc_23 kc_23 hc14) mi_V_reserve (by decide) mc_23 ⟨_, cel_V kc_23⟩ rfl rfl wL_K_166 d_K_mark_114 rfl rfl (Nat.le_of_ble_eq_true rfl) ?_
                show X _ _ _ _ _ _ _ _ _ _ _ _ _ _ _ _ _ _ _ _ _ [.int c14, .int c13, .int 0]
                refine x_iadd C d_K_mark_117 ?_
                refine x_aload_n C d_K_mark_118 0 rfl ?_
                refine xg_K_now C wF_K_21 mc_0 kc_0 d_K_mark_119 ?_
                refine x_iload_n C d_K_mark_122 1 rfl ?_
                obtain ⟨c15, hc15, hf⟩ := bs hf
                refine x_callV (rest := [.int (c13 + c14), .int 0]) (n := 1) C (ct_V_owing E F _ _ _ _ mc_23 kc_23 hc15) mi_V_owing (by decide) mc_23 ⟨_, cel_V kc_23⟩ rfl rfl wL_K_169 d_K_mark_123 rfl rfl (Nat.le_of_ble_eq_true rfl) ?_
                show X _ _ _ _ _ _ _ _ _ _ _ _ _ _ _ _ _ _ _ _ _ [.int c15, .int (c13 + c14), .int 0]
                refine x_isub C d_K_mark_126 ?_
                refine x_max C wL_K_172 (by decide) (Nat.le_of_ble_eq_true rfl) d_K_mark_127 ?_
                cases hf
                exact x_iret C d_K_mark_130 rfl rfl
              · replace hf := ie g12 hf
                rcases Classical.em (x2 = 4) with g16 | g16
                · replace hf := it g16 hf
                  refine x_tswIn C 131 g16 d_K_mark_42 (by decide) (by decide) rfl (by decide) ?_
                  refine x_aload_n C d_K_mark_131 0 rfl ?_
                  refine xg_K_now C wF_K_21 mc_0 kc_0 d_K_mark_132 ?_
                  refine x_iload_n C d_K_mark_135 1 rfl ?_
                  obtain ⟨c17, hc17, hf⟩ := bs hf
                  refine x_callV (rest := []) (n := 1) C (ct_V_souringFor E F _ _ _ _ mc_23 kc_23 hc17) mi_V_souringFor (by decide) mc_23 ⟨_, cel_V kc_23⟩ rfl rfl wL_K_177 d_K_mark_136 rfl rfl (Nat.le_of_ble_eq_true rfl) ?_
                  show X _ _ _ _ _ _ _ _ _ _ _ _ _ _ _ _ _ _ _ _ _ [.int c17]
                  cases hf
                  exact x_iret C d_K_mark_139 rfl rfl
                · replace hf := ie g16 hf
                  have hsw : (x2).toInt < 1 ∨ 4 < (x2).toInt := by
                    have qg7 := lv_neT g7 (a := 1) rfl
                    have qg10 := lv_neT g10 (a := 2) rfl
                    have qg12 := lv_neT g12 (a := 3) rfl
                    have qg16 := lv_neT g16 (a := 4) rfl
                    omega
                  refine x_tswOut C 140 d_K_mark_42 hsw (by decide) ?_
                  refine x_aload_n C d_K_mark_140 0 rfl ?_
                  refine x_iload_n C d_K_mark_141 1 rfl ?_
                  obtain ⟨c18, hc18, hf⟩ := bs hf
                  refine x_callV (rest := []) (n := 1) C (ct_K_ringsThrough E F _ _ _  hc18) mi_K_ringsThrough (by decide) mc_0 ⟨_, cel_K kc_0⟩ rfl rfl wL_K_180 d_K_mark_142 rfl rfl (Nat.le_of_ble_eq_true rfl) ?_
                  show X _ _ _ _ _ _ _ _ _ _ _ _ _ _ _ _ _ _ _ _ _ [.int c18.1]
                  cases hf
                  exact x_iret C d_K_mark_145 rfl rfl
        · replace hf := it g6 hf
          refine x_aload_n C d_K_mark_35 0 rfl ?_
          refine x_iconst (v := 3) C d_K_mark_36 rfl ?_
          obtain ⟨c19, hc19, hf⟩ := bs hf
          refine x_callV (rest := []) (n := 1) C (ct_K_refuse E F _ _ _  hc19) mi_K_refuse (by decide) mc_0 ⟨_, cel_K kc_0⟩ rfl rfl wL_K_88 d_K_mark_37 rfl rfl (Nat.le_of_ble_eq_true rfl) ?_
          show X _ _ _ _ _ _ _ _ _ _ _ _ _ _ _ _ _ _ _ _ _ [.int c19.1]
          cases hf
          exact x_iret C d_K_mark_40 rfl rfl
      · replace hf := ie g4 hf
        refine x_iconst (v := (-1)) C d_K_mark_21 rfl ?_
        cases hf
        exact x_iret C d_K_mark_22 rfl rfl
set_option maxHeartbeats 4000000 in
set_option maxRecDepth 100000 in
theorem lw_K_mean_47 {p : Program} {l : Launch} {e : Env} {s : State} {m : MethodId} {args : Array Value} {below : List Frame} {meth : Method} {c : Code} {D : va_G} {ad : Nat → Nat} {cs : Nat → ClassId} {A : Nat → Prop} {V : Option Value} {N : Mem} (E : Ev ad cs A LX) (C : Cx p s m args meth c "KissClearing" b_K_mean 6 (some .int) D ad cs A LX) (F : Nat) (M : Mem) (k2 : Nat) (hm2 : k2 ∈ LX) (hk2 : kd k2 = 11) : ∀ (n : Nat) (x3 : Int64) (x5 : Int32) (u : Int64), L_K_mean_47 F M k2 n x3 x5 = some u → X p l e 1 s m args below meth c 6 D ad cs A LX V N M 73 [(0, .ref (ad 0)), (2, .ref (ad k2)), (3, .long u)] [] → X p l e 1 s m args below meth c 6 D ad cs A LX V N M 47 [(0, .ref (ad 0)), (2, .ref (ad k2)), (3, .long x3), (5, .int x5)] [] := by
  intro n
  induction n with
  | zero => intro x3 x5 u hf; cases hf
  | succ n ih =>
    intro x3 x5 u hf K
    replace hf : B_K_mean_47 F M k2 (L_K_mean_47 F M k2 n) x3 x5 = some u := hf
    unfold B_K_mean_47 at hf
    refine x_iload C d_K_mean_47 3 rfl ?_
    refine x_aload_n C d_K_mean_49 1 rfl ?_
    refine xg_S_size C wF_K_109 hm2 hk2 d_K_mean_50 ?_
    refine x_icmp_ge C 73 d_K_mean_53 (by decide) (fun g7 => ?_) (fun g7 => ?_)
    · replace hf := it g7 hf
      cases hf
      exact x_sub [0, 1, 2] rfl K
    · replace hf := ie g7 hf
      refine x_lload_n C d_K_mean_56 2 rfl ?_
      refine x_aload_n C d_K_mean_57 1 rfl ?_
      refine xg_S_places C wF_K_99 hm2 hk2 d_K_mean_58 ?_
      refine x_iload C d_K_mean_61 3 rfl ?_
      obtain ⟨t8, ht8, hf⟩ := bs hf
      refine x_iald C ht8 (m_S_places hk2) (k_S_places hk2) d_K_mean_63 ?_
      refine x_i2l C d_K_mean_64 ?_
      refine x_ladd C d_K_mean_65 ?_
      refine x_lstore_n (lv' := [(3, .long (x3 + ((t8).toInt64))), (0, .ref (ad 0)), (2, .ref (ad k2)), (5, .int x5)]) C d_K_mean_66 (by decide) rfl ?_
      refine x_iinc (v := (x5 + 1)) (lv' := [(5, .int (x5 + 1)), (3, .long (x3 + ((t8).toInt64))), (0, .ref (ad 0)), (2, .ref (ad k2))]) C d_K_mean_67 3 rfl rfl (by decide) rfl ?_
      refine x_goto C 47 d_K_mean_70 (by decide) ?_
      refine x_sub [2, 3, 1, 0] rfl ?_
      exact ih _ _ _ hf K
set_option maxHeartbeats 4000000 in
set_option maxRecDepth 100000 in
theorem ct_K_mean {l : Launch} {D : va_G} {ad : Nat → Nat} {cs : Nat → ClassId} {A : Nat → Prop} (E : Ev ad cs A LX) (F : Nat) (M : Mem) (x1 : Int32) (R : (Int32 × Mem))  (hf : K_mean F M x1 = some R) : Met l y_K_mean (Cond.code y_K_mean b_K_mean 6 (some .int) :: wl) (rmD 1) (PX D ad cs A LX [.ref (ad 0), .int x1] M) (QX D ad cs A LX (some (.int R.1)) R.2) 0 0 A := by
  refine x_enter (lv := [(0, .ref (ad 0)), (1, .int x1)]) E mi_K_mean.1 (Nat.le_of_ble_eq_true rfl) rfl (fun p e s m args below meth c C => ?_)
  unfold K_mean at hf
  refine x_iload_n C d_K_mean_0 1 rfl ?_
  obtain ⟨c1, hc1, hf⟩ := bs hf
  refine x_callS (rest := []) (n := 1) C (ct_K_isRow E F _ _ _  hc1) mi_K_isRow (by decide) wL_K_84 d_K_mean_1 rfl rfl (Nat.le_of_ble_eq_true rfl) ?_
  show X _ _ _ _ _ _ _ _ _ _ _ _ _ _ _ _ _ _ _ _ _ [.int c1]
  refine x_if_ne C 9 d_K_mean_4 (by decide) (fun g2 => ?_) (fun g2 => ?_)
  · replace hf := ie g2 hf
    refine x_aload_n C d_K_mean_9 0 rfl ?_
    refine xg_K_rows C wF_K_11 mc_0 kc_0 d_K_mean_10 ?_
    refine x_iload_n C d_K_mean_13 1 rfl ?_
    obtain ⟨z3, hz3, hf⟩ := bs hf
    refine x_aald1 C hz3 mc_1 kc_1 d_K_mean_14 ?_
    refine x_astore_n (lv' := [(2, .ref (ad (1 + 1 + 2 * z3))), (0, .ref (ad 0)), (1, .int x1)]) C d_K_mean_15 (by decide) rfl ?_
    refine x_aload_n C d_K_mean_16 0 rfl ?_
    obtain ⟨c4, hc4, hf⟩ := bs hf
    refine x_callV (rest := []) (n := 0) C (ct_S_isMissing E F _ _ _ (ma_S kc_1 hz3) (ka_S kc_1 hz3) hc4) mi_S_isMissing (by decide) (ma_S kc_1 hz3) ⟨_, cel_S (ka_S kc_1 hz3)⟩ rfl rfl wL_K_105 d_K_mean_17 rfl rfl (Nat.le_of_ble_eq_true rfl) ?_
    show X _ _ _ _ _ _ _ _ _ _ _ _ _ _ _ _ _ _ _ _ _ [.int c4]
    refine x_if_eq C 29 d_K_mean_20 (by decide) (fun g5 => ?_) (fun g5 => ?_)
    · replace hf := it g5 hf
      refine x_aload_n C d_K_mean_29 0 rfl ?_
      refine xg_S_size C wF_K_109 (ma_S kc_1 hz3) (ka_S kc_1 hz3) d_K_mean_30 ?_
      refine x_if_ne C 42 d_K_mean_33 (by decide) (fun g6 => ?_) (fun g6 => ?_)
      · replace hf := ie g6 hf
        refine x_lconst (v := 0) C d_K_mean_42 rfl ?_
        refine x_lstore_n (lv' := [(3, .long 0), (2, .ref (ad (1 + 1 + 2 * z3))), (0, .ref (ad 0)), (1, .int x1)]) C d_K_mean_43 (by decide) rfl ?_
        refine x_iconst (v := 0) C d_K_mean_44 rfl ?_
        refine x_istore (lv' := [(5, .int 0), (3, .long 0), (2, .ref (ad (1 + 1 + 2 * z3))), (0, .ref (ad 0)), (1, .int x1)]) C d_K_mean_45 (by decide) rfl ?_
        obtain ⟨u9, hu9, hf⟩ := bs hf
        refine x_sub [3, 2, 1, 0] rfl ?_
        refine lw_K_mean_47 E C F _ _ (ma_S kc_1 hz3) (ka_S kc_1 hz3) _ _ _ _ hu9 ?_
        refine x_aload_n C d_K_mean_73 0 rfl ?_
        refine x_lload_n C d_K_mean_74 2 rfl ?_
        refine x_aload_n C d_K_mean_75 1 rfl ?_
        refine xg_S_size C wF_K_109 (ma_S kc_1 hz3) (ka_S kc_1 hz3) d_K_mean_76 ?_
        refine x_i2l C d_K_mean_79 ?_
        obtain ⟨t10, ht10, hf⟩ := bs hf
        refine x_ldiv C ht10 d_K_mean_80 ?_
        refine x_l2i C d_K_mean_81 ?_
        obtain ⟨c11, hc11, hf⟩ := bs hf
        refine x_callV (rest := []) (n := 1) C (ct_K_tell E F _ _ _  hc11) mi_K_tell (by decide) mc_0 ⟨_, cel_K kc_0⟩ rfl rfl wL_K_102 d_K_mean_82 rfl rfl (Nat.le_of_ble_eq_true rfl) ?_
        show X _ _ _ _ _ _ _ _ _ _ _ _ _ _ _ _ _ _ _ _ _ [.int c11.1]
        cases hf
        exact x_iret C d_K_mean_85 rfl rfl
      · replace hf := it g6 hf
        refine x_aload_n C d_K_mean_36 1 rfl ?_
        refine x_iconst (v := 4) C d_K_mean_37 rfl ?_
        obtain ⟨c12, hc12, hf⟩ := bs hf
        refine x_callV (rest := []) (n := 1) C (ct_K_refuse E F _ _ _  hc12) mi_K_refuse (by decide) mc_0 ⟨_, cel_K kc_0⟩ rfl rfl wL_K_88 d_K_mean_38 rfl rfl (Nat.le_of_ble_eq_true rfl) ?_
        show X _ _ _ _ _ _ _ _ _ _ _ _ _ _ _ _ _ _ _ _ _ [.int c12.1]
        cases hf
        exact x_iret C d_K_mean_41 rfl rfl
    · replace hf := ie g5 hf
      refine x_aload_n C d_K_mean_23 1 rfl ?_
      refine x_iconst (v := 1) C d_K_mean_24 rfl ?_
      obtain ⟨c13, hc13, hf⟩ := bs hf
      refine x_callV (rest := []) (n := 1) C (ct_K_refuse E F _ _ _  hc13) mi_K_refuse (by decide) mc_0 ⟨_, cel_K kc_0⟩ rfl rfl wL_K_88 d_K_mean_25 rfl rfl (Nat.le_of_ble_eq_true rfl) ?_
      show X _ _ _ _ _ _ _ _ _ _ _ _ _ _ _ _ _ _ _ _ _ [.int c13.1]
      cases hf
      exact x_iret C d_K_mean_28 rfl rfl
  · replace hf := it g2 hf
    refine x_iconst (v := (-1)) C d_K_mean_7 rfl ?_
    cases hf
    exact x_iret C d_K_mean_8 rfl rfl
set_option maxHeartbeats 4000000 in
set_option maxRecDepth 100000 in
theorem ct_K_meet {l : Launch} {D : va_G} {ad : Nat → Nat} {cs : Nat → ClassId} {A : Nat → Prop} (E : Ev ad cs A LX) (F : Nat) (M : Mem) (x1 : Int32) (x2 : Int32) (R : (Int32 × Mem))  (hf : K_meet F M x1 x2 = some R) : Met l y_K_meet (Cond.code y_K_meet b_K_meet 3 (some .int) :: wl) (rmD 4) (PX D ad cs A LX [.ref (ad 0), .int x1, .int x2] M) (QX D ad cs A LX (some (.int R.1)) R.2) 0 0 A := by
  refine x_enter (lv := [(0, .ref (ad 0)), (1, .int x1), (2, .int x2)]) E mi_K_meet.1 (Nat.le_of_ble_eq_true rfl) rfl (fun p e s m args below meth c C => ?_)
  unfold K_meet at hf
  refine x_aload_n C d_K_meet_0 0 rfl ?_
  refine xg_K_now C wF_K_21 mc_0 kc_0 d_K_meet_1 ?_
  refine x_iload_n C d_K_meet_4 1 rfl ?_
  refine x_iload_n C d_K_meet_5 2 rfl ?_
  obtain ⟨c1, hc1, hf⟩ := bs hf
  refine x_callV (rest := []) (n := 2) C (ct_V_hasTwo E F _ _ _ _ _ mc_23 kc_23 hc1) mi_V_hasTwo (by decide) mc_23 ⟨_, cel_V kc_23⟩ rfl rfl wL_K_183 d_K_meet_6 rfl rfl (Nat.le_of_ble_eq_true rfl) ?_
  show X _ _ _ _ _ _ _ _ _ _ _ _ _ _ _ _ _ _ _ _ _ [.int c1]
  refine x_if_ne C 14 d_K_meet_9 (by decide) (fun g2 => ?_) (fun g2 => ?_)
  · replace hf := ie g2 hf
    refine x_aload_n C d_K_meet_14 0 rfl ?_
    refine xg_K_history C wF_K_31 mc_0 kc_0 d_K_meet_15 ?_
    refine x_iconst (v := 1) C d_K_meet_18 rfl ?_
    obtain ⟨c3, hc3, hf⟩ := bs hf
    refine x_callV (rest := []) (n := 1) C (ct_H_isFullFor E F _ _ _ _ mc_53 kc_53 hc3) mi_H_isFullFor (by decide) mc_53 ⟨_, cel_H kc_53⟩ rfl rfl wL_K_189 d_K_meet_19 rfl rfl (Nat.le_of_ble_eq_true rfl) ?_
    show X _ _ _ _ _ _ _ _ _ _ _ _ _ _ _ _ _ _ _ _ _ [.int c3]
    refine x_if_eq C 28 d_K_meet_22 (by decide) (fun g4 => ?_) (fun g4 => ?_)
    · replace hf := it g4 hf
      refine x_aload_n C d_K_meet_28 0 rfl ?_
      refine xg_K_history C wF_K_31 mc_0 kc_0 d_K_meet_29 ?_
      refine x_aload_n C d_K_meet_32 0 rfl ?_
      refine xg_K_now C wF_K_21 mc_0 kc_0 d_K_meet_33 ?_
      obtain ⟨c5, hc5, hf⟩ := bs hf
      refine x_callV (rest := []) (n := 1) C (ct_H_begin E F _ _ _ _ mc_53 kc_53 mc_23 kc_23 hc5) mi_H_begin (by decide) mc_53 ⟨_, cel_H kc_53⟩ rfl rfl wL_K_192 d_K_meet_36 rfl rfl (Nat.le_of_ble_eq_true rfl) ?_
      show X _ _ _ _ _ _ _ _ _ _ _ _ _ _ _ _ _ _ _ _ _ []
      refine x_aload_n C d_K_meet_39 0 rfl ?_
      refine x_aload_n C d_K_meet_40 0 rfl ?_
      refine xg_K_now C wF_K_21 mc_0 kc_0 d_K_meet_41 ?_
      refine x_iload_n C d_K_meet_44 1 rfl ?_
      refine x_iload_n C d_K_meet_45 2 rfl ?_
      obtain ⟨c6, hc6, hf⟩ := bs hf
      refine x_callV (rest := [.ref (ad 0)]) (n := 2) C (ct_V_netTwo E F _ _ _ _ _ mc_23 kc_23 hc6) mi_V_netTwo (by decide) mc_23 ⟨_, cel_V kc_23⟩ rfl rfl wL_K_199 d_K_meet_46 rfl rfl (Nat.le_of_ble_eq_true rfl) ?_
      show X _ _ _ _ _ _ _ _ _ _ _ _ _ _ _ _ _ _ _ _ _ [.int c6.1, .ref (ad 0)]
      refine xp_K_latestAsked (x := c6.1) C wF_K_68 mc_0 kc_0 d_K_meet_49 ?_
      refine x_aload_n C d_K_meet_52 0 rfl ?_
      refine xg_K_now C wF_K_21 mc_0 kc_0 d_K_meet_53 ?_
      refine x_iload_n C d_K_meet_56 1 rfl ?_
      refine x_iload_n C d_K_meet_57 2 rfl ?_
      obtain ⟨c7, hc7, hf⟩ := bs hf
      refine x_callV (rest := []) (n := 2) C (ct_V_payTwo E F _ _ _ _ _ mc_23 kc_23 hc7) mi_V_payTwo (by decide) mc_23 ⟨_, cel_V kc_23⟩ rfl rfl wL_K_202 d_K_meet_58 rfl rfl (Nat.le_of_ble_eq_true rfl) ?_
      show X _ _ _ _ _ _ _ _ _ _ _ _ _ _ _ _ _ _ _ _ _ [.int c7.1]
      cases hf
      exact x_iret C d_K_meet_61 rfl rfl
    · replace hf := ie g4 hf
      refine x_bipush (v := (-2)) C d_K_meet_25 rfl ?_
      cases hf
      exact x_iret C d_K_meet_27 rfl rfl
  · replace hf := it g2 hf
    refine x_iconst (v := (-1)) C d_K_meet_12 rfl ?_
    cases hf
    exact x_iret C d_K_meet_13 rfl rfl
set_option maxHeartbeats 4000000 in
set_option maxRecDepth 100000 in
theorem lw_K_mistletoe_19 {p : Program} {l : Launch} {e : Env} {s : State} {m : MethodId} {args : Array Value} {below : List Frame} {meth : Method} {c : Code} {D : va_G} {ad : Nat → Nat} {cs : Nat → ClassId} {A : Nat → Prop} {V : Option Value} {N : Mem} (E : Ev ad cs A LX) (C : Cx p s m args meth c "KissClearing" b_K_mistletoe 5 (some .int) D ad cs A LX) (F : Nat) (M : Mem)  : ∀ (n : Nat) (x1 : Int32) (x2 : Int32) (x3 : Int32) (u : (Int32 × Int32)), L_K_mistletoe_19 F M n x1 x2 x3 = some u → X p l e 1 s m args below meth c 5 D ad cs A LX V N M 57 [(0, .ref (ad 0)), (1, .int u.1), (2, .int u.2)] [] → X p l e 1 s m args below meth c 5 D ad cs A LX V N M 19 [(0, .ref (ad 0)), (1, .int x1), (2, .int x2), (3, .int x3)] [] := by
  intro n
  induction n with
  | zero => intro x1 x2 x3 u hf; cases hf
  | succ n ih =>
    intro x1 x2 x3 u hf K
    replace hf : B_K_mistletoe_19 F M (L_K_mistletoe_19 F M n) x1 x2 x3 = some u := hf
    unfold B_K_mistletoe_19 at hf
    refine x_iload_n C d_K_mistletoe_19 3 rfl ?_
    refine x_aload_n C d_K_mistletoe_20 0 rfl ?_
    refine xg_K_now C wF_K_21 mc_0 kc_0 d_K_mistletoe_21 ?_
    refine xg_V_personCount C wF_K_135 mc_23 kc_23 d_K_mistletoe_24 ?_
    refine x_icmp_ge C 57 d_K_mistletoe_27 (by decide) (fun g3 => ?_) (fun g3 => ?_)
    · replace hf := it g3 hf
      cases hf
      exact x_sub [0, 1, 2] rfl K
    · replace hf := ie g3 hf
      refine x_aload_n C d_K_mistletoe_30 0 rfl ?_
      refine xg_K_now C wF_K_21 mc_0 kc_0 d_K_mistletoe_31 ?_
      refine x_iload_n C d_K_mistletoe_34 3 rfl ?_
      obtain ⟨c4, hc4, hf⟩ := bs hf
      refine x_callV (rest := []) (n := 1) C (ct_V_clearedByHalving E F _ _ _ _ mc_23 kc_23 hc4) mi_V_clearedByHalving (by decide) mc_23 ⟨_, cel_V kc_23⟩ rfl rfl wL_K_307 d_K_mistletoe_35 rfl rfl (Nat.le_of_ble_eq_true rfl) ?_
      show X _ _ _ _ _ _ _ _ _ _ _ _ _ _ _ _ _ _ _ _ _ [.int c4]
      refine x_istore (lv' := [(4, .int c4), (0, .ref (ad 0)), (1, .int x1), (2, .int x2), (3, .int x3)]) C d_K_mistletoe_38 (by decide) rfl ?_
      refine x_iload C d_K_mistletoe_40 0 rfl ?_
      refine x_iload_n C d_K_mistletoe_42 3 rfl ?_
      refine x_icmp_le C 51 d_K_mistletoe_43 (by decide) (fun g5 => ?_) (fun g5 => ?_)
      · replace hf := it g5 hf
        refine x_iinc (v := (x3 + 1)) (lv' := [(3, .int (x3 + 1)), (4, .int c4), (0, .ref (ad 0)), (1, .int x1), (2, .int x2)]) C d_K_mistletoe_51 4 rfl rfl (by decide) rfl ?_
        refine x_goto C 19 d_K_mistletoe_54 (by decide) ?_
        refine x_sub [2, 3, 4, 0] rfl ?_
        exact ih _ _ _ _ hf K
      · replace hf := ie g5 hf
        refine x_iload C d_K_mistletoe_46 0 rfl ?_
        refine x_istore_n (lv' := [(2, .int c4), (4, .int c4), (0, .ref (ad 0)), (1, .int x1), (3, .int x3)]) C d_K_mistletoe_48 (by decide) rfl ?_
        refine x_iload_n C d_K_mistletoe_49 4 rfl ?_
        refine x_istore_n (lv' := [(1, .int x3), (2, .int c4), (4, .int c4), (0, .ref (ad 0)), (3, .int x3)]) C d_K_mistletoe_50 (by decide) rfl ?_
        refine x_iinc (v := (x3 + 1)) (lv' := [(3, .int (x3 + 1)), (1, .int x3), (2, .int c4), (4, .int c4), (0, .ref (ad 0))]) C d_K_mistletoe_51 4 rfl rfl (by decide) rfl ?_
        refine x_goto C 19 d_K_mistletoe_54 (by decide) ?_
        refine x_sub [4, 1, 2, 0] rfl ?_
        exact ih _ _ _ _ hf K
set_option maxHeartbeats 4000000 in
set_option maxRecDepth 100000 in
theorem ct_K_mistletoe {l : Launch} {D : va_G} {ad : Nat → Nat} {cs : Nat → ClassId} {A : Nat → Prop} (E : Ev ad cs A LX) (F : Nat) (M : Mem)  (R : (Int32 × Mem))  (hf : K_mistletoe F M = some R) : Met l y_K_mistletoe (Cond.code y_K_mistletoe b_K_mistletoe 5 (some .int) :: wl) (rmD 1) (PX D ad cs A LX [.ref (ad 0)] M) (QX D ad cs A LX (some (.int R.1)) R.2) 0 0 A := by
  refine x_enter (lv := [(0, .ref (ad 0))]) E mi_K_mistletoe.1 (Nat.le_of_ble_eq_true rfl) rfl (fun p e s m args below meth c C => ?_)
  unfold K_mistletoe at hf
  refine x_aload_n C d_K_mistletoe_0 0 rfl ?_
  refine xg_K_now C wF_K_21 mc_0 kc_0 d_K_mistletoe_1 ?_
  obtain ⟨c1, hc1, hf⟩ := bs hf
  refine x_callV (rest := []) (n := 0) C (ct_V_isEmpty E F _ _ _ mc_23 kc_23 hc1) mi_V_isEmpty (by decide) mc_23 ⟨_, cel_V kc_23⟩ rfl rfl wL_K_231 d_K_mistletoe_4 rfl rfl (Nat.le_of_ble_eq_true rfl) ?_
  show X _ _ _ _ _ _ _ _ _ _ _ _ _ _ _ _ _ _ _ _ _ [.int c1]
  refine x_if_eq C 13 d_K_mistletoe_7 (by decide) (fun g2 => ?_) (fun g2 => ?_)
  · replace hf := it g2 hf
    refine x_iconst (v := 0) C d_K_mistletoe_13 rfl ?_
    refine x_istore_n (lv' := [(1, .int 0), (0, .ref (ad 0))]) C d_K_mistletoe_14 (by decide) rfl ?_
    refine x_iconst (v := (-1)) C d_K_mistletoe_15 rfl ?_
    refine x_istore_n (lv' := [(2, .int (-1)), (1, .int 0), (0, .ref (ad 0))]) C d_K_mistletoe_16 (by decide) rfl ?_
    refine x_iconst (v := 0) C d_K_mistletoe_17 rfl ?_
    refine x_istore_n (lv' := [(3, .int 0), (2, .int (-1)), (1, .int 0), (0, .ref (ad 0))]) C d_K_mistletoe_18 (by decide) rfl ?_
    obtain ⟨u6, hu6, hf⟩ := bs hf
    refine x_sub [3, 2, 1, 0] rfl ?_
    refine lw_K_mistletoe_19 E C F _ _ _ _ _ _ hu6 ?_
    refine x_aload_n C d_K_mistletoe_57 0 rfl ?_
    refine x_iload_n C d_K_mistletoe_58 2 rfl ?_
    refine xp_K_latestAsked (x := u6.2) C wF_K_68 mc_0 kc_0 d_K_mistletoe_59 ?_
    refine x_iload_n C d_K_mistletoe_62 1 rfl ?_
    cases hf
    exact x_iret C d_K_mistletoe_63 rfl rfl
  · replace hf := ie g2 hf
    refine x_bipush (v := (-4)) C d_K_mistletoe_10 rfl ?_
    cases hf
    exact x_iret C d_K_mistletoe_12 rfl rfl
set_option maxHeartbeats 4000000 in
set_option maxRecDepth 100000 in
theorem lw_K_net_13 {p : Program} {l : Launch} {e : Env} {s : State} {m : MethodId} {args : Array Value} {below : List Frame} {meth : Method} {c : Code} {D : va_G} {ad : Nat → Nat} {cs : Nat → ClassId} {A : Nat → Prop} {V : Option Value} {N : Mem} (E : Ev ad cs A LX) (C : Cx p s m args meth c "KissClearing" b_K_net 4 (some .int) D ad cs A LX) (F : Nat) (M : Mem) (x1 : Int32) : ∀ (n : Nat) (x2 : Int32) (x3 : Int32) (u : Int32), L_K_net_13 F M x1 n x2 x3 = some u → X p l e 1 s m args below meth c 4 D ad cs A LX V N M 46 [(2, .int u)] [] → X p l e 1 s m args below meth c 4 D ad cs A LX V N M 13 [(0, .ref (ad 0)), (1, .int x1), (2, .int x2), (3, .int x3)] [] := by
  intro n
  induction n with
  | zero => intro x2 x3 u hf; cases hf
  | succ n ih =>
    intro x2 x3 u hf K
    replace hf : B_K_net_13 F M x1 (L_K_net_13 F M x1 n) x2 x3 = some u := hf
    unfold B_K_net_13 at hf
    refine x_iload_n C d_K_net_13 3 rfl ?_
    refine x_aload_n C d_K_net_14 0 rfl ?_
    refine xg_K_now C wF_K_21 mc_0 kc_0 d_K_net_15 ?_
    refine xg_V_personCount C wF_K_135 mc_23 kc_23 d_K_net_18 ?_
    refine x_icmp_ge C 46 d_K_net_21 (by decide) (fun g3 => ?_) (fun g3 => ?_)
    · replace hf := it g3 hf
      cases hf
      exact x_sub [2] rfl K
    · replace hf := ie g3 hf
      refine x_iload_n C d_K_net_24 2 rfl ?_
      refine x_iconst (v := 0) C d_K_net_25 rfl ?_
      refine x_aload_n C d_K_net_26 0 rfl ?_
      refine xg_K_now C wF_K_21 mc_0 kc_0 d_K_net_27 ?_
      refine x_iload_n C d_K_net_30 3 rfl ?_
      refine x_iload_n C d_K_net_31 1 rfl ?_
      obtain ⟨c4, hc4, hf⟩ := bs hf
      refine x_callV (rest := [.int 0, .int x2]) (n := 2) C (ct_V_netOwing E F _ _ _ _ _ mc_23 kc_23 hc4) mi_V_netOwing (by decide) mc_23 ⟨_, cel_V kc_23⟩ rfl rfl wL_K_280 d_K_net_32 rfl rfl (Nat.le_of_ble_eq_true rfl) ?_
      show X _ _ _ _ _ _ _ _ _ _ _ _ _ _ _ _ _ _ _ _ _ [.int c4, .int 0, .int x2]
      refine x_max C wL_K_172 (by decide) (Nat.le_of_ble_eq_true rfl) d_K_net_35 ?_
      refine x_iadd C d_K_net_38 ?_
      refine x_istore_n (lv' := [(2, .int (x2 + (if 0 < c4 then c4 else 0))), (0, .ref (ad 0)), (1, .int x1), (3, .int x3)]) C d_K_net_39 (by decide) rfl ?_
      refine x_iinc (v := (x3 + 1)) (lv' := [(3, .int (x3 + 1)), (2, .int (x2 + (if 0 < c4 then c4 else 0))), (0, .ref (ad 0)), (1, .int x1)]) C d_K_net_40 3 rfl rfl (by decide) rfl ?_
      refine x_goto C 13 d_K_net_43 (by decide) ?_
      refine x_sub [2, 3, 1, 0] rfl ?_
      exact ih _ _ _ hf K
set_option maxHeartbeats 4000000 in
set_option maxRecDepth 100000 in
theorem ct_K_net {l : Launch} {D : va_G} {ad : Nat → Nat} {cs : Nat → ClassId} {A : Nat → Prop} (E : Ev ad cs A LX) (F : Nat) (M : Mem) (x1 : Int32) (R : Int32)  (hf : K_net F M x1 = some R) : Met l y_K_net (Cond.code y_K_net b_K_net 4 (some .int) :: wl) (rmD 1) (PX D ad cs A LX [.ref (ad 0), .int x1] M) (QX D ad cs A LX (some (.int R)) M) 0 0 A := by
  refine x_enter (lv := [(0, .ref (ad 0)), (1, .int x1)]) E mi_K_net.1 (Nat.le_of_ble_eq_true rfl) rfl (fun p e s m args below meth c C => ?_)
  unfold K_net at hf
  refine x_iload_n C d_K_net_0 1 rfl ?_
  obtain ⟨c1, hc1, hf⟩ := bs hf
  refine x_callS (rest := []) (n := 1) C (ct_K_isSort E F _ _ _  hc1) mi_K_isSort (by decide) wL_K_251 d_K_net_1 rfl rfl (Nat.le_of_ble_eq_true rfl) ?_
  show X _ _ _ _ _ _ _ _ _ _ _ _ _ _ _ _ _ _ _ _ _ [.int c1]
  refine x_if_ne C 9 d_K_net_4 (by decide) (fun g2 => ?_) (fun g2 => ?_)
  · replace hf := ie g2 hf
    refine x_iconst (v := 0) C d_K_net_9 rfl ?_
    refine x_istore_n (lv' := [(2, .int 0), (0, .ref (ad 0)), (1, .int x1)]) C d_K_net_10 (by decide) rfl ?_
    refine x_iconst (v := 0) C d_K_net_11 rfl ?_
    refine x_istore_n (lv' := [(3, .int 0), (2, .int 0), (0, .ref (ad 0)), (1, .int x1)]) C d_K_net_12 (by decide) rfl ?_
    obtain ⟨u5, hu5, hf⟩ := bs hf
    refine x_sub [2, 3, 1, 0] rfl ?_
    refine lw_K_net_13 E C F _ _ _ _ _ _ hu5 ?_
    refine x_iload_n C d_K_net_46 0 rfl ?_
    cases hf
    exact x_iret C d_K_net_47 rfl rfl
  · replace hf := it g2 hf
    refine x_iconst (v := (-1)) C d_K_net_7 rfl ?_
    cases hf
    exact x_iret C d_K_net_8 rfl rfl
set_option maxHeartbeats 4000000 in
set_option maxRecDepth 100000 in
theorem lw_K_odds_17 {p : Program} {l : Launch} {e : Env} {s : State} {m : MethodId} {args : Array Value} {below : List Frame} {meth : Method} {c : Code} {D : va_G} {ad : Nat → Nat} {cs : Nat → ClassId} {A : Nat → Prop} {V : Option Value} {N : Mem} (E : Ev ad cs A LX) (C : Cx p s m args meth c "KissClearing" b_K_odds 3 (some .int) D ad cs A LX) (F : Nat) (M : Mem)  : ∀ (n : Nat) (x1 : Int32) (x2 : Int32) (u : Int32), L_K_odds_17 F M n x1 x2 = some u → X p l e 4 s m args below meth c 3 D ad cs A LX V N M 49 [(0, .ref (ad 0)), (1, .int u)] [] → X p l e 4 s m args below meth c 3 D ad cs A LX V N M 17 [(0, .ref (ad 0)), (1, .int x1), (2, .int x2)] [] := by
  intro n
  induction n with
  | zero => intro x1 x2 u hf; cases hf
  | succ n ih =>
    intro x1 x2 u hf K
    replace hf : B_K_odds_17 F M (L_K_odds_17 F M n) x1 x2 = some u := hf
    unfold B_K_odds_17 at hf
    refine x_iload_n C d_K_odds_17 2 rfl ?_
    refine x_aload_n C d_K_odds_18 0 rfl ?_
    refine xg_K_now C wF_K_21 mc_0 kc_0 d_K_odds_19 ?_
    refine xg_V_personCount C wF_K_135 mc_23 kc_23 d_K_odds_22 ?_
    refine x_icmp_ge C 49 d_K_odds_25 (by decide) (fun g3 => ?_) (fun g3 => ?_)
    · replace hf := it g3 hf
      cases hf
      exact x_sub [0, 1] rfl K
    · replace hf := ie g3 hf
      refine x_aload_n C d_K_odds_28 0 rfl ?_
      refine xg_K_now C wF_K_21 mc_0 kc_0 d_K_odds_29 ?_
      refine x_iload_n C d_K_odds_32 2 rfl ?_
      refine x_iconst (v := (-1)) C d_K_odds_33 rfl ?_
      obtain ⟨c4, hc4, hf⟩ := bs hf
      refine x_callV (rest := []) (n := 2) C (ct_V_fallen E F _ _ _ _ _ mc_23 kc_23 hc4) mi_V_fallen (by decide) mc_23 ⟨_, cel_V kc_23⟩ rfl rfl wL_K_286 d_K_odds_34 rfl rfl (Nat.le_of_ble_eq_true rfl) ?_
      show X _ _ _ _ _ _ _ _ _ _ _ _ _ _ _ _ _ _ _ _ _ [.int c4]
      refine x_if_ne C 43 d_K_odds_37 (by decide) (fun g5 => ?_) (fun g5 => ?_)
      · replace hf := ie g5 hf
        refine x_iinc (v := (x2 + 1)) (lv' := [(2, .int (x2 + 1)), (0, .ref (ad 0)), (1, .int x1)]) C d_K_odds_43 2 rfl rfl (by decide) rfl ?_
        refine x_goto C 17 d_K_odds_46 (by decide) ?_
        refine x_sub [1, 2, 0] rfl ?_
        exact ih _ _ _ hf K
      · replace hf := it g5 hf
        refine x_iinc (v := (x1 + 1)) (lv' := [(1, .int (x1 + 1)), (0, .ref (ad 0)), (2, .int x2)]) C d_K_odds_40 1 rfl rfl (by decide) rfl ?_
        refine x_iinc (v := (x2 + 1)) (lv' := [(2, .int (x2 + 1)), (1, .int (x1 + 1)), (0, .ref (ad 0))]) C d_K_odds_43 2 rfl rfl (by decide) rfl ?_
        refine x_goto C 17 d_K_odds_46 (by decide) ?_
        refine x_sub [2, 1, 0] rfl ?_
        exact ih _ _ _ hf K
set_option maxHeartbeats 4000000 in
set_option maxRecDepth 100000 in
theorem ct_K_odds {l : Launch} {D : va_G} {ad : Nat → Nat} {cs : Nat → ClassId} {A : Nat → Prop} (E : Ev ad cs A LX) (F : Nat) (M : Mem)  (R : (Int32 × Mem))  (hf : K_odds F M = some R) : Met l y_K_odds (Cond.code y_K_odds b_K_odds 3 (some .int) :: wl) (rmD 4) (PX D ad cs A LX [.ref (ad 0)] M) (QX D ad cs A LX (some (.int R.1)) R.2) 0 0 A := by
  refine x_enter (lv := [(0, .ref (ad 0))]) E mi_K_odds.1 (Nat.le_of_ble_eq_true rfl) rfl (fun p e s m args below meth c C => ?_)
  unfold K_odds at hf
  refine x_aload_n C d_K_odds_0 0 rfl ?_
  refine xg_K_now C wF_K_21 mc_0 kc_0 d_K_odds_1 ?_
  obtain ⟨c1, hc1, hf⟩ := bs hf
  refine x_callV (rest := []) (n := 0) C (ct_V_isEmpty E F _ _ _ mc_23 kc_23 hc1) mi_V_isEmpty (by decide) mc_23 ⟨_, cel_V kc_23⟩ rfl rfl wL_K_231 d_K_odds_4 rfl rfl (Nat.le_of_ble_eq_true rfl) ?_
  show X _ _ _ _ _ _ _ _ _ _ _ _ _ _ _ _ _ _ _ _ _ [.int c1]
  refine x_if_eq C 13 d_K_odds_7 (by decide) (fun g2 => ?_) (fun g2 => ?_)
  · replace hf := it g2 hf
    refine x_iconst (v := 0) C d_K_odds_13 rfl ?_
    refine x_istore_n (lv' := [(1, .int 0), (0, .ref (ad 0))]) C d_K_odds_14 (by decide) rfl ?_
    refine x_iconst (v := 0) C d_K_odds_15 rfl ?_
    refine x_istore_n (lv' := [(2, .int 0), (1, .int 0), (0, .ref (ad 0))]) C d_K_odds_16 (by decide) rfl ?_
    obtain ⟨u6, hu6, hf⟩ := bs hf
    refine x_sub [2, 1, 0] rfl ?_
    refine lw_K_odds_17 E C F _ _ _ _ _ hu6 ?_
    refine x_aload_n C d_K_odds_49 0 rfl ?_
    refine xg_K_now C wF_K_21 mc_0 kc_0 d_K_odds_50 ?_
    refine xg_V_personCount C wF_K_135 mc_23 kc_23 d_K_odds_53 ?_
    refine x_iload_n C d_K_odds_56 1 rfl ?_
    obtain ⟨c7, hc7, hf⟩ := bs hf
    refine x_callS (rest := []) (n := 2) C (ct_K_greatestCommon E F _ _ _ _  hc7) mi_K_greatestCommon (by decide) wL_K_332 d_K_odds_57 rfl rfl (Nat.le_of_ble_eq_true rfl) ?_
    show X _ _ _ _ _ _ _ _ _ _ _ _ _ _ _ _ _ _ _ _ _ [.int c7]
    refine x_istore_n (lv' := [(2, .int c7), (0, .ref (ad 0)), (1, .int u6)]) C d_K_odds_60 (by decide) rfl ?_
    refine x_iload_n C d_K_odds_61 0 rfl ?_
    refine x_if_le C 87 d_K_odds_62 (by decide) (fun g8 => ?_) (fun g8 => ?_)
    · replace hf := it g8 hf
      refine x_iconst (v := 1) C d_K_odds_87 rfl ?_
      cases hf
      exact x_iret C d_K_odds_88 rfl rfl
    · replace hf := ie g8 hf
      refine x_aload_n C d_K_odds_65 1 rfl ?_
      refine x_iload_n C d_K_odds_66 2 rfl ?_
      refine x_iload_n C d_K_odds_67 0 rfl ?_
      obtain ⟨t9, ht9, hf⟩ := bs hf
      refine x_idiv C ht9 d_K_odds_68 ?_
      refine x_i2l C d_K_odds_69 ?_
      refine xp_K_latestUpper (x := t9) C wF_K_71 mc_0 kc_0 d_K_odds_70 ?_
      refine x_aload_n C d_K_odds_73 1 rfl ?_
      refine x_aload_n C d_K_odds_74 1 rfl ?_
      refine xg_K_now C wF_K_21 mc_0 kc_0 d_K_odds_75 ?_
      refine xg_V_personCount C wF_K_135 mc_23 kc_23 d_K_odds_78 ?_
      refine x_iload_n C d_K_odds_81 0 rfl ?_
      obtain ⟨t10, ht10, hf⟩ := bs hf
      refine x_idiv C ht10 d_K_odds_82 ?_
      refine x_i2l C d_K_odds_83 ?_
      refine xp_K_latestLower (x := t10) C wF_K_75 mc_0 kc_0 d_K_odds_84 ?_
      refine x_iconst (v := 1) C d_K_odds_87 rfl ?_
      cases hf
      exact x_iret C d_K_odds_88 rfl rfl
  · replace hf := ie g2 hf
    refine x_bipush (v := (-4)) C d_K_odds_10 rfl ?_
    cases hf
    exact x_iret C d_K_odds_12 rfl rfl
set_option maxHeartbeats 4000000 in
set_option maxRecDepth 100000 in
theorem ct_K_on {l : Launch} {D : va_G} {ad : Nat → Nat} {cs : Nat → ClassId} {A : Nat → Prop} (E : Ev ad cs A LX) (F : Nat) (M : Mem) (x1 : Int32) (R : (Int32 × Mem))  (hf : K_on F M x1 = some R) : Met l y_K_on (Cond.code y_K_on b_K_on 2 (some .int) :: wl) (rmD 3) (PX D ad cs A LX [.ref (ad 0), .int x1] M) (QX D ad cs A LX (some (.int R.1)) R.2) 0 0 A := by
  refine x_enter (lv := [(0, .ref (ad 0)), (1, .int x1)]) E mi_K_on.1 (Nat.le_of_ble_eq_true rfl) rfl (fun p e s m args below meth c C => ?_)
  unfold K_on at hf
  refine x_iload_n C d_K_on_0 1 rfl ?_
  obtain ⟨c1, hc1, hf⟩ := bs hf
  refine x_callS (rest := []) (n := 1) C (ct_K_isKeptPlace E F _ _ _  hc1) mi_K_isKeptPlace (by decide) wL_K_242 d_K_on_1 rfl rfl (Nat.le_of_ble_eq_true rfl) ?_
  show X _ _ _ _ _ _ _ _ _ _ _ _ _ _ _ _ _ _ _ _ _ [.int c1]
  refine x_if_ne C 9 d_K_on_4 (by decide) (fun g2 => ?_) (fun g2 => ?_)
  · replace hf := ie g2 hf
    refine x_aload_n C d_K_on_9 0 rfl ?_
    refine xg_K_kept C wF_K_35 mc_0 kc_0 d_K_on_10 ?_
    refine x_iload_n C d_K_on_13 1 rfl ?_
    obtain ⟨z3, hz3, hf⟩ := bs hf
    refine x_aald3 C hz3 mc_56 kc_56 d_K_on_14 ?_
    refine xg_H_deeds C wF_K_81 (ma_H kc_56 hz3) (ka_H kc_56 hz3) d_K_on_15 ?_
    refine x_iconst (v := (-1)) C d_K_on_18 rfl ?_
    refine x_icmp_ne C 28 d_K_on_19 (by decide) (fun g4 => ?_) (fun g4 => ?_)
    · replace hf := ie g4 hf
      refine x_aload_n C d_K_on_28 0 rfl ?_
      refine xg_K_history C wF_K_31 mc_0 kc_0 d_K_on_29 ?_
      refine x_aload_n C d_K_on_32 0 rfl ?_
      refine xg_K_kept C wF_K_35 mc_0 kc_0 d_K_on_33 ?_
      refine x_iload_n C d_K_on_36 1 rfl ?_
      obtain ⟨z5, hz5, hf⟩ := bs hf
      refine x_aald3 C hz5 mc_56 kc_56 d_K_on_37 ?_
      obtain ⟨c6, hc6, hf⟩ := bs hf
      refine x_callV (rest := []) (n := 1) C (ct_H_becomeLike E F _ _ _ _ mc_53 kc_53 (ma_H kc_56 hz5) (ka_H kc_56 hz5) hc6) mi_H_becomeLike (by decide) mc_53 ⟨_, cel_H kc_53⟩ rfl rfl wL_K_248 d_K_on_38 rfl rfl (Nat.le_of_ble_eq_true rfl) ?_
      show X _ _ _ _ _ _ _ _ _ _ _ _ _ _ _ _ _ _ _ _ _ []
      refine x_aload_n C d_K_on_41 0 rfl ?_
      refine xg_K_history C wF_K_31 mc_0 kc_0 d_K_on_42 ?_
      refine x_aload_n C d_K_on_45 0 rfl ?_
      refine xg_K_history C wF_K_31 mc_0 kc_0 d_K_on_46 ?_
      refine xg_H_deeds C wF_K_81 mc_53 kc_53 d_K_on_49 ?_
      refine x_aload_n C d_K_on_52 0 rfl ?_
      refine xg_K_now C wF_K_21 mc_0 kc_0 d_K_on_53 ?_
      obtain ⟨c7, hc7, hf⟩ := bs hf
      refine x_callV (rest := []) (n := 2) C (ct_H_goBack E F _ _ _ _ _ mc_53 kc_53 mc_23 kc_23 hc7) mi_H_goBack (by decide) mc_53 ⟨_, cel_H kc_53⟩ rfl rfl wL_K_238 d_K_on_56 rfl rfl (Nat.le_of_ble_eq_true rfl) ?_
      show X _ _ _ _ _ _ _ _ _ _ _ _ _ _ _ _ _ _ _ _ _ []
      refine x_aload_n C d_K_on_59 0 rfl ?_
      refine xg_K_history C wF_K_31 mc_0 kc_0 d_K_on_60 ?_
      refine xg_H_deeds C wF_K_81 mc_53 kc_53 d_K_on_63 ?_
      cases hf
      exact x_iret C d_K_on_66 rfl rfl
    · replace hf := it g4 hf
      refine x_aload_n C d_K_on_22 0 rfl ?_
      refine x_iconst (v := 1) C d_K_on_23 rfl ?_
      obtain ⟨c8, hc8, hf⟩ := bs hf
      refine x_callV (rest := []) (n := 1) C (ct_K_refuse E F _ _ _  hc8) mi_K_refuse (by decide) mc_0 ⟨_, cel_K kc_0⟩ rfl rfl wL_K_88 d_K_on_24 rfl rfl (Nat.le_of_ble_eq_true rfl) ?_
      show X _ _ _ _ _ _ _ _ _ _ _ _ _ _ _ _ _ _ _ _ _ [.int c8.1]
      cases hf
      exact x_iret C d_K_on_27 rfl rfl
  · replace hf := it g2 hf
    refine x_iconst (v := (-1)) C d_K_on_7 rfl ?_
    cases hf
    exact x_iret C d_K_on_8 rfl rfl
set_option maxHeartbeats 4000000 in
set_option maxRecDepth 100000 in
theorem ct_K_owe {l : Launch} {D : va_G} {ad : Nat → Nat} {cs : Nat → ClassId} {A : Nat → Prop} (E : Ev ad cs A LX) (F : Nat) (M : Mem) (x1 : Int32) (x2 : Int32) (R : (Int32 × Mem))  (hf : K_owe F M x1 x2 = some R) : Met l y_K_owe (Cond.code y_K_owe b_K_owe 6 (some .int) :: wl) (rmD 3) (PX D ad cs A LX [.ref (ad 0), .int x1, .int x2] M) (QX D ad cs A LX (some (.int R.1)) R.2) 0 0 A := by
  refine x_enter (lv := [(0, .ref (ad 0)), (1, .int x1), (2, .int x2)]) E mi_K_owe.1 (Nat.le_of_ble_eq_true rfl) rfl (fun p e s m args below meth c C => ?_)
  unfold K_owe at hf
  refine x_iload_n C d_K_owe_0 1 rfl ?_
  refine x_if_lt C 15 d_K_owe_1 (by decide) (fun g1 => ?_) (fun g1 => ?_)
  · replace hf := it g1 hf
    refine x_iconst (v := (-1)) C d_K_owe_15 rfl ?_
    cases hf
    exact x_iret C d_K_owe_16 rfl rfl
  · replace hf := ie g1 hf
    refine x_iload_n C d_K_owe_4 2 rfl ?_
    refine x_iconst (v := 1) C d_K_owe_5 rfl ?_
    refine x_icmp_lt C 15 d_K_owe_6 (by decide) (fun g2 => ?_) (fun g2 => ?_)
    · replace hf := it g2 hf
      refine x_iconst (v := (-1)) C d_K_owe_15 rfl ?_
      cases hf
      exact x_iret C d_K_owe_16 rfl rfl
    · replace hf := ie g2 hf
      refine x_iload_n C d_K_owe_9 2 rfl ?_
      refine x_bipush (v := 9) C d_K_owe_10 rfl ?_
      refine x_icmp_le C 17 d_K_owe_12 (by decide) (fun g3 => ?_) (fun g3 => ?_)
      · replace hf := it g3 hf
        refine x_iload_n C d_K_owe_17 1 rfl ?_
        refine x_bipush (v := 100) C d_K_owe_18 rfl ?_
        obtain ⟨t4, ht4, hf⟩ := bs hf
        refine x_idiv C ht4 d_K_owe_20 ?_
        refine x_istore_n (lv' := [(3, .int t4), (0, .ref (ad 0)), (1, .int x1), (2, .int x2)]) C d_K_owe_21 (by decide) rfl ?_
        refine x_iload_n C d_K_owe_22 2 rfl ?_
        refine x_bipush (v := 10) C d_K_owe_23 rfl ?_
        obtain ⟨t5, ht5, hf⟩ := bs hf
        refine x_idiv C ht5 d_K_owe_25 ?_
        refine x_bipush (v := 10) C d_K_owe_26 rfl ?_
        obtain ⟨t6, ht6, hf⟩ := bs hf
        refine x_irem C ht6 d_K_owe_28 ?_
        refine x_istore (lv' := [(4, .int t6), (3, .int t4), (0, .ref (ad 0)), (1, .int x1), (2, .int x2)]) C d_K_owe_29 (by decide) rfl ?_
        refine x_iload_n C d_K_owe_31 3 rfl ?_
        refine x_bipush (v := 10) C d_K_owe_32 rfl ?_
        obtain ⟨t7, ht7, hf⟩ := bs hf
        refine x_irem C ht7 d_K_owe_34 ?_
        refine x_istore (lv' := [(5, .int t7), (4, .int t6), (3, .int t4), (0, .ref (ad 0)), (1, .int x1), (2, .int x2)]) C d_K_owe_35 (by decide) rfl ?_
        refine x_aload_n C d_K_owe_37 3 rfl ?_
        refine xg_K_now C wF_K_21 mc_0 kc_0 d_K_owe_38 ?_
        refine x_iload_n C d_K_owe_41 2 rfl ?_
        refine x_iload C d_K_owe_42 1 rfl ?_
        obtain ⟨c8, hc8, hf⟩ := bs hf
        refine x_callV (rest := []) (n := 2) C (ct_V_hasTwo E F _ _ _ _ _ mc_23 kc_23 hc8) mi_V_hasTwo (by decide) mc_23 ⟨_, cel_V kc_23⟩ rfl rfl wL_K_183 d_K_owe_44 rfl rfl (Nat.le_of_ble_eq_true rfl) ?_
        show X _ _ _ _ _ _ _ _ _ _ _ _ _ _ _ _ _ _ _ _ _ [.int c8]
        refine x_if_eq C 56 d_K_owe_47 (by decide) (fun g9 => ?_) (fun g9 => ?_)
        · replace hf := it g9 hf
          refine x_iconst (v := (-1)) C d_K_owe_56 rfl ?_
          cases hf
          exact x_iret C d_K_owe_57 rfl rfl
        · replace hf := ie g9 hf
          refine x_iload C d_K_owe_50 0 rfl ?_
          refine x_iconst (v := 3) C d_K_owe_52 rfl ?_
          refine x_icmp_lt C 58 d_K_owe_53 (by decide) (fun g10 => ?_) (fun g10 => ?_)
          · replace hf := it g10 hf
            refine x_aload_n C d_K_owe_58 3 rfl ?_
            refine xg_K_now C wF_K_21 mc_0 kc_0 d_K_owe_59 ?_
            refine xg_V_draftCount C wF_K_186 mc_23 kc_23 d_K_owe_62 ?_
            refine x_bipush (v := 12) C d_K_owe_65 rfl ?_
            refine x_icmp_ge C 81 d_K_owe_67 (by decide) (fun g11 => ?_) (fun g11 => ?_)
            · replace hf := it g11 hf
              refine x_bipush (v := (-2)) C d_K_owe_81 rfl ?_
              cases hf
              exact x_iret C d_K_owe_83 rfl rfl
            · replace hf := ie g11 hf
              refine x_aload_n C d_K_owe_70 3 rfl ?_
              refine xg_K_history C wF_K_31 mc_0 kc_0 d_K_owe_71 ?_
              refine x_iconst (v := 1) C d_K_owe_74 rfl ?_
              obtain ⟨c12, hc12, hf⟩ := bs hf
              refine x_callV (rest := []) (n := 1) C (ct_H_isFullFor E F _ _ _ _ mc_53 kc_53 hc12) mi_H_isFullFor (by decide) mc_53 ⟨_, cel_H kc_53⟩ rfl rfl wL_K_189 d_K_owe_75 rfl rfl (Nat.le_of_ble_eq_true rfl) ?_
              show X _ _ _ _ _ _ _ _ _ _ _ _ _ _ _ _ _ _ _ _ _ [.int c12]
              refine x_if_eq C 84 d_K_owe_78 (by decide) (fun g13 => ?_) (fun g13 => ?_)
              · replace hf := it g13 hf
                refine x_aload_n C d_K_owe_84 3 rfl ?_
                refine xg_K_history C wF_K_31 mc_0 kc_0 d_K_owe_85 ?_
                refine x_aload_n C d_K_owe_88 3 rfl ?_
                refine xg_K_now C wF_K_21 mc_0 kc_0 d_K_owe_89 ?_
                obtain ⟨c14, hc14, hf⟩ := bs hf
                refine x_callV (rest := []) (n := 1) C (ct_H_begin E F _ _ _ _ mc_53 kc_53 mc_23 kc_23 hc14) mi_H_begin (by decide) mc_53 ⟨_, cel_H kc_53⟩ rfl rfl wL_K_192 d_K_owe_92 rfl rfl (Nat.le_of_ble_eq_true rfl) ?_
                show X _ _ _ _ _ _ _ _ _ _ _ _ _ _ _ _ _ _ _ _ _ []
                refine x_aload_n C d_K_owe_95 3 rfl ?_
                refine xg_K_now C wF_K_21 mc_0 kc_0 d_K_owe_96 ?_
                refine x_iload_n C d_K_owe_99 2 rfl ?_
                refine x_iload C d_K_owe_100 1 rfl ?_
                refine x_iload C d_K_owe_102 0 rfl ?_
                refine x_iload_n C d_K_owe_104 5 rfl ?_
                obtain ⟨c15, hc15, hf⟩ := bs hf
                refine x_callV (rest := []) (n := 4) C (ct_V_addDraft E F _ _ _ _ _ _ _ mc_23 kc_23 hc15) mi_V_addDraft (by decide) mc_23 ⟨_, cel_V kc_23⟩ rfl rfl wL_K_195 d_K_owe_105 rfl rfl (Nat.le_of_ble_eq_true rfl) ?_
                show X _ _ _ _ _ _ _ _ _ _ _ _ _ _ _ _ _ _ _ _ _ []
                refine x_aload_n C d_K_owe_108 3 rfl ?_
                refine xg_K_now C wF_K_21 mc_0 kc_0 d_K_owe_109 ?_
                refine xg_V_draftCount C wF_K_186 mc_23 kc_23 d_K_owe_112 ?_
                refine x_iconst (v := 1) C d_K_owe_115 rfl ?_
                refine x_isub C d_K_owe_116 ?_
                cases hf
                exact x_iret C d_K_owe_117 rfl rfl
              · replace hf := ie g13 hf
                refine x_bipush (v := (-2)) C d_K_owe_81 rfl ?_
                cases hf
                exact x_iret C d_K_owe_83 rfl rfl
          · replace hf := ie g10 hf
            refine x_iconst (v := (-1)) C d_K_owe_56 rfl ?_
            cases hf
            exact x_iret C d_K_owe_57 rfl rfl
      · replace hf := ie g3 hf
        refine x_iconst (v := (-1)) C d_K_owe_15 rfl ?_
        cases hf
        exact x_iret C d_K_owe_16 rfl rfl
set_option maxHeartbeats 4000000 in
set_option maxRecDepth 100000 in
theorem lw_K_pairs_26 {p : Program} {l : Launch} {e : Env} {s : State} {m : MethodId} {args : Array Value} {below : List Frame} {meth : Method} {c : Code} {D : va_G} {ad : Nat → Nat} {cs : Nat → ClassId} {A : Nat → Prop} {V : Option Value} {N : Mem} (E : Ev ad cs A LX) (C : Cx p s m args meth c "KissClearing" b_K_pairs 3 (some .int) D ad cs A LX) (F : Nat)  : ∀ (n : Nat) (M : Mem) (x1 : Int32) (x2 : Int32) (u : (Int32 × Mem)), L_K_pairs_26 F n M x1 x2 = some u → X p l e 4 s m args below meth c 3 D ad cs A LX V N u.2 97 [(0, .ref (ad 0)), (1, .int u.1)] [] → X p l e 4 s m args below meth c 3 D ad cs A LX V N M 26 [(0, .ref (ad 0)), (1, .int x1), (2, .int x2)] [] := by
  intro n
  induction n with
  | zero => intro M x1 x2 u hf; cases hf
  | succ n ih =>
    intro M x1 x2 u hf K
    replace hf : B_K_pairs_26 F (L_K_pairs_26 F n) M x1 x2 = some u := hf
    unfold B_K_pairs_26 at hf
    refine x_iload_n C d_K_pairs_26 2 rfl ?_
    refine x_aload_n C d_K_pairs_27 0 rfl ?_
    refine xg_K_meetings C wF_K_49 mc_0 kc_0 d_K_pairs_28 ?_
    refine xg_O_size C wF_K_297 mc_70 kc_70 d_K_pairs_31 ?_
    refine x_icmp_ge C 97 d_K_pairs_34 (by decide) (fun g3 => ?_) (fun g3 => ?_)
    · replace hf := it g3 hf
      cases hf
      exact x_sub [0, 1] rfl K
    · replace hf := ie g3 hf
      refine x_aload_n C d_K_pairs_37 0 rfl ?_
      refine xg_K_sketch C wF_K_25 mc_0 kc_0 d_K_pairs_38 ?_
      refine x_aload_n C d_K_pairs_41 0 rfl ?_
      refine xg_K_meetings C wF_K_49 mc_0 kc_0 d_K_pairs_42 ?_
      refine xg_O_ones C wF_K_298 mc_70 kc_70 d_K_pairs_45 ?_
      refine x_iload_n C d_K_pairs_48 2 rfl ?_
      obtain ⟨t4, ht4, hf⟩ := bs hf
      refine x_iald C ht4 mc_71 kc_71 d_K_pairs_49 ?_
      refine x_aload_n C d_K_pairs_50 0 rfl ?_
      refine xg_K_meetings C wF_K_49 mc_0 kc_0 d_K_pairs_51 ?_
      refine xg_O_others C wF_K_301 mc_70 kc_70 d_K_pairs_54 ?_
      refine x_iload_n C d_K_pairs_57 2 rfl ?_
      obtain ⟨t5, ht5, hf⟩ := bs hf
      refine x_iald C ht5 mc_72 kc_72 d_K_pairs_58 ?_
      obtain ⟨c6, hc6, hf⟩ := bs hf
      refine x_callV (rest := []) (n := 2) C (ct_V_netTwo E F _ _ _ _ _ mc_38 kc_38 hc6) mi_V_netTwo (by decide) mc_38 ⟨_, cel_V kc_38⟩ rfl rfl wL_K_199 d_K_pairs_59 rfl rfl (Nat.le_of_ble_eq_true rfl) ?_
      show X _ _ _ _ _ _ _ _ _ _ _ _ _ _ _ _ _ _ _ _ _ [.int c6.1]
      refine x_pop C d_K_pairs_62 rfl ?_
      refine x_iload_n C d_K_pairs_63 1 rfl ?_
      refine x_aload_n C d_K_pairs_64 0 rfl ?_
      refine xg_K_sketch C wF_K_25 mc_0 kc_0 d_K_pairs_65 ?_
      refine x_aload_n C d_K_pairs_68 0 rfl ?_
      refine xg_K_meetings C wF_K_49 mc_0 kc_0 d_K_pairs_69 ?_
      refine xg_O_ones C wF_K_298 mc_70 kc_70 d_K_pairs_72 ?_
      refine x_iload_n C d_K_pairs_75 2 rfl ?_
      obtain ⟨t7, ht7, hf⟩ := bs hf
      refine x_iald C ht7 mc_71 kc_71 d_K_pairs_76 ?_
      refine x_aload_n C d_K_pairs_77 0 rfl ?_
      refine xg_K_meetings C wF_K_49 mc_0 kc_0 d_K_pairs_78 ?_
      refine xg_O_others C wF_K_301 mc_70 kc_70 d_K_pairs_81 ?_
      refine x_iload_n C d_K_pairs_84 2 rfl ?_
      obtain ⟨t8, ht8, hf⟩ := bs hf
      refine x_iald C ht8 mc_72 kc_72 d_K_pairs_85 ?_
      obtain ⟨c9, hc9, hf⟩ := bs hf
      refine x_callV (rest := [.int x1]) (n := 2) C (ct_V_payTwo E F _ _ _ _ _ mc_38 kc_38 hc9) mi_V_payTwo (by decide) mc_38 ⟨_, cel_V kc_38⟩ rfl rfl wL_K_202 d_K_pairs_86 rfl rfl (Nat.le_of_ble_eq_true rfl) ?_
      show X _ _ _ _ _ _ _ _ _ _ _ _ _ _ _ _ _ _ _ _ _ [.int c9.1, .int x1]
      refine x_iadd C d_K_pairs_89 ?_
      refine x_istore_n (lv' := [(1, .int (x1 + c9.1)), (0, .ref (ad 0)), (2, .int x2)]) C d_K_pairs_90 (by decide) rfl ?_
      refine x_iinc (v := (x2 + 1)) (lv' := [(2, .int (x2 + 1)), (1, .int (x1 + c9.1)), (0, .ref (ad 0))]) C d_K_pairs_91 2 rfl rfl (by decide) rfl ?_
      refine x_goto C 26 d_K_pairs_94 (by decide) ?_
      refine x_sub [2, 1, 0] rfl ?_
      exact ih _ _ _ _ hf K
set_option maxHeartbeats 4000000 in
set_option maxRecDepth 100000 in
theorem ct_K_pairs {l : Launch} {D : va_G} {ad : Nat → Nat} {cs : Nat → ClassId} {A : Nat → Prop} (E : Ev ad cs A LX) (F : Nat) (M : Mem)  (R : (Int32 × Mem))  (hf : K_pairs F M = some R) : Met l y_K_pairs (Cond.code y_K_pairs b_K_pairs 3 (some .int) :: wl) (rmD 4) (PX D ad cs A LX [.ref (ad 0)] M) (QX D ad cs A LX (some (.int R.1)) R.2) 0 0 A := by
  refine x_enter (lv := [(0, .ref (ad 0))]) E mi_K_pairs.1 (Nat.le_of_ble_eq_true rfl) rfl (fun p e s m args below meth c C => ?_)
  unfold K_pairs at hf
  refine x_aload_n C d_K_pairs_0 0 rfl ?_
  refine xg_K_meetings C wF_K_49 mc_0 kc_0 d_K_pairs_1 ?_
  refine x_aload_n C d_K_pairs_4 0 rfl ?_
  refine xg_K_now C wF_K_21 mc_0 kc_0 d_K_pairs_5 ?_
  obtain ⟨c1, hc1, hf⟩ := bs hf
  refine x_callV (rest := []) (n := 1) C (ct_O_gather E F _ _ _ mc_23 kc_23 hc1) mi_O_gather (by decide) mc_70 ⟨_, cel_O kc_70⟩ rfl rfl wL_K_294 d_K_pairs_8 rfl rfl (Nat.le_of_ble_eq_true rfl) ?_
  show X _ _ _ _ _ _ _ _ _ _ _ _ _ _ _ _ _ _ _ _ _ []
  refine x_aload_n C d_K_pairs_11 0 rfl ?_
  refine xg_K_sketch C wF_K_25 mc_0 kc_0 d_K_pairs_12 ?_
  refine x_aload_n C d_K_pairs_15 0 rfl ?_
  refine xg_K_now C wF_K_21 mc_0 kc_0 d_K_pairs_16 ?_
  obtain ⟨c2, hc2, hf⟩ := bs hf
  refine x_callV (rest := []) (n := 1) C (ct_V_becomeLike E F _ _ _ _ mc_38 kc_38 mc_23 kc_23 hc2) mi_V_becomeLike (by decide) mc_38 ⟨_, cel_V kc_38⟩ rfl rfl wL_K_131 d_K_pairs_19 rfl rfl (Nat.le_of_ble_eq_true rfl) ?_
  show X _ _ _ _ _ _ _ _ _ _ _ _ _ _ _ _ _ _ _ _ _ []
  refine x_iconst (v := 0) C d_K_pairs_22 rfl ?_
  refine x_istore_n (lv' := [(1, .int 0), (0, .ref (ad 0))]) C d_K_pairs_23 (by decide) rfl ?_
  refine x_iconst (v := 0) C d_K_pairs_24 rfl ?_
  refine x_istore_n (lv' := [(2, .int 0), (1, .int 0), (0, .ref (ad 0))]) C d_K_pairs_25 (by decide) rfl ?_
  obtain ⟨u10, hu10, hf⟩ := bs hf
  refine x_sub [2, 1, 0] rfl ?_
  refine lw_K_pairs_26 E C F _ _ _ _ _ hu10 ?_
  refine x_aload_n C d_K_pairs_97 0 rfl ?_
  refine x_iload_n C d_K_pairs_98 1 rfl ?_
  refine xp_K_latestAsked (x := u10.1) C wF_K_68 mc_0 kc_0 d_K_pairs_99 ?_
  refine x_aload_n C d_K_pairs_102 0 rfl ?_
  refine xg_K_meetings C wF_K_49 mc_0 kc_0 d_K_pairs_103 ?_
  refine xg_O_size C wF_K_297 mc_70 kc_70 d_K_pairs_106 ?_
  cases hf
  exact x_iret C d_K_pairs_109 rfl rfl
set_option maxHeartbeats 4000000 in
set_option maxRecDepth 100000 in
theorem ct_K_person {l : Launch} {D : va_G} {ad : Nat → Nat} {cs : Nat → ClassId} {A : Nat → Prop} (E : Ev ad cs A LX) (F : Nat) (M : Mem) (x1 : Int32) (x2 : Int32) (R : (Int32 × Mem))  (hf : K_person F M x1 x2 = some R) : Met l y_K_person (Cond.code y_K_person b_K_person 3 (some .int) :: wl) (rmD 4) (PX D ad cs A LX [.ref (ad 0), .int x1, .int x2] M) (QX D ad cs A LX (some (.int R.1)) R.2) 0 0 A := by
  refine x_enter (lv := [(0, .ref (ad 0)), (1, .int x1), (2, .int x2)]) E mi_K_person.1 (Nat.le_of_ble_eq_true rfl) rfl (fun p e s m args below meth c C => ?_)
  unfold K_person at hf
  refine x_aload_n C d_K_person_0 0 rfl ?_
  refine xg_K_now C wF_K_21 mc_0 kc_0 d_K_person_1 ?_
  refine x_iload_n C d_K_person_4 1 rfl ?_
  obtain ⟨c1, hc1, hf⟩ := bs hf
  refine x_callV (rest := []) (n := 1) C (ct_V_hasPerson E F _ _ _ _ mc_23 kc_23 hc1) mi_V_hasPerson (by decide) mc_23 ⟨_, cel_V kc_23⟩ rfl rfl wL_K_138 d_K_person_5 rfl rfl (Nat.le_of_ble_eq_true rfl) ?_
  show X _ _ _ _ _ _ _ _ _ _ _ _ _ _ _ _ _ _ _ _ _ [.int c1]
  refine x_if_eq C 20 d_K_person_8 (by decide) (fun g2 => ?_) (fun g2 => ?_)
  · replace hf := it g2 hf
    refine x_iconst (v := (-1)) C d_K_person_20 rfl ?_
    cases hf
    exact x_iret C d_K_person_21 rfl rfl
  · replace hf := ie g2 hf
    refine x_iload_n C d_K_person_11 2 rfl ?_
    refine x_if_lt C 20 d_K_person_12 (by decide) (fun g3 => ?_) (fun g3 => ?_)
    · replace hf := it g3 hf
      refine x_iconst (v := (-1)) C d_K_person_20 rfl ?_
      cases hf
      exact x_iret C d_K_person_21 rfl rfl
    · replace hf := ie g3 hf
      refine x_iload_n C d_K_person_15 2 rfl ?_
      refine x_iconst (v := 5) C d_K_person_16 rfl ?_
      refine x_icmp_lt C 22 d_K_person_17 (by decide) (fun g4 => ?_) (fun g4 => ?_)
      · replace hf := it g4 hf
        refine x_aload_n C d_K_person_22 0 rfl ?_
        refine x_aload_n C d_K_person_23 0 rfl ?_
        refine x_iload_n C d_K_person_24 1 rfl ?_
        refine x_iload_n C d_K_person_25 2 rfl ?_
        obtain ⟨c5, hc5, hf⟩ := bs hf
        refine x_callV (rest := [.ref (ad 0)]) (n := 2) C (ct_K_ofPerson E F _ _ _ _  hc5) mi_K_ofPerson (by decide) mc_0 ⟨_, cel_K kc_0⟩ rfl rfl wL_K_141 d_K_person_26 rfl rfl (Nat.le_of_ble_eq_true rfl) ?_
        show X _ _ _ _ _ _ _ _ _ _ _ _ _ _ _ _ _ _ _ _ _ [.int c5, .ref (ad 0)]
        obtain ⟨c6, hc6, hf⟩ := bs hf
        refine x_callV (rest := []) (n := 1) C (ct_K_tell E F _ _ _  hc6) mi_K_tell (by decide) mc_0 ⟨_, cel_K kc_0⟩ rfl rfl wL_K_102 d_K_person_29 rfl rfl (Nat.le_of_ble_eq_true rfl) ?_
        show X _ _ _ _ _ _ _ _ _ _ _ _ _ _ _ _ _ _ _ _ _ [.int c6.1]
        cases hf
        exact x_iret C d_K_person_32 rfl rfl
      · replace hf := ie g4 hf
        refine x_iconst (v := (-1)) C d_K_person_20 rfl ?_
        cases hf
        exact x_iret C d_K_person_21 rfl rfl
set_option maxHeartbeats 4000000 in
set_option maxRecDepth 100000 in
theorem ct_K_put {l : Launch} {D : va_G} {ad : Nat → Nat} {cs : Nat → ClassId} {A : Nat → Prop} (E : Ev ad cs A LX) (F : Nat) (M : Mem) (x1 : Int32) (x2 : Int32) (x3 : Int32) (R : (Int32 × Mem))  (hf : K_put F M x1 x2 x3 = some R) : Met l y_K_put (Cond.code y_K_put b_K_put 6 (some .int) :: wl) (rmD 2) (PX D ad cs A LX [.ref (ad 0), .int x1, .int x2, .int x3] M) (QX D ad cs A LX (some (.int R.1)) R.2) 0 0 A := by
  refine x_enter (lv := [(0, .ref (ad 0)), (1, .int x1), (2, .int x2), (3, .int x3)]) E mi_K_put.1 (Nat.le_of_ble_eq_true rfl) rfl (fun p e s m args below meth c C => ?_)
  unfold K_put at hf
  refine x_iload_n C d_K_put_0 1 rfl ?_
  obtain ⟨c1, hc1, hf⟩ := bs hf
  refine x_callS (rest := []) (n := 1) C (ct_K_isText E F _ _ _  hc1) mi_K_isText (by decide) wL_K_122 d_K_put_1 rfl rfl (Nat.le_of_ble_eq_true rfl) ?_
  show X _ _ _ _ _ _ _ _ _ _ _ _ _ _ _ _ _ _ _ _ _ [.int c1]
  refine x_if_ne C 9 d_K_put_4 (by decide) (fun g2 => ?_) (fun g2 => ?_)
  · replace hf := ie g2 hf
    refine x_aload_n C d_K_put_9 0 rfl ?_
    refine xg_K_texts C wF_K_15 mc_0 kc_0 d_K_put_10 ?_
    refine x_iload_n C d_K_put_13 1 rfl ?_
    obtain ⟨z3, hz3, hf⟩ := bs hf
    refine x_aald1 C hz3 mc_14 kc_14 d_K_put_14 ?_
    refine x_iload_n C d_K_put_15 2 rfl ?_
    obtain ⟨c4, hc4, hf⟩ := bs hf
    refine x_callV (rest := []) (n := 1) C (ct_S_findingAt E F _ _ _ _ (ma_S kc_14 hz3) (ka_S kc_14 hz3) hc4) mi_S_findingAt (by decide) (ma_S kc_14 hz3) ⟨_, cel_S (ka_S kc_14 hz3)⟩ rfl rfl wL_K_96 d_K_put_16 rfl rfl (Nat.le_of_ble_eq_true rfl) ?_
    show X _ _ _ _ _ _ _ _ _ _ _ _ _ _ _ _ _ _ _ _ _ [.int c4]
    refine x_istore (lv' := [(4, .int c4), (0, .ref (ad 0)), (1, .int x1), (2, .int x2), (3, .int x3)]) C d_K_put_19 (by decide) rfl ?_
    refine x_iload C d_K_put_21 0 rfl ?_
    refine x_if_eq C 33 d_K_put_23 (by decide) (fun g5 => ?_) (fun g5 => ?_)
    · replace hf := it g5 hf
      refine x_aload_n C d_K_put_33 1 rfl ?_
      refine xg_K_texts C wF_K_15 mc_0 kc_0 d_K_put_34 ?_
      refine x_iload_n C d_K_put_37 2 rfl ?_
      obtain ⟨z6, hz6, hf⟩ := bs hf
      refine x_aald1 C hz6 mc_14 kc_14 d_K_put_38 ?_
      refine xg_S_places C wF_K_99 (ma_S kc_14 hz6) (ka_S kc_14 hz6) d_K_put_39 ?_
      refine x_iload_n C d_K_put_42 3 rfl ?_
      obtain ⟨t7, ht7, hf⟩ := bs hf
      refine x_iald C ht7 (m_S_places (ka_S kc_14 hz6)) (k_S_places (ka_S kc_14 hz6)) d_K_put_43 ?_
      refine x_istore (lv' := [(5, .int t7), (4, .int c4), (0, .ref (ad 0)), (1, .int x1), (2, .int x2), (3, .int x3)]) C d_K_put_44 (by decide) rfl ?_
      refine x_aload_n C d_K_put_46 2 rfl ?_
      refine xg_K_texts C wF_K_15 mc_0 kc_0 d_K_put_47 ?_
      refine x_iload_n C d_K_put_50 3 rfl ?_
      obtain ⟨z8, hz8, hf⟩ := bs hf
      refine x_aald1 C hz8 mc_14 kc_14 d_K_put_51 ?_
      refine xg_S_places C wF_K_99 (ma_S kc_14 hz8) (ka_S kc_14 hz8) d_K_put_52 ?_
      refine x_iload_n C d_K_put_55 4 rfl ?_
      refine x_iload_n C d_K_put_56 5 rfl ?_
      refine x_i2b C d_K_put_57 ?_
      obtain ⟨M9, hM9, hf⟩ := bs hf
      refine x_iast C hM9 (m_S_places (ka_S kc_14 hz8)) (k_S_places (ka_S kc_14 hz8)) d_K_put_58 ?_
      refine x_iload C d_K_put_59 0 rfl ?_
      refine x_sipush (v := 1000) C d_K_put_61 rfl ?_
      refine x_iadd C d_K_put_64 ?_
      cases hf
      exact x_iret C d_K_put_65 rfl rfl
    · replace hf := ie g5 hf
      refine x_aload_n C d_K_put_26 1 rfl ?_
      refine x_iload C d_K_put_27 0 rfl ?_
      obtain ⟨c10, hc10, hf⟩ := bs hf
      refine x_callV (rest := []) (n := 1) C (ct_K_refuse E F _ _ _  hc10) mi_K_refuse (by decide) mc_0 ⟨_, cel_K kc_0⟩ rfl rfl wL_K_88 d_K_put_29 rfl rfl (Nat.le_of_ble_eq_true rfl) ?_
      show X _ _ _ _ _ _ _ _ _ _ _ _ _ _ _ _ _ _ _ _ _ [.int c10.1]
      cases hf
      exact x_iret C d_K_put_32 rfl rfl
  · replace hf := it g2 hf
    refine x_iconst (v := (-1)) C d_K_put_7 rfl ?_
    cases hf
    exact x_iret C d_K_put_8 rfl rfl
set_option maxHeartbeats 4000000 in
set_option maxRecDepth 100000 in
theorem ct_K_ring {l : Launch} {D : va_G} {ad : Nat → Nat} {cs : Nat → ClassId} {A : Nat → Prop} (E : Ev ad cs A LX) (F : Nat) (M : Mem) (x1 : Int32) (x2 : Int32) (R : (Int32 × Mem))  (hf : K_ring F M x1 x2 = some R) : Met l y_K_ring (Cond.code y_K_ring b_K_ring 3 (some .int) :: wl) (rmD 12) (PX D ad cs A LX [.ref (ad 0), .int x1, .int x2] M) (QX D ad cs A LX (some (.int R.1)) R.2) 0 0 A := by
  refine x_enter (lv := [(0, .ref (ad 0)), (1, .int x1), (2, .int x2)]) E mi_K_ring.1 (Nat.le_of_ble_eq_true rfl) rfl (fun p e s m args below meth c C => ?_)
  unfold K_ring at hf
  refine x_iload_n C d_K_ring_0 1 rfl ?_
  obtain ⟨c1, hc1, hf⟩ := bs hf
  refine x_callS (rest := []) (n := 1) C (ct_K_isRingSort E F _ _ _  hc1) mi_K_isRingSort (by decide) wL_K_258 d_K_ring_1 rfl rfl (Nat.le_of_ble_eq_true rfl) ?_
  show X _ _ _ _ _ _ _ _ _ _ _ _ _ _ _ _ _ _ _ _ _ [.int c1]
  refine x_if_eq C 14 d_K_ring_4 (by decide) (fun g2 => ?_) (fun g2 => ?_)
  · replace hf := it g2 hf
    refine x_iconst (v := (-1)) C d_K_ring_14 rfl ?_
    cases hf
    exact x_iret C d_K_ring_15 rfl rfl
  · replace hf := ie g2 hf
    refine x_iload_n C d_K_ring_7 2 rfl ?_
    obtain ⟨c3, hc3, hf⟩ := bs hf
    refine x_callS (rest := []) (n := 1) C (ct_K_isRow E F _ _ _  hc3) mi_K_isRow (by decide) wL_K_84 d_K_ring_8 rfl rfl (Nat.le_of_ble_eq_true rfl) ?_
    show X _ _ _ _ _ _ _ _ _ _ _ _ _ _ _ _ _ _ _ _ _ [.int c3]
    refine x_if_ne C 16 d_K_ring_11 (by decide) (fun g4 => ?_) (fun g4 => ?_)
    · replace hf := ie g4 hf
      refine x_aload_n C d_K_ring_16 0 rfl ?_
      refine xg_K_rings C wF_K_42 mc_0 kc_0 d_K_ring_17 ?_
      refine x_aload_n C d_K_ring_20 0 rfl ?_
      refine xg_K_now C wF_K_21 mc_0 kc_0 d_K_ring_21 ?_
      refine x_iload_n C d_K_ring_24 1 rfl ?_
      obtain ⟨c5, hc5, hf⟩ := bs hf
      refine x_callV (rest := []) (n := 2) C (ct_G_search E F _ _ _ _ mc_23 kc_23 hc5) mi_G_search (by decide) mc_66 ⟨_, cel_G kc_66⟩ rfl rfl wL_K_261 d_K_ring_25 rfl rfl (Nat.le_of_ble_eq_true rfl) ?_
      show X _ _ _ _ _ _ _ _ _ _ _ _ _ _ _ _ _ _ _ _ _ []
      refine x_aload_n C d_K_ring_28 0 rfl ?_
      refine xg_K_rings C wF_K_42 mc_0 kc_0 d_K_ring_29 ?_
      refine xg_G_found C wF_K_268 mc_66 kc_66 d_K_ring_32 ?_
      refine x_if_ne C 41 d_K_ring_35 (by decide) (fun g6 => ?_) (fun g6 => ?_)
      · replace hf := ie g6 hf
        refine x_aload_n C d_K_ring_41 0 rfl ?_
        refine xg_K_rows C wF_K_11 mc_0 kc_0 d_K_ring_42 ?_
        refine x_iload_n C d_K_ring_45 2 rfl ?_
        obtain ⟨z7, hz7, hf⟩ := bs hf
        refine x_aald1 C hz7 mc_1 kc_1 d_K_ring_46 ?_
        refine x_aload_n C d_K_ring_47 0 rfl ?_
        refine xg_K_rings C wF_K_42 mc_0 kc_0 d_K_ring_48 ?_
        refine xg_G_bestSize C wF_K_271 mc_66 kc_66 d_K_ring_51 ?_
        refine x_iconst (v := 0) C d_K_ring_54 rfl ?_
        obtain ⟨c8, hc8, hf⟩ := bs hf
        refine x_callV (rest := []) (n := 2) C (ct_S_renew E F _ _ _ _ _ (ma_S kc_1 hz7) (ka_S kc_1 hz7) hc8) mi_S_renew (by decide) (ma_S kc_1 hz7) ⟨_, cel_S (ka_S kc_1 hz7)⟩ rfl rfl wL_K_92 d_K_ring_55 rfl rfl (Nat.le_of_ble_eq_true rfl) ?_
        show X _ _ _ _ _ _ _ _ _ _ _ _ _ _ _ _ _ _ _ _ _ []
        refine x_aload_n C d_K_ring_58 0 rfl ?_
        refine xg_K_rings C wF_K_42 mc_0 kc_0 d_K_ring_59 ?_
        refine xg_G_best C wF_K_274 mc_66 kc_66 d_K_ring_62 ?_
        refine x_iconst (v := 0) C d_K_ring_65 rfl ?_
        refine x_aload_n C d_K_ring_66 0 rfl ?_
        refine xg_K_rows C wF_K_11 mc_0 kc_0 d_K_ring_67 ?_
        refine x_iload_n C d_K_ring_70 2 rfl ?_
        obtain ⟨z9, hz9, hf⟩ := bs hf
        refine x_aald1 C hz9 mc_1 kc_1 d_K_ring_71 ?_
        refine xg_S_places C wF_K_99 (ma_S kc_1 hz9) (ka_S kc_1 hz9) d_K_ring_72 ?_
        refine x_iconst (v := 0) C d_K_ring_75 rfl ?_
        refine x_aload_n C d_K_ring_76 0 rfl ?_
        refine xg_K_rings C wF_K_42 mc_0 kc_0 d_K_ring_77 ?_
        refine xg_G_bestSize C wF_K_271 mc_66 kc_66 d_K_ring_80 ?_
        obtain ⟨M10, hM10, hf⟩ := bs hf
        refine x_acp C hM10 wL_K_116 (by decide) (Nat.le_of_ble_eq_true rfl) mc_67 kc_67 (m_S_places (ka_S kc_1 hz9)) (k_S_places (ka_S kc_1 hz9)) d_K_ring_83 ?_
        refine x_aload_n C d_K_ring_86 0 rfl ?_
        refine xg_K_rings C wF_K_42 mc_0 kc_0 d_K_ring_87 ?_
        refine xg_G_bestLeast C wF_K_277 mc_66 kc_66 d_K_ring_90 ?_
        cases hf
        exact x_iret C d_K_ring_93 rfl rfl
      · replace hf := it g6 hf
        refine x_bipush (v := (-9)) C d_K_ring_38 rfl ?_
        cases hf
        exact x_iret C d_K_ring_40 rfl rfl
    · replace hf := it g4 hf
      refine x_iconst (v := (-1)) C d_K_ring_14 rfl ?_
      cases hf
      exact x_iret C d_K_ring_15 rfl rfl
set_option maxHeartbeats 4000000 in
set_option maxRecDepth 100000 in
theorem ct_K_rounds {l : Launch} {D : va_G} {ad : Nat → Nat} {cs : Nat → ClassId} {A : Nat → Prop} (E : Ev ad cs A LX) (F : Nat) (M : Mem)  (R : (Int32 × Mem))  (hf : K_rounds F M = some R) : Met l y_K_rounds (Cond.code y_K_rounds b_K_rounds 1 (some .int) :: wl) (rmD 20) (PX D ad cs A LX [.ref (ad 0)] M) (QX D ad cs A LX (some (.int R.1)) R.2) 0 0 A := by
  refine x_enter (lv := [(0, .ref (ad 0))]) E mi_K_rounds.1 (Nat.le_of_ble_eq_true rfl) rfl (fun p e s m args below meth c C => ?_)
  unfold K_rounds at hf
  refine x_aload_n C d_K_rounds_0 0 rfl ?_
  refine xg_K_meetings C wF_K_49 mc_0 kc_0 d_K_rounds_1 ?_
  refine x_aload_n C d_K_rounds_4 0 rfl ?_
  refine xg_K_now C wF_K_21 mc_0 kc_0 d_K_rounds_5 ?_
  obtain ⟨c1, hc1, hf⟩ := bs hf
  refine x_callV (rest := []) (n := 1) C (ct_O_gather E F _ _ _ mc_23 kc_23 hc1) mi_O_gather (by decide) mc_70 ⟨_, cel_O kc_70⟩ rfl rfl wL_K_294 d_K_rounds_8 rfl rfl (Nat.le_of_ble_eq_true rfl) ?_
  show X _ _ _ _ _ _ _ _ _ _ _ _ _ _ _ _ _ _ _ _ _ []
  refine x_aload_n C d_K_rounds_11 0 rfl ?_
  refine xg_K_meetings C wF_K_49 mc_0 kc_0 d_K_rounds_12 ?_
  obtain ⟨c2, hc2, hf⟩ := bs hf
  refine x_callV (rest := []) (n := 0) C (ct_O_fewest E F _ _  hc2) mi_O_fewest (by decide) mc_70 ⟨_, cel_O kc_70⟩ rfl rfl wL_K_304 d_K_rounds_15 rfl rfl (Nat.le_of_ble_eq_true rfl) ?_
  show X _ _ _ _ _ _ _ _ _ _ _ _ _ _ _ _ _ _ _ _ _ [.int c2.1]
  cases hf
  exact x_iret C d_K_rounds_18 rfl rfl
set_option maxHeartbeats 4000000 in
set_option maxRecDepth 100000 in
theorem ct_K_row {l : Launch} {D : va_G} {ad : Nat → Nat} {cs : Nat → ClassId} {A : Nat → Prop} (E : Ev ad cs A LX) (F : Nat) (M : Mem) (x1 : Int32) (x2 : Int32) (R : (Int32 × Mem))  (hf : K_row F M x1 x2 = some R) : Met l y_K_row (Cond.code y_K_row b_K_row 3 (some .int) :: wl) (rmD 1) (PX D ad cs A LX [.ref (ad 0), .int x1, .int x2] M) (QX D ad cs A LX (some (.int R.1)) R.2) 0 0 A := by
  refine x_enter (lv := [(0, .ref (ad 0)), (1, .int x1), (2, .int x2)]) E mi_K_row.1 (Nat.le_of_ble_eq_true rfl) rfl (fun p e s m args below meth c C => ?_)
  unfold K_row at hf
  refine x_iload_n C d_K_row_0 1 rfl ?_
  obtain ⟨c1, hc1, hf⟩ := bs hf
  refine x_callS (rest := []) (n := 1) C (ct_K_isRow E F _ _ _  hc1) mi_K_isRow (by decide) wL_K_84 d_K_row_1 rfl rfl (Nat.le_of_ble_eq_true rfl) ?_
  show X _ _ _ _ _ _ _ _ _ _ _ _ _ _ _ _ _ _ _ _ _ [.int c1]
  refine x_if_eq C 13 d_K_row_4 (by decide) (fun g2 => ?_) (fun g2 => ?_)
  · replace hf := it g2 hf
    refine x_iconst (v := (-1)) C d_K_row_13 rfl ?_
    cases hf
    exact x_iret C d_K_row_14 rfl rfl
  · replace hf := ie g2 hf
    refine x_iload_n C d_K_row_7 2 rfl ?_
    refine x_bipush (v := 40) C d_K_row_8 rfl ?_
    refine x_icmp_le C 15 d_K_row_10 (by decide) (fun g3 => ?_) (fun g3 => ?_)
    · replace hf := it g3 hf
      refine x_iload_n C d_K_row_15 2 rfl ?_
      refine x_if_ge C 25 d_K_row_16 (by decide) (fun g4 => ?_) (fun g4 => ?_)
      · replace hf := it g4 hf
        refine x_aload_n C d_K_row_25 0 rfl ?_
        refine xg_K_rows C wF_K_11 mc_0 kc_0 d_K_row_26 ?_
        refine x_iload_n C d_K_row_29 1 rfl ?_
        obtain ⟨z5, hz5, hf⟩ := bs hf
        refine x_aald1 C hz5 mc_1 kc_1 d_K_row_30 ?_
        refine x_iload_n C d_K_row_31 2 rfl ?_
        refine x_iconst (v := 0) C d_K_row_32 rfl ?_
        obtain ⟨c6, hc6, hf⟩ := bs hf
        refine x_callV (rest := []) (n := 2) C (ct_S_renew E F _ _ _ _ _ (ma_S kc_1 hz5) (ka_S kc_1 hz5) hc6) mi_S_renew (by decide) (ma_S kc_1 hz5) ⟨_, cel_S (ka_S kc_1 hz5)⟩ rfl rfl wL_K_92 d_K_row_33 rfl rfl (Nat.le_of_ble_eq_true rfl) ?_
        show X _ _ _ _ _ _ _ _ _ _ _ _ _ _ _ _ _ _ _ _ _ []
        refine x_iload_n C d_K_row_36 2 rfl ?_
        cases hf
        exact x_iret C d_K_row_37 rfl rfl
      · replace hf := ie g4 hf
        refine x_aload_n C d_K_row_19 0 rfl ?_
        refine x_iconst (v := 5) C d_K_row_20 rfl ?_
        obtain ⟨c7, hc7, hf⟩ := bs hf
        refine x_callV (rest := []) (n := 1) C (ct_K_refuse E F _ _ _  hc7) mi_K_refuse (by decide) mc_0 ⟨_, cel_K kc_0⟩ rfl rfl wL_K_88 d_K_row_21 rfl rfl (Nat.le_of_ble_eq_true rfl) ?_
        show X _ _ _ _ _ _ _ _ _ _ _ _ _ _ _ _ _ _ _ _ _ [.int c7.1]
        cases hf
        exact x_iret C d_K_row_24 rfl rfl
    · replace hf := ie g3 hf
      refine x_iconst (v := (-1)) C d_K_row_13 rfl ?_
      cases hf
      exact x_iret C d_K_row_14 rfl rfl
set_option maxHeartbeats 4000000 in
set_option maxRecDepth 100000 in
theorem ct_K_saved {l : Launch} {D : va_G} {ad : Nat → Nat} {cs : Nat → ClassId} {A : Nat → Prop} (E : Ev ad cs A LX) (F : Nat) (M : Mem) (x1 : Int32) (x2 : Int32) (R : Int32)  (hf : K_saved F M x1 x2 = some R) : Met l y_K_saved (Cond.code y_K_saved b_K_saved 5 (some .int) :: wl) (rmD 4) (PX D ad cs A LX [.ref (ad 0), .int x1, .int x2] M) (QX D ad cs A LX (some (.int R)) M) 0 0 A := by
  refine x_enter (lv := [(0, .ref (ad 0)), (1, .int x1), (2, .int x2)]) E mi_K_saved.1 (Nat.le_of_ble_eq_true rfl) rfl (fun p e s m args below meth c C => ?_)
  unfold K_saved at hf
  refine x_aload_n C d_K_saved_0 0 rfl ?_
  refine xg_K_now C wF_K_21 mc_0 kc_0 d_K_saved_1 ?_
  refine x_iload_n C d_K_saved_4 1 rfl ?_
  refine x_iload_n C d_K_saved_5 2 rfl ?_
  obtain ⟨c1, hc1, hf⟩ := bs hf
  refine x_callV (rest := []) (n := 2) C (ct_V_hasTwo E F _ _ _ _ _ mc_23 kc_23 hc1) mi_V_hasTwo (by decide) mc_23 ⟨_, cel_V kc_23⟩ rfl rfl wL_K_183 d_K_saved_6 rfl rfl (Nat.le_of_ble_eq_true rfl) ?_
  show X _ _ _ _ _ _ _ _ _ _ _ _ _ _ _ _ _ _ _ _ _ [.int c1]
  refine x_if_ne C 14 d_K_saved_9 (by decide) (fun g2 => ?_) (fun g2 => ?_)
  · replace hf := ie g2 hf
    refine x_aload_n C d_K_saved_14 0 rfl ?_
    refine xg_K_now C wF_K_21 mc_0 kc_0 d_K_saved_15 ?_
    refine x_iload_n C d_K_saved_18 2 rfl ?_
    refine x_iload_n C d_K_saved_19 1 rfl ?_
    obtain ⟨c3, hc3, hf⟩ := bs hf
    refine x_callV (rest := []) (n := 2) C (ct_V_fallen E F _ _ _ _ _ mc_23 kc_23 hc3) mi_V_fallen (by decide) mc_23 ⟨_, cel_V kc_23⟩ rfl rfl wL_K_286 d_K_saved_20 rfl rfl (Nat.le_of_ble_eq_true rfl) ?_
    show X _ _ _ _ _ _ _ _ _ _ _ _ _ _ _ _ _ _ _ _ _ [.int c3]
    refine x_iconst (v := 1) C d_K_saved_23 rfl ?_
    refine x_iload_n C d_K_saved_24 2 rfl ?_
    refine x_ishl C d_K_saved_25 ?_
    refine x_ior C d_K_saved_26 ?_
    refine x_istore_n (lv' := [(3, .int (c3 ||| (1 <<< (x2 &&& 31)))), (0, .ref (ad 0)), (1, .int x1), (2, .int x2)]) C d_K_saved_27 (by decide) rfl ?_
    refine x_iconst (v := 0) C d_K_saved_28 rfl ?_
    refine x_aload_n C d_K_saved_29 1 rfl ?_
    refine xg_K_now C wF_K_21 mc_0 kc_0 d_K_saved_30 ?_
    refine x_iload_n C d_K_saved_33 2 rfl ?_
    obtain ⟨c4, hc4, hf⟩ := bs hf
    refine x_callV (rest := [.int 0]) (n := 1) C (ct_V_owing E F _ _ _ _ mc_23 kc_23 hc4) mi_V_owing (by decide) mc_23 ⟨_, cel_V kc_23⟩ rfl rfl wL_K_169 d_K_saved_34 rfl rfl (Nat.le_of_ble_eq_true rfl) ?_
    show X _ _ _ _ _ _ _ _ _ _ _ _ _ _ _ _ _ _ _ _ _ [.int c4, .int 0]
    refine x_aload_n C d_K_saved_37 1 rfl ?_
    refine xg_K_now C wF_K_21 mc_0 kc_0 d_K_saved_38 ?_
    refine x_iload_n C d_K_saved_41 2 rfl ?_
    refine x_iload_n C d_K_saved_42 0 rfl ?_
    obtain ⟨c5, hc5, hf⟩ := bs hf
    refine x_callV (rest := [.int c4, .int 0]) (n := 2) C (ct_V_owed E F _ _ _ _ _ mc_23 kc_23 hc5) mi_V_owed (by decide) mc_23 ⟨_, cel_V kc_23⟩ rfl rfl wL_K_163 d_K_saved_43 rfl rfl (Nat.le_of_ble_eq_true rfl) ?_
    show X _ _ _ _ _ _ _ _ _ _ _ _ _ _ _ _ _ _ _ _ _ [.int c5, .int c4, .int 0]
    refine x_isub C d_K_saved_46 ?_
    refine x_aload_n C d_K_saved_47 1 rfl ?_
    refine xg_K_now C wF_K_21 mc_0 kc_0 d_K_saved_48 ?_
    refine x_iload_n C d_K_saved_51 2 rfl ?_
    obtain ⟨c6, hc6, hf⟩ := bs hf
    refine x_callV (rest := [.int (c4 - c5), .int 0]) (n := 1) C (ct_V_reserve E F _ _ _ _ mc_23 kc_23 hc6) mi_V_reserve (by decide) mc_23 ⟨_, cel_V kc_23⟩ rfl rfl wL_K_166 d_K_saved_52 rfl rfl (Nat.le_of_ble_eq_true rfl) ?_
    show X _ _ _ _ _ _ _ _ _ _ _ _ _ _ _ _ _ _ _ _ _ [.int c6, .int (c4 - c5), .int 0]
    refine x_isub C d_K_saved_55 ?_
    refine x_max C wL_K_172 (by decide) (Nat.le_of_ble_eq_true rfl) d_K_saved_56 ?_
    refine x_istore (lv' := [(4, .int (if 0 < ((c4 - c5) - c6) then ((c4 - c5) - c6) else 0)), (3, .int (c3 ||| (1 <<< (x2 &&& 31)))), (0, .ref (ad 0)), (1, .int x1), (2, .int x2)]) C d_K_saved_59 (by decide) rfl ?_
    refine x_iload C d_K_saved_61 0 rfl ?_
    refine x_sipush (v := 200) C d_K_saved_63 rfl ?_
    refine x_icmp_le C 74 d_K_saved_66 (by decide) (fun g7 => ?_) (fun g7 => ?_)
    · replace hf := it g7 hf
      refine x_iload C d_K_saved_74 0 rfl ?_
      cases hf
      exact x_iret C d_K_saved_76 rfl rfl
    · replace hf := ie g7 hf
      refine x_bipush (v := (-9)) C d_K_saved_69 rfl ?_
      refine x_goto C 76 d_K_saved_71 (by decide) ?_
      cases hf
      exact x_iret C d_K_saved_76 rfl rfl
  · replace hf := it g2 hf
    refine x_iconst (v := (-1)) C d_K_saved_12 rfl ?_
    cases hf
    exact x_iret C d_K_saved_13 rfl rfl
set_option maxHeartbeats 4000000 in
set_option maxRecDepth 100000 in
theorem ct_K_sure {l : Launch} {D : va_G} {ad : Nat → Nat} {cs : Nat → ClassId} {A : Nat → Prop} (E : Ev ad cs A LX) (F : Nat) (M : Mem) (x1 : Int32) (R : (Int32 × Mem))  (hf : K_sure F M x1 = some R) : Met l y_K_sure (Cond.code y_K_sure b_K_sure 3 (some .int) :: wl) (rmD 17) (PX D ad cs A LX [.ref (ad 0), .int x1] M) (QX D ad cs A LX (some (.int R.1)) R.2) 0 0 A := by
  refine x_enter (lv := [(0, .ref (ad 0)), (1, .int x1)]) E mi_K_sure.1 (Nat.le_of_ble_eq_true rfl) rfl (fun p e s m args below meth c C => ?_)
  unfold K_sure at hf
  refine x_aload_n C d_K_sure_0 0 rfl ?_
  refine x_iload_n C d_K_sure_1 1 rfl ?_
  obtain ⟨c1, hc1, hf⟩ := bs hf
  refine x_callV (rest := []) (n := 1) C (ct_K_blushesRefused E F _ _ _  hc1) mi_K_blushesRefused (by decide) mc_0 ⟨_, cel_K kc_0⟩ rfl rfl wL_K_317 d_K_sure_2 rfl rfl (Nat.le_of_ble_eq_true rfl) ?_
  show X _ _ _ _ _ _ _ _ _ _ _ _ _ _ _ _ _ _ _ _ _ [.int c1.1]
  refine x_istore_n (lv' := [(2, .int c1.1), (0, .ref (ad 0)), (1, .int x1)]) C d_K_sure_5 (by decide) rfl ?_
  refine x_iload_n C d_K_sure_6 0 rfl ?_
  refine x_if_eq C 12 d_K_sure_7 (by decide) (fun g2 => ?_) (fun g2 => ?_)
  · replace hf := it g2 hf
    refine x_aload_n C d_K_sure_12 1 rfl ?_
    refine xg_K_fitting C wF_K_56 mc_0 kc_0 d_K_sure_13 ?_
    refine x_aload_n C d_K_sure_16 1 rfl ?_
    refine xg_K_now C wF_K_21 mc_0 kc_0 d_K_sure_17 ?_
    refine x_aload_n C d_K_sure_20 1 rfl ?_
    refine xg_K_rows C wF_K_11 mc_0 kc_0 d_K_sure_21 ?_
    refine x_iload_n C d_K_sure_24 2 rfl ?_
    obtain ⟨z3, hz3, hf⟩ := bs hf
    refine x_aald1 C hz3 mc_1 kc_1 d_K_sure_25 ?_
    refine xg_S_places C wF_K_99 (ma_S kc_1 hz3) (ka_S kc_1 hz3) d_K_sure_26 ?_
    obtain ⟨c4, hc4, hf⟩ := bs hf
    refine x_callV (rest := []) (n := 2) C (ct_B_search E F _ _ _ _ mc_23 kc_23 (m_S_places (ka_S kc_1 hz3)) (k_S_places (ka_S kc_1 hz3)) hc4) mi_B_search (by decide) mc_74 ⟨_, cel_B kc_74⟩ rfl rfl wL_K_320 d_K_sure_29 rfl rfl (Nat.le_of_ble_eq_true rfl) ?_
    show X _ _ _ _ _ _ _ _ _ _ _ _ _ _ _ _ _ _ _ _ _ []
    refine x_aload_n C d_K_sure_32 1 rfl ?_
    refine xg_K_fitting C wF_K_56 mc_0 kc_0 d_K_sure_33 ?_
    refine xg_B_inEach C wF_K_329 mc_74 kc_74 d_K_sure_36 ?_
    cases hf
    exact x_iret C d_K_sure_39 rfl rfl
  · replace hf := ie g2 hf
    refine x_iload_n C d_K_sure_10 0 rfl ?_
    cases hf
    exact x_iret C d_K_sure_11 rfl rfl
set_option maxHeartbeats 4000000 in
set_option maxRecDepth 100000 in
theorem ct_K_tear {l : Launch} {D : va_G} {ad : Nat → Nat} {cs : Nat → ClassId} {A : Nat → Prop} (E : Ev ad cs A LX) (F : Nat) (M : Mem) (x1 : Int32) (R : (Int32 × Mem))  (hf : K_tear F M x1 = some R) : Met l y_K_tear (Cond.code y_K_tear b_K_tear 2 (some .int) :: wl) (rmD 1) (PX D ad cs A LX [.ref (ad 0), .int x1] M) (QX D ad cs A LX (some (.int R.1)) R.2) 0 0 A := by
  refine x_enter (lv := [(0, .ref (ad 0)), (1, .int x1)]) E mi_K_tear.1 (Nat.le_of_ble_eq_true rfl) rfl (fun p e s m args below meth c C => ?_)
  unfold K_tear at hf
  refine x_iload_n C d_K_tear_0 1 rfl ?_
  obtain ⟨c1, hc1, hf⟩ := bs hf
  refine x_callS (rest := []) (n := 1) C (ct_K_isRow E F _ _ _  hc1) mi_K_isRow (by decide) wL_K_84 d_K_tear_1 rfl rfl (Nat.le_of_ble_eq_true rfl) ?_
  show X _ _ _ _ _ _ _ _ _ _ _ _ _ _ _ _ _ _ _ _ _ [.int c1]
  refine x_if_ne C 9 d_K_tear_4 (by decide) (fun g2 => ?_) (fun g2 => ?_)
  · replace hf := ie g2 hf
    refine x_aload_n C d_K_tear_9 0 rfl ?_
    refine xg_K_rows C wF_K_11 mc_0 kc_0 d_K_tear_10 ?_
    refine x_iload_n C d_K_tear_13 1 rfl ?_
    obtain ⟨z3, hz3, hf⟩ := bs hf
    refine x_aald1 C hz3 mc_1 kc_1 d_K_tear_14 ?_
    obtain ⟨c4, hc4, hf⟩ := bs hf
    refine x_callV (rest := []) (n := 0) C (ct_S_isMissing E F _ _ _ (ma_S kc_1 hz3) (ka_S kc_1 hz3) hc4) mi_S_isMissing (by decide) (ma_S kc_1 hz3) ⟨_, cel_S (ka_S kc_1 hz3)⟩ rfl rfl wL_K_105 d_K_tear_15 rfl rfl (Nat.le_of_ble_eq_true rfl) ?_
    show X _ _ _ _ _ _ _ _ _ _ _ _ _ _ _ _ _ _ _ _ _ [.int c4]
    refine x_if_eq C 27 d_K_tear_18 (by decide) (fun g5 => ?_) (fun g5 => ?_)
    · replace hf := it g5 hf
      refine x_aload_n C d_K_tear_27 0 rfl ?_
      refine xg_K_rows C wF_K_11 mc_0 kc_0 d_K_tear_28 ?_
      refine x_iload_n C d_K_tear_31 1 rfl ?_
      obtain ⟨z6, hz6, hf⟩ := bs hf
      refine x_aald1 C hz6 mc_1 kc_1 d_K_tear_32 ?_
      refine x_iconst (v := (-1)) C d_K_tear_33 rfl ?_
      refine xp_S_size (x := (-1)) C wF_K_109 (ma_S kc_1 hz6) (ka_S kc_1 hz6) d_K_tear_34 ?_
      refine x_iconst (v := 1) C d_K_tear_37 rfl ?_
      cases hf
      exact x_iret C d_K_tear_38 rfl rfl
    · replace hf := ie g5 hf
      refine x_aload_n C d_K_tear_21 0 rfl ?_
      refine x_iconst (v := 1) C d_K_tear_22 rfl ?_
      obtain ⟨c7, hc7, hf⟩ := bs hf
      refine x_callV (rest := []) (n := 1) C (ct_K_refuse E F _ _ _  hc7) mi_K_refuse (by decide) mc_0 ⟨_, cel_K kc_0⟩ rfl rfl wL_K_88 d_K_tear_23 rfl rfl (Nat.le_of_ble_eq_true rfl) ?_
      show X _ _ _ _ _ _ _ _ _ _ _ _ _ _ _ _ _ _ _ _ _ [.int c7.1]
      cases hf
      exact x_iret C d_K_tear_26 rfl rfl
  · replace hf := it g2 hf
    refine x_iconst (v := (-1)) C d_K_tear_7 rfl ?_
    cases hf
    exact x_iret C d_K_tear_8 rfl rfl
set_option maxHeartbeats 4000000 in
set_option maxRecDepth 100000 in
theorem ct_K_text {l : Launch} {D : va_G} {ad : Nat → Nat} {cs : Nat → ClassId} {A : Nat → Prop} (E : Ev ad cs A LX) (F : Nat) (M : Mem) (x1 : Int32) (x2 : Int32) (R : (Int32 × Mem))  (hf : K_text F M x1 x2 = some R) : Met l y_K_text (Cond.code y_K_text b_K_text 3 (some .int) :: wl) (rmD 1) (PX D ad cs A LX [.ref (ad 0), .int x1, .int x2] M) (QX D ad cs A LX (some (.int R.1)) R.2) 0 0 A := by
  refine x_enter (lv := [(0, .ref (ad 0)), (1, .int x1), (2, .int x2)]) E mi_K_text.1 (Nat.le_of_ble_eq_true rfl) rfl (fun p e s m args below meth c C => ?_)
  unfold K_text at hf
  refine x_iload_n C d_K_text_0 1 rfl ?_
  obtain ⟨c1, hc1, hf⟩ := bs hf
  refine x_callS (rest := []) (n := 1) C (ct_K_isText E F _ _ _  hc1) mi_K_isText (by decide) wL_K_122 d_K_text_1 rfl rfl (Nat.le_of_ble_eq_true rfl) ?_
  show X _ _ _ _ _ _ _ _ _ _ _ _ _ _ _ _ _ _ _ _ _ [.int c1]
  refine x_if_eq C 13 d_K_text_4 (by decide) (fun g2 => ?_) (fun g2 => ?_)
  · replace hf := it g2 hf
    refine x_iconst (v := (-1)) C d_K_text_13 rfl ?_
    cases hf
    exact x_iret C d_K_text_14 rfl rfl
  · replace hf := ie g2 hf
    refine x_iload_n C d_K_text_7 2 rfl ?_
    refine x_bipush (v := 80) C d_K_text_8 rfl ?_
    refine x_icmp_le C 15 d_K_text_10 (by decide) (fun g3 => ?_) (fun g3 => ?_)
    · replace hf := it g3 hf
      refine x_iload_n C d_K_text_15 2 rfl ?_
      refine x_if_ge C 25 d_K_text_16 (by decide) (fun g4 => ?_) (fun g4 => ?_)
      · replace hf := it g4 hf
        refine x_aload_n C d_K_text_25 0 rfl ?_
        refine xg_K_texts C wF_K_15 mc_0 kc_0 d_K_text_26 ?_
        refine x_iload_n C d_K_text_29 1 rfl ?_
        obtain ⟨z5, hz5, hf⟩ := bs hf
        refine x_aald1 C hz5 mc_14 kc_14 d_K_text_30 ?_
        refine x_iload_n C d_K_text_31 2 rfl ?_
        refine x_bipush (v := 32) C d_K_text_32 rfl ?_
        obtain ⟨c6, hc6, hf⟩ := bs hf
        refine x_callV (rest := []) (n := 2) C (ct_S_renew E F _ _ _ _ _ (ma_S kc_14 hz5) (ka_S kc_14 hz5) hc6) mi_S_renew (by decide) (ma_S kc_14 hz5) ⟨_, cel_S (ka_S kc_14 hz5)⟩ rfl rfl wL_K_92 d_K_text_34 rfl rfl (Nat.le_of_ble_eq_true rfl) ?_
        show X _ _ _ _ _ _ _ _ _ _ _ _ _ _ _ _ _ _ _ _ _ []
        refine x_iload_n C d_K_text_37 2 rfl ?_
        cases hf
        exact x_iret C d_K_text_38 rfl rfl
      · replace hf := ie g4 hf
        refine x_aload_n C d_K_text_19 0 rfl ?_
        refine x_iconst (v := 5) C d_K_text_20 rfl ?_
        obtain ⟨c7, hc7, hf⟩ := bs hf
        refine x_callV (rest := []) (n := 1) C (ct_K_refuse E F _ _ _  hc7) mi_K_refuse (by decide) mc_0 ⟨_, cel_K kc_0⟩ rfl rfl wL_K_88 d_K_text_21 rfl rfl (Nat.le_of_ble_eq_true rfl) ?_
        show X _ _ _ _ _ _ _ _ _ _ _ _ _ _ _ _ _ _ _ _ _ [.int c7.1]
        cases hf
        exact x_iret C d_K_text_24 rfl rfl
    · replace hf := ie g3 hf
      refine x_iconst (v := (-1)) C d_K_text_13 rfl ?_
      cases hf
      exact x_iret C d_K_text_14 rfl rfl
set_option maxHeartbeats 4000000 in
set_option maxRecDepth 100000 in
theorem lw_K_trust_21 {p : Program} {l : Launch} {e : Env} {s : State} {m : MethodId} {args : Array Value} {below : List Frame} {meth : Method} {c : Code} {D : va_G} {ad : Nat → Nat} {cs : Nat → ClassId} {A : Nat → Prop} {V : Option Value} {N : Mem} (E : Ev ad cs A LX) (C : Cx p s m args meth c "KissClearing" b_K_trust 5 (some .int) D ad cs A LX) (F : Nat) (M : Mem) (x2 : Int32) : ∀ (n : Nat) (x3 : Int32) (x4 : Int32) (u0 : (Sum Int32 Unit)), L_K_trust_21 F M x2 n x3 x4 = some u0 → (∀ r, u0 = .inl r → V = some (.int r) ∧ N = M) →  (∀ u, u0 = .inr u → X p l e 2 s m args below meth c 5 D ad cs A LX V N M 55 [] []) → X p l e 2 s m args below meth c 5 D ad cs A LX V N M 21 [(0, .ref (ad 0)), (2, .int x2), (3, .int x3), (4, .int x4)] [] := by
  intro n
  induction n with
  | zero => intro x3 x4 u0 hf; cases hf
  | succ n ih =>
    intro x3 x4 u0 hf Kr Kx
    replace hf : B_K_trust_21 F M x2 (L_K_trust_21 F M x2 n) x3 x4 = some u0 := hf
    unfold B_K_trust_21 at hf
    refine x_iload C d_K_trust_21 3 rfl ?_
    refine x_iconst (v := 3) C d_K_trust_23 rfl ?_
    refine x_icmp_gt C 55 d_K_trust_24 (by decide) (fun g3 => ?_) (fun g3 => ?_)
    · replace hf := it g3 hf
      cases hf
      exact x_sub [] rfl (Kx _ rfl)
    · replace hf := ie g3 hf
      refine x_iload_n C d_K_trust_27 2 rfl ?_
      refine x_aload_n C d_K_trust_28 0 rfl ?_
      refine xg_K_now C wF_K_21 mc_0 kc_0 d_K_trust_29 ?_
      refine x_iload_n C d_K_trust_32 2 rfl ?_
      obtain ⟨c4, hc4, hf⟩ := bs hf
      refine x_callV (rest := [.int x3]) (n := 1) C (ct_V_owedByAny E F _ _ _ _ mc_23 kc_23 hc4) mi_V_owedByAny (by decide) mc_23 ⟨_, cel_V kc_23⟩ rfl rfl wL_K_314 d_K_trust_33 rfl rfl (Nat.le_of_ble_eq_true rfl) ?_
      show X _ _ _ _ _ _ _ _ _ _ _ _ _ _ _ _ _ _ _ _ _ [.int c4, .int x3]
      refine x_ior C d_K_trust_36 ?_
      refine x_istore_n (lv' := [(3, .int (x3 ||| c4)), (0, .ref (ad 0)), (2, .int x2), (4, .int x4)]) C d_K_trust_37 (by decide) rfl ?_
      refine x_iload_n C d_K_trust_38 0 rfl ?_
      refine x_iconst (v := 1) C d_K_trust_39 rfl ?_
      refine x_iload_n C d_K_trust_40 2 rfl ?_
      refine x_ishl C d_K_trust_41 ?_
      refine x_iand C d_K_trust_42 ?_
      refine x_if_eq C 49 d_K_trust_43 (by decide) (fun g5 => ?_) (fun g5 => ?_)
      · replace hf := it g5 hf
        refine x_iinc (v := (x4 + 1)) (lv' := [(4, .int (x4 + 1)), (3, .int (x3 ||| c4)), (0, .ref (ad 0)), (2, .int x2)]) C d_K_trust_49 3 rfl rfl (by decide) rfl ?_
        refine x_goto C 21 d_K_trust_52 (by decide) ?_
        refine x_sub [2, 3, 1, 0] rfl ?_
        exact ih _ _ _ hf Kr Kx
      · replace hf := ie g5 hf
        refine x_iload C d_K_trust_46 3 rfl ?_
        cases hf
        obtain ⟨hV, hN⟩ := Kr _ rfl
        exact x_iret C d_K_trust_48 hV hN
set_option maxHeartbeats 4000000 in
set_option maxRecDepth 100000 in
theorem ct_K_trust {l : Launch} {D : va_G} {ad : Nat → Nat} {cs : Nat → ClassId} {A : Nat → Prop} (E : Ev ad cs A LX) (F : Nat) (M : Mem) (x1 : Int32) (x2 : Int32) (R : Int32)  (hf : K_trust F M x1 x2 = some R) : Met l y_K_trust (Cond.code y_K_trust b_K_trust 5 (some .int) :: wl) (rmD 2) (PX D ad cs A LX [.ref (ad 0), .int x1, .int x2] M) (QX D ad cs A LX (some (.int R)) M) 0 0 A := by
  refine x_enter (lv := [(0, .ref (ad 0)), (1, .int x1), (2, .int x2)]) E mi_K_trust.1 (Nat.le_of_ble_eq_true rfl) rfl (fun p e s m args below meth c C => ?_)
  unfold K_trust at hf
  refine x_aload_n C d_K_trust_0 0 rfl ?_
  refine xg_K_now C wF_K_21 mc_0 kc_0 d_K_trust_1 ?_
  refine x_iload_n C d_K_trust_4 1 rfl ?_
  refine x_iload_n C d_K_trust_5 2 rfl ?_
  obtain ⟨c1, hc1, hf⟩ := bs hf
  refine x_callV (rest := []) (n := 2) C (ct_V_hasTwo E F _ _ _ _ _ mc_23 kc_23 hc1) mi_V_hasTwo (by decide) mc_23 ⟨_, cel_V kc_23⟩ rfl rfl wL_K_183 d_K_trust_6 rfl rfl (Nat.le_of_ble_eq_true rfl) ?_
  show X _ _ _ _ _ _ _ _ _ _ _ _ _ _ _ _ _ _ _ _ _ [.int c1]
  refine x_if_ne C 14 d_K_trust_9 (by decide) (fun g2 => ?_) (fun g2 => ?_)
  · replace hf := ie g2 hf
    refine x_iconst (v := 1) C d_K_trust_14 rfl ?_
    refine x_iload_n C d_K_trust_15 1 rfl ?_
    refine x_ishl C d_K_trust_16 ?_
    refine x_istore_n (lv' := [(3, .int (1 <<< (x1 &&& 31))), (0, .ref (ad 0)), (1, .int x1), (2, .int x2)]) C d_K_trust_17 (by decide) rfl ?_
    refine x_iconst (v := 1) C d_K_trust_18 rfl ?_
    refine x_istore (lv' := [(4, .int 1), (3, .int (1 <<< (x1 &&& 31))), (0, .ref (ad 0)), (1, .int x1), (2, .int x2)]) C d_K_trust_19 (by decide) rfl ?_
    obtain ⟨u6, hu6, hf⟩ := bs hf
    refine x_sub [2, 4, 1, 0] rfl ?_
    refine lw_K_trust_21 E C F _ _ _ _ _ _ hu6 (fun r7 hr7 => ?_) (fun w8 hw8 => ?_)
    · subst hr7
      replace hf := se_l hf
      cases hf
      exact ⟨rfl, rfl⟩
    · subst hw8
      replace hf := se_r hf
      refine x_bipush (v := (-9)) C d_K_trust_55 rfl ?_
      cases hf
      exact x_iret C d_K_trust_57 rfl rfl
  · replace hf := it g2 hf
    refine x_iconst (v := (-1)) C d_K_trust_12 rfl ?_
    cases hf
    exact x_iret C d_K_trust_13 rfl rfl
set_option maxHeartbeats 4000000 in
set_option maxRecDepth 100000 in
theorem ct_K_undo {l : Launch} {D : va_G} {ad : Nat → Nat} {cs : Nat → ClassId} {A : Nat → Prop} (E : Ev ad cs A LX) (F : Nat) (M : Mem) (x1 : Int32) (R : (Int32 × Mem))  (hf : K_undo F M x1 = some R) : Met l y_K_undo (Cond.code y_K_undo b_K_undo 3 (some .int) :: wl) (rmD 3) (PX D ad cs A LX [.ref (ad 0), .int x1] M) (QX D ad cs A LX (some (.int R.1)) R.2) 0 0 A := by
  refine x_enter (lv := [(0, .ref (ad 0)), (1, .int x1)]) E mi_K_undo.1 (Nat.le_of_ble_eq_true rfl) rfl (fun p e s m args below meth c C => ?_)
  unfold K_undo at hf
  refine x_iload_n C d_K_undo_0 1 rfl ?_
  refine x_if_lt C 15 d_K_undo_1 (by decide) (fun g1 => ?_) (fun g1 => ?_)
  · replace hf := it g1 hf
    refine x_iconst (v := (-1)) C d_K_undo_15 rfl ?_
    cases hf
    exact x_iret C d_K_undo_16 rfl rfl
  · replace hf := ie g1 hf
    refine x_iload_n C d_K_undo_4 1 rfl ?_
    refine x_aload_n C d_K_undo_5 0 rfl ?_
    refine xg_K_history C wF_K_31 mc_0 kc_0 d_K_undo_6 ?_
    refine xg_H_deeds C wF_K_81 mc_53 kc_53 d_K_undo_9 ?_
    refine x_icmp_le C 17 d_K_undo_12 (by decide) (fun g2 => ?_) (fun g2 => ?_)
    · replace hf := it g2 hf
      refine x_aload_n C d_K_undo_17 0 rfl ?_
      refine xg_K_history C wF_K_31 mc_0 kc_0 d_K_undo_18 ?_
      refine xg_H_deeds C wF_K_81 mc_53 kc_53 d_K_undo_21 ?_
      refine x_iload_n C d_K_undo_24 1 rfl ?_
      refine x_isub C d_K_undo_25 ?_
      refine x_istore_n (lv' := [(2, .int ((M 53 0) - x1)), (0, .ref (ad 0)), (1, .int x1)]) C d_K_undo_26 (by decide) rfl ?_
      refine x_iload_n C d_K_undo_27 0 rfl ?_
      refine x_if_le C 43 d_K_undo_28 (by decide) (fun g3 => ?_) (fun g3 => ?_)
      · replace hf := it g3 hf
        refine x_iload_n C d_K_undo_43 0 rfl ?_
        cases hf
        exact x_iret C d_K_undo_44 rfl rfl
      · replace hf := ie g3 hf
        refine x_aload_n C d_K_undo_31 1 rfl ?_
        refine xg_K_history C wF_K_31 mc_0 kc_0 d_K_undo_32 ?_
        refine x_iload_n C d_K_undo_35 2 rfl ?_
        refine x_aload_n C d_K_undo_36 1 rfl ?_
        refine xg_K_now C wF_K_21 mc_0 kc_0 d_K_undo_37 ?_
        obtain ⟨c4, hc4, hf⟩ := bs hf
        refine x_callV (rest := []) (n := 2) C (ct_H_goBack E F _ _ _ _ _ mc_53 kc_53 mc_23 kc_23 hc4) mi_H_goBack (by decide) mc_53 ⟨_, cel_H kc_53⟩ rfl rfl wL_K_238 d_K_undo_40 rfl rfl (Nat.le_of_ble_eq_true rfl) ?_
        show X _ _ _ _ _ _ _ _ _ _ _ _ _ _ _ _ _ _ _ _ _ []
        refine x_iload_n C d_K_undo_43 0 rfl ?_
        cases hf
        exact x_iret C d_K_undo_44 rfl rfl
    · replace hf := ie g2 hf
      refine x_iconst (v := (-1)) C d_K_undo_15 rfl ?_
      cases hf
      exact x_iret C d_K_undo_16 rfl rfl
set_option maxHeartbeats 4000000 in
set_option maxRecDepth 100000 in
theorem ct_K_upper {l : Launch} {D : va_G} {ad : Nat → Nat} {cs : Nat → ClassId} {A : Nat → Prop} (E : Ev ad cs A LX) (F : Nat) (M : Mem)  (R : Int64)  (hf : K_upper F M = some R) : Met l y_K_upper (Cond.code y_K_upper b_K_upper 1 (some .long) :: wl) (rmD 0) (PX D ad cs A LX [.ref (ad 0)] M) (QX D ad cs A LX (some (.long R)) M) 0 0 A := by
  refine x_enter (lv := [(0, .ref (ad 0))]) E mi_K_upper.1 (Nat.le_of_ble_eq_true rfl) rfl (fun p e s m args below meth c C => ?_)
  unfold K_upper at hf
  refine x_aload_n C d_K_upper_0 0 rfl ?_
  refine xg_K_latestUpper C wF_K_71 mc_0 kc_0 d_K_upper_1 ?_
  cases hf
  exact x_lret C d_K_upper_4 rfl rfl
set_option maxHeartbeats 4000000 in
set_option maxRecDepth 100000 in
theorem lw_K_village_69 {p : Program} {l : Launch} {e : Env} {s : State} {m : MethodId} {args : Array Value} {below : List Frame} {meth : Method} {c : Code} {D : va_G} {ad : Nat → Nat} {cs : Nat → ClassId} {A : Nat → Prop} {V : Option Value} {N : Mem} (E : Ev ad cs A LX) (C : Cx p s m args meth c "KissClearing" b_K_village 3 (some .int) D ad cs A LX) (F : Nat)  : ∀ (n : Nat) (M : Mem) (x2 : Int32) (u : Mem), L_K_village_69 F n M x2 = some u → X p l e 4 s m args below meth c 3 D ad cs A LX V N u 90 [(0, .ref (ad 0))] [] → X p l e 4 s m args below meth c 3 D ad cs A LX V N M 69 [(0, .ref (ad 0)), (2, .int x2)] [] := by
  intro n
  induction n with
  | zero => intro M x2 u hf; cases hf
  | succ n ih =>
    intro M x2 u hf K
    replace hf : B_K_village_69 F (L_K_village_69 F n) M x2 = some u := hf
    unfold B_K_village_69 at hf
    refine x_iload_n C d_K_village_69 1 rfl ?_
    refine x_iconst (v := 3) C d_K_village_70 rfl ?_
    refine x_icmp_ge C 90 d_K_village_71 (by decide) (fun g10 => ?_) (fun g10 => ?_)
    · replace hf := it g10 hf
      cases hf
      exact x_sub [0] rfl K
    · replace hf := ie g10 hf
      refine x_aload_n C d_K_village_74 0 rfl ?_
      refine xg_K_kept C wF_K_35 mc_0 kc_0 d_K_village_75 ?_
      refine x_iload_n C d_K_village_78 1 rfl ?_
      obtain ⟨z11, hz11, hf⟩ := bs hf
      refine x_aald3 C hz11 mc_56 kc_56 d_K_village_79 ?_
      refine x_iconst (v := (-1)) C d_K_village_80 rfl ?_
      refine xp_H_deeds (x := (-1)) C wF_K_81 (ma_H kc_56 hz11) (ka_H kc_56 hz11) d_K_village_81 ?_
      refine x_iinc (v := (x2 + 1)) (lv' := [(2, .int (x2 + 1)), (0, .ref (ad 0))]) C d_K_village_84 1 rfl rfl (by decide) rfl ?_
      refine x_goto C 69 d_K_village_87 (by decide) ?_
      refine x_sub [1, 0] rfl ?_
      exact ih _ _ _ hf K
set_option maxHeartbeats 4000000 in
set_option maxRecDepth 100000 in
theorem ct_K_village {l : Launch} {D : va_G} {ad : Nat → Nat} {cs : Nat → ClassId} {A : Nat → Prop} (E : Ev ad cs A LX) (F : Nat) (M : Mem) (x1 : Int32) (R : (Int32 × Mem))  (hf : K_village F M x1 = some R) : Met l y_K_village (Cond.code y_K_village b_K_village 3 (some .int) :: wl) (rmD 4) (PX D ad cs A LX [.ref (ad 0), .int x1] M) (QX D ad cs A LX (some (.int R.1)) R.2) 0 0 A := by
  refine x_enter (lv := [(0, .ref (ad 0)), (1, .int x1)]) E mi_K_village.1 (Nat.le_of_ble_eq_true rfl) rfl (fun p e s m args below meth c C => ?_)
  unfold K_village at hf
  refine x_iload_n C d_K_village_0 1 rfl ?_
  obtain ⟨c1, hc1, hf⟩ := bs hf
  refine x_callS (rest := []) (n := 1) C (ct_K_isText E F _ _ _  hc1) mi_K_isText (by decide) wL_K_122 d_K_village_1 rfl rfl (Nat.le_of_ble_eq_true rfl) ?_
  show X _ _ _ _ _ _ _ _ _ _ _ _ _ _ _ _ _ _ _ _ _ [.int c1]
  refine x_if_ne C 9 d_K_village_4 (by decide) (fun g2 => ?_) (fun g2 => ?_)
  · replace hf := ie g2 hf
    refine x_aload_n C d_K_village_9 0 rfl ?_
    refine xg_K_texts C wF_K_15 mc_0 kc_0 d_K_village_10 ?_
    refine x_iload_n C d_K_village_13 1 rfl ?_
    obtain ⟨z3, hz3, hf⟩ := bs hf
    refine x_aald1 C hz3 mc_14 kc_14 d_K_village_14 ?_
    obtain ⟨c4, hc4, hf⟩ := bs hf
    refine x_callV (rest := []) (n := 0) C (ct_S_isMissing E F _ _ _ (ma_S kc_14 hz3) (ka_S kc_14 hz3) hc4) mi_S_isMissing (by decide) (ma_S kc_14 hz3) ⟨_, cel_S (ka_S kc_14 hz3)⟩ rfl rfl wL_K_105 d_K_village_15 rfl rfl (Nat.le_of_ble_eq_true rfl) ?_
    show X _ _ _ _ _ _ _ _ _ _ _ _ _ _ _ _ _ _ _ _ _ [.int c4]
    refine x_if_eq C 27 d_K_village_18 (by decide) (fun g5 => ?_) (fun g5 => ?_)
    · replace hf := it g5 hf
      refine x_aload_n C d_K_village_27 0 rfl ?_
      refine xg_K_texts C wF_K_15 mc_0 kc_0 d_K_village_28 ?_
      refine x_iload_n C d_K_village_31 1 rfl ?_
      obtain ⟨z6, hz6, hf⟩ := bs hf
      refine x_aald1 C hz6 mc_14 kc_14 d_K_village_32 ?_
      refine x_aload_n C d_K_village_33 0 rfl ?_
      refine xg_K_sketch C wF_K_25 mc_0 kc_0 d_K_village_34 ?_
      obtain ⟨c7, hc7, hf⟩ := bs hf
      refine x_callS (rest := []) (n := 2) C (ct_R_faultOf E F _ _ _ _ (ma_S kc_14 hz6) (ka_S kc_14 hz6) mc_38 kc_38 hc7) mi_R_faultOf (by decide) wL_K_125 d_K_village_37 rfl rfl (Nat.le_of_ble_eq_true rfl) ?_
      show X _ _ _ _ _ _ _ _ _ _ _ _ _ _ _ _ _ _ _ _ _ [.int c7.1]
      refine x_bipush (v := (-9)) C d_K_village_40 rfl ?_
      refine x_icmp_eq C 48 d_K_village_42 (by decide) (fun g8 => ?_) (fun g8 => ?_)
      · replace hf := it g8 hf
        refine x_aload_n C d_K_village_48 0 rfl ?_
        refine xg_K_now C wF_K_21 mc_0 kc_0 d_K_village_49 ?_
        refine x_aload_n C d_K_village_52 0 rfl ?_
        refine xg_K_sketch C wF_K_25 mc_0 kc_0 d_K_village_53 ?_
        obtain ⟨c9, hc9, hf⟩ := bs hf
        refine x_callV (rest := []) (n := 1) C (ct_V_becomeLike E F _ _ _ _ mc_23 kc_23 mc_38 kc_38 hc9) mi_V_becomeLike (by decide) mc_23 ⟨_, cel_V kc_23⟩ rfl rfl wL_K_131 d_K_village_56 rfl rfl (Nat.le_of_ble_eq_true rfl) ?_
        show X _ _ _ _ _ _ _ _ _ _ _ _ _ _ _ _ _ _ _ _ _ []
        refine x_aload_n C d_K_village_59 0 rfl ?_
        refine xg_K_history C wF_K_31 mc_0 kc_0 d_K_village_60 ?_
        refine x_iconst (v := 0) C d_K_village_63 rfl ?_
        refine xp_H_deeds (x := 0) C wF_K_81 mc_53 kc_53 d_K_village_64 ?_
        refine x_iconst (v := 0) C d_K_village_67 rfl ?_
        refine x_istore_n (lv' := [(2, .int 0), (0, .ref (ad 0)), (1, .int x1)]) C d_K_village_68 (by decide) rfl ?_
        obtain ⟨u12, hu12, hf⟩ := bs hf
        refine x_sub [1, 0] rfl ?_
        refine lw_K_village_69 E C F _ _ _ _ hu12 ?_
        refine x_aload_n C d_K_village_90 0 rfl ?_
        refine xg_K_now C wF_K_21 mc_0 kc_0 d_K_village_91 ?_
        refine xg_V_personCount C wF_K_135 mc_23 kc_23 d_K_village_94 ?_
        cases hf
        exact x_iret C d_K_village_97 rfl rfl
      · replace hf := ie g8 hf
        refine x_bipush (v := (-4)) C d_K_village_45 rfl ?_
        cases hf
        exact x_iret C d_K_village_47 rfl rfl
    · replace hf := ie g5 hf
      refine x_aload_n C d_K_village_21 0 rfl ?_
      refine x_iconst (v := 1) C d_K_village_22 rfl ?_
      obtain ⟨c13, hc13, hf⟩ := bs hf
      refine x_callV (rest := []) (n := 1) C (ct_K_refuse E F _ _ _  hc13) mi_K_refuse (by decide) mc_0 ⟨_, cel_K kc_0⟩ rfl rfl wL_K_88 d_K_village_23 rfl rfl (Nat.le_of_ble_eq_true rfl) ?_
      show X _ _ _ _ _ _ _ _ _ _ _ _ _ _ _ _ _ _ _ _ _ [.int c13.1]
      cases hf
      exact x_iret C d_K_village_26 rfl rfl
  · replace hf := it g2 hf
    refine x_iconst (v := (-1)) C d_K_village_7 rfl ?_
    cases hf
    exact x_iret C d_K_village_8 rfl rfl
set_option maxHeartbeats 4000000 in
set_option maxRecDepth 100000 in
theorem ct_K_week {l : Launch} {D : va_G} {ad : Nat → Nat} {cs : Nat → ClassId} {A : Nat → Prop} (E : Ev ad cs A LX) (F : Nat) (M : Mem)  (R : (Int32 × Mem))  (hf : K_week F M = some R) : Met l y_K_week (Cond.code y_K_week b_K_week 1 (some .int) :: wl) (rmD 4) (PX D ad cs A LX [.ref (ad 0)] M) (QX D ad cs A LX (some (.int R.1)) R.2) 0 0 A := by
  refine x_enter (lv := [(0, .ref (ad 0))]) E mi_K_week.1 (Nat.le_of_ble_eq_true rfl) rfl (fun p e s m args below meth c C => ?_)
  unfold K_week at hf
  refine x_aload_n C d_K_week_0 0 rfl ?_
  refine xg_K_now C wF_K_21 mc_0 kc_0 d_K_week_1 ?_
  obtain ⟨c1, hc1, hf⟩ := bs hf
  refine x_callV (rest := []) (n := 0) C (ct_V_isEmpty E F _ _ _ mc_23 kc_23 hc1) mi_V_isEmpty (by decide) mc_23 ⟨_, cel_V kc_23⟩ rfl rfl wL_K_231 d_K_week_4 rfl rfl (Nat.le_of_ble_eq_true rfl) ?_
  show X _ _ _ _ _ _ _ _ _ _ _ _ _ _ _ _ _ _ _ _ _ [.int c1]
  refine x_if_eq C 13 d_K_week_7 (by decide) (fun g2 => ?_) (fun g2 => ?_)
  · replace hf := it g2 hf
    refine x_aload_n C d_K_week_13 0 rfl ?_
    refine xg_K_history C wF_K_31 mc_0 kc_0 d_K_week_14 ?_
    refine x_iconst (v := 1) C d_K_week_17 rfl ?_
    obtain ⟨c3, hc3, hf⟩ := bs hf
    refine x_callV (rest := []) (n := 1) C (ct_H_isFullFor E F _ _ _ _ mc_53 kc_53 hc3) mi_H_isFullFor (by decide) mc_53 ⟨_, cel_H kc_53⟩ rfl rfl wL_K_189 d_K_week_18 rfl rfl (Nat.le_of_ble_eq_true rfl) ?_
    show X _ _ _ _ _ _ _ _ _ _ _ _ _ _ _ _ _ _ _ _ _ [.int c3]
    refine x_if_eq C 27 d_K_week_21 (by decide) (fun g4 => ?_) (fun g4 => ?_)
    · replace hf := it g4 hf
      refine x_aload_n C d_K_week_27 0 rfl ?_
      refine xg_K_history C wF_K_31 mc_0 kc_0 d_K_week_28 ?_
      refine x_aload_n C d_K_week_31 0 rfl ?_
      refine xg_K_now C wF_K_21 mc_0 kc_0 d_K_week_32 ?_
      obtain ⟨c5, hc5, hf⟩ := bs hf
      refine x_callV (rest := []) (n := 1) C (ct_H_begin E F _ _ _ _ mc_53 kc_53 mc_23 kc_23 hc5) mi_H_begin (by decide) mc_53 ⟨_, cel_H kc_53⟩ rfl rfl wL_K_192 d_K_week_35 rfl rfl (Nat.le_of_ble_eq_true rfl) ?_
      show X _ _ _ _ _ _ _ _ _ _ _ _ _ _ _ _ _ _ _ _ _ []
      refine x_aload_n C d_K_week_38 0 rfl ?_
      refine xg_K_now C wF_K_21 mc_0 kc_0 d_K_week_39 ?_
      obtain ⟨c6, hc6, hf⟩ := bs hf
      refine x_callV (rest := []) (n := 0) C (ct_V_passWeek E F _ _ _ mc_23 kc_23 hc6) mi_V_passWeek (by decide) mc_23 ⟨_, cel_V kc_23⟩ rfl rfl wL_K_234 d_K_week_42 rfl rfl (Nat.le_of_ble_eq_true rfl) ?_
      show X _ _ _ _ _ _ _ _ _ _ _ _ _ _ _ _ _ _ _ _ _ [.int c6.1]
      cases hf
      exact x_iret C d_K_week_45 rfl rfl
    · replace hf := ie g4 hf
      refine x_bipush (v := (-2)) C d_K_week_24 rfl ?_
      cases hf
      exact x_iret C d_K_week_26 rfl rfl
  · replace hf := ie g2 hf
    refine x_bipush (v := (-4)) C d_K_week_10 rfl ?_
    cases hf
    exact x_iret C d_K_week_12 rfl rfl
set_option maxHeartbeats 4000000 in
set_option maxRecDepth 100000 in
theorem lw_K_worst_19 {p : Program} {l : Launch} {e : Env} {s : State} {m : MethodId} {args : Array Value} {below : List Frame} {meth : Method} {c : Code} {D : va_G} {ad : Nat → Nat} {cs : Nat → ClassId} {A : Nat → Prop} {V : Option Value} {N : Mem} (E : Ev ad cs A LX) (C : Cx p s m args meth c "KissClearing" b_K_worst 5 (some .int) D ad cs A LX) (F : Nat) (M : Mem)  : ∀ (n : Nat) (x1 : Int32) (x2 : Int32) (x3 : Int32) (u : (Int32 × Int32)), L_K_worst_19 F M n x1 x2 x3 = some u → X p l e 4 s m args below meth c 5 D ad cs A LX V N M 61 [(0, .ref (ad 0)), (1, .int u.1), (2, .int u.2)] [] → X p l e 4 s m args below meth c 5 D ad cs A LX V N M 19 [(0, .ref (ad 0)), (1, .int x1), (2, .int x2), (3, .int x3)] [] := by
  intro n
  induction n with
  | zero => intro x1 x2 x3 u hf; cases hf
  | succ n ih =>
    intro x1 x2 x3 u hf K
    replace hf : B_K_worst_19 F M (L_K_worst_19 F M n) x1 x2 x3 = some u := hf
    unfold B_K_worst_19 at hf
    refine x_iload_n C d_K_worst_19 3 rfl ?_
    refine x_aload_n C d_K_worst_20 0 rfl ?_
    refine xg_K_now C wF_K_21 mc_0 kc_0 d_K_worst_21 ?_
    refine xg_V_personCount C wF_K_135 mc_23 kc_23 d_K_worst_24 ?_
    refine x_icmp_ge C 61 d_K_worst_27 (by decide) (fun g3 => ?_) (fun g3 => ?_)
    · replace hf := it g3 hf
      cases hf
      exact x_sub [0, 1, 2] rfl K
    · replace hf := ie g3 hf
      refine x_aload_n C d_K_worst_30 0 rfl ?_
      refine xg_K_now C wF_K_21 mc_0 kc_0 d_K_worst_31 ?_
      refine x_iload_n C d_K_worst_34 3 rfl ?_
      refine x_iconst (v := (-1)) C d_K_worst_35 rfl ?_
      obtain ⟨c4, hc4, hf⟩ := bs hf
      refine x_callV (rest := []) (n := 2) C (ct_V_fallen E F _ _ _ _ _ mc_23 kc_23 hc4) mi_V_fallen (by decide) mc_23 ⟨_, cel_V kc_23⟩ rfl rfl wL_K_286 d_K_worst_36 rfl rfl (Nat.le_of_ble_eq_true rfl) ?_
      show X _ _ _ _ _ _ _ _ _ _ _ _ _ _ _ _ _ _ _ _ _ [.int c4]
      obtain ⟨c5, hc5, hf⟩ := bs hf
      refine x_callS (rest := []) (n := 1) C (ct_J_bitCount E F _ _ _  hc5) mi_J_bitCount (by decide) wL_K_289 d_K_worst_39 rfl rfl (Nat.le_of_ble_eq_true rfl) ?_
      show X _ _ _ _ _ _ _ _ _ _ _ _ _ _ _ _ _ _ _ _ _ [.int c5]
      refine x_istore (lv' := [(4, .int c5), (0, .ref (ad 0)), (1, .int x1), (2, .int x2), (3, .int x3)]) C d_K_worst_42 (by decide) rfl ?_
      refine x_iload C d_K_worst_44 0 rfl ?_
      refine x_iload_n C d_K_worst_46 3 rfl ?_
      refine x_icmp_le C 55 d_K_worst_47 (by decide) (fun g6 => ?_) (fun g6 => ?_)
      · replace hf := it g6 hf
        refine x_iinc (v := (x3 + 1)) (lv' := [(3, .int (x3 + 1)), (4, .int c5), (0, .ref (ad 0)), (1, .int x1), (2, .int x2)]) C d_K_worst_55 4 rfl rfl (by decide) rfl ?_
        refine x_goto C 19 d_K_worst_58 (by decide) ?_
        refine x_sub [2, 3, 4, 0] rfl ?_
        exact ih _ _ _ _ hf K
      · replace hf := ie g6 hf
        refine x_iload C d_K_worst_50 0 rfl ?_
        refine x_istore_n (lv' := [(2, .int c5), (4, .int c5), (0, .ref (ad 0)), (1, .int x1), (3, .int x3)]) C d_K_worst_52 (by decide) rfl ?_
        refine x_iload_n C d_K_worst_53 4 rfl ?_
        refine x_istore_n (lv' := [(1, .int x3), (2, .int c5), (4, .int c5), (0, .ref (ad 0)), (3, .int x3)]) C d_K_worst_54 (by decide) rfl ?_
        refine x_iinc (v := (x3 + 1)) (lv' := [(3, .int (x3 + 1)), (1, .int x3), (2, .int c5), (4, .int c5), (0, .ref (ad 0))]) C d_K_worst_55 4 rfl rfl (by decide) rfl ?_
        refine x_goto C 19 d_K_worst_58 (by decide) ?_
        refine x_sub [4, 1, 2, 0] rfl ?_
        exact ih _ _ _ _ hf K
set_option maxHeartbeats 4000000 in
set_option maxRecDepth 100000 in
theorem ct_K_worst {l : Launch} {D : va_G} {ad : Nat → Nat} {cs : Nat → ClassId} {A : Nat → Prop} (E : Ev ad cs A LX) (F : Nat) (M : Mem)  (R : (Int32 × Mem))  (hf : K_worst F M = some R) : Met l y_K_worst (Cond.code y_K_worst b_K_worst 5 (some .int) :: wl) (rmD 4) (PX D ad cs A LX [.ref (ad 0)] M) (QX D ad cs A LX (some (.int R.1)) R.2) 0 0 A := by
  refine x_enter (lv := [(0, .ref (ad 0))]) E mi_K_worst.1 (Nat.le_of_ble_eq_true rfl) rfl (fun p e s m args below meth c C => ?_)
  unfold K_worst at hf
  refine x_aload_n C d_K_worst_0 0 rfl ?_
  refine xg_K_now C wF_K_21 mc_0 kc_0 d_K_worst_1 ?_
  obtain ⟨c1, hc1, hf⟩ := bs hf
  refine x_callV (rest := []) (n := 0) C (ct_V_isEmpty E F _ _ _ mc_23 kc_23 hc1) mi_V_isEmpty (by decide) mc_23 ⟨_, cel_V kc_23⟩ rfl rfl wL_K_231 d_K_worst_4 rfl rfl (Nat.le_of_ble_eq_true rfl) ?_
  show X _ _ _ _ _ _ _ _ _ _ _ _ _ _ _ _ _ _ _ _ _ [.int c1]
  refine x_if_eq C 13 d_K_worst_7 (by decide) (fun g2 => ?_) (fun g2 => ?_)
  · replace hf := it g2 hf
    refine x_iconst (v := 0) C d_K_worst_13 rfl ?_
    refine x_istore_n (lv' := [(1, .int 0), (0, .ref (ad 0))]) C d_K_worst_14 (by decide) rfl ?_
    refine x_iconst (v := (-1)) C d_K_worst_15 rfl ?_
    refine x_istore_n (lv' := [(2, .int (-1)), (1, .int 0), (0, .ref (ad 0))]) C d_K_worst_16 (by decide) rfl ?_
    refine x_iconst (v := 0) C d_K_worst_17 rfl ?_
    refine x_istore_n (lv' := [(3, .int 0), (2, .int (-1)), (1, .int 0), (0, .ref (ad 0))]) C d_K_worst_18 (by decide) rfl ?_
    obtain ⟨u7, hu7, hf⟩ := bs hf
    refine x_sub [3, 2, 1, 0] rfl ?_
    refine lw_K_worst_19 E C F _ _ _ _ _ _ hu7 ?_
    refine x_aload_n C d_K_worst_61 0 rfl ?_
    refine x_iload_n C d_K_worst_62 2 rfl ?_
    refine xp_K_latestAsked (x := u7.2) C wF_K_68 mc_0 kc_0 d_K_worst_63 ?_
    refine x_iload_n C d_K_worst_66 1 rfl ?_
    cases hf
    exact x_iret C d_K_worst_67 rfl rfl
  · replace hf := ie g2 hf
    refine x_bipush (v := (-4)) C d_K_worst_10 rfl ?_
    cases hf
    exact x_iret C d_K_worst_12 rfl rfl
