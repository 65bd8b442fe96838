/-! contracts of the reference (by program: wip/whole/emit.py) -/
set_option maxHeartbeats 4000000 in
set_option maxRecDepth 100000 in
theorem ct_M_growth {l : Launch} {D : va_G} {ad : Nat → Nat} {cs : Nat → ClassId} {A : Nat → Prop} (E : Ev ad cs A LM) (F : Nat) (M : Mem) (x1 : Int32) (R : Int32)  (hf : M_growth F M x1 = some R) : Met l y_M_growth (Cond.code y_M_growth b_M_growth 2 (some .int) :: wl) (rmD 0) (PX D ad cs A LM [.ref (ad 100), .int x1] M) (QX D ad cs A LM (some (.int R)) M) 0 0 A := by
  refine x_enter (lv := [(0, .ref (ad 100)), (1, .int x1)]) E mi_M_growth.1 (Nat.le_of_ble_eq_true rfl) rfl (fun p e s m args below meth c C => ?_)
  unfold M_growth at hf
  refine x_aload_n C d_M_growth_0 0 rfl ?_
  refine xg_M_kinds C wF_M_13 mc_100 kc_100 d_M_growth_1 ?_
  refine x_iload_n C d_M_growth_4 1 rfl ?_
  obtain ⟨t1, ht1, hf⟩ := bs hf
  refine x_iald C ht1 mc_102 kc_102 d_M_growth_5 ?_
  refine x_iconst (v := 4) C d_M_growth_6 rfl ?_
  refine x_icmp_ne C 14 d_M_growth_7 (by decide) (fun g2 => ?_) (fun g2 => ?_)
  · replace hf := ie g2 hf
    refine x_aload_n C d_M_growth_14 0 rfl ?_
    refine xg_M_kinds C wF_M_13 mc_100 kc_100 d_M_growth_15 ?_
    refine x_iload_n C d_M_growth_18 1 rfl ?_
    obtain ⟨t3, ht3, hf⟩ := bs hf
    refine x_iald C ht3 mc_102 kc_102 d_M_growth_19 ?_
    refine x_iconst (v := 1) C d_M_growth_20 rfl ?_
    refine x_icmp_ne C 28 d_M_growth_21 (by decide) (fun g4 => ?_) (fun g4 => ?_)
    · replace hf := ie g4 hf
      refine x_iconst (v := 0) C d_M_growth_28 rfl ?_
      cases hf
      exact x_iret C d_M_growth_29 rfl rfl
    · replace hf := it g4 hf
      refine x_iconst (v := 1) C d_M_growth_24 rfl ?_
      refine x_goto C 29 d_M_growth_25 (by decide) ?_
      cases hf
      exact x_iret C d_M_growth_29 rfl rfl
  · replace hf := it g2 hf
    refine x_iconst (v := 2) C d_M_growth_10 rfl ?_
    refine x_goto C 29 d_M_growth_11 (by decide) ?_
    cases hf
    exact x_iret C d_M_growth_29 rfl rfl
set_option maxHeartbeats 4000000 in
set_option maxRecDepth 100000 in
theorem ct_M_isOf {l : Launch} {D : va_G} {ad : Nat → Nat} {cs : Nat → ClassId} {A : Nat → Prop} (E : Ev ad cs A LM) (F : Nat) (M : Mem) (x1 : Int32) (x2 : Int32) (R : Int32)  (hf : M_isOf F M x1 x2 = some R) : Met l y_M_isOf (Cond.code y_M_isOf b_M_isOf 3 (some .boolean) :: wl) (rmD 0) (PX D ad cs A LM [.ref (ad 100), .int x1, .int x2] M) (QX D ad cs A LM (some (.int R)) M) 0 0 A := by
  refine x_enter (lv := [(0, .ref (ad 100)), (1, .int x1), (2, .int x2)]) E mi_M_isOf.1 (Nat.le_of_ble_eq_true rfl) rfl (fun p e s m args below meth c C => ?_)
  unfold M_isOf at hf
  refine x_aload_n C d_M_isOf_0 0 rfl ?_
  refine xg_M_kinds C wF_M_13 mc_100 kc_100 d_M_isOf_1 ?_
  refine x_iload_n C d_M_isOf_4 1 rfl ?_
  obtain ⟨t1, ht1, hf⟩ := bs hf
  refine x_iald C ht1 mc_102 kc_102 d_M_isOf_5 ?_
  refine x_iload_n C d_M_isOf_6 2 rfl ?_
  refine x_icmp_eq C 40 d_M_isOf_7 (by decide) (fun g2 => ?_) (fun g2 => ?_)
  · replace hf := it g2 hf
    refine x_iconst (v := 1) C d_M_isOf_40 rfl ?_
    refine x_goto C 45 d_M_isOf_41 (by decide) ?_
    cases hf
    exact x_zret C d_M_isOf_45 (Or.inr rfl) rfl rfl
  · replace hf := ie g2 hf
    refine x_iload_n C d_M_isOf_10 2 rfl ?_
    refine x_iconst (v := 1) C d_M_isOf_11 rfl ?_
    refine x_icmp_ne C 25 d_M_isOf_12 (by decide) (fun g3 => ?_) (fun g3 => ?_)
    · replace hf := ie g3 hf
      refine x_iload_n C d_M_isOf_25 2 rfl ?_
      refine x_iconst (v := 3) C d_M_isOf_26 rfl ?_
      refine x_icmp_ne C 44 d_M_isOf_27 (by decide) (fun g4 => ?_) (fun g4 => ?_)
      · replace hf := ie g4 hf
        refine x_iconst (v := 0) C d_M_isOf_44 rfl ?_
        cases hf
        exact x_zret C d_M_isOf_45 (Or.inl rfl) rfl rfl
      · replace hf := it g4 hf
        refine x_aload_n C d_M_isOf_30 0 rfl ?_
        refine xg_M_kinds C wF_M_13 mc_100 kc_100 d_M_isOf_31 ?_
        refine x_iload_n C d_M_isOf_34 1 rfl ?_
        obtain ⟨t5, ht5, hf⟩ := bs hf
        refine x_iald C ht5 mc_102 kc_102 d_M_isOf_35 ?_
        refine x_iconst (v := 5) C d_M_isOf_36 rfl ?_
        refine x_icmp_ne C 44 d_M_isOf_37 (by decide) (fun g6 => ?_) (fun g6 => ?_)
        · replace hf := ie g6 hf
          refine x_iconst (v := 0) C d_M_isOf_44 rfl ?_
          cases hf
          exact x_zret C d_M_isOf_45 (Or.inl rfl) rfl rfl
        · replace hf := it g6 hf
          refine x_iconst (v := 1) C d_M_isOf_40 rfl ?_
          refine x_goto C 45 d_M_isOf_41 (by decide) ?_
          cases hf
          exact x_zret C d_M_isOf_45 (Or.inr rfl) rfl rfl
    · replace hf := it g3 hf
      refine x_aload_n C d_M_isOf_15 0 rfl ?_
      refine xg_M_kinds C wF_M_13 mc_100 kc_100 d_M_isOf_16 ?_
      refine x_iload_n C d_M_isOf_19 1 rfl ?_
      obtain ⟨t7, ht7, hf⟩ := bs hf
      refine x_iald C ht7 mc_102 kc_102 d_M_isOf_20 ?_
      refine x_iconst (v := 4) C d_M_isOf_21 rfl ?_
      refine x_icmp_eq C 40 d_M_isOf_22 (by decide) (fun g8 => ?_) (fun g8 => ?_)
      · replace hf := it g8 hf
        refine x_iconst (v := 1) C d_M_isOf_40 rfl ?_
        refine x_goto C 45 d_M_isOf_41 (by decide) ?_
        cases hf
        exact x_zret C d_M_isOf_45 (Or.inr rfl) rfl rfl
      · replace hf := ie g8 hf
        refine x_iload_n C d_M_isOf_25 2 rfl ?_
        refine x_iconst (v := 3) C d_M_isOf_26 rfl ?_
        refine x_icmp_ne C 44 d_M_isOf_27 (by decide) (fun g9 => ?_) (fun g9 => ?_)
        · replace hf := ie g9 hf
          refine x_iconst (v := 0) C d_M_isOf_44 rfl ?_
          cases hf
          exact x_zret C d_M_isOf_45 (Or.inl rfl) rfl rfl
        · replace hf := it g9 hf
          refine x_aload_n C d_M_isOf_30 0 rfl ?_
          refine xg_M_kinds C wF_M_13 mc_100 kc_100 d_M_isOf_31 ?_
          refine x_iload_n C d_M_isOf_34 1 rfl ?_
          obtain ⟨t10, ht10, hf⟩ := bs hf
          refine x_iald C ht10 mc_102 kc_102 d_M_isOf_35 ?_
          refine x_iconst (v := 5) C d_M_isOf_36 rfl ?_
          refine x_icmp_ne C 44 d_M_isOf_37 (by decide) (fun g11 => ?_) (fun g11 => ?_)
          · replace hf := ie g11 hf
            refine x_iconst (v := 0) C d_M_isOf_44 rfl ?_
            cases hf
            exact x_zret C d_M_isOf_45 (Or.inl rfl) rfl rfl
          · replace hf := it g11 hf
            refine x_iconst (v := 1) C d_M_isOf_40 rfl ?_
            refine x_goto C 45 d_M_isOf_41 (by decide) ?_
            cases hf
            exact x_zret C d_M_isOf_45 (Or.inr rfl) rfl rfl
set_option maxHeartbeats 4000000 in
set_option maxRecDepth 100000 in
theorem lw_M_isOpenBetween_5 {p : Program} {l : Launch} {e : Env} {s : State} {m : MethodId} {args : Array Value} {below : List Frame} {meth : Method} {c : Code} {D : va_G} {ad : Nat → Nat} {cs : Nat → ClassId} {A : Nat → Prop} {V : Option Value} {N : Mem} (E : Ev ad cs A LM) (C : Cx p s m args meth c "KissClearingModel" b_M_isOpenBetween 5 (some .boolean) D ad cs A LM) (F : Nat) (M : Mem) (x1 : Int32) (x2 : Int32) : ∀ (n : Nat) (x3 : Int32) (x4 : Int32) (u : Int32), L_M_isOpenBetween_5 F M x1 x2 n x3 x4 = some u → X p l e 2 s m args below meth c 5 D ad cs A LM V N M 63 [(3, .int u)] [] → X p l e 2 s m args below meth c 5 D ad cs A LM V N M 5 [(0, .ref (ad 100)), (1, .int x1), (2, .int x2), (3, .int x3), (4, .int x4)] [] := by
  intro n
  induction n with
  | zero => intro x3 x4 u hf; cases hf
  | succ n ih =>
    intro x3 x4 u hf K
    replace hf : B_M_isOpenBetween_5 F M x1 x2 (L_M_isOpenBetween_5 F M x1 x2 n) x3 x4 = some u := hf
    unfold B_M_isOpenBetween_5 at hf
    refine x_iload C d_M_isOpenBetween_5 4 rfl ?_
    refine x_aload_n C d_M_isOpenBetween_7 0 rfl ?_
    refine xg_M_row C wF_M_7 mc_100 kc_100 d_M_isOpenBetween_8 ?_
    refine x_iconst (v := 1) C d_M_isOpenBetween_11 rfl ?_
    refine x_iald C (ac_101_1 M) mc_101 kc_101 d_M_isOpenBetween_12 ?_
    refine x_icmp_ge C 63 d_M_isOpenBetween_13 (by decide) (fun g1 => ?_) (fun g1 => ?_)
    · replace hf := it g1 hf
      cases hf
      exact x_sub [3] rfl K
    · replace hf := ie g1 hf
      refine x_iload_n C d_M_isOpenBetween_16 3 rfl ?_
      refine x_if_ne C 51 d_M_isOpenBetween_17 (by decide) (fun g2 => ?_) (fun g2 => ?_)
      · replace hf := ie g2 hf
        refine x_iconst (v := 1) C d_M_isOpenBetween_51 rfl ?_
        refine x_goto C 56 d_M_isOpenBetween_52 (by decide) ?_
        refine x_istore_n (lv' := [(3, .int 1), (0, .ref (ad 100)), (1, .int x1), (2, .int x2), (4, .int x4)]) C d_M_isOpenBetween_56 (by decide) rfl ?_
        refine x_iinc (v := (x4 + 1)) (lv' := [(4, .int (x4 + 1)), (3, .int 1), (0, .ref (ad 100)), (1, .int x1), (2, .int x2)]) C d_M_isOpenBetween_57 4 rfl rfl (by decide) rfl ?_
        refine x_goto C 5 d_M_isOpenBetween_60 (by decide) ?_
        refine x_sub [2, 3, 4, 1, 0] rfl ?_
        exact ih _ _ _ hf K
      · replace hf := it g2 hf
        refine x_aload_n C d_M_isOpenBetween_20 0 rfl ?_
        refine x_iload C d_M_isOpenBetween_21 4 rfl ?_
        obtain ⟨c3, hc3, hf⟩ := bs hf
        refine x_callV (rest := []) (n := 1) C (ct_M_isOpen E F _ _ _  hc3) mi_M_isOpen (by decide) mc_100 ⟨_, cel_M kc_100⟩ rfl rfl wL_M_156 d_M_isOpenBetween_23 rfl rfl (Nat.le_of_ble_eq_true rfl) ?_
        show X _ _ _ _ _ _ _ _ _ _ _ _ _ _ _ _ _ _ _ _ _ [.int c3]
        refine x_if_eq C 55 d_M_isOpenBetween_26 (by decide) (fun g4 => ?_) (fun g4 => ?_)
        · replace hf := it g4 hf
          refine x_iconst (v := 0) C d_M_isOpenBetween_55 rfl ?_
          refine x_istore_n (lv' := [(3, .int 0), (0, .ref (ad 100)), (1, .int x1), (2, .int x2), (4, .int x4)]) C d_M_isOpenBetween_56 (by decide) rfl ?_
          refine x_iinc (v := (x4 + 1)) (lv' := [(4, .int (x4 + 1)), (3, .int 0), (0, .ref (ad 100)), (1, .int x1), (2, .int x2)]) C d_M_isOpenBetween_57 4 rfl rfl (by decide) rfl ?_
          refine x_goto C 5 d_M_isOpenBetween_60 (by decide) ?_
          refine x_sub [2, 3, 4, 1, 0] rfl ?_
          exact ih _ _ _ hf K
        · replace hf := ie g4 hf
          refine x_aload_n C d_M_isOpenBetween_29 0 rfl ?_
          refine x_iload C d_M_isOpenBetween_30 4 rfl ?_
          refine x_iload_n C d_M_isOpenBetween_32 1 rfl ?_
          refine x_iload_n C d_M_isOpenBetween_33 2 rfl ?_
          obtain ⟨c5, hc5, hf⟩ := bs hf
          refine x_callV (rest := []) (n := 3) C (ct_M_isOn E F _ _ _ _ _  hc5) mi_M_isOn (by decide) mc_100 ⟨_, cel_M kc_100⟩ rfl rfl wL_M_213 d_M_isOpenBetween_34 rfl rfl (Nat.le_of_ble_eq_true rfl) ?_
          show X _ _ _ _ _ _ _ _ _ _ _ _ _ _ _ _ _ _ _ _ _ [.int c5]
          refine x_if_ne C 51 d_M_isOpenBetween_37 (by decide) (fun g6 => ?_) (fun g6 => ?_)
          · replace hf := ie g6 hf
            refine x_iconst (v := 1) C d_M_isOpenBetween_51 rfl ?_
            refine x_goto C 56 d_M_isOpenBetween_52 (by decide) ?_
            refine x_istore_n (lv' := [(3, .int 1), (0, .ref (ad 100)), (1, .int x1), (2, .int x2), (4, .int x4)]) C d_M_isOpenBetween_56 (by decide) rfl ?_
            refine x_iinc (v := (x4 + 1)) (lv' := [(4, .int (x4 + 1)), (3, .int 1), (0, .ref (ad 100)), (1, .int x1), (2, .int x2)]) C d_M_isOpenBetween_57 4 rfl rfl (by decide) rfl ?_
            refine x_goto C 5 d_M_isOpenBetween_60 (by decide) ?_
            refine x_sub [2, 3, 4, 1, 0] rfl ?_
            exact ih _ _ _ hf K
          · replace hf := it g6 hf
            refine x_aload_n C d_M_isOpenBetween_40 0 rfl ?_
            refine x_iload C d_M_isOpenBetween_41 4 rfl ?_
            refine x_iload_n C d_M_isOpenBetween_43 2 rfl ?_
            refine x_iload_n C d_M_isOpenBetween_44 1 rfl ?_
            obtain ⟨c7, hc7, hf⟩ := bs hf
            refine x_callV (rest := []) (n := 3) C (ct_M_isOn E F _ _ _ _ _  hc7) mi_M_isOn (by decide) mc_100 ⟨_, cel_M kc_100⟩ rfl rfl wL_M_213 d_M_isOpenBetween_45 rfl rfl (Nat.le_of_ble_eq_true rfl) ?_
            show X _ _ _ _ _ _ _ _ _ _ _ _ _ _ _ _ _ _ _ _ _ [.int c7]
            refine x_if_eq C 55 d_M_isOpenBetween_48 (by decide) (fun g8 => ?_) (fun g8 => ?_)
            · replace hf := it g8 hf
              refine x_iconst (v := 0) C d_M_isOpenBetween_55 rfl ?_
              refine x_istore_n (lv' := [(3, .int 0), (0, .ref (ad 100)), (1, .int x1), (2, .int x2), (4, .int x4)]) C d_M_isOpenBetween_56 (by decide) rfl ?_
              refine x_iinc (v := (x4 + 1)) (lv' := [(4, .int (x4 + 1)), (3, .int 0), (0, .ref (ad 100)), (1, .int x1), (2, .int x2)]) C d_M_isOpenBetween_57 4 rfl rfl (by decide) rfl ?_
              refine x_goto C 5 d_M_isOpenBetween_60 (by decide) ?_
              refine x_sub [2, 3, 4, 1, 0] rfl ?_
              exact ih _ _ _ hf K
            · replace hf := ie g8 hf
              refine x_iconst (v := 1) C d_M_isOpenBetween_51 rfl ?_
              refine x_goto C 56 d_M_isOpenBetween_52 (by decide) ?_
              refine x_istore_n (lv' := [(3, .int 1), (0, .ref (ad 100)), (1, .int x1), (2, .int x2), (4, .int x4)]) C d_M_isOpenBetween_56 (by decide) rfl ?_
              refine x_iinc (v := (x4 + 1)) (lv' := [(4, .int (x4 + 1)), (3, .int 1), (0, .ref (ad 100)), (1, .int x1), (2, .int x2)]) C d_M_isOpenBetween_57 4 rfl rfl (by decide) rfl ?_
              refine x_goto C 5 d_M_isOpenBetween_60 (by decide) ?_
              refine x_sub [2, 3, 4, 1, 0] rfl ?_
              exact ih _ _ _ hf K
set_option maxHeartbeats 4000000 in
set_option maxRecDepth 100000 in
theorem ct_M_isOpenBetween {l : Launch} {D : va_G} {ad : Nat → Nat} {cs : Nat → ClassId} {A : Nat → Prop} (E : Ev ad cs A LM) (F : Nat) (M : Mem) (x1 : Int32) (x2 : Int32) (R : Int32)  (hf : M_isOpenBetween F M x1 x2 = some R) : Met l y_M_isOpenBetween (Cond.code y_M_isOpenBetween b_M_isOpenBetween 5 (some .boolean) :: wl) (rmD 2) (PX D ad cs A LM [.ref (ad 100), .int x1, .int x2] M) (QX D ad cs A LM (some (.int R)) M) 0 0 A := by
  refine x_enter (lv := [(0, .ref (ad 100)), (1, .int x1), (2, .int x2)]) E mi_M_isOpenBetween.1 (Nat.le_of_ble_eq_true rfl) rfl (fun p e s m args below meth c C => ?_)
  unfold M_isOpenBetween at hf
  refine x_iconst (v := 0) C d_M_isOpenBetween_0 rfl ?_
  refine x_istore_n (lv' := [(3, .int 0), (0, .ref (ad 100)), (1, .int x1), (2, .int x2)]) C d_M_isOpenBetween_1 (by decide) rfl ?_
  refine x_iconst (v := 0) C d_M_isOpenBetween_2 rfl ?_
  refine x_istore (lv' := [(4, .int 0), (3, .int 0), (0, .ref (ad 100)), (1, .int x1), (2, .int x2)]) C d_M_isOpenBetween_3 (by decide) rfl ?_
  obtain ⟨u9, hu9, hf⟩ := bs hf
  refine x_sub [2, 3, 4, 1, 0] rfl ?_
  refine lw_M_isOpenBetween_5 E C F _ _ _ _ _ _ _ hu9 ?_
  refine x_iload_n C d_M_isOpenBetween_63 0 rfl ?_
  obtain ⟨t10, ht10, hf⟩ := bs hf
  obtain ⟨hb, hq⟩ := gd ht10
  cases hf
  exact x_zret C d_M_isOpenBetween_64 hb (congrArg (fun z => some (Value.int z)) hq) rfl
set_option maxHeartbeats 4000000 in
set_option maxRecDepth 100000 in
theorem ct_M_keep {l : Launch} {D : va_G} {ad : Nat → Nat} {cs : Nat → ClassId} {A : Nat → Prop} (E : Ev ad cs A LM) (F : Nat) (M : Mem) (x1 : Int32) (R : (Int32 × Mem))  (hf : M_keep F M x1 = some R) : Met l y_M_keep (Cond.code y_M_keep b_M_keep 2 (some .int) :: wl) (rmD 1) (PX D ad cs A LM [.ref (ad 100), .int x1] M) (QX D ad cs A LM (some (.int R.1)) R.2) 0 0 A := by
  refine x_enter (lv := [(0, .ref (ad 100)), (1, .int x1)]) E mi_M_keep.1 (Nat.le_of_ble_eq_true rfl) rfl (fun p e s m args below meth c C => ?_)
  unfold M_keep at hf
  refine x_iload_n C d_M_keep_0 1 rfl ?_
  refine x_i2l C d_M_keep_1 ?_
  refine x_lconst (v := 0) C d_M_keep_2 rfl ?_
  refine x_ldc2 C wJ_M_203 d_M_keep_3 ?_
  obtain ⟨c1, hc1, hf⟩ := bs hf
  refine x_callS (rest := []) (n := 3) C (ct_M_in E F _ _ _ _ _  hc1) mi_M_in (by decide) wL_M_65 d_M_keep_6 rfl rfl (Nat.le_of_ble_eq_true rfl) ?_
  show X _ _ _ _ _ _ _ _ _ _ _ _ _ _ _ _ _ _ _ _ _ [.int c1]
  refine x_if_ne C 14 d_M_keep_9 (by decide) (fun g2 => ?_) (fun g2 => ?_)
  · replace hf := ie g2 hf
    refine x_aload_n C d_M_keep_14 0 rfl ?_
    refine xg_M_persons C wF_M_136 mc_100 kc_100 d_M_keep_15 ?_
    refine x_if_ne C 24 d_M_keep_18 (by decide) (fun g3 => ?_) (fun g3 => ?_)
    · replace hf := ie g3 hf
      refine x_aload_n C d_M_keep_24 0 rfl ?_
      refine x_iconst (v := 0) C d_M_keep_25 rfl ?_
      refine x_sipush (v := 2994) C d_M_keep_26 rfl ?_
      refine x_iconst (v := 1) C d_M_keep_29 rfl ?_
      refine x_iload_n C d_M_keep_30 1 rfl ?_
      refine x_iadd C d_M_keep_31 ?_
      refine x_imul C d_M_keep_32 ?_
      obtain ⟨c4, hc4, hf⟩ := bs hf
      refine x_callV (rest := []) (n := 2) C (ct_M_copyVillage E F _ _ _ _  hc4) mi_M_copyVillage (by decide) mc_100 ⟨_, cel_M kc_100⟩ rfl rfl wL_M_240 d_M_keep_33 rfl rfl (Nat.le_of_ble_eq_true rfl) ?_
      show X _ _ _ _ _ _ _ _ _ _ _ _ _ _ _ _ _ _ _ _ _ []
      refine x_aload_n C d_M_keep_36 0 rfl ?_
      refine xg_M_row C wF_M_7 mc_100 kc_100 d_M_keep_37 ?_
      refine x_iconst (v := 0) C d_M_keep_40 rfl ?_
      refine x_iald C (ac_101_0 c4) mc_101 kc_101 d_M_keep_41 ?_
      cases hf
      exact x_iret C d_M_keep_42 rfl rfl
    · replace hf := it g3 hf
      refine x_bipush (v := (-4)) C d_M_keep_21 rfl ?_
      cases hf
      exact x_iret C d_M_keep_23 rfl rfl
  · replace hf := it g2 hf
    refine x_iconst (v := (-1)) C d_M_keep_12 rfl ?_
    cases hf
    exact x_iret C d_M_keep_13 rfl rfl
set_option maxHeartbeats 4000000 in
set_option maxRecDepth 100000 in
theorem ct_M_lay {l : Launch} {D : va_G} {ad : Nat → Nat} {cs : Nat → ClassId} {A : Nat → Prop} (E : Ev ad cs A LM) (F : Nat) (M : Mem) (x1 : Int32) (x2 : Int32) (x3 : Int32) (R : (Int32 × Mem))  (hf : M_lay F M x1 x2 x3 = some R) : Met l y_M_lay (Cond.code y_M_lay b_M_lay 6 (some .int) :: wl) (rmD 3) (PX D ad cs A LM [.ref (ad 100), .int x1, .int x2, .int x3] M) (QX D ad cs A LM (some (.int R.1)) R.2) 0 0 A := by
  refine x_enter (lv := [(0, .ref (ad 100)), (1, .int x1), (2, .int x2), (3, .int x3)]) E mi_M_lay.1 (Nat.le_of_ble_eq_true rfl) rfl (fun p e s m args below meth c C => ?_)
  unfold M_lay at hf
  refine x_aload_n C d_M_lay_0 0 rfl ?_
  refine x_iload_n C d_M_lay_1 1 rfl ?_
  refine x_iload_n C d_M_lay_2 2 rfl ?_
  obtain ⟨c1, hc1, hf⟩ := bs hf
  refine x_callV (rest := []) (n := 2) C (ct_M_refused E F _ _ _ _  hc1) mi_M_refused (by decide) mc_100 ⟨_, cel_M kc_100⟩ rfl rfl wL_M_83 d_M_lay_3 rfl rfl (Nat.le_of_ble_eq_true rfl) ?_
  show X _ _ _ _ _ _ _ _ _ _ _ _ _ _ _ _ _ _ _ _ _ [.int c1.1]
  refine x_istore (lv' := [(4, .int c1.1), (0, .ref (ad 100)), (1, .int x1), (2, .int x2), (3, .int x3)]) C d_M_lay_6 (by decide) rfl ?_
  refine x_iload C d_M_lay_8 0 rfl ?_
  refine x_if_eq C 16 d_M_lay_10 (by decide) (fun g2 => ?_) (fun g2 => ?_)
  · replace hf := it g2 hf
    refine x_aload_n C d_M_lay_16 1 rfl ?_
    refine xg_M_items C wF_M_19 mc_100 kc_100 d_M_lay_17 ?_
    refine x_bipush (v := 40) C d_M_lay_20 rfl ?_
    refine x_iload_n C d_M_lay_22 2 rfl ?_
    refine x_imul C d_M_lay_23 ?_
    refine x_iload_n C d_M_lay_24 3 rfl ?_
    refine x_iadd C d_M_lay_25 ?_
    obtain ⟨t3, ht3, hf⟩ := bs hf
    refine x_iald C ht3 mc_104 kc_104 d_M_lay_26 ?_
    refine x_istore (lv' := [(5, .int t3), (4, .int c1.1), (0, .ref (ad 100)), (1, .int x1), (2, .int x2), (3, .int x3)]) C d_M_lay_27 (by decide) rfl ?_
    refine x_aload_n C d_M_lay_29 2 rfl ?_
    refine xg_M_items C wF_M_19 mc_100 kc_100 d_M_lay_30 ?_
    refine x_bipush (v := 40) C d_M_lay_33 rfl ?_
    refine x_iload_n C d_M_lay_35 3 rfl ?_
    refine x_imul C d_M_lay_36 ?_
    refine x_iload_n C d_M_lay_37 4 rfl ?_
    refine x_iadd C d_M_lay_38 ?_
    refine x_iload_n C d_M_lay_39 5 rfl ?_
    obtain ⟨M4, hM4, hf⟩ := bs hf
    refine x_iast C hM4 mc_104 kc_104 d_M_lay_40 ?_
    refine x_aload_n C d_M_lay_41 2 rfl ?_
    refine x_iload C d_M_lay_42 0 rfl ?_
    obtain ⟨c5, hc5, hf⟩ := bs hf
    refine x_callV (rest := []) (n := 1) C (ct_M_tell E F _ _ _  hc5) mi_M_tell (by decide) mc_100 ⟨_, cel_M kc_100⟩ rfl rfl wL_M_87 d_M_lay_44 rfl rfl (Nat.le_of_ble_eq_true rfl) ?_
    show X _ _ _ _ _ _ _ _ _ _ _ _ _ _ _ _ _ _ _ _ _ [.int c5.1]
    cases hf
    exact x_iret C d_M_lay_47 rfl rfl
  · replace hf := ie g2 hf
    refine x_iload C d_M_lay_13 0 rfl ?_
    cases hf
    exact x_iret C d_M_lay_15 rfl rfl
set_option maxHeartbeats 4000000 in
set_option maxRecDepth 100000 in
theorem lw_M_layBest_56 {p : Program} {l : Launch} {e : Env} {s : State} {m : MethodId} {args : Array Value} {below : List Frame} {meth : Method} {c : Code} {D : va_G} {ad : Nat → Nat} {cs : Nat → ClassId} {A : Nat → Prop} {V : Option Value} {N : Mem} (E : Ev ad cs A LM) (C : Cx p s m args meth c "KissClearingModel" b_M_layBest 4 (some .boolean) D ad cs A LM) (F : Nat) (x1 : Int32) : ∀ (n : Nat) (M : Mem) (x3 : Int32) (u : Mem), L_M_layBest_56 F x1 n M x3 = some u → X p l e 4 s m args below meth c 4 D ad cs A LM V N u 82 [(0, .ref (ad 100)), (1, .int x1)] [] → X p l e 4 s m args below meth c 4 D ad cs A LM V N M 56 [(0, .ref (ad 100)), (1, .int x1), (3, .int x3)] [] := by
  intro n
  induction n with
  | zero => intro M x3 u hf; cases hf
  | succ n ih =>
    intro M x3 u hf K
    replace hf : B_M_layBest_56 F x1 (L_M_layBest_56 F x1 n) M x3 = some u := hf
    unfold B_M_layBest_56 at hf
    refine x_iload_n C d_M_layBest_56 2 rfl ?_
    refine x_aload_n C d_M_layBest_57 0 rfl ?_
    refine xg_M_chainMany C wF_M_243 mc_100 kc_100 d_M_layBest_58 ?_
    refine x_icmp_ge C 82 d_M_layBest_61 (by decide) (fun g5 => ?_) (fun g5 => ?_)
    · replace hf := it g5 hf
      cases hf
      exact x_sub [0, 1] rfl K
    · replace hf := ie g5 hf
      refine x_aload_n C d_M_layBest_64 0 rfl ?_
      refine xg_M_best C wF_M_47 mc_100 kc_100 d_M_layBest_65 ?_
      refine x_iload_n C d_M_layBest_68 2 rfl ?_
      refine x_aload_n C d_M_layBest_69 0 rfl ?_
      refine xg_M_chain C wF_M_44 mc_100 kc_100 d_M_layBest_70 ?_
      refine x_iload_n C d_M_layBest_73 2 rfl ?_
      obtain ⟨t6, ht6, hf⟩ := bs hf
      refine x_iald C ht6 mc_111 kc_111 d_M_layBest_74 ?_
      obtain ⟨M7, hM7, hf⟩ := bs hf
      refine x_iast C hM7 mc_112 kc_112 d_M_layBest_75 ?_
      refine x_iinc (v := (x3 + 1)) (lv' := [(3, .int (x3 + 1)), (0, .ref (ad 100)), (1, .int x1)]) C d_M_layBest_76 2 rfl rfl (by decide) rfl ?_
      refine x_goto C 56 d_M_layBest_79 (by decide) ?_
      refine x_sub [1, 2, 0] rfl ?_
      exact ih _ _ _ hf K
set_option maxHeartbeats 4000000 in
set_option maxRecDepth 100000 in
theorem lw_M_layBest_12 {p : Program} {l : Launch} {e : Env} {s : State} {m : MethodId} {args : Array Value} {below : List Frame} {meth : Method} {c : Code} {D : va_G} {ad : Nat → Nat} {cs : Nat → ClassId} {A : Nat → Prop} {V : Option Value} {N : Mem} (E : Ev ad cs A LM) (C : Cx p s m args meth c "KissClearingModel" b_M_layBest 4 (some .boolean) D ad cs A LM) (F : Nat)  : ∀ (n : Nat) (M : Mem) (x1 : Int32) (u : Mem), L_M_layBest_12 F n M x1 = some u → X p l e 4 s m args below meth c 4 D ad cs A LM V N u 85 [(0, .ref (ad 100))] [] → X p l e 4 s m args below meth c 4 D ad cs A LM V N M 12 [(0, .ref (ad 100)), (1, .int x1)] [] := by
  intro n
  induction n with
  | zero => intro M x1 u hf; cases hf
  | succ n ih =>
    intro M x1 u hf K
    replace hf : B_M_layBest_12 F (L_M_layBest_12 F n) M x1 = some u := hf
    unfold B_M_layBest_12 at hf
    refine x_aload_n C d_M_layBest_12 0 rfl ?_
    obtain ⟨c1, hc1, hf⟩ := bs hf
    refine x_callV (rest := []) (n := 0) C (ct_M_nextRing E F _ _  hc1) mi_M_nextRing (by decide) mc_100 ⟨_, cel_M kc_100⟩ rfl rfl wL_M_259 d_M_layBest_13 rfl rfl (Nat.le_of_ble_eq_true rfl) ?_
    show X _ _ _ _ _ _ _ _ _ _ _ _ _ _ _ _ _ _ _ _ _ [.int c1.1]
    refine x_if_eq C 85 d_M_layBest_16 (by decide) (fun g2 => ?_) (fun g2 => ?_)
    · replace hf := it g2 hf
      cases hf
      exact x_sub [0] rfl K
    · replace hf := ie g2 hf
      refine x_aload_n C d_M_layBest_19 0 rfl ?_
      obtain ⟨c3, hc3, hf⟩ := bs hf
      refine x_callV (rest := []) (n := 0) C (ct_M_leastOfRing E F _ _  hc3) mi_M_leastOfRing (by decide) mc_100 ⟨_, cel_M kc_100⟩ rfl rfl wL_M_262 d_M_layBest_20 rfl rfl (Nat.le_of_ble_eq_true rfl) ?_
      show X _ _ _ _ _ _ _ _ _ _ _ _ _ _ _ _ _ _ _ _ _ [.int c3]
      refine x_istore_n (lv' := [(2, .int c3), (0, .ref (ad 100)), (1, .int x1)]) C d_M_layBest_23 (by decide) rfl ?_
      refine x_iload_n C d_M_layBest_24 0 rfl ?_
      refine x_aload_n C d_M_layBest_25 1 rfl ?_
      refine xg_M_chainMany C wF_M_243 mc_100 kc_100 d_M_layBest_26 ?_
      refine x_imul C d_M_layBest_29 ?_
      refine x_iload_n C d_M_layBest_30 2 rfl ?_
      refine x_icmp_le C 82 d_M_layBest_31 (by decide) (fun g4 => ?_) (fun g4 => ?_)
      · replace hf := it g4 hf
        refine x_goto C 12 d_M_layBest_82 (by decide) ?_
        refine x_sub [1, 2] rfl ?_
        exact ih _ _ _ hf K
      · replace hf := ie g4 hf
        refine x_iload_n C d_M_layBest_34 0 rfl ?_
        refine x_aload_n C d_M_layBest_35 1 rfl ?_
        refine xg_M_chainMany C wF_M_243 mc_100 kc_100 d_M_layBest_36 ?_
        refine x_imul C d_M_layBest_39 ?_
        refine x_istore_n (lv' := [(1, .int (c3 * (c1.2 100 21))), (2, .int c3), (0, .ref (ad 100))]) C d_M_layBest_40 (by decide) rfl ?_
        refine x_aload_n C d_M_layBest_41 2 rfl ?_
        refine x_aload_n C d_M_layBest_42 2 rfl ?_
        refine xg_M_chainMany C wF_M_243 mc_100 kc_100 d_M_layBest_43 ?_
        refine xp_M_bestMany (x := (c1.2 100 21)) C wF_M_265 mc_100 kc_100 d_M_layBest_46 ?_
        refine x_aload_n C d_M_layBest_49 2 rfl ?_
        refine x_iload_n C d_M_layBest_50 1 rfl ?_
        refine xp_M_bestBy (x := c3) C wF_M_268 mc_100 kc_100 d_M_layBest_51 ?_
        refine x_iconst (v := 0) C d_M_layBest_54 rfl ?_
        refine x_istore_n (lv' := [(3, .int 0), (1, .int (c3 * (c1.2 100 21))), (2, .int c3), (0, .ref (ad 100))]) C d_M_layBest_55 (by decide) rfl ?_
        obtain ⟨u8, hu8, hf⟩ := bs hf
        refine x_sub [3, 1, 0] rfl ?_
        refine lw_M_layBest_56 E C F _ _ _ _ _ hu8 ?_
        refine x_goto C 12 d_M_layBest_82 (by decide) ?_
        refine x_sub [0, 1] rfl ?_
        exact ih _ _ _ hf K
set_option maxHeartbeats 4000000 in
set_option maxRecDepth 100000 in
theorem ct_M_layBest {l : Launch} {D : va_G} {ad : Nat → Nat} {cs : Nat → ClassId} {A : Nat → Prop} (E : Ev ad cs A LM) (F : Nat) (M : Mem)  (R : (Int32 × Mem))  (hf : M_layBest F M = some R) : Met l y_M_layBest (Cond.code y_M_layBest b_M_layBest 4 (some .boolean) :: wl) (rmD 4) (PX D ad cs A LM [.ref (ad 100)] M) (QX D ad cs A LM (some (.int R.1)) R.2) 0 0 A := by
  refine x_enter (lv := [(0, .ref (ad 100))]) E mi_M_layBest.1 (Nat.le_of_ble_eq_true rfl) rfl (fun p e s m args below meth c C => ?_)
  unfold M_layBest at hf
  refine x_iconst (v := 0) C d_M_layBest_0 rfl ?_
  refine x_istore_n (lv' := [(1, .int 0), (0, .ref (ad 100))]) C d_M_layBest_1 (by decide) rfl ?_
  refine x_aload_n C d_M_layBest_2 1 rfl ?_
  refine x_iconst (v := 0) C d_M_layBest_3 rfl ?_
  refine xp_M_bestMany (x := 0) C wF_M_265 mc_100 kc_100 d_M_layBest_4 ?_
  refine x_aload_n C d_M_layBest_7 1 rfl ?_
  refine x_iconst (v := 0) C d_M_layBest_8 rfl ?_
  refine xp_M_chainMany (x := 0) C wF_M_243 mc_100 kc_100 d_M_layBest_9 ?_
  obtain ⟨u9, hu9, hf⟩ := bs hf
  refine x_sub [1, 0] rfl ?_
  refine lw_M_layBest_12 E C F _ _ _ _ hu9 ?_
  refine x_aload_n C d_M_layBest_85 0 rfl ?_
  refine xg_M_bestMany C wF_M_265 mc_100 kc_100 d_M_layBest_86 ?_
  refine x_if_le C 96 d_M_layBest_89 (by decide) (fun g10 => ?_) (fun g10 => ?_)
  · replace hf := it g10 hf
    refine x_iconst (v := 0) C d_M_layBest_96 rfl ?_
    cases hf
    exact x_zret C d_M_layBest_97 (Or.inl rfl) rfl rfl
  · replace hf := ie g10 hf
    refine x_iconst (v := 1) C d_M_layBest_92 rfl ?_
    refine x_goto C 97 d_M_layBest_93 (by decide) ?_
    cases hf
    exact x_zret C d_M_layBest_97 (Or.inr rfl) rfl rfl
set_option maxHeartbeats 4000000 in
set_option maxRecDepth 100000 in
theorem lw_M_layPairs_19 {p : Program} {l : Launch} {e : Env} {s : State} {m : MethodId} {args : Array Value} {below : List Frame} {meth : Method} {c : Code} {D : va_G} {ad : Nat → Nat} {cs : Nat → ClassId} {A : Nat → Prop} {V : Option Value} {N : Mem} (E : Ev ad cs A LM) (C : Cx p s m args meth c "KissClearingModel" b_M_layPairs 3 none D ad cs A LM) (F : Nat) (x1 : Int32) : ∀ (n : Nat) (M : Mem) (x2 : Int32) (u : Mem), L_M_layPairs_19 F x1 n M x2 = some u → X p l e 3 s m args below meth c 3 D ad cs A LM V N u 78 [(0, .ref (ad 100)), (1, .int x1)] [] → X p l e 3 s m args below meth c 3 D ad cs A LM V N M 19 [(0, .ref (ad 100)), (1, .int x1), (2, .int x2)] [] := by
  intro n
  induction n with
  | zero => intro M x2 u hf; cases hf
  | succ n ih =>
    intro M x2 u hf K
    replace hf : B_M_layPairs_19 F x1 (L_M_layPairs_19 F x1 n) M x2 = some u := hf
    unfold B_M_layPairs_19 at hf
    refine x_iload_n C d_M_layPairs_19 2 rfl ?_
    refine x_aload_n C d_M_layPairs_20 0 rfl ?_
    refine xg_M_persons C wF_M_136 mc_100 kc_100 d_M_layPairs_21 ?_
    refine x_icmp_ge C 78 d_M_layPairs_24 (by decide) (fun g2 => ?_) (fun g2 => ?_)
    · replace hf := it g2 hf
      cases hf
      exact x_sub [0, 1] rfl K
    · replace hf := ie g2 hf
      refine x_aload_n C d_M_layPairs_27 0 rfl ?_
      refine x_iload_n C d_M_layPairs_28 1 rfl ?_
      refine x_iload_n C d_M_layPairs_29 2 rfl ?_
      obtain ⟨c3, hc3, hf⟩ := bs hf
      refine x_callV (rest := []) (n := 2) C (ct_M_isOpenBetween E F _ _ _ _  hc3) mi_M_isOpenBetween (by decide) mc_100 ⟨_, cel_M kc_100⟩ rfl rfl wL_M_280 d_M_layPairs_30 rfl rfl (Nat.le_of_ble_eq_true rfl) ?_
      show X _ _ _ _ _ _ _ _ _ _ _ _ _ _ _ _ _ _ _ _ _ [.int c3]
      refine x_if_eq C 72 d_M_layPairs_33 (by decide) (fun g4 => ?_) (fun g4 => ?_)
      · replace hf := it g4 hf
        refine x_iinc (v := (x2 + 1)) (lv' := [(2, .int (x2 + 1)), (0, .ref (ad 100)), (1, .int x1)]) C d_M_layPairs_72 2 rfl rfl (by decide) rfl ?_
        refine x_goto C 19 d_M_layPairs_75 (by decide) ?_
        refine x_sub [1, 2, 0] rfl ?_
        exact ih _ _ _ hf K
      · replace hf := ie g4 hf
        refine x_aload_n C d_M_layPairs_36 0 rfl ?_
        refine xg_M_met C wF_M_50 mc_100 kc_100 d_M_layPairs_37 ?_
        refine x_iconst (v := 2) C d_M_layPairs_40 rfl ?_
        refine x_aload_n C d_M_layPairs_41 0 rfl ?_
        refine xg_M_metMany C wF_M_277 mc_100 kc_100 d_M_layPairs_42 ?_
        refine x_imul C d_M_layPairs_45 ?_
        refine x_iload_n C d_M_layPairs_46 1 rfl ?_
        obtain ⟨M5, hM5, hf⟩ := bs hf
        refine x_iast C hM5 mc_113 kc_113 d_M_layPairs_47 ?_
        refine x_aload_n C d_M_layPairs_48 0 rfl ?_
        refine xg_M_met C wF_M_50 mc_100 kc_100 d_M_layPairs_49 ?_
        refine x_iconst (v := 2) C d_M_layPairs_52 rfl ?_
        refine x_aload_n C d_M_layPairs_53 0 rfl ?_
        refine xg_M_metMany C wF_M_277 mc_100 kc_100 d_M_layPairs_54 ?_
        refine x_imul C d_M_layPairs_57 ?_
        refine x_iconst (v := 1) C d_M_layPairs_58 rfl ?_
        refine x_iadd C d_M_layPairs_59 ?_
        refine x_iload_n C d_M_layPairs_60 2 rfl ?_
        obtain ⟨M6, hM6, hf⟩ := bs hf
        refine x_iast C hM6 mc_113 kc_113 d_M_layPairs_61 ?_
        refine x_aload_n C d_M_layPairs_62 0 rfl ?_
        refine x_dup C d_M_layPairs_63 rfl ?_
        refine xg_M_metMany C wF_M_277 mc_100 kc_100 d_M_layPairs_64 ?_
        refine x_iconst (v := 1) C d_M_layPairs_67 rfl ?_
        refine x_iadd C d_M_layPairs_68 ?_
        refine xp_M_metMany (x := ((M6 100 26) + 1)) C wF_M_277 mc_100 kc_100 d_M_layPairs_69 ?_
        refine x_iinc (v := (x2 + 1)) (lv' := [(2, .int (x2 + 1)), (0, .ref (ad 100)), (1, .int x1)]) C d_M_layPairs_72 2 rfl rfl (by decide) rfl ?_
        refine x_goto C 19 d_M_layPairs_75 (by decide) ?_
        refine x_sub [1, 2, 0] rfl ?_
        exact ih _ _ _ hf K
set_option maxHeartbeats 4000000 in
set_option maxRecDepth 100000 in
theorem lw_M_layPairs_7 {p : Program} {l : Launch} {e : Env} {s : State} {m : MethodId} {args : Array Value} {below : List Frame} {meth : Method} {c : Code} {D : va_G} {ad : Nat → Nat} {cs : Nat → ClassId} {A : Nat → Prop} {V : Option Value} {N : Mem} (E : Ev ad cs A LM) (C : Cx p s m args meth c "KissClearingModel" b_M_layPairs 3 none D ad cs A LM) (F : Nat)  : ∀ (n : Nat) (M : Mem) (x1 : Int32) (u : Mem), L_M_layPairs_7 F n M x1 = some u → X p l e 3 s m args below meth c 3 D ad cs A LM V N u 84 [] [] → X p l e 3 s m args below meth c 3 D ad cs A LM V N M 7 [(0, .ref (ad 100)), (1, .int x1)] [] := by
  intro n
  induction n with
  | zero => intro M x1 u hf; cases hf
  | succ n ih =>
    intro M x1 u hf K
    replace hf : B_M_layPairs_7 F (L_M_layPairs_7 F n) M x1 = some u := hf
    unfold B_M_layPairs_7 at hf
    refine x_iload_n C d_M_layPairs_7 1 rfl ?_
    refine x_aload_n C d_M_layPairs_8 0 rfl ?_
    refine xg_M_persons C wF_M_136 mc_100 kc_100 d_M_layPairs_9 ?_
    refine x_icmp_ge C 84 d_M_layPairs_12 (by decide) (fun g1 => ?_) (fun g1 => ?_)
    · replace hf := it g1 hf
      cases hf
      exact x_sub [] rfl K
    · replace hf := ie g1 hf
      refine x_iload_n C d_M_layPairs_15 1 rfl ?_
      refine x_iconst (v := 1) C d_M_layPairs_16 rfl ?_
      refine x_iadd C d_M_layPairs_17 ?_
      refine x_istore_n (lv' := [(2, .int (x1 + 1)), (0, .ref (ad 100)), (1, .int x1)]) C d_M_layPairs_18 (by decide) rfl ?_
      obtain ⟨u7, hu7, hf⟩ := bs hf
      refine x_sub [1, 2, 0] rfl ?_
      refine lw_M_layPairs_19 E C F _ _ _ _ _ hu7 ?_
      refine x_iinc (v := (x1 + 1)) (lv' := [(1, .int (x1 + 1)), (0, .ref (ad 100))]) C d_M_layPairs_78 1 rfl rfl (by decide) rfl ?_
      refine x_goto C 7 d_M_layPairs_81 (by decide) ?_
      refine x_sub [1, 0] rfl ?_
      exact ih _ _ _ hf K
set_option maxHeartbeats 4000000 in
set_option maxRecDepth 100000 in
theorem ct_M_layPairs {l : Launch} {D : va_G} {ad : Nat → Nat} {cs : Nat → ClassId} {A : Nat → Prop} (E : Ev ad cs A LM) (F : Nat) (M : Mem)  (R : Mem)  (hf : M_layPairs F M = some R) : Met l y_M_layPairs (Cond.code y_M_layPairs b_M_layPairs 3 none :: wl) (rmD 3) (PX D ad cs A LM [.ref (ad 100)] M) (QX D ad cs A LM (none) R) 0 0 A := by
  refine x_enter (lv := [(0, .ref (ad 100))]) E mi_M_layPairs.1 (Nat.le_of_ble_eq_true rfl) rfl (fun p e s m args below meth c C => ?_)
  unfold M_layPairs at hf
  refine x_aload_n C d_M_layPairs_0 0 rfl ?_
  refine x_iconst (v := 0) C d_M_layPairs_1 rfl ?_
  refine xp_M_metMany (x := 0) C wF_M_277 mc_100 kc_100 d_M_layPairs_2 ?_
  refine x_iconst (v := 0) C d_M_layPairs_5 rfl ?_
  refine x_istore_n (lv' := [(1, .int 0), (0, .ref (ad 100))]) C d_M_layPairs_6 (by decide) rfl ?_
  obtain ⟨u8, hu8, hf⟩ := bs hf
  refine x_sub [1, 0] rfl ?_
  refine lw_M_layPairs_7 E C F _ _ _ _ hu8 ?_
  cases hf
  exact x_vret C d_M_layPairs_84 rfl rfl
set_option maxHeartbeats 4000000 in
set_option maxRecDepth 100000 in
theorem lw_M_left_31 {p : Program} {l : Launch} {e : Env} {s : State} {m : MethodId} {args : Array Value} {below : List Frame} {meth : Method} {c : Code} {D : va_G} {ad : Nat → Nat} {cs : Nat → ClassId} {A : Nat → Prop} {V : Option Value} {N : Mem} (E : Ev ad cs A LM) (C : Cx p s m args meth c "KissClearingModel" b_M_left 4 (some .int) D ad cs A LM) (F : Nat)  : ∀ (n : Nat) (M : Mem) (x2 : Int32) (u : Mem), L_M_left_31 F n M x2 = some u → X p l e 5 s m args below meth c 4 D ad cs A LM V N u 63 [(0, .ref (ad 100))] [] → X p l e 5 s m args below meth c 4 D ad cs A LM V N M 31 [(0, .ref (ad 100)), (2, .int x2)] [] := by
  intro n
  induction n with
  | zero => intro M x2 u hf; cases hf
  | succ n ih =>
    intro M x2 u hf K
    replace hf : B_M_left_31 F (L_M_left_31 F n) M x2 = some u := hf
    unfold B_M_left_31 at hf
    refine x_iload_n C d_M_left_31 1 rfl ?_
    refine x_aload_n C d_M_left_32 0 rfl ?_
    refine xg_M_bestMany C wF_M_265 mc_100 kc_100 d_M_left_33 ?_
    refine x_icmp_ge C 63 d_M_left_36 (by decide) (fun g6 => ?_) (fun g6 => ?_)
    · replace hf := it g6 hf
      cases hf
      exact x_sub [0] rfl K
    · replace hf := ie g6 hf
      refine x_aload_n C d_M_left_39 0 rfl ?_
      refine xg_M_tried C wF_M_41 mc_100 kc_100 d_M_left_40 ?_
      refine x_aload_n C d_M_left_43 0 rfl ?_
      refine xg_M_best C wF_M_47 mc_100 kc_100 d_M_left_44 ?_
      refine x_iload_n C d_M_left_47 1 rfl ?_
      obtain ⟨t7, ht7, hf⟩ := bs hf
      refine x_iald C ht7 mc_112 kc_112 d_M_left_48 ?_
      refine x_dup2 C d_M_left_49 rfl rfl ?_
      obtain ⟨t8, ht8, hf⟩ := bs hf
      refine x_iald C ht8 mc_110 kc_110 d_M_left_50 ?_
      refine x_aload_n C d_M_left_51 0 rfl ?_
      refine xg_M_bestBy C wF_M_268 mc_100 kc_100 d_M_left_52 ?_
      refine x_isub C d_M_left_55 ?_
      obtain ⟨M9, hM9, hf⟩ := bs hf
      refine x_iast C hM9 mc_110 kc_110 d_M_left_56 ?_
      refine x_iinc (v := (x2 + 1)) (lv' := [(2, .int (x2 + 1)), (0, .ref (ad 100))]) C d_M_left_57 1 rfl rfl (by decide) rfl ?_
      refine x_goto C 31 d_M_left_60 (by decide) ?_
      refine x_sub [1, 0] rfl ?_
      exact ih _ _ _ hf K
set_option maxHeartbeats 4000000 in
set_option maxRecDepth 100000 in
theorem lw_M_left_22 {p : Program} {l : Launch} {e : Env} {s : State} {m : MethodId} {args : Array Value} {below : List Frame} {meth : Method} {c : Code} {D : va_G} {ad : Nat → Nat} {cs : Nat → ClassId} {A : Nat → Prop} {V : Option Value} {N : Mem} (E : Ev ad cs A LM) (C : Cx p s m args meth c "KissClearingModel" b_M_left 4 (some .int) D ad cs A LM) (F : Nat)  : ∀ (n : Nat) (M : Mem) (u : Mem), L_M_left_22 F n M = some u → X p l e 5 s m args below meth c 4 D ad cs A LM V N u 76 [(0, .ref (ad 100))] [] → X p l e 5 s m args below meth c 4 D ad cs A LM V N M 22 [(0, .ref (ad 100))] [] := by
  intro n
  induction n with
  | zero => intro M u hf; cases hf
  | succ n ih =>
    intro M u hf K
    replace hf : B_M_left_22 F (L_M_left_22 F n) M = some u := hf
    unfold B_M_left_22 at hf
    refine x_aload_n C d_M_left_22 0 rfl ?_
    obtain ⟨c4, hc4, hf⟩ := bs hf
    refine x_callV (rest := []) (n := 0) C (ct_M_layBest E F _ _  hc4) mi_M_layBest (by decide) mc_100 ⟨_, cel_M kc_100⟩ rfl rfl wL_M_271 d_M_left_23 rfl rfl (Nat.le_of_ble_eq_true rfl) ?_
    show X _ _ _ _ _ _ _ _ _ _ _ _ _ _ _ _ _ _ _ _ _ [.int c4.1]
    refine x_if_eq C 76 d_M_left_26 (by decide) (fun g5 => ?_) (fun g5 => ?_)
    · replace hf := it g5 hf
      cases hf
      exact x_sub [0] rfl K
    · replace hf := ie g5 hf
      refine x_iconst (v := 0) C d_M_left_29 rfl ?_
      refine x_istore_n (lv' := [(2, .int 0), (0, .ref (ad 100))]) C d_M_left_30 (by decide) rfl ?_
      obtain ⟨u10, hu10, hf⟩ := bs hf
      refine x_sub [1, 0] rfl ?_
      refine lw_M_left_31 E C F _ _ _ _ hu10 ?_
      refine x_aload_n C d_M_left_63 0 rfl ?_
      refine x_dup C d_M_left_64 rfl ?_
      refine xg_M_asked C wF_M_60 mc_100 kc_100 d_M_left_65 ?_
      refine x_iconst (v := 1) C d_M_left_68 rfl ?_
      refine x_iadd C d_M_left_69 ?_
      refine xp_M_asked (x := ((u10 100 7) + 1)) C wF_M_60 mc_100 kc_100 d_M_left_70 ?_
      refine x_goto C 22 d_M_left_73 (by decide) ?_
      refine x_sub [0] rfl ?_
      exact ih _ _ hf K
set_option maxHeartbeats 4000000 in
set_option maxRecDepth 100000 in
theorem lw_M_left_80 {p : Program} {l : Launch} {e : Env} {s : State} {m : MethodId} {args : Array Value} {below : List Frame} {meth : Method} {c : Code} {D : va_G} {ad : Nat → Nat} {cs : Nat → ClassId} {A : Nat → Prop} {V : Option Value} {N : Mem} (E : Ev ad cs A LM) (C : Cx p s m args meth c "KissClearingModel" b_M_left 4 (some .int) D ad cs A LM) (F : Nat) (M : Mem)  : ∀ (n : Nat) (x2 : Int32) (x3 : Int32) (u : Int32), L_M_left_80 F M n x2 x3 = some u → X p l e 5 s m args below meth c 4 D ad cs A LM V N M 101 [(2, .int u)] [] → X p l e 5 s m args below meth c 4 D ad cs A LM V N M 80 [(0, .ref (ad 100)), (2, .int x2), (3, .int x3)] [] := by
  intro n
  induction n with
  | zero => intro x2 x3 u hf; cases hf
  | succ n ih =>
    intro x2 x3 u hf K
    replace hf : B_M_left_80 F M (L_M_left_80 F M n) x2 x3 = some u := hf
    unfold B_M_left_80 at hf
    refine x_iload_n C d_M_left_80 2 rfl ?_
    refine x_bipush (v := 12) C d_M_left_81 rfl ?_
    refine x_icmp_ge C 101 d_M_left_83 (by decide) (fun g12 => ?_) (fun g12 => ?_)
    · replace hf := it g12 hf
      cases hf
      exact x_sub [1] rfl K
    · replace hf := ie g12 hf
      refine x_iload_n C d_M_left_86 1 rfl ?_
      refine x_aload_n C d_M_left_87 0 rfl ?_
      refine xg_M_tried C wF_M_41 mc_100 kc_100 d_M_left_88 ?_
      refine x_iload_n C d_M_left_91 2 rfl ?_
      obtain ⟨t13, ht13, hf⟩ := bs hf
      refine x_iald C ht13 mc_110 kc_110 d_M_left_92 ?_
      refine x_iadd C d_M_left_93 ?_
      refine x_istore_n (lv' := [(2, .int (x2 + t13)), (0, .ref (ad 100)), (3, .int x3)]) C d_M_left_94 (by decide) rfl ?_
      refine x_iinc (v := (x3 + 1)) (lv' := [(3, .int (x3 + 1)), (2, .int (x2 + t13)), (0, .ref (ad 100))]) C d_M_left_95 2 rfl rfl (by decide) rfl ?_
      refine x_goto C 80 d_M_left_98 (by decide) ?_
      refine x_sub [2, 1, 0] rfl ?_
      exact ih _ _ _ hf K
set_option maxHeartbeats 4000000 in
set_option maxRecDepth 100000 in
theorem ct_M_left {l : Launch} {D : va_G} {ad : Nat → Nat} {cs : Nat → ClassId} {A : Nat → Prop} (E : Ev ad cs A LM) (F : Nat) (M : Mem) (x1 : Int32) (R : (Int32 × Mem))  (hf : M_left F M x1 = some R) : Met l y_M_left (Cond.code y_M_left b_M_left 4 (some .int) :: wl) (rmD 5) (PX D ad cs A LM [.ref (ad 100), .int x1] M) (QX D ad cs A LM (some (.int R.1)) R.2) 0 0 A := by
  refine x_enter (lv := [(0, .ref (ad 100)), (1, .int x1)]) E mi_M_left.1 (Nat.le_of_ble_eq_true rfl) rfl (fun p e s m args below meth c C => ?_)
  unfold M_left at hf
  refine x_iload_n C d_M_left_0 1 rfl ?_
  refine x_i2l C d_M_left_1 ?_
  refine x_lconst (v := 0) C d_M_left_2 rfl ?_
  refine x_lconst (v := 1) C d_M_left_3 rfl ?_
  obtain ⟨c1, hc1, hf⟩ := bs hf
  refine x_callS (rest := []) (n := 3) C (ct_M_in E F _ _ _ _ _  hc1) mi_M_in (by decide) wL_M_65 d_M_left_4 rfl rfl (Nat.le_of_ble_eq_true rfl) ?_
  show X _ _ _ _ _ _ _ _ _ _ _ _ _ _ _ _ _ _ _ _ _ [.int c1]
  refine x_if_ne C 12 d_M_left_7 (by decide) (fun g2 => ?_) (fun g2 => ?_)
  · replace hf := ie g2 hf
    refine x_aload_n C d_M_left_12 0 rfl ?_
    refine x_iconst (v := 0) C d_M_left_13 rfl ?_
    refine xp_M_asked (x := 0) C wF_M_60 mc_100 kc_100 d_M_left_14 ?_
    refine x_aload_n C d_M_left_17 0 rfl ?_
    refine x_iload_n C d_M_left_18 1 rfl ?_
    obtain ⟨c3, hc3, hf⟩ := bs hf
    refine x_callV (rest := []) (n := 1) C (ct_M_beginRings E F _ _ _  hc3) mi_M_beginRings (by decide) mc_100 ⟨_, cel_M kc_100⟩ rfl rfl wL_M_255 d_M_left_19 rfl rfl (Nat.le_of_ble_eq_true rfl) ?_
    show X _ _ _ _ _ _ _ _ _ _ _ _ _ _ _ _ _ _ _ _ _ []
    obtain ⟨u11, hu11, hf⟩ := bs hf
    refine x_sub [0] rfl ?_
    refine lw_M_left_22 E C F _ _ _ hu11 ?_
    refine x_iconst (v := 0) C d_M_left_76 rfl ?_
    refine x_istore_n (lv' := [(2, .int 0), (0, .ref (ad 100))]) C d_M_left_77 (by decide) rfl ?_
    refine x_iconst (v := 0) C d_M_left_78 rfl ?_
    refine x_istore_n (lv' := [(3, .int 0), (2, .int 0), (0, .ref (ad 100))]) C d_M_left_79 (by decide) rfl ?_
    obtain ⟨u14, hu14, hf⟩ := bs hf
    refine x_sub [2, 1, 0] rfl ?_
    refine lw_M_left_80 E C F _ _ _ _ _ hu14 ?_
    refine x_iload_n C d_M_left_101 0 rfl ?_
    cases hf
    exact x_iret C d_M_left_102 rfl rfl
  · replace hf := it g2 hf
    refine x_iconst (v := (-1)) C d_M_left_10 rfl ?_
    cases hf
    exact x_iret C d_M_left_11 rfl rfl
set_option maxHeartbeats 4000000 in
set_option maxRecDepth 100000 in
theorem lw_M_lots_61 {p : Program} {l : Launch} {e : Env} {s : State} {m : MethodId} {args : Array Value} {below : List Frame} {meth : Method} {c : Code} {D : va_G} {ad : Nat → Nat} {cs : Nat → ClassId} {A : Nat → Prop} {V : Option Value} {N : Mem} (E : Ev ad cs A LM) (C : Cx p s m args meth c "KissClearingModel" b_M_lots 9 (some .int) D ad cs A LM) (F : Nat) (x1 : Int32) : ∀ (n : Nat) (M : Mem) (x3 : Int64) (x5 : Int32) (x6 : Int32) (u : (Int32 × Mem)), L_M_lots_61 F x1 n M x3 x5 x6 = some u → X p l e 6 s m args below meth c 9 D ad cs A LM V N u.2 132 [(5, .int u.1)] [] → X p l e 6 s m args below meth c 9 D ad cs A LM V N M 61 [(0, .ref (ad 100)), (1, .int x1), (3, .long x3), (5, .int x5), (6, .int x6)] [] := by
  intro n
  induction n with
  | zero => intro M x3 x5 x6 u hf; cases hf
  | succ n ih =>
    intro M x3 x5 x6 u hf K
    replace hf : B_M_lots_61 F x1 (L_M_lots_61 F x1 n) M x3 x5 x6 = some u := hf
    unfold B_M_lots_61 at hf
    refine x_iload C d_M_lots_61 4 rfl ?_
    refine x_iload_n C d_M_lots_63 1 rfl ?_
    refine x_icmp_ge C 132 d_M_lots_64 (by decide) (fun g7 => ?_) (fun g7 => ?_)
    · replace hf := it g7 hf
      cases hf
      exact x_sub [3] rfl K
    · replace hf := ie g7 hf
      refine x_lload_n C d_M_lots_67 2 rfl ?_
      refine x_ldc2 C wJ_M_333 d_M_lots_68 ?_
      refine x_lmul C d_M_lots_71 ?_
      refine x_ldc2 C wJ_M_335 d_M_lots_72 ?_
      obtain ⟨t8, ht8, hf⟩ := bs hf
      refine x_lrem C ht8 d_M_lots_75 ?_
      refine x_lstore_n (lv' := [(3, .long t8), (0, .ref (ad 100)), (1, .int x1), (5, .int x5), (6, .int x6)]) C d_M_lots_76 (by decide) rfl ?_
      refine x_lload_n C d_M_lots_77 0 rfl ?_
      refine x_aload_n C d_M_lots_78 1 rfl ?_
      refine xg_M_persons C wF_M_136 mc_100 kc_100 d_M_lots_79 ?_
      refine x_i2l C d_M_lots_82 ?_
      obtain ⟨t9, ht9, hf⟩ := bs hf
      refine x_lrem C ht9 d_M_lots_83 ?_
      refine x_l2i C d_M_lots_84 ?_
      refine x_istore (lv' := [(7, .int ((t9).toInt32)), (3, .long t8), (0, .ref (ad 100)), (1, .int x1), (5, .int x5), (6, .int x6)]) C d_M_lots_85 (by decide) rfl ?_
      refine x_iconst (v := 1) C d_M_lots_87 rfl ?_
      refine x_lload_n C d_M_lots_88 1 rfl ?_
      refine x_ldc2 C wJ_M_337 d_M_lots_89 ?_
      obtain ⟨t10, ht10, hf⟩ := bs hf
      refine x_ldiv C ht10 d_M_lots_92 ?_
      refine x_aload_n C d_M_lots_93 2 rfl ?_
      refine xg_M_persons C wF_M_136 mc_100 kc_100 d_M_lots_94 ?_
      refine x_iconst (v := 1) C d_M_lots_97 rfl ?_
      refine x_isub C d_M_lots_98 ?_
      refine x_i2l C d_M_lots_99 ?_
      obtain ⟨t11, ht11, hf⟩ := bs hf
      refine x_lrem C ht11 d_M_lots_100 ?_
      refine x_l2i C d_M_lots_101 ?_
      refine x_iadd C d_M_lots_102 ?_
      refine x_istore (lv' := [(8, .int (1 + ((t11).toInt32))), (7, .int ((t9).toInt32)), (3, .long t8), (0, .ref (ad 100)), (1, .int x1), (5, .int x5), (6, .int x6)]) C d_M_lots_103 (by decide) rfl ?_
      refine x_iload C d_M_lots_105 5 rfl ?_
      refine x_aload_n C d_M_lots_107 3 rfl ?_
      refine x_iload C d_M_lots_108 1 rfl ?_
      refine x_iload C d_M_lots_110 1 rfl ?_
      refine x_iload C d_M_lots_112 0 rfl ?_
      refine x_iadd C d_M_lots_114 ?_
      refine x_aload_n C d_M_lots_115 3 rfl ?_
      refine xg_M_persons C wF_M_136 mc_100 kc_100 d_M_lots_116 ?_
      obtain ⟨t12, ht12, hf⟩ := bs hf
      refine x_irem C ht12 d_M_lots_119 ?_
      obtain ⟨c13, hc13, hf⟩ := bs hf
      refine x_callV (rest := [.int x5]) (n := 2) C (ct_M_doMeet E F _ _ _ _  hc13) mi_M_doMeet (by decide) mc_100 ⟨_, cel_M kc_100⟩ rfl rfl wL_M_231 d_M_lots_120 rfl rfl (Nat.le_of_ble_eq_true rfl) ?_
      show X _ _ _ _ _ _ _ _ _ _ _ _ _ _ _ _ _ _ _ _ _ [.int c13.1, .int x5]
      refine x_iadd C d_M_lots_123 ?_
      refine x_istore (lv' := [(5, .int (x5 + c13.1)), (8, .int (1 + ((t11).toInt32))), (7, .int ((t9).toInt32)), (3, .long t8), (0, .ref (ad 100)), (1, .int x1), (6, .int x6)]) C d_M_lots_124 (by decide) rfl ?_
      refine x_iinc (v := (x6 + 1)) (lv' := [(6, .int (x6 + 1)), (5, .int (x5 + c13.1)), (8, .int (1 + ((t11).toInt32))), (7, .int ((t9).toInt32)), (3, .long t8), (0, .ref (ad 100)), (1, .int x1)]) C d_M_lots_126 6 rfl rfl (by decide) rfl ?_
      refine x_goto C 61 d_M_lots_129 (by decide) ?_
      refine x_sub [5, 6, 4, 1, 0] rfl ?_
      exact ih _ _ _ _ _ hf K
set_option maxHeartbeats 4000000 in
set_option maxRecDepth 100000 in
theorem ct_M_lots {l : Launch} {D : va_G} {ad : Nat → Nat} {cs : Nat → ClassId} {A : Nat → Prop} (E : Ev ad cs A LM) (F : Nat) (M : Mem) (x1 : Int32) (x2 : Int32) (R : (Int32 × Mem))  (hf : M_lots F M x1 x2 = some R) : Met l y_M_lots (Cond.code y_M_lots b_M_lots 9 (some .int) :: wl) (rmD 6) (PX D ad cs A LM [.ref (ad 100), .int x1, .int x2] M) (QX D ad cs A LM (some (.int R.1)) R.2) 0 0 A := by
  refine x_enter (lv := [(0, .ref (ad 100)), (1, .int x1), (2, .int x2)]) E mi_M_lots.1 (Nat.le_of_ble_eq_true rfl) rfl (fun p e s m args below meth c C => ?_)
  unfold M_lots at hf
  refine x_iload_n C d_M_lots_0 1 rfl ?_
  refine x_i2l C d_M_lots_1 ?_
  refine x_lconst (v := 1) C d_M_lots_2 rfl ?_
  refine x_ldc2 C wJ_M_329 d_M_lots_3 ?_
  obtain ⟨c1, hc1, hf⟩ := bs hf
  refine x_callS (rest := []) (n := 3) C (ct_M_in E F _ _ _ _ _  hc1) mi_M_in (by decide) wL_M_65 d_M_lots_6 rfl rfl (Nat.le_of_ble_eq_true rfl) ?_
  show X _ _ _ _ _ _ _ _ _ _ _ _ _ _ _ _ _ _ _ _ _ [.int c1]
  refine x_if_eq C 24 d_M_lots_9 (by decide) (fun g2 => ?_) (fun g2 => ?_)
  · replace hf := it g2 hf
    refine x_iconst (v := (-1)) C d_M_lots_24 rfl ?_
    cases hf
    exact x_iret C d_M_lots_25 rfl rfl
  · replace hf := ie g2 hf
    refine x_iload_n C d_M_lots_12 2 rfl ?_
    refine x_i2l C d_M_lots_13 ?_
    refine x_lconst (v := 1) C d_M_lots_14 rfl ?_
    refine x_ldc2 C wJ_M_331 d_M_lots_15 ?_
    obtain ⟨c3, hc3, hf⟩ := bs hf
    refine x_callS (rest := []) (n := 3) C (ct_M_in E F _ _ _ _ _  hc3) mi_M_in (by decide) wL_M_65 d_M_lots_18 rfl rfl (Nat.le_of_ble_eq_true rfl) ?_
    show X _ _ _ _ _ _ _ _ _ _ _ _ _ _ _ _ _ _ _ _ _ [.int c3]
    refine x_if_ne C 26 d_M_lots_21 (by decide) (fun g4 => ?_) (fun g4 => ?_)
    · replace hf := ie g4 hf
      refine x_aload_n C d_M_lots_26 0 rfl ?_
      refine xg_M_persons C wF_M_136 mc_100 kc_100 d_M_lots_27 ?_
      refine x_if_ne C 36 d_M_lots_30 (by decide) (fun g5 => ?_) (fun g5 => ?_)
      · replace hf := ie g5 hf
        refine x_aload_n C d_M_lots_36 0 rfl ?_
        refine xg_M_row C wF_M_7 mc_100 kc_100 d_M_lots_37 ?_
        refine x_iconst (v := 0) C d_M_lots_40 rfl ?_
        refine x_iald C (ac_101_0 M) mc_101 kc_101 d_M_lots_41 ?_
        refine x_iload_n C d_M_lots_42 1 rfl ?_
        refine x_iadd C d_M_lots_43 ?_
        refine x_bipush (v := 40) C d_M_lots_44 rfl ?_
        refine x_icmp_le C 52 d_M_lots_46 (by decide) (fun g6 => ?_) (fun g6 => ?_)
        · replace hf := it g6 hf
          refine x_iload_n C d_M_lots_52 2 rfl ?_
          refine x_i2l C d_M_lots_53 ?_
          refine x_lstore_n (lv' := [(3, .long ((x2).toInt64)), (0, .ref (ad 100)), (1, .int x1), (2, .int x2)]) C d_M_lots_54 (by decide) rfl ?_
          refine x_iconst (v := 0) C d_M_lots_55 rfl ?_
          refine x_istore (lv' := [(5, .int 0), (3, .long ((x2).toInt64)), (0, .ref (ad 100)), (1, .int x1), (2, .int x2)]) C d_M_lots_56 (by decide) rfl ?_
          refine x_iconst (v := 0) C d_M_lots_58 rfl ?_
          refine x_istore (lv' := [(6, .int 0), (5, .int 0), (3, .long ((x2).toInt64)), (0, .ref (ad 100)), (1, .int x1), (2, .int x2)]) C d_M_lots_59 (by decide) rfl ?_
          obtain ⟨u14, hu14, hf⟩ := bs hf
          refine x_sub [3, 4, 2, 1, 0] rfl ?_
          refine lw_M_lots_61 E C F _ _ _ _ _ _ _ hu14 ?_
          refine x_iload C d_M_lots_132 0 rfl ?_
          cases hf
          exact x_iret C d_M_lots_134 rfl rfl
        · replace hf := ie g6 hf
          refine x_bipush (v := (-2)) C d_M_lots_49 rfl ?_
          cases hf
          exact x_iret C d_M_lots_51 rfl rfl
      · replace hf := it g5 hf
        refine x_bipush (v := (-4)) C d_M_lots_33 rfl ?_
        cases hf
        exact x_iret C d_M_lots_35 rfl rfl
    · replace hf := it g4 hf
      refine x_iconst (v := (-1)) C d_M_lots_24 rfl ?_
      cases hf
      exact x_iret C d_M_lots_25 rfl rfl
set_option maxHeartbeats 4000000 in
set_option maxRecDepth 100000 in
theorem ct_M_lower {l : Launch} {D : va_G} {ad : Nat → Nat} {cs : Nat → ClassId} {A : Nat → Prop} (E : Ev ad cs A LM) (F : Nat) (M : Mem)  (R : Int64)  (hf : M_lower F M = some R) : Met l y_M_lower (Cond.code y_M_lower b_M_lower 1 (some .long) :: wl) (rmD 0) (PX D ad cs A LM [.ref (ad 100)] M) (QX D ad cs A LM (some (.long R)) M) 0 0 A := by
  refine x_enter (lv := [(0, .ref (ad 100))]) E mi_M_lower.1 (Nat.le_of_ble_eq_true rfl) rfl (fun p e s m args below meth c C => ?_)
  unfold M_lower at hf
  refine x_aload_n C d_M_lower_0 0 rfl ?_
  refine xg_M_lower C wF_M_28 mc_100 kc_100 d_M_lower_1 ?_
  cases hf
  exact x_lret C d_M_lower_4 rfl rfl
set_option maxHeartbeats 4000000 in
set_option maxRecDepth 100000 in
theorem lw_M_makeRow_9 {p : Program} {l : Launch} {e : Env} {s : State} {m : MethodId} {args : Array Value} {below : List Frame} {meth : Method} {c : Code} {D : va_G} {ad : Nat → Nat} {cs : Nat → ClassId} {A : Nat → Prop} {V : Option Value} {N : Mem} (E : Ev ad cs A LM) (C : Cx p s m args meth c "KissClearingModel" b_M_makeRow 4 none D ad cs A LM) (F : Nat) (x1 : Int32) : ∀ (n : Nat) (M : Mem) (x3 : Int32) (u : Mem), L_M_makeRow_9 F x1 n M x3 = some u → X p l e 0 s m args below meth c 4 D ad cs A LM V N u 33 [] [] → X p l e 0 s m args below meth c 4 D ad cs A LM V N M 9 [(0, .ref (ad 100)), (1, .int x1), (3, .int x3)] [] := by
  intro n
  induction n with
  | zero => intro M x3 u hf; cases hf
  | succ n ih =>
    intro M x3 u hf K
    replace hf : B_M_makeRow_9 F x1 (L_M_makeRow_9 F x1 n) M x3 = some u := hf
    unfold B_M_makeRow_9 at hf
    refine x_iload_n C d_M_makeRow_9 2 rfl ?_
    refine x_bipush (v := 40) C d_M_makeRow_10 rfl ?_
    refine x_icmp_ge C 33 d_M_makeRow_12 (by decide) (fun g2 => ?_) (fun g2 => ?_)
    · replace hf := it g2 hf
      cases hf
      exact x_sub [] rfl K
    · replace hf := ie g2 hf
      refine x_aload_n C d_M_makeRow_15 0 rfl ?_
      refine xg_M_items C wF_M_19 mc_100 kc_100 d_M_makeRow_16 ?_
      refine x_bipush (v := 40) C d_M_makeRow_19 rfl ?_
      refine x_iload_n C d_M_makeRow_21 1 rfl ?_
      refine x_imul C d_M_makeRow_22 ?_
      refine x_iload_n C d_M_makeRow_23 2 rfl ?_
      refine x_iadd C d_M_makeRow_24 ?_
      refine x_iconst (v := 0) C d_M_makeRow_25 rfl ?_
      obtain ⟨M3, hM3, hf⟩ := bs hf
      refine x_iast C hM3 mc_104 kc_104 d_M_makeRow_26 ?_
      refine x_iinc (v := (x3 + 1)) (lv' := [(3, .int (x3 + 1)), (0, .ref (ad 100)), (1, .int x1)]) C d_M_makeRow_27 2 rfl rfl (by decide) rfl ?_
      refine x_goto C 9 d_M_makeRow_30 (by decide) ?_
      refine x_sub [1, 2, 0] rfl ?_
      exact ih _ _ _ hf K
set_option maxHeartbeats 4000000 in
set_option maxRecDepth 100000 in
theorem ct_M_makeRow {l : Launch} {D : va_G} {ad : Nat → Nat} {cs : Nat → ClassId} {A : Nat → Prop} (E : Ev ad cs A LM) (F : Nat) (M : Mem) (x1 : Int32) (x2 : Int32) (R : Mem)  (hf : M_makeRow F M x1 x2 = some R) : Met l y_M_makeRow (Cond.code y_M_makeRow b_M_makeRow 4 none :: wl) (rmD 0) (PX D ad cs A LM [.ref (ad 100), .int x1, .int x2] M) (QX D ad cs A LM (none) R) 0 0 A := by
  refine x_enter (lv := [(0, .ref (ad 100)), (1, .int x1), (2, .int x2)]) E mi_M_makeRow.1 (Nat.le_of_ble_eq_true rfl) rfl (fun p e s m args below meth c C => ?_)
  unfold M_makeRow at hf
  refine x_aload_n C d_M_makeRow_0 0 rfl ?_
  refine xg_M_sizes C wF_M_16 mc_100 kc_100 d_M_makeRow_1 ?_
  refine x_iload_n C d_M_makeRow_4 1 rfl ?_
  refine x_iload_n C d_M_makeRow_5 2 rfl ?_
  obtain ⟨M1, hM1, hf⟩ := bs hf
  refine x_iast C hM1 mc_103 kc_103 d_M_makeRow_6 ?_
  refine x_iconst (v := 0) C d_M_makeRow_7 rfl ?_
  refine x_istore_n (lv' := [(3, .int 0), (0, .ref (ad 100)), (1, .int x1), (2, .int x2)]) C d_M_makeRow_8 (by decide) rfl ?_
  obtain ⟨u4, hu4, hf⟩ := bs hf
  refine x_sub [1, 2, 0] rfl ?_
  refine lw_M_makeRow_9 E C F _ _ _ _ _ hu4 ?_
  cases hf
  exact x_vret C d_M_makeRow_33 rfl rfl
set_option maxHeartbeats 4000000 in
set_option maxRecDepth 100000 in
theorem lw_M_openTo_4 {p : Program} {l : Launch} {e : Env} {s : State} {m : MethodId} {args : Array Value} {below : List Frame} {meth : Method} {c : Code} {D : va_G} {ad : Nat → Nat} {cs : Nat → ClassId} {A : Nat → Prop} {V : Option Value} {N : Mem} (E : Ev ad cs A LM) (C : Cx p s m args meth c "KissClearingModel" b_M_openTo 4 (some .int) D ad cs A LM) (F : Nat) (M : Mem) (x1 : Int32) : ∀ (n : Nat) (x2 : Int32) (x3 : Int32) (u : Int32), L_M_openTo_4 F M x1 n x2 x3 = some u → X p l e 2 s m args below meth c 4 D ad cs A LM V N M 46 [(2, .int u)] [] → X p l e 2 s m args below meth c 4 D ad cs A LM V N M 4 [(0, .ref (ad 100)), (1, .int x1), (2, .int x2), (3, .int x3)] [] := by
  intro n
  induction n with
  | zero => intro x2 x3 u hf; cases hf
  | succ n ih =>
    intro x2 x3 u hf K
    replace hf : B_M_openTo_4 F M x1 (L_M_openTo_4 F M x1 n) x2 x3 = some u := hf
    unfold B_M_openTo_4 at hf
    refine x_iload_n C d_M_openTo_4 3 rfl ?_
    refine x_aload_n C d_M_openTo_5 0 rfl ?_
    refine xg_M_row C wF_M_7 mc_100 kc_100 d_M_openTo_6 ?_
    refine x_iconst (v := 1) C d_M_openTo_9 rfl ?_
    refine x_iald C (ac_101_1 M) mc_101 kc_101 d_M_openTo_10 ?_
    refine x_icmp_ge C 46 d_M_openTo_11 (by decide) (fun g1 => ?_) (fun g1 => ?_)
    · replace hf := it g1 hf
      cases hf
      exact x_sub [2] rfl K
    · replace hf := ie g1 hf
      refine x_iload_n C d_M_openTo_14 2 rfl ?_
      refine x_aload_n C d_M_openTo_15 0 rfl ?_
      refine x_iload_n C d_M_openTo_16 3 rfl ?_
      refine x_iconst (v := 1) C d_M_openTo_17 rfl ?_
      obtain ⟨c2, hc2, hf⟩ := bs hf
      refine x_callV (rest := [.int x2]) (n := 2) C (ct_M_of E F _ _ _ _  hc2) mi_M_of (by decide) mc_100 ⟨_, cel_M kc_100⟩ rfl rfl wL_M_146 d_M_openTo_18 rfl rfl (Nat.le_of_ble_eq_true rfl) ?_
      show X _ _ _ _ _ _ _ _ _ _ _ _ _ _ _ _ _ _ _ _ _ [.int c2, .int x2]
      refine x_iload_n C d_M_openTo_21 1 rfl ?_
      refine x_icmp_ne C 37 d_M_openTo_22 (by decide) (fun g3 => ?_) (fun g3 => ?_)
      · replace hf := ie g3 hf
        refine x_iconst (v := 0) C d_M_openTo_37 rfl ?_
        refine x_iadd C d_M_openTo_38 ?_
        refine x_istore_n (lv' := [(2, .int (x2 + 0)), (0, .ref (ad 100)), (1, .int x1), (3, .int x3)]) C d_M_openTo_39 (by decide) rfl ?_
        refine x_iinc (v := (x3 + 1)) (lv' := [(3, .int (x3 + 1)), (2, .int (x2 + 0)), (0, .ref (ad 100)), (1, .int x1)]) C d_M_openTo_40 3 rfl rfl (by decide) rfl ?_
        refine x_goto C 4 d_M_openTo_43 (by decide) ?_
        refine x_sub [2, 3, 1, 0] rfl ?_
        exact ih _ _ _ hf K
      · replace hf := it g3 hf
        refine x_aload_n C d_M_openTo_25 0 rfl ?_
        refine x_iload_n C d_M_openTo_26 3 rfl ?_
        obtain ⟨c4, hc4, hf⟩ := bs hf
        refine x_callV (rest := [.int x2]) (n := 1) C (ct_M_isOpen E F _ _ _  hc4) mi_M_isOpen (by decide) mc_100 ⟨_, cel_M kc_100⟩ rfl rfl wL_M_156 d_M_openTo_27 rfl rfl (Nat.le_of_ble_eq_true rfl) ?_
        show X _ _ _ _ _ _ _ _ _ _ _ _ _ _ _ _ _ _ _ _ _ [.int c4, .int x2]
        refine x_if_eq C 37 d_M_openTo_30 (by decide) (fun g5 => ?_) (fun g5 => ?_)
        · replace hf := it g5 hf
          refine x_iconst (v := 0) C d_M_openTo_37 rfl ?_
          refine x_iadd C d_M_openTo_38 ?_
          refine x_istore_n (lv' := [(2, .int (x2 + 0)), (0, .ref (ad 100)), (1, .int x1), (3, .int x3)]) C d_M_openTo_39 (by decide) rfl ?_
          refine x_iinc (v := (x3 + 1)) (lv' := [(3, .int (x3 + 1)), (2, .int (x2 + 0)), (0, .ref (ad 100)), (1, .int x1)]) C d_M_openTo_40 3 rfl rfl (by decide) rfl ?_
          refine x_goto C 4 d_M_openTo_43 (by decide) ?_
          refine x_sub [2, 3, 1, 0] rfl ?_
          exact ih _ _ _ hf K
        · replace hf := ie g5 hf
          refine x_iconst (v := 1) C d_M_openTo_33 rfl ?_
          refine x_goto C 38 d_M_openTo_34 (by decide) ?_
          refine x_iadd C d_M_openTo_38 ?_
          refine x_istore_n (lv' := [(2, .int (x2 + 1)), (0, .ref (ad 100)), (1, .int x1), (3, .int x3)]) C d_M_openTo_39 (by decide) rfl ?_
          refine x_iinc (v := (x3 + 1)) (lv' := [(3, .int (x3 + 1)), (2, .int (x2 + 1)), (0, .ref (ad 100)), (1, .int x1)]) C d_M_openTo_40 3 rfl rfl (by decide) rfl ?_
          refine x_goto C 4 d_M_openTo_43 (by decide) ?_
          refine x_sub [2, 3, 1, 0] rfl ?_
          exact ih _ _ _ hf K
set_option maxHeartbeats 4000000 in
set_option maxRecDepth 100000 in
theorem ct_M_openTo {l : Launch} {D : va_G} {ad : Nat → Nat} {cs : Nat → ClassId} {A : Nat → Prop} (E : Ev ad cs A LM) (F : Nat) (M : Mem) (x1 : Int32) (R : Int32)  (hf : M_openTo F M x1 = some R) : Met l y_M_openTo (Cond.code y_M_openTo b_M_openTo 4 (some .int) :: wl) (rmD 2) (PX D ad cs A LM [.ref (ad 100), .int x1] M) (QX D ad cs A LM (some (.int R)) M) 0 0 A := by
  refine x_enter (lv := [(0, .ref (ad 100)), (1, .int x1)]) E mi_M_openTo.1 (Nat.le_of_ble_eq_true rfl) rfl (fun p e s m args below meth c C => ?_)
  unfold M_openTo at hf
  refine x_iconst (v := 0) C d_M_openTo_0 rfl ?_
  refine x_istore_n (lv' := [(2, .int 0), (0, .ref (ad 100)), (1, .int x1)]) C d_M_openTo_1 (by decide) rfl ?_
  refine x_iconst (v := 0) C d_M_openTo_2 rfl ?_
  refine x_istore_n (lv' := [(3, .int 0), (2, .int 0), (0, .ref (ad 100)), (1, .int x1)]) C d_M_openTo_3 (by decide) rfl ?_
  obtain ⟨u6, hu6, hf⟩ := bs hf
  refine x_sub [2, 3, 1, 0] rfl ?_
  refine lw_M_openTo_4 E C F _ _ _ _ _ _ hu6 ?_
  refine x_iload_n C d_M_openTo_46 0 rfl ?_
  cases hf
  exact x_iret C d_M_openTo_47 rfl rfl
set_option maxHeartbeats 4000000 in
set_option maxRecDepth 100000 in
theorem lw_M_openOn_4 {p : Program} {l : Launch} {e : Env} {s : State} {m : MethodId} {args : Array Value} {below : List Frame} {meth : Method} {c : Code} {D : va_G} {ad : Nat → Nat} {cs : Nat → ClassId} {A : Nat → Prop} {V : Option Value} {N : Mem} (E : Ev ad cs A LM) (C : Cx p s m args meth c "KissClearingModel" b_M_openOn 4 (some .int) D ad cs A LM) (F : Nat) (M : Mem) (x1 : Int32) : ∀ (n : Nat) (x2 : Int32) (x3 : Int32) (u : Int32), L_M_openOn_4 F M x1 n x2 x3 = some u → X p l e 2 s m args below meth c 4 D ad cs A LM V N M 46 [(2, .int u)] [] → X p l e 2 s m args below meth c 4 D ad cs A LM V N M 4 [(0, .ref (ad 100)), (1, .int x1), (2, .int x2), (3, .int x3)] [] := by
  intro n
  induction n with
  | zero => intro x2 x3 u hf; cases hf
  | succ n ih =>
    intro x2 x3 u hf K
    replace hf : B_M_openOn_4 F M x1 (L_M_openOn_4 F M x1 n) x2 x3 = some u := hf
    unfold B_M_openOn_4 at hf
    refine x_iload_n C d_M_openOn_4 3 rfl ?_
    refine x_aload_n C d_M_openOn_5 0 rfl ?_
    refine xg_M_row C wF_M_7 mc_100 kc_100 d_M_openOn_6 ?_
    refine x_iconst (v := 1) C d_M_openOn_9 rfl ?_
    refine x_iald C (ac_101_1 M) mc_101 kc_101 d_M_openOn_10 ?_
    refine x_icmp_ge C 46 d_M_openOn_11 (by decide) (fun g1 => ?_) (fun g1 => ?_)
    · replace hf := it g1 hf
      cases hf
      exact x_sub [2] rfl K
    · replace hf := ie g1 hf
      refine x_iload_n C d_M_openOn_14 2 rfl ?_
      refine x_aload_n C d_M_openOn_15 0 rfl ?_
      refine x_iload_n C d_M_openOn_16 3 rfl ?_
      refine x_iconst (v := 0) C d_M_openOn_17 rfl ?_
      obtain ⟨c2, hc2, hf⟩ := bs hf
      refine x_callV (rest := [.int x2]) (n := 2) C (ct_M_of E F _ _ _ _  hc2) mi_M_of (by decide) mc_100 ⟨_, cel_M kc_100⟩ rfl rfl wL_M_146 d_M_openOn_18 rfl rfl (Nat.le_of_ble_eq_true rfl) ?_
      show X _ _ _ _ _ _ _ _ _ _ _ _ _ _ _ _ _ _ _ _ _ [.int c2, .int x2]
      refine x_iload_n C d_M_openOn_21 1 rfl ?_
      refine x_icmp_ne C 37 d_M_openOn_22 (by decide) (fun g3 => ?_) (fun g3 => ?_)
      · replace hf := ie g3 hf
        refine x_iconst (v := 0) C d_M_openOn_37 rfl ?_
        refine x_iadd C d_M_openOn_38 ?_
        refine x_istore_n (lv' := [(2, .int (x2 + 0)), (0, .ref (ad 100)), (1, .int x1), (3, .int x3)]) C d_M_openOn_39 (by decide) rfl ?_
        refine x_iinc (v := (x3 + 1)) (lv' := [(3, .int (x3 + 1)), (2, .int (x2 + 0)), (0, .ref (ad 100)), (1, .int x1)]) C d_M_openOn_40 3 rfl rfl (by decide) rfl ?_
        refine x_goto C 4 d_M_openOn_43 (by decide) ?_
        refine x_sub [2, 3, 1, 0] rfl ?_
        exact ih _ _ _ hf K
      · replace hf := it g3 hf
        refine x_aload_n C d_M_openOn_25 0 rfl ?_
        refine x_iload_n C d_M_openOn_26 3 rfl ?_
        obtain ⟨c4, hc4, hf⟩ := bs hf
        refine x_callV (rest := [.int x2]) (n := 1) C (ct_M_isOpen E F _ _ _  hc4) mi_M_isOpen (by decide) mc_100 ⟨_, cel_M kc_100⟩ rfl rfl wL_M_156 d_M_openOn_27 rfl rfl (Nat.le_of_ble_eq_true rfl) ?_
        show X _ _ _ _ _ _ _ _ _ _ _ _ _ _ _ _ _ _ _ _ _ [.int c4, .int x2]
        refine x_if_eq C 37 d_M_openOn_30 (by decide) (fun g5 => ?_) (fun g5 => ?_)
        · replace hf := it g5 hf
          refine x_iconst (v := 0) C d_M_openOn_37 rfl ?_
          refine x_iadd C d_M_openOn_38 ?_
          refine x_istore_n (lv' := [(2, .int (x2 + 0)), (0, .ref (ad 100)), (1, .int x1), (3, .int x3)]) C d_M_openOn_39 (by decide) rfl ?_
          refine x_iinc (v := (x3 + 1)) (lv' := [(3, .int (x3 + 1)), (2, .int (x2 + 0)), (0, .ref (ad 100)), (1, .int x1)]) C d_M_openOn_40 3 rfl rfl (by decide) rfl ?_
          refine x_goto C 4 d_M_openOn_43 (by decide) ?_
          refine x_sub [2, 3, 1, 0] rfl ?_
          exact ih _ _ _ hf K
        · replace hf := ie g5 hf
          refine x_iconst (v := 1) C d_M_openOn_33 rfl ?_
          refine x_goto C 38 d_M_openOn_34 (by decide) ?_
          refine x_iadd C d_M_openOn_38 ?_
          refine x_istore_n (lv' := [(2, .int (x2 + 1)), (0, .ref (ad 100)), (1, .int x1), (3, .int x3)]) C d_M_openOn_39 (by decide) rfl ?_
          refine x_iinc (v := (x3 + 1)) (lv' := [(3, .int (x3 + 1)), (2, .int (x2 + 1)), (0, .ref (ad 100)), (1, .int x1)]) C d_M_openOn_40 3 rfl rfl (by decide) rfl ?_
          refine x_goto C 4 d_M_openOn_43 (by decide) ?_
          refine x_sub [2, 3, 1, 0] rfl ?_
          exact ih _ _ _ hf K
set_option maxHeartbeats 4000000 in
set_option maxRecDepth 100000 in
theorem ct_M_openOn {l : Launch} {D : va_G} {ad : Nat → Nat} {cs : Nat → ClassId} {A : Nat → Prop} (E : Ev ad cs A LM) (F : Nat) (M : Mem) (x1 : Int32) (R : Int32)  (hf : M_openOn F M x1 = some R) : Met l y_M_openOn (Cond.code y_M_openOn b_M_openOn 4 (some .int) :: wl) (rmD 2) (PX D ad cs A LM [.ref (ad 100), .int x1] M) (QX D ad cs A LM (some (.int R)) M) 0 0 A := by
  refine x_enter (lv := [(0, .ref (ad 100)), (1, .int x1)]) E mi_M_openOn.1 (Nat.le_of_ble_eq_true rfl) rfl (fun p e s m args below meth c C => ?_)
  unfold M_openOn at hf
  refine x_iconst (v := 0) C d_M_openOn_0 rfl ?_
  refine x_istore_n (lv' := [(2, .int 0), (0, .ref (ad 100)), (1, .int x1)]) C d_M_openOn_1 (by decide) rfl ?_
  refine x_iconst (v := 0) C d_M_openOn_2 rfl ?_
  refine x_istore_n (lv' := [(3, .int 0), (2, .int 0), (0, .ref (ad 100)), (1, .int x1)]) C d_M_openOn_3 (by decide) rfl ?_
  obtain ⟨u6, hu6, hf⟩ := bs hf
  refine x_sub [2, 3, 1, 0] rfl ?_
  refine lw_M_openOn_4 E C F _ _ _ _ _ _ hu6 ?_
  refine x_iload_n C d_M_openOn_46 0 rfl ?_
  cases hf
  exact x_iret C d_M_openOn_47 rfl rfl
set_option maxHeartbeats 4000000 in
set_option maxRecDepth 100000 in
theorem lw_M_souring_4 {p : Program} {l : Launch} {e : Env} {s : State} {m : MethodId} {args : Array Value} {below : List Frame} {meth : Method} {c : Code} {D : va_G} {ad : Nat → Nat} {cs : Nat → ClassId} {A : Nat → Prop} {V : Option Value} {N : Mem} (E : Ev ad cs A LM) (C : Cx p s m args meth c "KissClearingModel" b_M_souring 4 (some .int) D ad cs A LM) (F : Nat) (M : Mem) (x1 : Int32) : ∀ (n : Nat) (x2 : Int32) (x3 : Int32) (u : Int32), L_M_souring_4 F M x1 n x2 x3 = some u → X p l e 2 s m args below meth c 4 D ad cs A LM V N M 66 [(2, .int u)] [] → X p l e 2 s m args below meth c 4 D ad cs A LM V N M 4 [(0, .ref (ad 100)), (1, .int x1), (2, .int x2), (3, .int x3)] [] := by
  intro n
  induction n with
  | zero => intro x2 x3 u hf; cases hf
  | succ n ih =>
    intro x2 x3 u hf K
    replace hf : B_M_souring_4 F M x1 (L_M_souring_4 F M x1 n) x2 x3 = some u := hf
    unfold B_M_souring_4 at hf
    refine x_iload_n C d_M_souring_4 3 rfl ?_
    refine x_aload_n C d_M_souring_5 0 rfl ?_
    refine xg_M_row C wF_M_7 mc_100 kc_100 d_M_souring_6 ?_
    refine x_iconst (v := 1) C d_M_souring_9 rfl ?_
    refine x_iald C (ac_101_1 M) mc_101 kc_101 d_M_souring_10 ?_
    refine x_icmp_ge C 66 d_M_souring_11 (by decide) (fun g1 => ?_) (fun g1 => ?_)
    · replace hf := it g1 hf
      cases hf
      exact x_sub [2] rfl K
    · replace hf := ie g1 hf
      refine x_iload_n C d_M_souring_14 2 rfl ?_
      refine x_aload_n C d_M_souring_15 0 rfl ?_
      refine x_iload_n C d_M_souring_16 3 rfl ?_
      refine x_iconst (v := 1) C d_M_souring_17 rfl ?_
      obtain ⟨c2, hc2, hf⟩ := bs hf
      refine x_callV (rest := [.int x2]) (n := 2) C (ct_M_of E F _ _ _ _  hc2) mi_M_of (by decide) mc_100 ⟨_, cel_M kc_100⟩ rfl rfl wL_M_146 d_M_souring_18 rfl rfl (Nat.le_of_ble_eq_true rfl) ?_
      show X _ _ _ _ _ _ _ _ _ _ _ _ _ _ _ _ _ _ _ _ _ [.int c2, .int x2]
      refine x_iload_n C d_M_souring_21 1 rfl ?_
      refine x_icmp_ne C 57 d_M_souring_22 (by decide) (fun g3 => ?_) (fun g3 => ?_)
      · replace hf := ie g3 hf
        refine x_iconst (v := 0) C d_M_souring_57 rfl ?_
        refine x_iadd C d_M_souring_58 ?_
        refine x_istore_n (lv' := [(2, .int (x2 + 0)), (0, .ref (ad 100)), (1, .int x1), (3, .int x3)]) C d_M_souring_59 (by decide) rfl ?_
        refine x_iinc (v := (x3 + 1)) (lv' := [(3, .int (x3 + 1)), (2, .int (x2 + 0)), (0, .ref (ad 100)), (1, .int x1)]) C d_M_souring_60 3 rfl rfl (by decide) rfl ?_
        refine x_goto C 4 d_M_souring_63 (by decide) ?_
        refine x_sub [2, 3, 1, 0] rfl ?_
        exact ih _ _ _ hf K
      · replace hf := it g3 hf
        refine x_aload_n C d_M_souring_25 0 rfl ?_
        refine x_iload_n C d_M_souring_26 3 rfl ?_
        obtain ⟨c4, hc4, hf⟩ := bs hf
        refine x_callV (rest := [.int x2]) (n := 1) C (ct_M_isOpen E F _ _ _  hc4) mi_M_isOpen (by decide) mc_100 ⟨_, cel_M kc_100⟩ rfl rfl wL_M_156 d_M_souring_27 rfl rfl (Nat.le_of_ble_eq_true rfl) ?_
        show X _ _ _ _ _ _ _ _ _ _ _ _ _ _ _ _ _ _ _ _ _ [.int c4, .int x2]
        refine x_if_eq C 57 d_M_souring_30 (by decide) (fun g5 => ?_) (fun g5 => ?_)
        · replace hf := it g5 hf
          refine x_iconst (v := 0) C d_M_souring_57 rfl ?_
          refine x_iadd C d_M_souring_58 ?_
          refine x_istore_n (lv' := [(2, .int (x2 + 0)), (0, .ref (ad 100)), (1, .int x1), (3, .int x3)]) C d_M_souring_59 (by decide) rfl ?_
          refine x_iinc (v := (x3 + 1)) (lv' := [(3, .int (x3 + 1)), (2, .int (x2 + 0)), (0, .ref (ad 100)), (1, .int x1)]) C d_M_souring_60 3 rfl rfl (by decide) rfl ?_
          refine x_goto C 4 d_M_souring_63 (by decide) ?_
          refine x_sub [2, 3, 1, 0] rfl ?_
          exact ih _ _ _ hf K
        · replace hf := ie g5 hf
          refine x_aload_n C d_M_souring_33 0 rfl ?_
          refine x_iload_n C d_M_souring_34 3 rfl ?_
          refine x_iconst (v := 2) C d_M_souring_35 rfl ?_
          obtain ⟨c6, hc6, hf⟩ := bs hf
          refine x_callV (rest := [.int x2]) (n := 2) C (ct_M_of E F _ _ _ _  hc6) mi_M_of (by decide) mc_100 ⟨_, cel_M kc_100⟩ rfl rfl wL_M_146 d_M_souring_36 rfl rfl (Nat.le_of_ble_eq_true rfl) ?_
          show X _ _ _ _ _ _ _ _ _ _ _ _ _ _ _ _ _ _ _ _ _ [.int c6, .int x2]
          refine x_iconst (v := 2) C d_M_souring_39 rfl ?_
          refine x_icmp_eq C 57 d_M_souring_40 (by decide) (fun g7 => ?_) (fun g7 => ?_)
          · replace hf := it g7 hf
            refine x_iconst (v := 0) C d_M_souring_57 rfl ?_
            refine x_iadd C d_M_souring_58 ?_
            refine x_istore_n (lv' := [(2, .int (x2 + 0)), (0, .ref (ad 100)), (1, .int x1), (3, .int x3)]) C d_M_souring_59 (by decide) rfl ?_
            refine x_iinc (v := (x3 + 1)) (lv' := [(3, .int (x3 + 1)), (2, .int (x2 + 0)), (0, .ref (ad 100)), (1, .int x1)]) C d_M_souring_60 3 rfl rfl (by decide) rfl ?_
            refine x_goto C 4 d_M_souring_63 (by decide) ?_
            refine x_sub [2, 3, 1, 0] rfl ?_
            exact ih _ _ _ hf K
          · replace hf := ie g7 hf
            refine x_aload_n C d_M_souring_43 0 rfl ?_
            refine x_iload_n C d_M_souring_44 3 rfl ?_
            refine x_iconst (v := 4) C d_M_souring_45 rfl ?_
            obtain ⟨c8, hc8, hf⟩ := bs hf
            refine x_callV (rest := [.int x2]) (n := 2) C (ct_M_of E F _ _ _ _  hc8) mi_M_of (by decide) mc_100 ⟨_, cel_M kc_100⟩ rfl rfl wL_M_146 d_M_souring_46 rfl rfl (Nat.le_of_ble_eq_true rfl) ?_
            show X _ _ _ _ _ _ _ _ _ _ _ _ _ _ _ _ _ _ _ _ _ [.int c8, .int x2]
            refine x_iconst (v := 2) C d_M_souring_49 rfl ?_
            refine x_icmp_le C 57 d_M_souring_50 (by decide) (fun g9 => ?_) (fun g9 => ?_)
            · replace hf := it g9 hf
              refine x_iconst (v := 0) C d_M_souring_57 rfl ?_
              refine x_iadd C d_M_souring_58 ?_
              refine x_istore_n (lv' := [(2, .int (x2 + 0)), (0, .ref (ad 100)), (1, .int x1), (3, .int x3)]) C d_M_souring_59 (by decide) rfl ?_
              refine x_iinc (v := (x3 + 1)) (lv' := [(3, .int (x3 + 1)), (2, .int (x2 + 0)), (0, .ref (ad 100)), (1, .int x1)]) C d_M_souring_60 3 rfl rfl (by decide) rfl ?_
              refine x_goto C 4 d_M_souring_63 (by decide) ?_
              refine x_sub [2, 3, 1, 0] rfl ?_
              exact ih _ _ _ hf K
            · replace hf := ie g9 hf
              refine x_iconst (v := 1) C d_M_souring_53 rfl ?_
              refine x_goto C 58 d_M_souring_54 (by decide) ?_
              refine x_iadd C d_M_souring_58 ?_
              refine x_istore_n (lv' := [(2, .int (x2 + 1)), (0, .ref (ad 100)), (1, .int x1), (3, .int x3)]) C d_M_souring_59 (by decide) rfl ?_
              refine x_iinc (v := (x3 + 1)) (lv' := [(3, .int (x3 + 1)), (2, .int (x2 + 1)), (0, .ref (ad 100)), (1, .int x1)]) C d_M_souring_60 3 rfl rfl (by decide) rfl ?_
              refine x_goto C 4 d_M_souring_63 (by decide) ?_
              refine x_sub [2, 3, 1, 0] rfl ?_
              exact ih _ _ _ hf K
set_option maxHeartbeats 4000000 in
set_option maxRecDepth 100000 in
theorem ct_M_souring {l : Launch} {D : va_G} {ad : Nat → Nat} {cs : Nat → ClassId} {A : Nat → Prop} (E : Ev ad cs A LM) (F : Nat) (M : Mem) (x1 : Int32) (R : Int32)  (hf : M_souring F M x1 = some R) : Met l y_M_souring (Cond.code y_M_souring b_M_souring 4 (some .int) :: wl) (rmD 2) (PX D ad cs A LM [.ref (ad 100), .int x1] M) (QX D ad cs A LM (some (.int R)) M) 0 0 A := by
  refine x_enter (lv := [(0, .ref (ad 100)), (1, .int x1)]) E mi_M_souring.1 (Nat.le_of_ble_eq_true rfl) rfl (fun p e s m args below meth c C => ?_)
  unfold M_souring at hf
  refine x_iconst (v := 0) C d_M_souring_0 rfl ?_
  refine x_istore_n (lv' := [(2, .int 0), (0, .ref (ad 100)), (1, .int x1)]) C d_M_souring_1 (by decide) rfl ?_
  refine x_iconst (v := 0) C d_M_souring_2 rfl ?_
  refine x_istore_n (lv' := [(3, .int 0), (2, .int 0), (0, .ref (ad 100)), (1, .int x1)]) C d_M_souring_3 (by decide) rfl ?_
  obtain ⟨u10, hu10, hf⟩ := bs hf
  refine x_sub [2, 3, 1, 0] rfl ?_
  refine lw_M_souring_4 E C F _ _ _ _ _ _ hu10 ?_
  refine x_iload_n C d_M_souring_66 0 rfl ?_
  cases hf
  exact x_iret C d_M_souring_67 rfl rfl
set_option maxHeartbeats 4000000 in
set_option maxRecDepth 100000 in
theorem lw_M_ringsOf_20 {p : Program} {l : Launch} {e : Env} {s : State} {m : MethodId} {args : Array Value} {below : List Frame} {meth : Method} {c : Code} {D : va_G} {ad : Nat → Nat} {cs : Nat → ClassId} {A : Nat → Prop} {V : Option Value} {N : Mem} (E : Ev ad cs A LM) (C : Cx p s m args meth c "KissClearingModel" b_M_ringsOf 6 (some .int) D ad cs A LM) (F : Nat) (M : Mem) (x1 : Int32) (x3 : Int32) : ∀ (n : Nat) (x4 : Int32) (x5 : Int32) (u : Int32), L_M_ringsOf_20 F M x1 x3 n x4 x5 = some u → X p l e 4 s m args below meth c 6 D ad cs A LM V N M 63 [(0, .ref (ad 100)), (1, .int x1), (3, .int x3), (4, .int u)] [] → X p l e 4 s m args below meth c 6 D ad cs A LM V N M 20 [(0, .ref (ad 100)), (1, .int x1), (3, .int x3), (4, .int x4), (5, .int x5)] [] := by
  intro n
  induction n with
  | zero => intro x4 x5 u hf; cases hf
  | succ n ih =>
    intro x4 x5 u hf K
    replace hf : B_M_ringsOf_20 F M x1 x3 (L_M_ringsOf_20 F M x1 x3 n) x4 x5 = some u := hf
    unfold B_M_ringsOf_20 at hf
    refine x_iload C d_M_ringsOf_20 4 rfl ?_
    refine x_aload_n C d_M_ringsOf_22 0 rfl ?_
    refine xg_M_chainMany C wF_M_243 mc_100 kc_100 d_M_ringsOf_23 ?_
    refine x_icmp_ge C 63 d_M_ringsOf_26 (by decide) (fun g4 => ?_) (fun g4 => ?_)
    · replace hf := it g4 hf
      cases hf
      exact x_sub [0, 1, 2, 3] rfl K
    · replace hf := ie g4 hf
      refine x_iload C d_M_ringsOf_29 3 rfl ?_
      refine x_if_ne C 50 d_M_ringsOf_31 (by decide) (fun g5 => ?_) (fun g5 => ?_)
      · replace hf := ie g5 hf
        refine x_iconst (v := 1) C d_M_ringsOf_50 rfl ?_
        refine x_goto C 55 d_M_ringsOf_51 (by decide) ?_
        refine x_istore (lv' := [(4, .int 1), (0, .ref (ad 100)), (1, .int x1), (3, .int x3), (5, .int x5)]) C d_M_ringsOf_55 (by decide) rfl ?_
        refine x_iinc (v := (x5 + 1)) (lv' := [(5, .int (x5 + 1)), (4, .int 1), (0, .ref (ad 100)), (1, .int x1), (3, .int x3)]) C d_M_ringsOf_57 4 rfl rfl (by decide) rfl ?_
        refine x_goto C 20 d_M_ringsOf_60 (by decide) ?_
        refine x_sub [2, 3, 4, 1, 0] rfl ?_
        exact ih _ _ _ hf K
      · replace hf := it g5 hf
        refine x_aload_n C d_M_ringsOf_34 0 rfl ?_
        refine x_aload_n C d_M_ringsOf_35 0 rfl ?_
        refine xg_M_chain C wF_M_44 mc_100 kc_100 d_M_ringsOf_36 ?_
        refine x_iload C d_M_ringsOf_39 4 rfl ?_
        obtain ⟨t6, ht6, hf⟩ := bs hf
        refine x_iald C ht6 mc_111 kc_111 d_M_ringsOf_41 ?_
        refine x_iconst (v := 0) C d_M_ringsOf_42 rfl ?_
        obtain ⟨c7, hc7, hf⟩ := bs hf
        refine x_callV (rest := []) (n := 2) C (ct_M_of E F _ _ _ _  hc7) mi_M_of (by decide) mc_100 ⟨_, cel_M kc_100⟩ rfl rfl wL_M_146 d_M_ringsOf_43 rfl rfl (Nat.le_of_ble_eq_true rfl) ?_
        show X _ _ _ _ _ _ _ _ _ _ _ _ _ _ _ _ _ _ _ _ _ [.int c7]
        refine x_iload_n C d_M_ringsOf_46 1 rfl ?_
        refine x_icmp_ne C 54 d_M_ringsOf_47 (by decide) (fun g8 => ?_) (fun g8 => ?_)
        · replace hf := ie g8 hf
          refine x_iconst (v := 0) C d_M_ringsOf_54 rfl ?_
          refine x_istore (lv' := [(4, .int 0), (0, .ref (ad 100)), (1, .int x1), (3, .int x3), (5, .int x5)]) C d_M_ringsOf_55 (by decide) rfl ?_
          refine x_iinc (v := (x5 + 1)) (lv' := [(5, .int (x5 + 1)), (4, .int 0), (0, .ref (ad 100)), (1, .int x1), (3, .int x3)]) C d_M_ringsOf_57 4 rfl rfl (by decide) rfl ?_
          refine x_goto C 20 d_M_ringsOf_60 (by decide) ?_
          refine x_sub [2, 3, 4, 1, 0] rfl ?_
          exact ih _ _ _ hf K
        · replace hf := it g8 hf
          refine x_iconst (v := 1) C d_M_ringsOf_50 rfl ?_
          refine x_goto C 55 d_M_ringsOf_51 (by decide) ?_
          refine x_istore (lv' := [(4, .int 1), (0, .ref (ad 100)), (1, .int x1), (3, .int x3), (5, .int x5)]) C d_M_ringsOf_55 (by decide) rfl ?_
          refine x_iinc (v := (x5 + 1)) (lv' := [(5, .int (x5 + 1)), (4, .int 1), (0, .ref (ad 100)), (1, .int x1), (3, .int x3)]) C d_M_ringsOf_57 4 rfl rfl (by decide) rfl ?_
          refine x_goto C 20 d_M_ringsOf_60 (by decide) ?_
          refine x_sub [2, 3, 4, 1, 0] rfl ?_
          exact ih _ _ _ hf K
set_option maxHeartbeats 4000000 in
set_option maxRecDepth 100000 in
theorem lw_M_ringsOf_7 {p : Program} {l : Launch} {e : Env} {s : State} {m : MethodId} {args : Array Value} {below : List Frame} {meth : Method} {c : Code} {D : va_G} {ad : Nat → Nat} {cs : Nat → ClassId} {A : Nat → Prop} {V : Option Value} {N : Mem} (E : Ev ad cs A LM) (C : Cx p s m args meth c "KissClearingModel" b_M_ringsOf 6 (some .int) D ad cs A LM) (F : Nat) (x1 : Int32) : ∀ (n : Nat) (M : Mem) (x3 : Int32) (u : (Int32 × Mem)), L_M_ringsOf_7 F x1 n M x3 = some u → X p l e 4 s m args below meth c 6 D ad cs A LM V N u.2 79 [(3, .int u.1)] [] → X p l e 4 s m args below meth c 6 D ad cs A LM V N M 7 [(0, .ref (ad 100)), (1, .int x1), (3, .int x3)] [] := by
  intro n
  induction n with
  | zero => intro M x3 u hf; cases hf
  | succ n ih =>
    intro M x3 u hf K
    replace hf : B_M_ringsOf_7 F x1 (L_M_ringsOf_7 F x1 n) M x3 = some u := hf
    unfold B_M_ringsOf_7 at hf
    refine x_aload_n C d_M_ringsOf_7 0 rfl ?_
    obtain ⟨c2, hc2, hf⟩ := bs hf
    refine x_callV (rest := []) (n := 0) C (ct_M_nextRing E F _ _  hc2) mi_M_nextRing (by decide) mc_100 ⟨_, cel_M kc_100⟩ rfl rfl wL_M_259 d_M_ringsOf_8 rfl rfl (Nat.le_of_ble_eq_true rfl) ?_
    show X _ _ _ _ _ _ _ _ _ _ _ _ _ _ _ _ _ _ _ _ _ [.int c2.1]
    refine x_if_eq C 79 d_M_ringsOf_11 (by decide) (fun g3 => ?_) (fun g3 => ?_)
    · replace hf := it g3 hf
      cases hf
      exact x_sub [2] rfl K
    · replace hf := ie g3 hf
      refine x_iconst (v := 0) C d_M_ringsOf_14 rfl ?_
      refine x_istore (lv' := [(4, .int 0), (0, .ref (ad 100)), (1, .int x1), (3, .int x3)]) C d_M_ringsOf_15 (by decide) rfl ?_
      refine x_iconst (v := 0) C d_M_ringsOf_17 rfl ?_
      refine x_istore (lv' := [(5, .int 0), (4, .int 0), (0, .ref (ad 100)), (1, .int x1), (3, .int x3)]) C d_M_ringsOf_18 (by decide) rfl ?_
      obtain ⟨u9, hu9, hf⟩ := bs hf
      refine x_sub [2, 3, 4, 1, 0] rfl ?_
      refine lw_M_ringsOf_20 E C F _ _ _ _ _ _ _ hu9 ?_
      refine x_iload_n C d_M_ringsOf_63 2 rfl ?_
      refine x_iload C d_M_ringsOf_64 3 rfl ?_
      refine x_if_eq C 73 d_M_ringsOf_66 (by decide) (fun g10 => ?_) (fun g10 => ?_)
      · replace hf := it g10 hf
        refine x_iconst (v := 0) C d_M_ringsOf_73 rfl ?_
        refine x_iadd C d_M_ringsOf_74 ?_
        refine x_istore_n (lv' := [(3, .int (x3 + 0)), (0, .ref (ad 100)), (1, .int x1), (4, .int u9)]) C d_M_ringsOf_75 (by decide) rfl ?_
        refine x_goto C 7 d_M_ringsOf_76 (by decide) ?_
        refine x_sub [1, 2, 0] rfl ?_
        exact ih _ _ _ hf K
      · replace hf := ie g10 hf
        refine x_iconst (v := 1) C d_M_ringsOf_69 rfl ?_
        refine x_goto C 74 d_M_ringsOf_70 (by decide) ?_
        refine x_iadd C d_M_ringsOf_74 ?_
        refine x_istore_n (lv' := [(3, .int (x3 + 1)), (0, .ref (ad 100)), (1, .int x1), (4, .int u9)]) C d_M_ringsOf_75 (by decide) rfl ?_
        refine x_goto C 7 d_M_ringsOf_76 (by decide) ?_
        refine x_sub [1, 2, 0] rfl ?_
        exact ih _ _ _ hf K
set_option maxHeartbeats 4000000 in
set_option maxRecDepth 100000 in
theorem ct_M_ringsOf {l : Launch} {D : va_G} {ad : Nat → Nat} {cs : Nat → ClassId} {A : Nat → Prop} (E : Ev ad cs A LM) (F : Nat) (M : Mem) (x1 : Int32) (x2 : Int32) (R : (Int32 × Mem))  (hf : M_ringsOf F M x1 x2 = some R) : Met l y_M_ringsOf (Cond.code y_M_ringsOf b_M_ringsOf 6 (some .int) :: wl) (rmD 4) (PX D ad cs A LM [.ref (ad 100), .int x1, .int x2] M) (QX D ad cs A LM (some (.int R.1)) R.2) 0 0 A := by
  refine x_enter (lv := [(0, .ref (ad 100)), (1, .int x1), (2, .int x2)]) E mi_M_ringsOf.1 (Nat.le_of_ble_eq_true rfl) rfl (fun p e s m args below meth c C => ?_)
  unfold M_ringsOf at hf
  refine x_iconst (v := 0) C d_M_ringsOf_0 rfl ?_
  refine x_istore_n (lv' := [(3, .int 0), (0, .ref (ad 100)), (1, .int x1), (2, .int x2)]) C d_M_ringsOf_1 (by decide) rfl ?_
  refine x_aload_n C d_M_ringsOf_2 1 rfl ?_
  refine x_iload_n C d_M_ringsOf_3 3 rfl ?_
  obtain ⟨c1, hc1, hf⟩ := bs hf
  refine x_callV (rest := []) (n := 1) C (ct_M_beginRings E F _ _ _  hc1) mi_M_beginRings (by decide) mc_100 ⟨_, cel_M kc_100⟩ rfl rfl wL_M_255 d_M_ringsOf_4 rfl rfl (Nat.le_of_ble_eq_true rfl) ?_
  show X _ _ _ _ _ _ _ _ _ _ _ _ _ _ _ _ _ _ _ _ _ []
  obtain ⟨u11, hu11, hf⟩ := bs hf
  refine x_sub [1, 2, 0] rfl ?_
  refine lw_M_ringsOf_7 E C F _ _ _ _ _ hu11 ?_
  refine x_iload_n C d_M_ringsOf_79 0 rfl ?_
  cases hf
  exact x_iret C d_M_ringsOf_80 rfl rfl
set_option maxHeartbeats 4000000 in
set_option maxRecDepth 100000 in
theorem ct_M_mark {l : Launch} {D : va_G} {ad : Nat → Nat} {cs : Nat → ClassId} {A : Nat → Prop} (E : Ev ad cs A LM) (F : Nat) (M : Mem) (x1 : Int32) (x2 : Int32) (R : (Int32 × Mem))  (hf : M_mark F M x1 x2 = some R) : Met l y_M_mark (Cond.code y_M_mark b_M_mark 4 (some .int) :: wl) (rmD 5) (PX D ad cs A LM [.ref (ad 100), .int x1, .int x2] M) (QX D ad cs A LM (some (.int R.1)) R.2) 0 0 A := by
  refine x_enter (lv := [(0, .ref (ad 100)), (1, .int x1), (2, .int x2)]) E mi_M_mark.1 (Nat.le_of_ble_eq_true rfl) rfl (fun p e s m args below meth c C => ?_)
  unfold M_mark at hf
  refine x_aload_n C d_M_mark_0 0 rfl ?_
  refine x_iload_n C d_M_mark_1 1 rfl ?_
  obtain ⟨c1, hc1, hf⟩ := bs hf
  refine x_callV (rest := []) (n := 1) C (ct_M_isPerson E F _ _ _  hc1) mi_M_isPerson (by decide) mc_100 ⟨_, cel_M kc_100⟩ rfl rfl wL_M_143 d_M_mark_2 rfl rfl (Nat.le_of_ble_eq_true rfl) ?_
  show X _ _ _ _ _ _ _ _ _ _ _ _ _ _ _ _ _ _ _ _ _ [.int c1]
  refine x_if_eq C 20 d_M_mark_5 (by decide) (fun g2 => ?_) (fun g2 => ?_)
  · replace hf := it g2 hf
    refine x_iconst (v := (-1)) C d_M_mark_20 rfl ?_
    cases hf
    exact x_iret C d_M_mark_21 rfl rfl
  · replace hf := ie g2 hf
    refine x_iload_n C d_M_mark_8 2 rfl ?_
    refine x_i2l C d_M_mark_9 ?_
    refine x_lconst (v := 1) C d_M_mark_10 rfl ?_
    refine x_ldc2 C wJ_M_63 d_M_mark_11 ?_
    obtain ⟨c3, hc3, hf⟩ := bs hf
    refine x_callS (rest := []) (n := 3) C (ct_M_in E F _ _ _ _ _  hc3) mi_M_in (by decide) wL_M_65 d_M_mark_14 rfl rfl (Nat.le_of_ble_eq_true rfl) ?_
    show X _ _ _ _ _ _ _ _ _ _ _ _ _ _ _ _ _ _ _ _ _ [.int c3]
    refine x_if_ne C 22 d_M_mark_17 (by decide) (fun g4 => ?_) (fun g4 => ?_)
    · replace hf := ie g4 hf
      refine x_aload_n C d_M_mark_22 0 rfl ?_
      refine x_iload_n C d_M_mark_23 1 rfl ?_
      refine x_iload_n C d_M_mark_24 2 rfl ?_
      obtain ⟨c5, hc5, hf⟩ := bs hf
      refine x_callV (rest := []) (n := 2) C (ct_M_isOf E F _ _ _ _  hc5) mi_M_isOf (by decide) mc_100 ⟨_, cel_M kc_100⟩ rfl rfl wL_M_182 d_M_mark_25 rfl rfl (Nat.le_of_ble_eq_true rfl) ?_
      show X _ _ _ _ _ _ _ _ _ _ _ _ _ _ _ _ _ _ _ _ _ [.int c5]
      refine x_if_ne C 37 d_M_mark_28 (by decide) (fun g6 => ?_) (fun g6 => ?_)
      · replace hf := ie g6 hf
        refine x_iload_n C d_M_mark_37 2 rfl ?_
        rcases Classical.em (x2 = 1) with g7 | g7
        · replace hf := it g7 hf
          refine x_tswIn C 68 g7 d_M_mark_38 (by decide) (by decide) rfl (by decide) ?_
          refine x_aload_n C d_M_mark_68 0 rfl ?_
          refine x_iload_n C d_M_mark_69 1 rfl ?_
          obtain ⟨c8, hc8, hf⟩ := bs hf
          refine x_callV (rest := []) (n := 1) C (ct_M_openTo E F _ _ _  hc8) mi_M_openTo (by decide) mc_100 ⟨_, cel_M kc_100⟩ rfl rfl wL_M_185 d_M_mark_70 rfl rfl (Nat.le_of_ble_eq_true rfl) ?_
          show X _ _ _ _ _ _ _ _ _ _ _ _ _ _ _ _ _ _ _ _ _ [.int c8]
          refine x_aload_n C d_M_mark_73 0 rfl ?_
          refine x_iload_n C d_M_mark_74 1 rfl ?_
          obtain ⟨c9, hc9, hf⟩ := bs hf
          refine x_callV (rest := [.int c8]) (n := 1) C (ct_M_growth E F _ _ _  hc9) mi_M_growth (by decide) mc_100 ⟨_, cel_M kc_100⟩ rfl rfl wL_M_188 d_M_mark_75 rfl rfl (Nat.le_of_ble_eq_true rfl) ?_
          show X _ _ _ _ _ _ _ _ _ _ _ _ _ _ _ _ _ _ _ _ _ [.int c9, .int c8]
          refine x_imul C d_M_mark_78 ?_
          cases hf
          exact x_iret C d_M_mark_79 rfl rfl
        · replace hf := ie g7 hf
          rcases Classical.em (x2 = 2) with g10 | g10
          · replace hf := it g10 hf
            refine x_tswIn C 80 g10 d_M_mark_38 (by decide) (by decide) rfl (by decide) ?_
            refine x_aload_n C d_M_mark_80 0 rfl ?_
            refine x_iload_n C d_M_mark_81 1 rfl ?_
            obtain ⟨c11, hc11, hf⟩ := bs hf
            refine x_callV (rest := []) (n := 1) C (ct_M_openOn E F _ _ _  hc11) mi_M_openOn (by decide) mc_100 ⟨_, cel_M kc_100⟩ rfl rfl wL_M_191 d_M_mark_82 rfl rfl (Nat.le_of_ble_eq_true rfl) ?_
            show X _ _ _ _ _ _ _ _ _ _ _ _ _ _ _ _ _ _ _ _ _ [.int c11]
            cases hf
            exact x_iret C d_M_mark_85 rfl rfl
          · replace hf := ie g10 hf
            rcases Classical.em (x2 = 3) with g12 | g12
            · replace hf := it g12 hf
              refine x_tswIn C 86 g12 d_M_mark_38 (by decide) (by decide) rfl (by decide) ?_
              refine x_aload_n C d_M_mark_86 0 rfl ?_
              refine x_iload_n C d_M_mark_87 1 rfl ?_
              refine x_iconst (v := 0) C d_M_mark_88 rfl ?_
              obtain ⟨c13, hc13, hf⟩ := bs hf
              refine x_callV (rest := []) (n := 2) C (ct_M_owed E F _ _ _ _  hc13) mi_M_owed (by decide) mc_100 ⟨_, cel_M kc_100⟩ rfl rfl wL_M_165 d_M_mark_89 rfl rfl (Nat.le_of_ble_eq_true rfl) ?_
              show X _ _ _ _ _ _ _ _ _ _ _ _ _ _ _ _ _ _ _ _ _ [.int c13]
              refine x_aload_n C d_M_mark_92 0 rfl ?_
              refine x_iload_n C d_M_mark_93 1 rfl ?_
              obtain ⟨c14, hc14, hf⟩ := bs hf
              refine x_callV (rest := [.int c13]) (n := 1) C (ct_M_reserve E F _ _ _  hc14) mi_M_reserve (by decide) mc_100 ⟨_, cel_M kc_100⟩ rfl rfl wL_M_168 d_M_mark_94 rfl rfl (Nat.le_of_ble_eq_true rfl) ?_
              show X _ _ _ _ _ _ _ _ _ _ _ _ _ _ _ _ _ _ _ _ _ [.int c14, .int c13]
              refine x_iadd C d_M_mark_97 ?_
              refine x_aload_n C d_M_mark_98 0 rfl ?_
              refine x_iload_n C d_M_mark_99 1 rfl ?_
              obtain ⟨c15, hc15, hf⟩ := bs hf
              refine x_callV (rest := [.int (c13 + c14)]) (n := 1) C (ct_M_owing E F _ _ _  hc15) mi_M_owing (by decide) mc_100 ⟨_, cel_M kc_100⟩ rfl rfl wL_M_162 d_M_mark_100 rfl rfl (Nat.le_of_ble_eq_true rfl) ?_
              show X _ _ _ _ _ _ _ _ _ _ _ _ _ _ _ _ _ _ _ _ _ [.int c15, .int (c13 + c14)]
              refine x_isub C d_M_mark_103 ?_
              refine x_istore_n (lv' := [(3, .int ((c13 + c14) - c15)), (0, .ref (ad 100)), (1, .int x1), (2, .int x2)]) C d_M_mark_104 (by decide) rfl ?_
              refine x_iload_n C d_M_mark_105 0 rfl ?_
              refine x_if_le C 113 d_M_mark_106 (by decide) (fun g16 => ?_) (fun g16 => ?_)
              · replace hf := it g16 hf
                refine x_iconst (v := 0) C d_M_mark_113 rfl ?_
                cases hf
                exact x_iret C d_M_mark_114 rfl rfl
              · replace hf := ie g16 hf
                refine x_iload_n C d_M_mark_109 0 rfl ?_
                refine x_goto C 114 d_M_mark_110 (by decide) ?_
                cases hf
                exact x_iret C d_M_mark_114 rfl rfl
            · replace hf := ie g12 hf
              rcases Classical.em (x2 = 4) with g17 | g17
              · replace hf := it g17 hf
                refine x_tswIn C 115 g17 d_M_mark_38 (by decide) (by decide) rfl (by decide) ?_
                refine x_aload_n C d_M_mark_115 0 rfl ?_
                refine x_iload_n C d_M_mark_116 1 rfl ?_
                obtain ⟨c18, hc18, hf⟩ := bs hf
                refine x_callV (rest := []) (n := 1) C (ct_M_souring E F _ _ _  hc18) mi_M_souring (by decide) mc_100 ⟨_, cel_M kc_100⟩ rfl rfl wL_M_194 d_M_mark_117 rfl rfl (Nat.le_of_ble_eq_true rfl) ?_
                show X _ _ _ _ _ _ _ _ _ _ _ _ _ _ _ _ _ _ _ _ _ [.int c18]
                cases hf
                exact x_iret C d_M_mark_120 rfl rfl
              · replace hf := ie g17 hf
                have hsw : (x2).toInt < 1 ∨ 4 < (x2).toInt := by
                  have qg7 := lv_neT g7 (a := 1) rfl
                  have qg10 := lv_neT g10 (a := 2) rfl
                  have qg12 := lv_neT g12 (a := 3) rfl
                  have qg17 := lv_neT g17 (a := 4) rfl
                  omega
                refine x_tswOut C 121 d_M_mark_38 hsw (by decide) ?_
                refine x_aload_n C d_M_mark_121 0 rfl ?_
                refine x_iload_n C d_M_mark_122 1 rfl ?_
                refine x_iconst (v := 0) C d_M_mark_123 rfl ?_
                obtain ⟨c19, hc19, hf⟩ := bs hf
                refine x_callV (rest := []) (n := 2) C (ct_M_ringsOf E F _ _ _ _  hc19) mi_M_ringsOf (by decide) mc_100 ⟨_, cel_M kc_100⟩ rfl rfl wL_M_197 d_M_mark_124 rfl rfl (Nat.le_of_ble_eq_true rfl) ?_
                show X _ _ _ _ _ _ _ _ _ _ _ _ _ _ _ _ _ _ _ _ _ [.int c19.1]
                refine x_aload_n C d_M_mark_127 0 rfl ?_
                refine x_iload_n C d_M_mark_128 1 rfl ?_
                refine x_iconst (v := 1) C d_M_mark_129 rfl ?_
                obtain ⟨c20, hc20, hf⟩ := bs hf
                refine x_callV (rest := [.int c19.1]) (n := 2) C (ct_M_ringsOf E F _ _ _ _  hc20) mi_M_ringsOf (by decide) mc_100 ⟨_, cel_M kc_100⟩ rfl rfl wL_M_197 d_M_mark_130 rfl rfl (Nat.le_of_ble_eq_true rfl) ?_
                show X _ _ _ _ _ _ _ _ _ _ _ _ _ _ _ _ _ _ _ _ _ [.int c20.1, .int c19.1]
                refine x_iadd C d_M_mark_133 ?_
                cases hf
                exact x_iret C d_M_mark_134 rfl rfl
      · replace hf := it g6 hf
        refine x_aload_n C d_M_mark_31 0 rfl ?_
        refine x_iconst (v := 3) C d_M_mark_32 rfl ?_
        obtain ⟨c21, hc21, hf⟩ := bs hf
        refine x_callV (rest := []) (n := 1) C (ct_M_find E F _ _ _  hc21) mi_M_find (by decide) mc_100 ⟨_, cel_M kc_100⟩ rfl rfl wL_M_75 d_M_mark_33 rfl rfl (Nat.le_of_ble_eq_true rfl) ?_
        show X _ _ _ _ _ _ _ _ _ _ _ _ _ _ _ _ _ _ _ _ _ [.int c21.1]
        cases hf
        exact x_iret C d_M_mark_36 rfl rfl
    · replace hf := it g4 hf
      refine x_iconst (v := (-1)) C d_M_mark_20 rfl ?_
      cases hf
      exact x_iret C d_M_mark_21 rfl rfl
set_option maxHeartbeats 4000000 in
set_option maxRecDepth 100000 in
theorem lw_M_mean_44 {p : Program} {l : Launch} {e : Env} {s : State} {m : MethodId} {args : Array Value} {below : List Frame} {meth : Method} {c : Code} {D : va_G} {ad : Nat → Nat} {cs : Nat → ClassId} {A : Nat → Prop} {V : Option Value} {N : Mem} (E : Ev ad cs A LM) (C : Cx p s m args meth c "KissClearingModel" b_M_mean 5 (some .int) D ad cs A LM) (F : Nat) (M : Mem) (x1 : Int32) : ∀ (n : Nat) (x2 : Int64) (x4 : Int32) (u : Int64), L_M_mean_44 F M x1 n x2 x4 = some u → X p l e 2 s m args below meth c 5 D ad cs A LM V N M 77 [(0, .ref (ad 100)), (1, .int x1), (2, .long u)] [] → X p l e 2 s m args below meth c 5 D ad cs A LM V N M 44 [(0, .ref (ad 100)), (1, .int x1), (2, .long x2), (4, .int x4)] [] := by
  intro n
  induction n with
  | zero => intro x2 x4 u hf; cases hf
  | succ n ih =>
    intro x2 x4 u hf K
    replace hf : B_M_mean_44 F M x1 (L_M_mean_44 F M x1 n) x2 x4 = some u := hf
    unfold B_M_mean_44 at hf
    refine x_iload C d_M_mean_44 3 rfl ?_
    refine x_aload_n C d_M_mean_46 0 rfl ?_
    refine xg_M_sizes C wF_M_16 mc_100 kc_100 d_M_mean_47 ?_
    refine x_iload_n C d_M_mean_50 1 rfl ?_
    obtain ⟨t7, ht7, hf⟩ := bs hf
    refine x_iald C ht7 mc_103 kc_103 d_M_mean_51 ?_
    refine x_icmp_ge C 77 d_M_mean_52 (by decide) (fun g8 => ?_) (fun g8 => ?_)
    · replace hf := it g8 hf
      cases hf
      exact x_sub [0, 1, 2] rfl K
    · replace hf := ie g8 hf
      refine x_lload_n C d_M_mean_55 2 rfl ?_
      refine x_aload_n C d_M_mean_56 0 rfl ?_
      refine xg_M_items C wF_M_19 mc_100 kc_100 d_M_mean_57 ?_
      refine x_bipush (v := 40) C d_M_mean_60 rfl ?_
      refine x_iload_n C d_M_mean_62 1 rfl ?_
      refine x_imul C d_M_mean_63 ?_
      refine x_iload C d_M_mean_64 3 rfl ?_
      refine x_iadd C d_M_mean_66 ?_
      obtain ⟨t9, ht9, hf⟩ := bs hf
      refine x_iald C ht9 mc_104 kc_104 d_M_mean_67 ?_
      refine x_i2l C d_M_mean_68 ?_
      refine x_ladd C d_M_mean_69 ?_
      refine x_lstore_n (lv' := [(2, .long (x2 + ((t9).toInt64))), (0, .ref (ad 100)), (1, .int x1), (4, .int x4)]) C d_M_mean_70 (by decide) rfl ?_
      refine x_iinc (v := (x4 + 1)) (lv' := [(4, .int (x4 + 1)), (2, .long (x2 + ((t9).toInt64))), (0, .ref (ad 100)), (1, .int x1)]) C d_M_mean_71 3 rfl rfl (by decide) rfl ?_
      refine x_goto C 44 d_M_mean_74 (by decide) ?_
      refine x_sub [2, 3, 1, 0] rfl ?_
      exact ih _ _ _ hf K
set_option maxHeartbeats 4000000 in
set_option maxRecDepth 100000 in
theorem ct_M_mean {l : Launch} {D : va_G} {ad : Nat → Nat} {cs : Nat → ClassId} {A : Nat → Prop} (E : Ev ad cs A LM) (F : Nat) (M : Mem) (x1 : Int32) (R : (Int32 × Mem))  (hf : M_mean F M x1 = some R) : Met l y_M_mean (Cond.code y_M_mean b_M_mean 5 (some .int) :: wl) (rmD 2) (PX D ad cs A LM [.ref (ad 100), .int x1] M) (QX D ad cs A LM (some (.int R.1)) R.2) 0 0 A := by
  refine x_enter (lv := [(0, .ref (ad 100)), (1, .int x1)]) E mi_M_mean.1 (Nat.le_of_ble_eq_true rfl) rfl (fun p e s m args below meth c C => ?_)
  unfold M_mean at hf
  refine x_iload_n C d_M_mean_0 1 rfl ?_
  obtain ⟨c1, hc1, hf⟩ := bs hf
  refine x_callS (rest := []) (n := 1) C (ct_M_isRow E F _ _ _  hc1) mi_M_isRow (by decide) wL_M_71 d_M_mean_1 rfl rfl (Nat.le_of_ble_eq_true rfl) ?_
  show X _ _ _ _ _ _ _ _ _ _ _ _ _ _ _ _ _ _ _ _ _ [.int c1]
  refine x_if_ne C 9 d_M_mean_4 (by decide) (fun g2 => ?_) (fun g2 => ?_)
  · replace hf := ie g2 hf
    refine x_aload_n C d_M_mean_9 0 rfl ?_
    refine xg_M_sizes C wF_M_16 mc_100 kc_100 d_M_mean_10 ?_
    refine x_iload_n C d_M_mean_13 1 rfl ?_
    obtain ⟨t3, ht3, hf⟩ := bs hf
    refine x_iald C ht3 mc_103 kc_103 d_M_mean_14 ?_
    refine x_if_ge C 24 d_M_mean_15 (by decide) (fun g4 => ?_) (fun g4 => ?_)
    · replace hf := it g4 hf
      refine x_aload_n C d_M_mean_24 0 rfl ?_
      refine xg_M_sizes C wF_M_16 mc_100 kc_100 d_M_mean_25 ?_
      refine x_iload_n C d_M_mean_28 1 rfl ?_
      obtain ⟨t5, ht5, hf⟩ := bs hf
      refine x_iald C ht5 mc_103 kc_103 d_M_mean_29 ?_
      refine x_if_ne C 39 d_M_mean_30 (by decide) (fun g6 => ?_) (fun g6 => ?_)
      · replace hf := ie g6 hf
        refine x_lconst (v := 0) C d_M_mean_39 rfl ?_
        refine x_lstore_n (lv' := [(2, .long 0), (0, .ref (ad 100)), (1, .int x1)]) C d_M_mean_40 (by decide) rfl ?_
        refine x_iconst (v := 0) C d_M_mean_41 rfl ?_
        refine x_istore (lv' := [(4, .int 0), (2, .long 0), (0, .ref (ad 100)), (1, .int x1)]) C d_M_mean_42 (by decide) rfl ?_
        obtain ⟨u10, hu10, hf⟩ := bs hf
        refine x_sub [2, 3, 1, 0] rfl ?_
        refine lw_M_mean_44 E C F _ _ _ _ _ _ hu10 ?_
        refine x_aload_n C d_M_mean_77 0 rfl ?_
        refine x_lload_n C d_M_mean_78 2 rfl ?_
        refine x_aload_n C d_M_mean_79 0 rfl ?_
        refine xg_M_sizes C wF_M_16 mc_100 kc_100 d_M_mean_80 ?_
        refine x_iload_n C d_M_mean_83 1 rfl ?_
        obtain ⟨t11, ht11, hf⟩ := bs hf
        refine x_iald C ht11 mc_103 kc_103 d_M_mean_84 ?_
        refine x_i2l C d_M_mean_85 ?_
        obtain ⟨t12, ht12, hf⟩ := bs hf
        refine x_ldiv C ht12 d_M_mean_86 ?_
        refine x_l2i C d_M_mean_87 ?_
        obtain ⟨c13, hc13, hf⟩ := bs hf
        refine x_callV (rest := []) (n := 1) C (ct_M_tell E F _ _ _  hc13) mi_M_tell (by decide) mc_100 ⟨_, cel_M kc_100⟩ rfl rfl wL_M_87 d_M_mean_88 rfl rfl (Nat.le_of_ble_eq_true rfl) ?_
        show X _ _ _ _ _ _ _ _ _ _ _ _ _ _ _ _ _ _ _ _ _ [.int c13.1]
        cases hf
        exact x_iret C d_M_mean_91 rfl rfl
      · replace hf := it g6 hf
        refine x_aload_n C d_M_mean_33 0 rfl ?_
        refine x_iconst (v := 4) C d_M_mean_34 rfl ?_
        obtain ⟨c14, hc14, hf⟩ := bs hf
        refine x_callV (rest := []) (n := 1) C (ct_M_find E F _ _ _  hc14) mi_M_find (by decide) mc_100 ⟨_, cel_M kc_100⟩ rfl rfl wL_M_75 d_M_mean_35 rfl rfl (Nat.le_of_ble_eq_true rfl) ?_
        show X _ _ _ _ _ _ _ _ _ _ _ _ _ _ _ _ _ _ _ _ _ [.int c14.1]
        cases hf
        exact x_iret C d_M_mean_38 rfl rfl
    · replace hf := ie g4 hf
      refine x_aload_n C d_M_mean_18 0 rfl ?_
      refine x_iconst (v := 1) C d_M_mean_19 rfl ?_
      obtain ⟨c15, hc15, hf⟩ := bs hf
      refine x_callV (rest := []) (n := 1) C (ct_M_find E F _ _ _  hc15) mi_M_find (by decide) mc_100 ⟨_, cel_M kc_100⟩ rfl rfl wL_M_75 d_M_mean_20 rfl rfl (Nat.le_of_ble_eq_true rfl) ?_
      show X _ _ _ _ _ _ _ _ _ _ _ _ _ _ _ _ _ _ _ _ _ [.int c15.1]
      cases hf
      exact x_iret C d_M_mean_23 rfl rfl
  · replace hf := it g2 hf
    refine x_iconst (v := (-1)) C d_M_mean_7 rfl ?_
    cases hf
    exact x_iret C d_M_mean_8 rfl rfl
set_option maxHeartbeats 4000000 in
set_option maxRecDepth 100000 in
theorem ct_M_meet {l : Launch} {D : va_G} {ad : Nat → Nat} {cs : Nat → ClassId} {A : Nat → Prop} (E : Ev ad cs A LM) (F : Nat) (M : Mem) (x1 : Int32) (x2 : Int32) (R : (Int32 × Mem))  (hf : M_meet F M x1 x2 = some R) : Met l y_M_meet (Cond.code y_M_meet b_M_meet 3 (some .int) :: wl) (rmD 6) (PX D ad cs A LM [.ref (ad 100), .int x1, .int x2] M) (QX D ad cs A LM (some (.int R.1)) R.2) 0 0 A := by
  refine x_enter (lv := [(0, .ref (ad 100)), (1, .int x1), (2, .int x2)]) E mi_M_meet.1 (Nat.le_of_ble_eq_true rfl) rfl (fun p e s m args below meth c C => ?_)
  unfold M_meet at hf
  refine x_aload_n C d_M_meet_0 0 rfl ?_
  refine x_iload_n C d_M_meet_1 1 rfl ?_
  refine x_iload_n C d_M_meet_2 2 rfl ?_
  obtain ⟨c1, hc1, hf⟩ := bs hf
  refine x_callV (rest := []) (n := 2) C (ct_M_areTwo E F _ _ _ _  hc1) mi_M_areTwo (by decide) mc_100 ⟨_, cel_M kc_100⟩ rfl rfl wL_M_200 d_M_meet_3 rfl rfl (Nat.le_of_ble_eq_true rfl) ?_
  show X _ _ _ _ _ _ _ _ _ _ _ _ _ _ _ _ _ _ _ _ _ [.int c1]
  refine x_if_ne C 11 d_M_meet_6 (by decide) (fun g2 => ?_) (fun g2 => ?_)
  · replace hf := ie g2 hf
    refine x_aload_n C d_M_meet_11 0 rfl ?_
    obtain ⟨c3, hc3, hf⟩ := bs hf
    refine x_callV (rest := []) (n := 0) C (ct_M_isFull E F _ _  hc3) mi_M_isFull (by decide) mc_100 ⟨_, cel_M kc_100⟩ rfl rfl wL_M_207 d_M_meet_12 rfl rfl (Nat.le_of_ble_eq_true rfl) ?_
    show X _ _ _ _ _ _ _ _ _ _ _ _ _ _ _ _ _ _ _ _ _ [.int c3]
    refine x_if_eq C 21 d_M_meet_15 (by decide) (fun g4 => ?_) (fun g4 => ?_)
    · replace hf := it g4 hf
      refine x_aload_n C d_M_meet_21 0 rfl ?_
      refine x_aload_n C d_M_meet_22 0 rfl ?_
      refine x_iload_n C d_M_meet_23 1 rfl ?_
      refine x_iload_n C d_M_meet_24 2 rfl ?_
      refine x_iconst (v := 0) C d_M_meet_25 rfl ?_
      obtain ⟨c5, hc5, hf⟩ := bs hf
      refine x_callV (rest := [.ref (ad 100)]) (n := 3) C (ct_M_netted E F _ _ _ _ _  hc5) mi_M_netted (by decide) mc_100 ⟨_, cel_M kc_100⟩ rfl rfl wL_M_222 d_M_meet_26 rfl rfl (Nat.le_of_ble_eq_true rfl) ?_
      show X _ _ _ _ _ _ _ _ _ _ _ _ _ _ _ _ _ _ _ _ _ [.int c5, .ref (ad 100)]
      refine x_aload_n C d_M_meet_29 0 rfl ?_
      refine x_iload_n C d_M_meet_30 1 rfl ?_
      refine x_iload_n C d_M_meet_31 2 rfl ?_
      refine x_iconst (v := 1) C d_M_meet_32 rfl ?_
      obtain ⟨c6, hc6, hf⟩ := bs hf
      refine x_callV (rest := [.int c5, .ref (ad 100)]) (n := 3) C (ct_M_netted E F _ _ _ _ _  hc6) mi_M_netted (by decide) mc_100 ⟨_, cel_M kc_100⟩ rfl rfl wL_M_222 d_M_meet_33 rfl rfl (Nat.le_of_ble_eq_true rfl) ?_
      show X _ _ _ _ _ _ _ _ _ _ _ _ _ _ _ _ _ _ _ _ _ [.int c6, .int c5, .ref (ad 100)]
      refine x_iadd C d_M_meet_36 ?_
      refine xp_M_asked (x := (c5 + c6)) C wF_M_60 mc_100 kc_100 d_M_meet_37 ?_
      refine x_aload_n C d_M_meet_40 0 rfl ?_
      refine x_iload_n C d_M_meet_41 1 rfl ?_
      refine x_iload_n C d_M_meet_42 2 rfl ?_
      obtain ⟨c7, hc7, hf⟩ := bs hf
      refine x_callV (rest := []) (n := 2) C (ct_M_doMeet E F _ _ _ _  hc7) mi_M_doMeet (by decide) mc_100 ⟨_, cel_M kc_100⟩ rfl rfl wL_M_231 d_M_meet_43 rfl rfl (Nat.le_of_ble_eq_true rfl) ?_
      show X _ _ _ _ _ _ _ _ _ _ _ _ _ _ _ _ _ _ _ _ _ [.int c7.1]
      cases hf
      exact x_iret C d_M_meet_46 rfl rfl
    · replace hf := ie g4 hf
      refine x_bipush (v := (-2)) C d_M_meet_18 rfl ?_
      cases hf
      exact x_iret C d_M_meet_20 rfl rfl
  · replace hf := it g2 hf
    refine x_iconst (v := (-1)) C d_M_meet_9 rfl ?_
    cases hf
    exact x_iret C d_M_meet_10 rfl rfl
set_option maxHeartbeats 4000000 in
set_option maxRecDepth 100000 in
theorem lw_M_mistletoe_30 {p : Program} {l : Launch} {e : Env} {s : State} {m : MethodId} {args : Array Value} {below : List Frame} {meth : Method} {c : Code} {D : va_G} {ad : Nat → Nat} {cs : Nat → ClassId} {A : Nat → Prop} {V : Option Value} {N : Mem} (E : Ev ad cs A LM) (C : Cx p s m args meth c "KissClearingModel" b_M_mistletoe 6 (some .int) D ad cs A LM) (F : Nat) (M : Mem) (x1 : Int32) (x2 : Int32) (x3 : Int32) : ∀ (n : Nat) (x4 : Int32) (x5 : Int32) (u : Int32), L_M_mistletoe_30 F M x1 x2 x3 n x4 x5 = some u → X p l e 1 s m args below meth c 6 D ad cs A LM V N M 95 [(0, .ref (ad 100)), (1, .int x1), (2, .int x2), (3, .int x3), (4, .int u)] [] → X p l e 1 s m args below meth c 6 D ad cs A LM V N M 30 [(0, .ref (ad 100)), (1, .int x1), (2, .int x2), (3, .int x3), (4, .int x4), (5, .int x5)] [] := by
  intro n
  induction n with
  | zero => intro x4 x5 u hf; cases hf
  | succ n ih =>
    intro x4 x5 u hf K
    replace hf : B_M_mistletoe_30 F M x1 x2 x3 (L_M_mistletoe_30 F M x1 x2 x3 n) x4 x5 = some u := hf
    unfold B_M_mistletoe_30 at hf
    refine x_iload C d_M_mistletoe_30 5 rfl ?_
    refine x_aload_n C d_M_mistletoe_32 0 rfl ?_
    refine xg_M_row C wF_M_7 mc_100 kc_100 d_M_mistletoe_33 ?_
    refine x_iconst (v := 1) C d_M_mistletoe_36 rfl ?_
    refine x_iald C (ac_101_1 M) mc_101 kc_101 d_M_mistletoe_37 ?_
    refine x_icmp_ge C 95 d_M_mistletoe_38 (by decide) (fun g3 => ?_) (fun g3 => ?_)
    · replace hf := it g3 hf
      cases hf
      exact x_sub [0, 1, 2, 3, 4] rfl K
    · replace hf := ie g3 hf
      refine x_iload C d_M_mistletoe_41 4 rfl ?_
      refine x_aload_n C d_M_mistletoe_43 0 rfl ?_
      refine x_iload C d_M_mistletoe_44 5 rfl ?_
      refine x_iconst (v := 0) C d_M_mistletoe_46 rfl ?_
      obtain ⟨c4, hc4, hf⟩ := bs hf
      refine x_callV (rest := [.int x4]) (n := 2) C (ct_M_of E F _ _ _ _  hc4) mi_M_of (by decide) mc_100 ⟨_, cel_M kc_100⟩ rfl rfl wL_M_146 d_M_mistletoe_47 rfl rfl (Nat.le_of_ble_eq_true rfl) ?_
      show X _ _ _ _ _ _ _ _ _ _ _ _ _ _ _ _ _ _ _ _ _ [.int c4, .int x4]
      refine x_iload_n C d_M_mistletoe_50 3 rfl ?_
      refine x_icmp_eq C 65 d_M_mistletoe_51 (by decide) (fun g5 => ?_) (fun g5 => ?_)
      · replace hf := it g5 hf
        refine x_aload_n C d_M_mistletoe_65 0 rfl ?_
        refine x_iload C d_M_mistletoe_66 5 rfl ?_
        refine x_iconst (v := 3) C d_M_mistletoe_68 rfl ?_
        obtain ⟨c6, hc6, hf⟩ := bs hf
        refine x_callV (rest := [.int x4]) (n := 2) C (ct_M_of E F _ _ _ _  hc6) mi_M_of (by decide) mc_100 ⟨_, cel_M kc_100⟩ rfl rfl wL_M_146 d_M_mistletoe_69 rfl rfl (Nat.le_of_ble_eq_true rfl) ?_
        show X _ _ _ _ _ _ _ _ _ _ _ _ _ _ _ _ _ _ _ _ _ [.int c6, .int x4]
        refine x_aload_n C d_M_mistletoe_72 0 rfl ?_
        refine x_iload C d_M_mistletoe_73 5 rfl ?_
        refine x_iconst (v := 3) C d_M_mistletoe_75 rfl ?_
        obtain ⟨c7, hc7, hf⟩ := bs hf
        refine x_callV (rest := [.int c6, .int x4]) (n := 2) C (ct_M_of E F _ _ _ _  hc7) mi_M_of (by decide) mc_100 ⟨_, cel_M kc_100⟩ rfl rfl wL_M_146 d_M_mistletoe_76 rfl rfl (Nat.le_of_ble_eq_true rfl) ?_
        show X _ _ _ _ _ _ _ _ _ _ _ _ _ _ _ _ _ _ _ _ _ [.int c7, .int c6, .int x4]
        refine x_iconst (v := 2) C d_M_mistletoe_79 rfl ?_
        obtain ⟨t8, ht8, hf⟩ := bs hf
        refine x_idiv C ht8 d_M_mistletoe_80 ?_
        refine x_isub C d_M_mistletoe_81 ?_
        refine x_goto C 86 d_M_mistletoe_82 (by decide) ?_
        refine x_iadd C d_M_mistletoe_86 ?_
        refine x_istore (lv' := [(4, .int (x4 + (c6 - t8))), (0, .ref (ad 100)), (1, .int x1), (2, .int x2), (3, .int x3), (5, .int x5)]) C d_M_mistletoe_87 (by decide) rfl ?_
        refine x_iinc (v := (x5 + 1)) (lv' := [(5, .int (x5 + 1)), (4, .int (x4 + (c6 - t8))), (0, .ref (ad 100)), (1, .int x1), (2, .int x2), (3, .int x3)]) C d_M_mistletoe_89 5 rfl rfl (by decide) rfl ?_
        refine x_goto C 30 d_M_mistletoe_92 (by decide) ?_
        refine x_sub [2, 3, 4, 5, 1, 0] rfl ?_
        exact ih _ _ _ hf K
      · replace hf := ie g5 hf
        refine x_aload_n C d_M_mistletoe_54 0 rfl ?_
        refine x_iload C d_M_mistletoe_55 5 rfl ?_
        refine x_iconst (v := 1) C d_M_mistletoe_57 rfl ?_
        obtain ⟨c9, hc9, hf⟩ := bs hf
        refine x_callV (rest := [.int x4]) (n := 2) C (ct_M_of E F _ _ _ _  hc9) mi_M_of (by decide) mc_100 ⟨_, cel_M kc_100⟩ rfl rfl wL_M_146 d_M_mistletoe_58 rfl rfl (Nat.le_of_ble_eq_true rfl) ?_
        show X _ _ _ _ _ _ _ _ _ _ _ _ _ _ _ _ _ _ _ _ _ [.int c9, .int x4]
        refine x_iload_n C d_M_mistletoe_61 3 rfl ?_
        refine x_icmp_ne C 85 d_M_mistletoe_62 (by decide) (fun g10 => ?_) (fun g10 => ?_)
        · replace hf := ie g10 hf
          refine x_iconst (v := 0) C d_M_mistletoe_85 rfl ?_
          refine x_iadd C d_M_mistletoe_86 ?_
          refine x_istore (lv' := [(4, .int (x4 + 0)), (0, .ref (ad 100)), (1, .int x1), (2, .int x2), (3, .int x3), (5, .int x5)]) C d_M_mistletoe_87 (by decide) rfl ?_
          refine x_iinc (v := (x5 + 1)) (lv' := [(5, .int (x5 + 1)), (4, .int (x4 + 0)), (0, .ref (ad 100)), (1, .int x1), (2, .int x2), (3, .int x3)]) C d_M_mistletoe_89 5 rfl rfl (by decide) rfl ?_
          refine x_goto C 30 d_M_mistletoe_92 (by decide) ?_
          refine x_sub [2, 3, 4, 5, 1, 0] rfl ?_
          exact ih _ _ _ hf K
        · replace hf := it g10 hf
          refine x_aload_n C d_M_mistletoe_65 0 rfl ?_
          refine x_iload C d_M_mistletoe_66 5 rfl ?_
          refine x_iconst (v := 3) C d_M_mistletoe_68 rfl ?_
          obtain ⟨c11, hc11, hf⟩ := bs hf
          refine x_callV (rest := [.int x4]) (n := 2) C (ct_M_of E F _ _ _ _  hc11) mi_M_of (by decide) mc_100 ⟨_, cel_M kc_100⟩ rfl rfl wL_M_146 d_M_mistletoe_69 rfl rfl (Nat.le_of_ble_eq_true rfl) ?_
          show X _ _ _ _ _ _ _ _ _ _ _ _ _ _ _ _ _ _ _ _ _ [.int c11, .int x4]
          refine x_aload_n C d_M_mistletoe_72 0 rfl ?_
          refine x_iload C d_M_mistletoe_73 5 rfl ?_
          refine x_iconst (v := 3) C d_M_mistletoe_75 rfl ?_
          obtain ⟨c12, hc12, hf⟩ := bs hf
          refine x_callV (rest := [.int c11, .int x4]) (n := 2) C (ct_M_of E F _ _ _ _  hc12) mi_M_of (by decide) mc_100 ⟨_, cel_M kc_100⟩ rfl rfl wL_M_146 d_M_mistletoe_76 rfl rfl (Nat.le_of_ble_eq_true rfl) ?_
          show X _ _ _ _ _ _ _ _ _ _ _ _ _ _ _ _ _ _ _ _ _ [.int c12, .int c11, .int x4]
          refine x_iconst (v := 2) C d_M_mistletoe_79 rfl ?_
          obtain ⟨t13, ht13, hf⟩ := bs hf
          refine x_idiv C ht13 d_M_mistletoe_80 ?_
          refine x_isub C d_M_mistletoe_81 ?_
          refine x_goto C 86 d_M_mistletoe_82 (by decide) ?_
          refine x_iadd C d_M_mistletoe_86 ?_
          refine x_istore (lv' := [(4, .int (x4 + (c11 - t13))), (0, .ref (ad 100)), (1, .int x1), (2, .int x2), (3, .int x3), (5, .int x5)]) C d_M_mistletoe_87 (by decide) rfl ?_
          refine x_iinc (v := (x5 + 1)) (lv' := [(5, .int (x5 + 1)), (4, .int (x4 + (c11 - t13))), (0, .ref (ad 100)), (1, .int x1), (2, .int x2), (3, .int x3)]) C d_M_mistletoe_89 5 rfl rfl (by decide) rfl ?_
          refine x_goto C 30 d_M_mistletoe_92 (by decide) ?_
          refine x_sub [2, 3, 4, 5, 1, 0] rfl ?_
          exact ih _ _ _ hf K
set_option maxHeartbeats 4000000 in
set_option maxRecDepth 100000 in
theorem lw_M_mistletoe_16 {p : Program} {l : Launch} {e : Env} {s : State} {m : MethodId} {args : Array Value} {below : List Frame} {meth : Method} {c : Code} {D : va_G} {ad : Nat → Nat} {cs : Nat → ClassId} {A : Nat → Prop} {V : Option Value} {N : Mem} (E : Ev ad cs A LM) (C : Cx p s m args meth c "KissClearingModel" b_M_mistletoe 6 (some .int) D ad cs A LM) (F : Nat) (M : Mem)  : ∀ (n : Nat) (x1 : Int32) (x2 : Int32) (x3 : Int32) (u : (Int32 × Int32)), L_M_mistletoe_16 F M n x1 x2 x3 = some u → X p l e 1 s m args below meth c 6 D ad cs A LM V N M 126 [(0, .ref (ad 100)), (1, .int u.1), (2, .int u.2)] [] → X p l e 1 s m args below meth c 6 D ad cs A LM V N M 16 [(0, .ref (ad 100)), (1, .int x1), (2, .int x2), (3, .int x3)] [] := by
  intro n
  induction n with
  | zero => intro x1 x2 x3 u hf; cases hf
  | succ n ih =>
    intro x1 x2 x3 u hf K
    replace hf : B_M_mistletoe_16 F M (L_M_mistletoe_16 F M n) x1 x2 x3 = some u := hf
    unfold B_M_mistletoe_16 at hf
    refine x_iload_n C d_M_mistletoe_16 3 rfl ?_
    refine x_aload_n C d_M_mistletoe_17 0 rfl ?_
    refine xg_M_persons C wF_M_136 mc_100 kc_100 d_M_mistletoe_18 ?_
    refine x_icmp_ge C 126 d_M_mistletoe_21 (by decide) (fun g2 => ?_) (fun g2 => ?_)
    · replace hf := it g2 hf
      cases hf
      exact x_sub [0, 1, 2] rfl K
    · replace hf := ie g2 hf
      refine x_iconst (v := 0) C d_M_mistletoe_24 rfl ?_
      refine x_istore (lv' := [(4, .int 0), (0, .ref (ad 100)), (1, .int x1), (2, .int x2), (3, .int x3)]) C d_M_mistletoe_25 (by decide) rfl ?_
      refine x_iconst (v := 0) C d_M_mistletoe_27 rfl ?_
      refine x_istore (lv' := [(5, .int 0), (4, .int 0), (0, .ref (ad 100)), (1, .int x1), (2, .int x2), (3, .int x3)]) C d_M_mistletoe_28 (by decide) rfl ?_
      obtain ⟨u14, hu14, hf⟩ := bs hf
      refine x_sub [2, 3, 4, 5, 1, 0] rfl ?_
      refine lw_M_mistletoe_30 E C F _ _ _ _ _ _ _ _ hu14 ?_
      refine x_iload C d_M_mistletoe_95 4 rfl ?_
      refine x_iload_n C d_M_mistletoe_97 2 rfl ?_
      obtain ⟨j15, hj15, hf⟩ := bs hf
      have Jj15 : X p l e 1 s m args below meth c 6 D ad cs A LM V N M 106 [(0, .ref (ad 100)), (2, .int x2), (3, .int x3), (4, .int u14)] [.int j15] := by
        refine x_istore_n (lv' := [(1, .int j15), (0, .ref (ad 100)), (2, .int x2), (3, .int x3), (4, .int u14)]) C d_M_mistletoe_106 (by decide) rfl ?_
        refine x_iload C d_M_mistletoe_107 4 rfl ?_
        refine x_iload_n C d_M_mistletoe_109 2 rfl ?_
        refine x_icmp_le C 118 d_M_mistletoe_110 (by decide) (fun g16 => ?_) (fun g16 => ?_)
        · replace hf := it g16 hf
          refine x_iload_n C d_M_mistletoe_118 2 rfl ?_
          refine x_istore_n (lv' := [(2, .int x2), (1, .int j15), (0, .ref (ad 100)), (3, .int x3), (4, .int u14)]) C d_M_mistletoe_119 (by decide) rfl ?_
          refine x_iinc (v := (x3 + 1)) (lv' := [(3, .int (x3 + 1)), (2, .int x2), (1, .int j15), (0, .ref (ad 100)), (4, .int u14)]) C d_M_mistletoe_120 3 rfl rfl (by decide) rfl ?_
          refine x_goto C 16 d_M_mistletoe_123 (by decide) ?_
          refine x_sub [3, 2, 1, 0] rfl ?_
          exact ih _ _ _ _ hf K
        · replace hf := ie g16 hf
          refine x_iload C d_M_mistletoe_113 4 rfl ?_
          refine x_goto C 119 d_M_mistletoe_115 (by decide) ?_
          refine x_istore_n (lv' := [(2, .int u14), (1, .int j15), (0, .ref (ad 100)), (3, .int x3), (4, .int u14)]) C d_M_mistletoe_119 (by decide) rfl ?_
          refine x_iinc (v := (x3 + 1)) (lv' := [(3, .int (x3 + 1)), (2, .int u14), (1, .int j15), (0, .ref (ad 100)), (4, .int u14)]) C d_M_mistletoe_120 3 rfl rfl (by decide) rfl ?_
          refine x_goto C 16 d_M_mistletoe_123 (by decide) ?_
          refine x_sub [3, 2, 1, 0] rfl ?_
          exact ih _ _ _ _ hf K
      replace hf := hj15
      refine x_icmp_le C 105 d_M_mistletoe_98 (by decide) (fun g17 => ?_) (fun g17 => ?_)
      · replace hf := it g17 hf
        refine x_iload_n C d_M_mistletoe_105 1 rfl ?_
        cases hf
        exact x_sub [0, 2, 3, 4] rfl Jj15
      · replace hf := ie g17 hf
        refine x_iload_n C d_M_mistletoe_101 3 rfl ?_
        refine x_goto C 106 d_M_mistletoe_102 (by decide) ?_
        cases hf
        exact x_sub [0, 2, 3, 4] rfl Jj15
set_option maxHeartbeats 4000000 in
set_option maxRecDepth 100000 in
theorem ct_M_mistletoe {l : Launch} {D : va_G} {ad : Nat → Nat} {cs : Nat → ClassId} {A : Nat → Prop} (E : Ev ad cs A LM) (F : Nat) (M : Mem)  (R : (Int32 × Mem))  (hf : M_mistletoe F M = some R) : Met l y_M_mistletoe (Cond.code y_M_mistletoe b_M_mistletoe 6 (some .int) :: wl) (rmD 1) (PX D ad cs A LM [.ref (ad 100)] M) (QX D ad cs A LM (some (.int R.1)) R.2) 0 0 A := by
  refine x_enter (lv := [(0, .ref (ad 100))]) E mi_M_mistletoe.1 (Nat.le_of_ble_eq_true rfl) rfl (fun p e s m args below meth c C => ?_)
  unfold M_mistletoe at hf
  refine x_aload_n C d_M_mistletoe_0 0 rfl ?_
  refine xg_M_persons C wF_M_136 mc_100 kc_100 d_M_mistletoe_1 ?_
  refine x_if_ne C 10 d_M_mistletoe_4 (by decide) (fun g1 => ?_) (fun g1 => ?_)
  · replace hf := ie g1 hf
    refine x_iconst (v := 0) C d_M_mistletoe_10 rfl ?_
    refine x_istore_n (lv' := [(1, .int 0), (0, .ref (ad 100))]) C d_M_mistletoe_11 (by decide) rfl ?_
    refine x_iconst (v := (-1)) C d_M_mistletoe_12 rfl ?_
    refine x_istore_n (lv' := [(2, .int (-1)), (1, .int 0), (0, .ref (ad 100))]) C d_M_mistletoe_13 (by decide) rfl ?_
    refine x_iconst (v := 0) C d_M_mistletoe_14 rfl ?_
    refine x_istore_n (lv' := [(3, .int 0), (2, .int (-1)), (1, .int 0), (0, .ref (ad 100))]) C d_M_mistletoe_15 (by decide) rfl ?_
    obtain ⟨u18, hu18, hf⟩ := bs hf
    refine x_sub [3, 2, 1, 0] rfl ?_
    refine lw_M_mistletoe_16 E C F _ _ _ _ _ _ hu18 ?_
    refine x_aload_n C d_M_mistletoe_126 0 rfl ?_
    refine x_iload_n C d_M_mistletoe_127 2 rfl ?_
    refine xp_M_asked (x := u18.2) C wF_M_60 mc_100 kc_100 d_M_mistletoe_128 ?_
    refine x_iload_n C d_M_mistletoe_131 1 rfl ?_
    cases hf
    exact x_iret C d_M_mistletoe_132 rfl rfl
  · replace hf := it g1 hf
    refine x_bipush (v := (-4)) C d_M_mistletoe_7 rfl ?_
    cases hf
    exact x_iret C d_M_mistletoe_9 rfl rfl
set_option maxHeartbeats 4000000 in
set_option maxRecDepth 100000 in
theorem lw_M_net_32 {p : Program} {l : Launch} {e : Env} {s : State} {m : MethodId} {args : Array Value} {below : List Frame} {meth : Method} {c : Code} {D : va_G} {ad : Nat → Nat} {cs : Nat → ClassId} {A : Nat → Prop} {V : Option Value} {N : Mem} (E : Ev ad cs A LM) (C : Cx p s m args meth c "KissClearingModel" b_M_net 6 (some .int) D ad cs A LM) (F : Nat) (M : Mem) (x1 : Int32) (x2 : Int32) (x3 : Int32) : ∀ (n : Nat) (x4 : Int32) (x5 : Int32) (u : Int32), L_M_net_32 F M x1 x2 x3 n x4 x5 = some u → X p l e 3 s m args below meth c 6 D ad cs A LM V N M 69 [(0, .ref (ad 100)), (1, .int x1), (2, .int x2), (3, .int x3), (4, .int u)] [] → X p l e 3 s m args below meth c 6 D ad cs A LM V N M 32 [(0, .ref (ad 100)), (1, .int x1), (2, .int x2), (3, .int x3), (4, .int x4), (5, .int x5)] [] := by
  intro n
  induction n with
  | zero => intro x4 x5 u hf; cases hf
  | succ n ih =>
    intro x4 x5 u hf K
    replace hf : B_M_net_32 F M x1 x2 x3 (L_M_net_32 F M x1 x2 x3 n) x4 x5 = some u := hf
    unfold B_M_net_32 at hf
    refine x_iload C d_M_net_32 5 rfl ?_
    refine x_aload_n C d_M_net_34 0 rfl ?_
    refine xg_M_persons C wF_M_136 mc_100 kc_100 d_M_net_35 ?_
    refine x_icmp_ge C 69 d_M_net_38 (by decide) (fun g4 => ?_) (fun g4 => ?_)
    · replace hf := it g4 hf
      cases hf
      exact x_sub [0, 1, 2, 3, 4] rfl K
    · replace hf := ie g4 hf
      refine x_iload C d_M_net_41 4 rfl ?_
      refine x_aload_n C d_M_net_43 0 rfl ?_
      refine x_iload_n C d_M_net_44 3 rfl ?_
      refine x_iload C d_M_net_45 5 rfl ?_
      refine x_iload_n C d_M_net_47 1 rfl ?_
      obtain ⟨c5, hc5, hf⟩ := bs hf
      refine x_callV (rest := [.int x4]) (n := 3) C (ct_M_sumOf E F _ _ _ _ _  hc5) mi_M_sumOf (by decide) mc_100 ⟨_, cel_M kc_100⟩ rfl rfl wL_M_216 d_M_net_48 rfl rfl (Nat.le_of_ble_eq_true rfl) ?_
      show X _ _ _ _ _ _ _ _ _ _ _ _ _ _ _ _ _ _ _ _ _ [.int c5, .int x4]
      refine x_aload_n C d_M_net_51 0 rfl ?_
      refine x_iload C d_M_net_52 5 rfl ?_
      refine x_iload_n C d_M_net_54 3 rfl ?_
      refine x_iload_n C d_M_net_55 1 rfl ?_
      obtain ⟨c6, hc6, hf⟩ := bs hf
      refine x_callV (rest := [.int c5, .int x4]) (n := 3) C (ct_M_sumOf E F _ _ _ _ _  hc6) mi_M_sumOf (by decide) mc_100 ⟨_, cel_M kc_100⟩ rfl rfl wL_M_216 d_M_net_56 rfl rfl (Nat.le_of_ble_eq_true rfl) ?_
      show X _ _ _ _ _ _ _ _ _ _ _ _ _ _ _ _ _ _ _ _ _ [.int c6, .int c5, .int x4]
      refine x_isub C d_M_net_59 ?_
      refine x_iadd C d_M_net_60 ?_
      refine x_istore (lv' := [(4, .int (x4 + (c5 - c6))), (0, .ref (ad 100)), (1, .int x1), (2, .int x2), (3, .int x3), (5, .int x5)]) C d_M_net_61 (by decide) rfl ?_
      refine x_iinc (v := (x5 + 1)) (lv' := [(5, .int (x5 + 1)), (4, .int (x4 + (c5 - c6))), (0, .ref (ad 100)), (1, .int x1), (2, .int x2), (3, .int x3)]) C d_M_net_63 5 rfl rfl (by decide) rfl ?_
      refine x_goto C 32 d_M_net_66 (by decide) ?_
      refine x_sub [2, 3, 4, 5, 1, 0] rfl ?_
      exact ih _ _ _ hf K
set_option maxHeartbeats 4000000 in
set_option maxRecDepth 100000 in
theorem lw_M_net_18 {p : Program} {l : Launch} {e : Env} {s : State} {m : MethodId} {args : Array Value} {below : List Frame} {meth : Method} {c : Code} {D : va_G} {ad : Nat → Nat} {cs : Nat → ClassId} {A : Nat → Prop} {V : Option Value} {N : Mem} (E : Ev ad cs A LM) (C : Cx p s m args meth c "KissClearingModel" b_M_net 6 (some .int) D ad cs A LM) (F : Nat) (M : Mem) (x1 : Int32) : ∀ (n : Nat) (x2 : Int32) (x3 : Int32) (u : Int32), L_M_net_18 F M x1 n x2 x3 = some u → X p l e 3 s m args below meth c 6 D ad cs A LM V N M 89 [(2, .int u)] [] → X p l e 3 s m args below meth c 6 D ad cs A LM V N M 18 [(0, .ref (ad 100)), (1, .int x1), (2, .int x2), (3, .int x3)] [] := by
  intro n
  induction n with
  | zero => intro x2 x3 u hf; cases hf
  | succ n ih =>
    intro x2 x3 u hf K
    replace hf : B_M_net_18 F M x1 (L_M_net_18 F M x1 n) x2 x3 = some u := hf
    unfold B_M_net_18 at hf
    refine x_iload_n C d_M_net_18 3 rfl ?_
    refine x_aload_n C d_M_net_19 0 rfl ?_
    refine xg_M_persons C wF_M_136 mc_100 kc_100 d_M_net_20 ?_
    refine x_icmp_ge C 89 d_M_net_23 (by decide) (fun g3 => ?_) (fun g3 => ?_)
    · replace hf := it g3 hf
      cases hf
      exact x_sub [2] rfl K
    · replace hf := ie g3 hf
      refine x_iconst (v := 0) C d_M_net_26 rfl ?_
      refine x_istore (lv' := [(4, .int 0), (0, .ref (ad 100)), (1, .int x1), (2, .int x2), (3, .int x3)]) C d_M_net_27 (by decide) rfl ?_
      refine x_iconst (v := 0) C d_M_net_29 rfl ?_
      refine x_istore (lv' := [(5, .int 0), (4, .int 0), (0, .ref (ad 100)), (1, .int x1), (2, .int x2), (3, .int x3)]) C d_M_net_30 (by decide) rfl ?_
      obtain ⟨u7, hu7, hf⟩ := bs hf
      refine x_sub [2, 3, 4, 5, 1, 0] rfl ?_
      refine lw_M_net_32 E C F _ _ _ _ _ _ _ _ hu7 ?_
      refine x_iload_n C d_M_net_69 2 rfl ?_
      refine x_iload C d_M_net_70 4 rfl ?_
      refine x_if_le C 80 d_M_net_72 (by decide) (fun g8 => ?_) (fun g8 => ?_)
      · replace hf := it g8 hf
        refine x_iconst (v := 0) C d_M_net_80 rfl ?_
        refine x_iadd C d_M_net_81 ?_
        refine x_istore_n (lv' := [(2, .int (x2 + 0)), (0, .ref (ad 100)), (1, .int x1), (3, .int x3), (4, .int u7)]) C d_M_net_82 (by decide) rfl ?_
        refine x_iinc (v := (x3 + 1)) (lv' := [(3, .int (x3 + 1)), (2, .int (x2 + 0)), (0, .ref (ad 100)), (1, .int x1), (4, .int u7)]) C d_M_net_83 3 rfl rfl (by decide) rfl ?_
        refine x_goto C 18 d_M_net_86 (by decide) ?_
        refine x_sub [2, 3, 1, 0] rfl ?_
        exact ih _ _ _ hf K
      · replace hf := ie g8 hf
        refine x_iload C d_M_net_75 4 rfl ?_
        refine x_goto C 81 d_M_net_77 (by decide) ?_
        refine x_iadd C d_M_net_81 ?_
        refine x_istore_n (lv' := [(2, .int (x2 + u7)), (0, .ref (ad 100)), (1, .int x1), (3, .int x3), (4, .int u7)]) C d_M_net_82 (by decide) rfl ?_
        refine x_iinc (v := (x3 + 1)) (lv' := [(3, .int (x3 + 1)), (2, .int (x2 + u7)), (0, .ref (ad 100)), (1, .int x1), (4, .int u7)]) C d_M_net_83 3 rfl rfl (by decide) rfl ?_
        refine x_goto C 18 d_M_net_86 (by decide) ?_
        refine x_sub [2, 3, 1, 0] rfl ?_
        exact ih _ _ _ hf K
set_option maxHeartbeats 4000000 in
set_option maxRecDepth 100000 in
theorem ct_M_net {l : Launch} {D : va_G} {ad : Nat → Nat} {cs : Nat → ClassId} {A : Nat → Prop} (E : Ev ad cs A LM) (F : Nat) (M : Mem) (x1 : Int32) (R : Int32)  (hf : M_net F M x1 = some R) : Met l y_M_net (Cond.code y_M_net b_M_net 6 (some .int) :: wl) (rmD 3) (PX D ad cs A LM [.ref (ad 100), .int x1] M) (QX D ad cs A LM (some (.int R)) M) 0 0 A := by
  refine x_enter (lv := [(0, .ref (ad 100)), (1, .int x1)]) E mi_M_net.1 (Nat.le_of_ble_eq_true rfl) rfl (fun p e s m args below meth c C => ?_)
  unfold M_net at hf
  refine x_iload_n C d_M_net_0 1 rfl ?_
  refine x_i2l C d_M_net_1 ?_
  refine x_lconst (v := 0) C d_M_net_2 rfl ?_
  refine x_ldc2 C wJ_M_203 d_M_net_3 ?_
  obtain ⟨c1, hc1, hf⟩ := bs hf
  refine x_callS (rest := []) (n := 3) C (ct_M_in E F _ _ _ _ _  hc1) mi_M_in (by decide) wL_M_65 d_M_net_6 rfl rfl (Nat.le_of_ble_eq_true rfl) ?_
  show X _ _ _ _ _ _ _ _ _ _ _ _ _ _ _ _ _ _ _ _ _ [.int c1]
  refine x_if_ne C 14 d_M_net_9 (by decide) (fun g2 => ?_) (fun g2 => ?_)
  · replace hf := ie g2 hf
    refine x_iconst (v := 0) C d_M_net_14 rfl ?_
    refine x_istore_n (lv' := [(2, .int 0), (0, .ref (ad 100)), (1, .int x1)]) C d_M_net_15 (by decide) rfl ?_
    refine x_iconst (v := 0) C d_M_net_16 rfl ?_
    refine x_istore_n (lv' := [(3, .int 0), (2, .int 0), (0, .ref (ad 100)), (1, .int x1)]) C d_M_net_17 (by decide) rfl ?_
    obtain ⟨u9, hu9, hf⟩ := bs hf
    refine x_sub [2, 3, 1, 0] rfl ?_
    refine lw_M_net_18 E C F _ _ _ _ _ _ hu9 ?_
    refine x_iload_n C d_M_net_89 0 rfl ?_
    cases hf
    exact x_iret C d_M_net_90 rfl rfl
  · replace hf := it g2 hf
    refine x_iconst (v := (-1)) C d_M_net_12 rfl ?_
    cases hf
    exact x_iret C d_M_net_13 rfl rfl
set_option maxHeartbeats 4000000 in
set_option maxRecDepth 100000 in
theorem lw_M_odds_14 {p : Program} {l : Launch} {e : Env} {s : State} {m : MethodId} {args : Array Value} {below : List Frame} {meth : Method} {c : Code} {D : va_G} {ad : Nat → Nat} {cs : Nat → ClassId} {A : Nat → Prop} {V : Option Value} {N : Mem} (E : Ev ad cs A LM) (C : Cx p s m args meth c "KissClearingModel" b_M_odds 3 (some .int) D ad cs A LM) (F : Nat) (M : Mem)  : ∀ (n : Nat) (x1 : Int32) (x2 : Int32) (u : Int32), L_M_odds_14 F M n x1 x2 = some u → X p l e 4 s m args below meth c 3 D ad cs A LM V N M 47 [(0, .ref (ad 100)), (1, .int u)] [] → X p l e 4 s m args below meth c 3 D ad cs A LM V N M 14 [(0, .ref (ad 100)), (1, .int x1), (2, .int x2)] [] := by
  intro n
  induction n with
  | zero => intro x1 x2 u hf; cases hf
  | succ n ih =>
    intro x1 x2 u hf K
    replace hf : B_M_odds_14 F M (L_M_odds_14 F M n) x1 x2 = some u := hf
    unfold B_M_odds_14 at hf
    refine x_iload_n C d_M_odds_14 2 rfl ?_
    refine x_aload_n C d_M_odds_15 0 rfl ?_
    refine xg_M_persons C wF_M_136 mc_100 kc_100 d_M_odds_16 ?_
    refine x_icmp_ge C 47 d_M_odds_19 (by decide) (fun g2 => ?_) (fun g2 => ?_)
    · replace hf := it g2 hf
      cases hf
      exact x_sub [0, 1] rfl K
    · replace hf := ie g2 hf
      refine x_iload_n C d_M_odds_22 1 rfl ?_
      refine x_aload_n C d_M_odds_23 0 rfl ?_
      refine x_iload_n C d_M_odds_24 2 rfl ?_
      refine x_bipush (v := (-9)) C d_M_odds_25 rfl ?_
      refine x_iconst (v := 0) C d_M_odds_27 rfl ?_
      obtain ⟨c3, hc3, hf⟩ := bs hf
      refine x_callV (rest := [.int x1]) (n := 3) C (ct_M_fallen E F _ _ _ _ _  hc3) mi_M_fallen (by decide) mc_100 ⟨_, cel_M kc_100⟩ rfl rfl wL_M_274 d_M_odds_28 rfl rfl (Nat.le_of_ble_eq_true rfl) ?_
      show X _ _ _ _ _ _ _ _ _ _ _ _ _ _ _ _ _ _ _ _ _ [.int c3, .int x1]
      refine x_if_ne C 38 d_M_odds_31 (by decide) (fun g4 => ?_) (fun g4 => ?_)
      · replace hf := ie g4 hf
        refine x_iconst (v := 0) C d_M_odds_38 rfl ?_
        refine x_iadd C d_M_odds_39 ?_
        refine x_istore_n (lv' := [(1, .int (x1 + 0)), (0, .ref (ad 100)), (2, .int x2)]) C d_M_odds_40 (by decide) rfl ?_
        refine x_iinc (v := (x2 + 1)) (lv' := [(2, .int (x2 + 1)), (1, .int (x1 + 0)), (0, .ref (ad 100))]) C d_M_odds_41 2 rfl rfl (by decide) rfl ?_
        refine x_goto C 14 d_M_odds_44 (by decide) ?_
        refine x_sub [2, 1, 0] rfl ?_
        exact ih _ _ _ hf K
      · replace hf := it g4 hf
        refine x_iconst (v := 1) C d_M_odds_34 rfl ?_
        refine x_goto C 39 d_M_odds_35 (by decide) ?_
        refine x_iadd C d_M_odds_39 ?_
        refine x_istore_n (lv' := [(1, .int (x1 + 1)), (0, .ref (ad 100)), (2, .int x2)]) C d_M_odds_40 (by decide) rfl ?_
        refine x_iinc (v := (x2 + 1)) (lv' := [(2, .int (x2 + 1)), (1, .int (x1 + 1)), (0, .ref (ad 100))]) C d_M_odds_41 2 rfl rfl (by decide) rfl ?_
        refine x_goto C 14 d_M_odds_44 (by decide) ?_
        refine x_sub [2, 1, 0] rfl ?_
        exact ih _ _ _ hf K
set_option maxHeartbeats 4000000 in
set_option maxRecDepth 100000 in
theorem ct_M_odds {l : Launch} {D : va_G} {ad : Nat → Nat} {cs : Nat → ClassId} {A : Nat → Prop} (E : Ev ad cs A LM) (F : Nat) (M : Mem)  (R : (Int32 × Mem))  (hf : M_odds F M = some R) : Met l y_M_odds (Cond.code y_M_odds b_M_odds 3 (some .int) :: wl) (rmD 4) (PX D ad cs A LM [.ref (ad 100)] M) (QX D ad cs A LM (some (.int R.1)) R.2) 0 0 A := by
  refine x_enter (lv := [(0, .ref (ad 100))]) E mi_M_odds.1 (Nat.le_of_ble_eq_true rfl) rfl (fun p e s m args below meth c C => ?_)
  unfold M_odds at hf
  refine x_aload_n C d_M_odds_0 0 rfl ?_
  refine xg_M_persons C wF_M_136 mc_100 kc_100 d_M_odds_1 ?_
  refine x_if_ne C 10 d_M_odds_4 (by decide) (fun g1 => ?_) (fun g1 => ?_)
  · replace hf := ie g1 hf
    refine x_iconst (v := 0) C d_M_odds_10 rfl ?_
    refine x_istore_n (lv' := [(1, .int 0), (0, .ref (ad 100))]) C d_M_odds_11 (by decide) rfl ?_
    refine x_iconst (v := 0) C d_M_odds_12 rfl ?_
    refine x_istore_n (lv' := [(2, .int 0), (1, .int 0), (0, .ref (ad 100))]) C d_M_odds_13 (by decide) rfl ?_
    obtain ⟨u5, hu5, hf⟩ := bs hf
    refine x_sub [2, 1, 0] rfl ?_
    refine lw_M_odds_14 E C F _ _ _ _ _ hu5 ?_
    refine x_iload_n C d_M_odds_47 1 rfl ?_
    refine x_aload_n C d_M_odds_48 0 rfl ?_
    refine xg_M_persons C wF_M_136 mc_100 kc_100 d_M_odds_49 ?_
    obtain ⟨c6, hc6, hf⟩ := bs hf
    refine x_callS (rest := []) (n := 2) C (ct_M_divisor E F _ _ _ _  hc6) mi_M_divisor (by decide) wL_M_323 d_M_odds_52 rfl rfl (Nat.le_of_ble_eq_true rfl) ?_
    show X _ _ _ _ _ _ _ _ _ _ _ _ _ _ _ _ _ _ _ _ _ [.int c6]
    refine x_istore_n (lv' := [(2, .int c6), (0, .ref (ad 100)), (1, .int u5)]) C d_M_odds_55 (by decide) rfl ?_
    refine x_aload_n C d_M_odds_56 1 rfl ?_
    refine x_iload_n C d_M_odds_57 2 rfl ?_
    refine x_iload_n C d_M_odds_58 0 rfl ?_
    obtain ⟨t7, ht7, hf⟩ := bs hf
    refine x_idiv C ht7 d_M_odds_59 ?_
    refine x_i2l C d_M_odds_60 ?_
    refine xp_M_upper (x := t7) C wF_M_326 mc_100 kc_100 d_M_odds_61 ?_
    refine x_aload_n C d_M_odds_64 1 rfl ?_
    refine x_aload_n C d_M_odds_65 1 rfl ?_
    refine xg_M_persons C wF_M_136 mc_100 kc_100 d_M_odds_66 ?_
    refine x_iload_n C d_M_odds_69 0 rfl ?_
    obtain ⟨t8, ht8, hf⟩ := bs hf
    refine x_idiv C ht8 d_M_odds_70 ?_
    refine x_i2l C d_M_odds_71 ?_
    refine xp_M_lower (x := t8) C wF_M_28 mc_100 kc_100 d_M_odds_72 ?_
    refine x_iconst (v := 1) C d_M_odds_75 rfl ?_
    cases hf
    exact x_iret C d_M_odds_76 rfl rfl
  · replace hf := it g1 hf
    refine x_bipush (v := (-4)) C d_M_odds_7 rfl ?_
    cases hf
    exact x_iret C d_M_odds_9 rfl rfl
set_option maxHeartbeats 4000000 in
set_option maxRecDepth 100000 in
theorem ct_M_on {l : Launch} {D : va_G} {ad : Nat → Nat} {cs : Nat → ClassId} {A : Nat → Prop} (E : Ev ad cs A LM) (F : Nat) (M : Mem) (x1 : Int32) (R : (Int32 × Mem))  (hf : M_on F M x1 = some R) : Met l y_M_on (Cond.code y_M_on b_M_on 2 (some .int) :: wl) (rmD 1) (PX D ad cs A LM [.ref (ad 100), .int x1] M) (QX D ad cs A LM (some (.int R.1)) R.2) 0 0 A := by
  refine x_enter (lv := [(0, .ref (ad 100)), (1, .int x1)]) E mi_M_on.1 (Nat.le_of_ble_eq_true rfl) rfl (fun p e s m args below meth c C => ?_)
  unfold M_on at hf
  refine x_iload_n C d_M_on_0 1 rfl ?_
  refine x_i2l C d_M_on_1 ?_
  refine x_lconst (v := 0) C d_M_on_2 rfl ?_
  refine x_ldc2 C wJ_M_203 d_M_on_3 ?_
  obtain ⟨c1, hc1, hf⟩ := bs hf
  refine x_callS (rest := []) (n := 3) C (ct_M_in E F _ _ _ _ _  hc1) mi_M_in (by decide) wL_M_65 d_M_on_6 rfl rfl (Nat.le_of_ble_eq_true rfl) ?_
  show X _ _ _ _ _ _ _ _ _ _ _ _ _ _ _ _ _ _ _ _ _ [.int c1]
  refine x_if_ne C 14 d_M_on_9 (by decide) (fun g2 => ?_) (fun g2 => ?_)
  · replace hf := ie g2 hf
    refine x_aload_n C d_M_on_14 0 rfl ?_
    refine xg_M_row C wF_M_7 mc_100 kc_100 d_M_on_15 ?_
    refine x_sipush (v := 2994) C d_M_on_18 rfl ?_
    refine x_iconst (v := 1) C d_M_on_21 rfl ?_
    refine x_iload_n C d_M_on_22 1 rfl ?_
    refine x_iadd C d_M_on_23 ?_
    refine x_imul C d_M_on_24 ?_
    refine x_iconst (v := 0) C d_M_on_25 rfl ?_
    refine x_iadd C d_M_on_26 ?_
    obtain ⟨t3, ht3, hf⟩ := bs hf
    refine x_iald C ht3 mc_101 kc_101 d_M_on_27 ?_
    refine x_if_ge C 37 d_M_on_28 (by decide) (fun g4 => ?_) (fun g4 => ?_)
    · replace hf := it g4 hf
      refine x_aload_n C d_M_on_37 0 rfl ?_
      refine x_sipush (v := 2994) C d_M_on_38 rfl ?_
      refine x_iconst (v := 1) C d_M_on_41 rfl ?_
      refine x_iload_n C d_M_on_42 1 rfl ?_
      refine x_iadd C d_M_on_43 ?_
      refine x_imul C d_M_on_44 ?_
      refine x_iconst (v := 0) C d_M_on_45 rfl ?_
      obtain ⟨c5, hc5, hf⟩ := bs hf
      refine x_callV (rest := []) (n := 2) C (ct_M_copyVillage E F _ _ _ _  hc5) mi_M_copyVillage (by decide) mc_100 ⟨_, cel_M kc_100⟩ rfl rfl wL_M_240 d_M_on_46 rfl rfl (Nat.le_of_ble_eq_true rfl) ?_
      show X _ _ _ _ _ _ _ _ _ _ _ _ _ _ _ _ _ _ _ _ _ []
      refine x_aload_n C d_M_on_49 0 rfl ?_
      refine xg_M_row C wF_M_7 mc_100 kc_100 d_M_on_50 ?_
      refine x_iconst (v := 0) C d_M_on_53 rfl ?_
      refine x_iald C (ac_101_0 c5) mc_101 kc_101 d_M_on_54 ?_
      cases hf
      exact x_iret C d_M_on_55 rfl rfl
    · replace hf := ie g4 hf
      refine x_aload_n C d_M_on_31 0 rfl ?_
      refine x_iconst (v := 1) C d_M_on_32 rfl ?_
      obtain ⟨c6, hc6, hf⟩ := bs hf
      refine x_callV (rest := []) (n := 1) C (ct_M_find E F _ _ _  hc6) mi_M_find (by decide) mc_100 ⟨_, cel_M kc_100⟩ rfl rfl wL_M_75 d_M_on_33 rfl rfl (Nat.le_of_ble_eq_true rfl) ?_
      show X _ _ _ _ _ _ _ _ _ _ _ _ _ _ _ _ _ _ _ _ _ [.int c6.1]
      cases hf
      exact x_iret C d_M_on_36 rfl rfl
  · replace hf := it g2 hf
    refine x_iconst (v := (-1)) C d_M_on_12 rfl ?_
    cases hf
    exact x_iret C d_M_on_13 rfl rfl
set_option maxHeartbeats 4000000 in
set_option maxRecDepth 100000 in
theorem ct_M_owe {l : Launch} {D : va_G} {ad : Nat → Nat} {cs : Nat → ClassId} {A : Nat → Prop} (E : Ev ad cs A LM) (F : Nat) (M : Mem) (x1 : Int32) (x2 : Int32) (R : (Int32 × Mem))  (hf : M_owe F M x1 x2 = some R) : Met l y_M_owe (Cond.code y_M_owe b_M_owe 3 (some .int) :: wl) (rmD 3) (PX D ad cs A LM [.ref (ad 100), .int x1, .int x2] M) (QX D ad cs A LM (some (.int R.1)) R.2) 0 0 A := by
  refine x_enter (lv := [(0, .ref (ad 100)), (1, .int x1), (2, .int x2)]) E mi_M_owe.1 (Nat.le_of_ble_eq_true rfl) rfl (fun p e s m args below meth c C => ?_)
  unfold M_owe at hf
  refine x_iload_n C d_M_owe_0 1 rfl ?_
  refine x_if_lt C 49 d_M_owe_1 (by decide) (fun g1 => ?_) (fun g1 => ?_)
  · replace hf := it g1 hf
    refine x_iconst (v := (-1)) C d_M_owe_49 rfl ?_
    cases hf
    exact x_iret C d_M_owe_50 rfl rfl
  · replace hf := ie g1 hf
    refine x_aload_n C d_M_owe_4 0 rfl ?_
    refine x_iload_n C d_M_owe_5 1 rfl ?_
    refine x_bipush (v := 100) C d_M_owe_6 rfl ?_
    obtain ⟨t2, ht2, hf⟩ := bs hf
    refine x_idiv C ht2 d_M_owe_8 ?_
    refine x_iload_n C d_M_owe_9 1 rfl ?_
    refine x_bipush (v := 10) C d_M_owe_10 rfl ?_
    obtain ⟨t3, ht3, hf⟩ := bs hf
    refine x_idiv C ht3 d_M_owe_12 ?_
    refine x_bipush (v := 10) C d_M_owe_13 rfl ?_
    obtain ⟨t4, ht4, hf⟩ := bs hf
    refine x_irem C ht4 d_M_owe_15 ?_
    obtain ⟨c5, hc5, hf⟩ := bs hf
    refine x_callV (rest := []) (n := 2) C (ct_M_areTwo E F _ _ _ _  hc5) mi_M_areTwo (by decide) mc_100 ⟨_, cel_M kc_100⟩ rfl rfl wL_M_200 d_M_owe_16 rfl rfl (Nat.le_of_ble_eq_true rfl) ?_
    show X _ _ _ _ _ _ _ _ _ _ _ _ _ _ _ _ _ _ _ _ _ [.int c5]
    refine x_if_eq C 49 d_M_owe_19 (by decide) (fun g6 => ?_) (fun g6 => ?_)
    · replace hf := it g6 hf
      refine x_iconst (v := (-1)) C d_M_owe_49 rfl ?_
      cases hf
      exact x_iret C d_M_owe_50 rfl rfl
    · replace hf := ie g6 hf
      refine x_iload_n C d_M_owe_22 1 rfl ?_
      refine x_bipush (v := 10) C d_M_owe_23 rfl ?_
      obtain ⟨t7, ht7, hf⟩ := bs hf
      refine x_irem C ht7 d_M_owe_25 ?_
      refine x_i2l C d_M_owe_26 ?_
      refine x_lconst (v := 0) C d_M_owe_27 rfl ?_
      refine x_ldc2 C wJ_M_203 d_M_owe_28 ?_
      obtain ⟨c8, hc8, hf⟩ := bs hf
      refine x_callS (rest := []) (n := 3) C (ct_M_in E F _ _ _ _ _  hc8) mi_M_in (by decide) wL_M_65 d_M_owe_31 rfl rfl (Nat.le_of_ble_eq_true rfl) ?_
      show X _ _ _ _ _ _ _ _ _ _ _ _ _ _ _ _ _ _ _ _ _ [.int c8]
      refine x_if_eq C 49 d_M_owe_34 (by decide) (fun g9 => ?_) (fun g9 => ?_)
      · replace hf := it g9 hf
        refine x_iconst (v := (-1)) C d_M_owe_49 rfl ?_
        cases hf
        exact x_iret C d_M_owe_50 rfl rfl
      · replace hf := ie g9 hf
        refine x_iload_n C d_M_owe_37 2 rfl ?_
        refine x_i2l C d_M_owe_38 ?_
        refine x_lconst (v := 1) C d_M_owe_39 rfl ?_
        refine x_ldc2 C wJ_M_205 d_M_owe_40 ?_
        obtain ⟨c10, hc10, hf⟩ := bs hf
        refine x_callS (rest := []) (n := 3) C (ct_M_in E F _ _ _ _ _  hc10) mi_M_in (by decide) wL_M_65 d_M_owe_43 rfl rfl (Nat.le_of_ble_eq_true rfl) ?_
        show X _ _ _ _ _ _ _ _ _ _ _ _ _ _ _ _ _ _ _ _ _ [.int c10]
        refine x_if_ne C 51 d_M_owe_46 (by decide) (fun g11 => ?_) (fun g11 => ?_)
        · replace hf := ie g11 hf
          refine x_aload_n C d_M_owe_51 0 rfl ?_
          refine xg_M_row C wF_M_7 mc_100 kc_100 d_M_owe_52 ?_
          refine x_iconst (v := 1) C d_M_owe_55 rfl ?_
          refine x_iald C (ac_101_1 M) mc_101 kc_101 d_M_owe_56 ?_
          refine x_bipush (v := 12) C d_M_owe_57 rfl ?_
          refine x_icmp_eq C 69 d_M_owe_59 (by decide) (fun g12 => ?_) (fun g12 => ?_)
          · replace hf := it g12 hf
            refine x_bipush (v := (-2)) C d_M_owe_69 rfl ?_
            cases hf
            exact x_iret C d_M_owe_71 rfl rfl
          · replace hf := ie g12 hf
            refine x_aload_n C d_M_owe_62 0 rfl ?_
            obtain ⟨c13, hc13, hf⟩ := bs hf
            refine x_callV (rest := []) (n := 0) C (ct_M_isFull E F _ _  hc13) mi_M_isFull (by decide) mc_100 ⟨_, cel_M kc_100⟩ rfl rfl wL_M_207 d_M_owe_63 rfl rfl (Nat.le_of_ble_eq_true rfl) ?_
            show X _ _ _ _ _ _ _ _ _ _ _ _ _ _ _ _ _ _ _ _ _ [.int c13]
            refine x_if_eq C 72 d_M_owe_66 (by decide) (fun g14 => ?_) (fun g14 => ?_)
            · replace hf := it g14 hf
              refine x_aload_n C d_M_owe_72 0 rfl ?_
              obtain ⟨c15, hc15, hf⟩ := bs hf
              refine x_callV (rest := []) (n := 0) C (ct_M_keepPast E F _ _  hc15) mi_M_keepPast (by decide) mc_100 ⟨_, cel_M kc_100⟩ rfl rfl wL_M_210 d_M_owe_73 rfl rfl (Nat.le_of_ble_eq_true rfl) ?_
              show X _ _ _ _ _ _ _ _ _ _ _ _ _ _ _ _ _ _ _ _ _ []
              refine x_aload_n C d_M_owe_76 0 rfl ?_
              refine x_iload_n C d_M_owe_77 1 rfl ?_
              refine x_bipush (v := 100) C d_M_owe_78 rfl ?_
              obtain ⟨t16, ht16, hf⟩ := bs hf
              refine x_idiv C ht16 d_M_owe_80 ?_
              refine x_iload_n C d_M_owe_81 1 rfl ?_
              refine x_bipush (v := 10) C d_M_owe_82 rfl ?_
              obtain ⟨t17, ht17, hf⟩ := bs hf
              refine x_idiv C ht17 d_M_owe_84 ?_
              refine x_bipush (v := 10) C d_M_owe_85 rfl ?_
              obtain ⟨t18, ht18, hf⟩ := bs hf
              refine x_irem C ht18 d_M_owe_87 ?_
              refine x_iload_n C d_M_owe_88 1 rfl ?_
              refine x_bipush (v := 10) C d_M_owe_89 rfl ?_
              obtain ⟨t19, ht19, hf⟩ := bs hf
              refine x_irem C ht19 d_M_owe_91 ?_
              refine x_iload_n C d_M_owe_92 2 rfl ?_
              obtain ⟨c20, hc20, hf⟩ := bs hf
              refine x_callV (rest := []) (n := 4) C (ct_M_addDraft E F _ _ _ _ _ _  hc20) mi_M_addDraft (by decide) mc_100 ⟨_, cel_M kc_100⟩ rfl rfl wL_M_139 d_M_owe_93 rfl rfl (Nat.le_of_ble_eq_true rfl) ?_
              show X _ _ _ _ _ _ _ _ _ _ _ _ _ _ _ _ _ _ _ _ _ []
              refine x_aload_n C d_M_owe_96 0 rfl ?_
              refine xg_M_row C wF_M_7 mc_100 kc_100 d_M_owe_97 ?_
              refine x_iconst (v := 1) C d_M_owe_100 rfl ?_
              refine x_iald C (ac_101_1 c20) mc_101 kc_101 d_M_owe_101 ?_
              refine x_iconst (v := 1) C d_M_owe_102 rfl ?_
              refine x_isub C d_M_owe_103 ?_
              cases hf
              exact x_iret C d_M_owe_104 rfl rfl
            · replace hf := ie g14 hf
              refine x_bipush (v := (-2)) C d_M_owe_69 rfl ?_
              cases hf
              exact x_iret C d_M_owe_71 rfl rfl
        · replace hf := it g11 hf
          refine x_iconst (v := (-1)) C d_M_owe_49 rfl ?_
          cases hf
          exact x_iret C d_M_owe_50 rfl rfl
set_option maxHeartbeats 4000000 in
set_option maxRecDepth 100000 in
theorem lw_M_pairs_11 {p : Program} {l : Launch} {e : Env} {s : State} {m : MethodId} {args : Array Value} {below : List Frame} {meth : Method} {c : Code} {D : va_G} {ad : Nat → Nat} {cs : Nat → ClassId} {A : Nat → Prop} {V : Option Value} {N : Mem} (E : Ev ad cs A LM) (C : Cx p s m args meth c "KissClearingModel" b_M_pairs 2 (some .int) D ad cs A LM) (F : Nat)  : ∀ (n : Nat) (M : Mem) (x1 : Int32) (u : Mem), L_M_pairs_11 F n M x1 = some u → X p l e 5 s m args below meth c 2 D ad cs A LM V N u 56 [(0, .ref (ad 100))] [] → X p l e 5 s m args below meth c 2 D ad cs A LM V N M 11 [(0, .ref (ad 100)), (1, .int x1)] [] := by
  intro n
  induction n with
  | zero => intro M x1 u hf; cases hf
  | succ n ih =>
    intro M x1 u hf K
    replace hf : B_M_pairs_11 F (L_M_pairs_11 F n) M x1 = some u := hf
    unfold B_M_pairs_11 at hf
    refine x_iload_n C d_M_pairs_11 1 rfl ?_
    refine x_aload_n C d_M_pairs_12 0 rfl ?_
    refine xg_M_metMany C wF_M_277 mc_100 kc_100 d_M_pairs_13 ?_
    refine x_icmp_ge C 56 d_M_pairs_16 (by decide) (fun g2 => ?_) (fun g2 => ?_)
    · replace hf := it g2 hf
      cases hf
      exact x_sub [0] rfl K
    · replace hf := ie g2 hf
      refine x_aload_n C d_M_pairs_19 0 rfl ?_
      refine x_dup C d_M_pairs_20 rfl ?_
      refine xg_M_asked C wF_M_60 mc_100 kc_100 d_M_pairs_21 ?_
      refine x_aload_n C d_M_pairs_24 0 rfl ?_
      refine x_aload_n C d_M_pairs_25 0 rfl ?_
      refine xg_M_met C wF_M_50 mc_100 kc_100 d_M_pairs_26 ?_
      refine x_iconst (v := 2) C d_M_pairs_29 rfl ?_
      refine x_iload_n C d_M_pairs_30 1 rfl ?_
      refine x_imul C d_M_pairs_31 ?_
      obtain ⟨t3, ht3, hf⟩ := bs hf
      refine x_iald C ht3 mc_113 kc_113 d_M_pairs_32 ?_
      refine x_aload_n C d_M_pairs_33 0 rfl ?_
      refine xg_M_met C wF_M_50 mc_100 kc_100 d_M_pairs_34 ?_
      refine x_iconst (v := 2) C d_M_pairs_37 rfl ?_
      refine x_iload_n C d_M_pairs_38 1 rfl ?_
      refine x_imul C d_M_pairs_39 ?_
      refine x_iconst (v := 1) C d_M_pairs_40 rfl ?_
      refine x_iadd C d_M_pairs_41 ?_
      obtain ⟨t4, ht4, hf⟩ := bs hf
      refine x_iald C ht4 mc_113 kc_113 d_M_pairs_42 ?_
      obtain ⟨c5, hc5, hf⟩ := bs hf
      refine x_callV (rest := [.int (M 100 7), .ref (ad 100)]) (n := 2) C (ct_M_given E F _ _ _ _  hc5) mi_M_given (by decide) mc_100 ⟨_, cel_M kc_100⟩ rfl rfl wL_M_225 d_M_pairs_43 rfl rfl (Nat.le_of_ble_eq_true rfl) ?_
      show X _ _ _ _ _ _ _ _ _ _ _ _ _ _ _ _ _ _ _ _ _ [.int c5, .int (M 100 7), .ref (ad 100)]
      refine x_iadd C d_M_pairs_46 ?_
      refine xp_M_asked (x := ((M 100 7) + c5)) C wF_M_60 mc_100 kc_100 d_M_pairs_47 ?_
      refine x_iinc (v := (x1 + 1)) (lv' := [(1, .int (x1 + 1)), (0, .ref (ad 100))]) C d_M_pairs_50 1 rfl rfl (by decide) rfl ?_
      refine x_goto C 11 d_M_pairs_53 (by decide) ?_
      refine x_sub [1, 0] rfl ?_
      exact ih _ _ _ hf K
set_option maxHeartbeats 4000000 in
set_option maxRecDepth 100000 in
theorem ct_M_pairs {l : Launch} {D : va_G} {ad : Nat → Nat} {cs : Nat → ClassId} {A : Nat → Prop} (E : Ev ad cs A LM) (F : Nat) (M : Mem)  (R : (Int32 × Mem))  (hf : M_pairs F M = some R) : Met l y_M_pairs (Cond.code y_M_pairs b_M_pairs 2 (some .int) :: wl) (rmD 5) (PX D ad cs A LM [.ref (ad 100)] M) (QX D ad cs A LM (some (.int R.1)) R.2) 0 0 A := by
  refine x_enter (lv := [(0, .ref (ad 100))]) E mi_M_pairs.1 (Nat.le_of_ble_eq_true rfl) rfl (fun p e s m args below meth c C => ?_)
  unfold M_pairs at hf
  refine x_aload_n C d_M_pairs_0 0 rfl ?_
  obtain ⟨c1, hc1, hf⟩ := bs hf
  refine x_callV (rest := []) (n := 0) C (ct_M_layPairs E F _ _  hc1) mi_M_layPairs (by decide) mc_100 ⟨_, cel_M kc_100⟩ rfl rfl wL_M_283 d_M_pairs_1 rfl rfl (Nat.le_of_ble_eq_true rfl) ?_
  show X _ _ _ _ _ _ _ _ _ _ _ _ _ _ _ _ _ _ _ _ _ []
  refine x_aload_n C d_M_pairs_4 0 rfl ?_
  refine x_iconst (v := 0) C d_M_pairs_5 rfl ?_
  refine xp_M_asked (x := 0) C wF_M_60 mc_100 kc_100 d_M_pairs_6 ?_
  refine x_iconst (v := 0) C d_M_pairs_9 rfl ?_
  refine x_istore_n (lv' := [(1, .int 0), (0, .ref (ad 100))]) C d_M_pairs_10 (by decide) rfl ?_
  obtain ⟨u6, hu6, hf⟩ := bs hf
  refine x_sub [1, 0] rfl ?_
  refine lw_M_pairs_11 E C F _ _ _ _ hu6 ?_
  refine x_aload_n C d_M_pairs_56 0 rfl ?_
  refine xg_M_metMany C wF_M_277 mc_100 kc_100 d_M_pairs_57 ?_
  cases hf
  exact x_iret C d_M_pairs_60 rfl rfl
set_option maxHeartbeats 4000000 in
set_option maxRecDepth 100000 in
theorem ct_M_person {l : Launch} {D : va_G} {ad : Nat → Nat} {cs : Nat → ClassId} {A : Nat → Prop} (E : Ev ad cs A LM) (F : Nat) (M : Mem) (x1 : Int32) (x2 : Int32) (R : (Int32 × Mem))  (hf : M_person F M x1 x2 = some R) : Met l y_M_person (Cond.code y_M_person b_M_person 3 (some .int) :: wl) (rmD 4) (PX D ad cs A LM [.ref (ad 100), .int x1, .int x2] M) (QX D ad cs A LM (some (.int R.1)) R.2) 0 0 A := by
  refine x_enter (lv := [(0, .ref (ad 100)), (1, .int x1), (2, .int x2)]) E mi_M_person.1 (Nat.le_of_ble_eq_true rfl) rfl (fun p e s m args below meth c C => ?_)
  unfold M_person at hf
  refine x_aload_n C d_M_person_0 0 rfl ?_
  refine x_iload_n C d_M_person_1 1 rfl ?_
  obtain ⟨c1, hc1, hf⟩ := bs hf
  refine x_callV (rest := []) (n := 1) C (ct_M_isPerson E F _ _ _  hc1) mi_M_isPerson (by decide) mc_100 ⟨_, cel_M kc_100⟩ rfl rfl wL_M_143 d_M_person_2 rfl rfl (Nat.le_of_ble_eq_true rfl) ?_
  show X _ _ _ _ _ _ _ _ _ _ _ _ _ _ _ _ _ _ _ _ _ [.int c1]
  refine x_if_eq C 33 d_M_person_5 (by decide) (fun g2 => ?_) (fun g2 => ?_)
  · replace hf := it g2 hf
    refine x_iconst (v := (-1)) C d_M_person_33 rfl ?_
    cases hf
    exact x_iret C d_M_person_34 rfl rfl
  · replace hf := ie g2 hf
    refine x_iload_n C d_M_person_8 2 rfl ?_
    refine x_i2l C d_M_person_9 ?_
    refine x_lconst (v := 0) C d_M_person_10 rfl ?_
    refine x_ldc2 C wJ_M_174 d_M_person_11 ?_
    obtain ⟨c3, hc3, hf⟩ := bs hf
    refine x_callS (rest := []) (n := 3) C (ct_M_in E F _ _ _ _ _  hc3) mi_M_in (by decide) wL_M_65 d_M_person_14 rfl rfl (Nat.le_of_ble_eq_true rfl) ?_
    show X _ _ _ _ _ _ _ _ _ _ _ _ _ _ _ _ _ _ _ _ _ [.int c3]
    refine x_if_eq C 33 d_M_person_17 (by decide) (fun g4 => ?_) (fun g4 => ?_)
    · replace hf := it g4 hf
      refine x_iconst (v := (-1)) C d_M_person_33 rfl ?_
      cases hf
      exact x_iret C d_M_person_34 rfl rfl
    · replace hf := ie g4 hf
      refine x_aload_n C d_M_person_20 0 rfl ?_
      refine x_aload_n C d_M_person_21 0 rfl ?_
      refine x_iload_n C d_M_person_22 1 rfl ?_
      refine x_iload_n C d_M_person_23 2 rfl ?_
      obtain ⟨c5, hc5, hf⟩ := bs hf
      refine x_callV (rest := [.ref (ad 100)]) (n := 2) C (ct_M_toldOf E F _ _ _ _  hc5) mi_M_toldOf (by decide) mc_100 ⟨_, cel_M kc_100⟩ rfl rfl wL_M_176 d_M_person_24 rfl rfl (Nat.le_of_ble_eq_true rfl) ?_
      show X _ _ _ _ _ _ _ _ _ _ _ _ _ _ _ _ _ _ _ _ _ [.int c5, .ref (ad 100)]
      obtain ⟨c6, hc6, hf⟩ := bs hf
      refine x_callV (rest := []) (n := 1) C (ct_M_tell E F _ _ _  hc6) mi_M_tell (by decide) mc_100 ⟨_, cel_M kc_100⟩ rfl rfl wL_M_87 d_M_person_27 rfl rfl (Nat.le_of_ble_eq_true rfl) ?_
      show X _ _ _ _ _ _ _ _ _ _ _ _ _ _ _ _ _ _ _ _ _ [.int c6.1]
      refine x_goto C 34 d_M_person_30 (by decide) ?_
      cases hf
      exact x_iret C d_M_person_34 rfl rfl
set_option maxHeartbeats 4000000 in
set_option maxRecDepth 100000 in
theorem ct_M_put {l : Launch} {D : va_G} {ad : Nat → Nat} {cs : Nat → ClassId} {A : Nat → Prop} (E : Ev ad cs A LM) (F : Nat) (M : Mem) (x1 : Int32) (x2 : Int32) (x3 : Int32) (R : (Int32 × Mem))  (hf : M_put F M x1 x2 x3 = some R) : Met l y_M_put (Cond.code y_M_put b_M_put 5 (some .int) :: wl) (rmD 2) (PX D ad cs A LM [.ref (ad 100), .int x1, .int x2, .int x3] M) (QX D ad cs A LM (some (.int R.1)) R.2) 0 0 A := by
  refine x_enter (lv := [(0, .ref (ad 100)), (1, .int x1), (2, .int x2), (3, .int x3)]) E mi_M_put.1 (Nat.le_of_ble_eq_true rfl) rfl (fun p e s m args below meth c C => ?_)
  unfold M_put at hf
  refine x_iload_n C d_M_put_0 1 rfl ?_
  obtain ⟨c1, hc1, hf⟩ := bs hf
  refine x_callS (rest := []) (n := 1) C (ct_M_isText E F _ _ _  hc1) mi_M_isText (by decide) wL_M_94 d_M_put_1 rfl rfl (Nat.le_of_ble_eq_true rfl) ?_
  show X _ _ _ _ _ _ _ _ _ _ _ _ _ _ _ _ _ _ _ _ _ [.int c1]
  refine x_if_ne C 9 d_M_put_4 (by decide) (fun g2 => ?_) (fun g2 => ?_)
  · replace hf := ie g2 hf
    refine x_aload_n C d_M_put_9 0 rfl ?_
    refine xg_M_lengths C wF_M_22 mc_100 kc_100 d_M_put_10 ?_
    refine x_iload_n C d_M_put_13 1 rfl ?_
    obtain ⟨t3, ht3, hf⟩ := bs hf
    refine x_iald C ht3 mc_105 kc_105 d_M_put_14 ?_
    refine x_if_ge C 24 d_M_put_15 (by decide) (fun g4 => ?_) (fun g4 => ?_)
    · replace hf := it g4 hf
      refine x_iload_n C d_M_put_24 2 rfl ?_
      refine x_i2l C d_M_put_25 ?_
      refine x_lconst (v := 0) C d_M_put_26 rfl ?_
      refine x_aload_n C d_M_put_27 0 rfl ?_
      refine xg_M_lengths C wF_M_22 mc_100 kc_100 d_M_put_28 ?_
      refine x_iload_n C d_M_put_31 1 rfl ?_
      obtain ⟨t5, ht5, hf⟩ := bs hf
      refine x_iald C ht5 mc_105 kc_105 d_M_put_32 ?_
      refine x_iconst (v := 1) C d_M_put_33 rfl ?_
      refine x_isub C d_M_put_34 ?_
      refine x_i2l C d_M_put_35 ?_
      obtain ⟨c6, hc6, hf⟩ := bs hf
      refine x_callS (rest := []) (n := 3) C (ct_M_in E F _ _ _ _ _  hc6) mi_M_in (by decide) wL_M_65 d_M_put_36 rfl rfl (Nat.le_of_ble_eq_true rfl) ?_
      show X _ _ _ _ _ _ _ _ _ _ _ _ _ _ _ _ _ _ _ _ _ [.int c6]
      refine x_if_ne C 48 d_M_put_39 (by decide) (fun g7 => ?_) (fun g7 => ?_)
      · replace hf := ie g7 hf
        refine x_aload_n C d_M_put_48 0 rfl ?_
        refine xg_M_bytes C wF_M_25 mc_100 kc_100 d_M_put_49 ?_
        refine x_bipush (v := 80) C d_M_put_52 rfl ?_
        refine x_iload_n C d_M_put_54 1 rfl ?_
        refine x_imul C d_M_put_55 ?_
        refine x_iload_n C d_M_put_56 2 rfl ?_
        refine x_iadd C d_M_put_57 ?_
        obtain ⟨t8, ht8, hf⟩ := bs hf
        refine x_iald C ht8 mc_106 kc_106 d_M_put_58 ?_
        refine x_istore (lv' := [(4, .int t8), (0, .ref (ad 100)), (1, .int x1), (2, .int x2), (3, .int x3)]) C d_M_put_59 (by decide) rfl ?_
        refine x_aload_n C d_M_put_61 1 rfl ?_
        refine xg_M_bytes C wF_M_25 mc_100 kc_100 d_M_put_62 ?_
        refine x_bipush (v := 80) C d_M_put_65 rfl ?_
        refine x_iload_n C d_M_put_67 2 rfl ?_
        refine x_imul C d_M_put_68 ?_
        refine x_iload_n C d_M_put_69 3 rfl ?_
        refine x_iadd C d_M_put_70 ?_
        refine x_iload_n C d_M_put_71 4 rfl ?_
        refine x_i2b C d_M_put_72 ?_
        obtain ⟨M9, hM9, hf⟩ := bs hf
        refine x_iast C hM9 mc_106 kc_106 d_M_put_73 ?_
        refine x_iload C d_M_put_74 0 rfl ?_
        refine x_sipush (v := 1000) C d_M_put_76 rfl ?_
        refine x_iadd C d_M_put_79 ?_
        cases hf
        exact x_iret C d_M_put_80 rfl rfl
      · replace hf := it g7 hf
        refine x_aload_n C d_M_put_42 0 rfl ?_
        refine x_iconst (v := 2) C d_M_put_43 rfl ?_
        obtain ⟨c10, hc10, hf⟩ := bs hf
        refine x_callV (rest := []) (n := 1) C (ct_M_find E F _ _ _  hc10) mi_M_find (by decide) mc_100 ⟨_, cel_M kc_100⟩ rfl rfl wL_M_75 d_M_put_44 rfl rfl (Nat.le_of_ble_eq_true rfl) ?_
        show X _ _ _ _ _ _ _ _ _ _ _ _ _ _ _ _ _ _ _ _ _ [.int c10.1]
        cases hf
        exact x_iret C d_M_put_47 rfl rfl
    · replace hf := ie g4 hf
      refine x_aload_n C d_M_put_18 0 rfl ?_
      refine x_iconst (v := 1) C d_M_put_19 rfl ?_
      obtain ⟨c11, hc11, hf⟩ := bs hf
      refine x_callV (rest := []) (n := 1) C (ct_M_find E F _ _ _  hc11) mi_M_find (by decide) mc_100 ⟨_, cel_M kc_100⟩ rfl rfl wL_M_75 d_M_put_20 rfl rfl (Nat.le_of_ble_eq_true rfl) ?_
      show X _ _ _ _ _ _ _ _ _ _ _ _ _ _ _ _ _ _ _ _ _ [.int c11.1]
      cases hf
      exact x_iret C d_M_put_23 rfl rfl
  · replace hf := it g2 hf
    refine x_iconst (v := (-1)) C d_M_put_7 rfl ?_
    cases hf
    exact x_iret C d_M_put_8 rfl rfl
set_option maxHeartbeats 4000000 in
set_option maxRecDepth 100000 in
theorem lw_M_ring_45 {p : Program} {l : Launch} {e : Env} {s : State} {m : MethodId} {args : Array Value} {below : List Frame} {meth : Method} {c : Code} {D : va_G} {ad : Nat → Nat} {cs : Nat → ClassId} {A : Nat → Prop} {V : Option Value} {N : Mem} (E : Ev ad cs A LM) (C : Cx p s m args meth c "KissClearingModel" b_M_ring 4 (some .int) D ad cs A LM) (F : Nat) (x2 : Int32) : ∀ (n : Nat) (M : Mem) (x3 : Int32) (u : Mem), L_M_ring_45 F x2 n M x3 = some u → X p l e 5 s m args below meth c 4 D ad cs A LM V N u 76 [(0, .ref (ad 100))] [] → X p l e 5 s m args below meth c 4 D ad cs A LM V N M 45 [(0, .ref (ad 100)), (2, .int x2), (3, .int x3)] [] := by
  intro n
  induction n with
  | zero => intro M x3 u hf; cases hf
  | succ n ih =>
    intro M x3 u hf K
    replace hf : B_M_ring_45 F x2 (L_M_ring_45 F x2 n) M x3 = some u := hf
    unfold B_M_ring_45 at hf
    refine x_iload_n C d_M_ring_45 2 rfl ?_
    refine x_aload_n C d_M_ring_46 0 rfl ?_
    refine xg_M_bestMany C wF_M_265 mc_100 kc_100 d_M_ring_47 ?_
    refine x_icmp_ge C 76 d_M_ring_50 (by decide) (fun g9 => ?_) (fun g9 => ?_)
    · replace hf := it g9 hf
      cases hf
      exact x_sub [0] rfl K
    · replace hf := ie g9 hf
      refine x_aload_n C d_M_ring_53 0 rfl ?_
      refine xg_M_items C wF_M_19 mc_100 kc_100 d_M_ring_54 ?_
      refine x_bipush (v := 40) C d_M_ring_57 rfl ?_
      refine x_iload_n C d_M_ring_59 1 rfl ?_
      refine x_imul C d_M_ring_60 ?_
      refine x_iload_n C d_M_ring_61 2 rfl ?_
      refine x_iadd C d_M_ring_62 ?_
      refine x_aload_n C d_M_ring_63 0 rfl ?_
      refine xg_M_best C wF_M_47 mc_100 kc_100 d_M_ring_64 ?_
      refine x_iload_n C d_M_ring_67 2 rfl ?_
      obtain ⟨t10, ht10, hf⟩ := bs hf
      refine x_iald C ht10 mc_112 kc_112 d_M_ring_68 ?_
      obtain ⟨M11, hM11, hf⟩ := bs hf
      refine x_iast C hM11 mc_104 kc_104 d_M_ring_69 ?_
      refine x_iinc (v := (x3 + 1)) (lv' := [(3, .int (x3 + 1)), (0, .ref (ad 100)), (2, .int x2)]) C d_M_ring_70 2 rfl rfl (by decide) rfl ?_
      refine x_goto C 45 d_M_ring_73 (by decide) ?_
      refine x_sub [1, 2, 0] rfl ?_
      exact ih _ _ _ hf K
set_option maxHeartbeats 4000000 in
set_option maxRecDepth 100000 in
theorem ct_M_ring {l : Launch} {D : va_G} {ad : Nat → Nat} {cs : Nat → ClassId} {A : Nat → Prop} (E : Ev ad cs A LM) (F : Nat) (M : Mem) (x1 : Int32) (x2 : Int32) (R : (Int32 × Mem))  (hf : M_ring F M x1 x2 = some R) : Met l y_M_ring (Cond.code y_M_ring b_M_ring 4 (some .int) :: wl) (rmD 5) (PX D ad cs A LM [.ref (ad 100), .int x1, .int x2] M) (QX D ad cs A LM (some (.int R.1)) R.2) 0 0 A := by
  refine x_enter (lv := [(0, .ref (ad 100)), (1, .int x1), (2, .int x2)]) E mi_M_ring.1 (Nat.le_of_ble_eq_true rfl) rfl (fun p e s m args below meth c C => ?_)
  unfold M_ring at hf
  refine x_iload_n C d_M_ring_0 1 rfl ?_
  refine x_i2l C d_M_ring_1 ?_
  refine x_lconst (v := 0) C d_M_ring_2 rfl ?_
  refine x_lconst (v := 1) C d_M_ring_3 rfl ?_
  obtain ⟨c1, hc1, hf⟩ := bs hf
  refine x_callS (rest := []) (n := 3) C (ct_M_in E F _ _ _ _ _  hc1) mi_M_in (by decide) wL_M_65 d_M_ring_4 rfl rfl (Nat.le_of_ble_eq_true rfl) ?_
  show X _ _ _ _ _ _ _ _ _ _ _ _ _ _ _ _ _ _ _ _ _ [.int c1]
  refine x_if_eq C 17 d_M_ring_7 (by decide) (fun g2 => ?_) (fun g2 => ?_)
  · replace hf := it g2 hf
    refine x_iconst (v := (-1)) C d_M_ring_17 rfl ?_
    cases hf
    exact x_iret C d_M_ring_18 rfl rfl
  · replace hf := ie g2 hf
    refine x_iload_n C d_M_ring_10 2 rfl ?_
    obtain ⟨c3, hc3, hf⟩ := bs hf
    refine x_callS (rest := []) (n := 1) C (ct_M_isRow E F _ _ _  hc3) mi_M_isRow (by decide) wL_M_71 d_M_ring_11 rfl rfl (Nat.le_of_ble_eq_true rfl) ?_
    show X _ _ _ _ _ _ _ _ _ _ _ _ _ _ _ _ _ _ _ _ _ [.int c3]
    refine x_if_ne C 19 d_M_ring_14 (by decide) (fun g4 => ?_) (fun g4 => ?_)
    · replace hf := ie g4 hf
      refine x_aload_n C d_M_ring_19 0 rfl ?_
      refine x_iload_n C d_M_ring_20 1 rfl ?_
      obtain ⟨c5, hc5, hf⟩ := bs hf
      refine x_callV (rest := []) (n := 1) C (ct_M_beginRings E F _ _ _  hc5) mi_M_beginRings (by decide) mc_100 ⟨_, cel_M kc_100⟩ rfl rfl wL_M_255 d_M_ring_21 rfl rfl (Nat.le_of_ble_eq_true rfl) ?_
      show X _ _ _ _ _ _ _ _ _ _ _ _ _ _ _ _ _ _ _ _ _ []
      refine x_aload_n C d_M_ring_24 0 rfl ?_
      obtain ⟨c6, hc6, hf⟩ := bs hf
      refine x_callV (rest := []) (n := 0) C (ct_M_layBest E F _ _  hc6) mi_M_layBest (by decide) mc_100 ⟨_, cel_M kc_100⟩ rfl rfl wL_M_271 d_M_ring_25 rfl rfl (Nat.le_of_ble_eq_true rfl) ?_
      show X _ _ _ _ _ _ _ _ _ _ _ _ _ _ _ _ _ _ _ _ _ [.int c6.1]
      refine x_if_ne C 34 d_M_ring_28 (by decide) (fun g7 => ?_) (fun g7 => ?_)
      · replace hf := ie g7 hf
        refine x_aload_n C d_M_ring_34 0 rfl ?_
        refine x_iload_n C d_M_ring_35 2 rfl ?_
        refine x_aload_n C d_M_ring_36 0 rfl ?_
        refine xg_M_bestMany C wF_M_265 mc_100 kc_100 d_M_ring_37 ?_
        obtain ⟨c8, hc8, hf⟩ := bs hf
        refine x_callV (rest := []) (n := 2) C (ct_M_makeRow E F _ _ _ _  hc8) mi_M_makeRow (by decide) mc_100 ⟨_, cel_M kc_100⟩ rfl rfl wL_M_79 d_M_ring_40 rfl rfl (Nat.le_of_ble_eq_true rfl) ?_
        show X _ _ _ _ _ _ _ _ _ _ _ _ _ _ _ _ _ _ _ _ _ []
        refine x_iconst (v := 0) C d_M_ring_43 rfl ?_
        refine x_istore_n (lv' := [(3, .int 0), (0, .ref (ad 100)), (1, .int x1), (2, .int x2)]) C d_M_ring_44 (by decide) rfl ?_
        obtain ⟨u12, hu12, hf⟩ := bs hf
        refine x_sub [1, 3, 0] rfl ?_
        refine lw_M_ring_45 E C F _ _ _ _ _ hu12 ?_
        refine x_aload_n C d_M_ring_76 0 rfl ?_
        refine xg_M_bestBy C wF_M_268 mc_100 kc_100 d_M_ring_77 ?_
        cases hf
        exact x_iret C d_M_ring_80 rfl rfl
      · replace hf := it g7 hf
        refine x_bipush (v := (-9)) C d_M_ring_31 rfl ?_
        cases hf
        exact x_iret C d_M_ring_33 rfl rfl
    · replace hf := it g4 hf
      refine x_iconst (v := (-1)) C d_M_ring_17 rfl ?_
      cases hf
      exact x_iret C d_M_ring_18 rfl rfl
set_option maxHeartbeats 4000000 in
set_option maxRecDepth 100000 in
theorem lw_M_rounds_6 {p : Program} {l : Launch} {e : Env} {s : State} {m : MethodId} {args : Array Value} {below : List Frame} {meth : Method} {c : Code} {D : va_G} {ad : Nat → Nat} {cs : Nat → ClassId} {A : Nat → Prop} {V : Option Value} {N : Mem} (E : Ev ad cs A LM) (C : Cx p s m args meth c "KissClearingModel" b_M_rounds 2 (some .int) D ad cs A LM) (F : Nat)  : ∀ (n : Nat) (M : Mem) (x1 : Int32) (u : (Int32 × Mem)), L_M_rounds_6 F n M x1 = some u → X p l e 4 s m args below meth c 2 D ad cs A LM V N u.2 20 [(1, .int u.1)] [] → X p l e 4 s m args below meth c 2 D ad cs A LM V N M 6 [(0, .ref (ad 100)), (1, .int x1)] [] := by
  intro n
  induction n with
  | zero => intro M x1 u hf; cases hf
  | succ n ih =>
    intro M x1 u hf K
    replace hf : B_M_rounds_6 F (L_M_rounds_6 F n) M x1 = some u := hf
    unfold B_M_rounds_6 at hf
    refine x_aload_n C d_M_rounds_6 0 rfl ?_
    refine x_iload_n C d_M_rounds_7 1 rfl ?_
    obtain ⟨c2, hc2, hf⟩ := bs hf
    refine x_callV (rest := []) (n := 1) C (ct_M_canMeet E F _ _ _  hc2) mi_M_canMeet (by decide) mc_100 ⟨_, cel_M kc_100⟩ rfl rfl wL_M_289 d_M_rounds_8 rfl rfl (Nat.le_of_ble_eq_true rfl) ?_
    show X _ _ _ _ _ _ _ _ _ _ _ _ _ _ _ _ _ _ _ _ _ [.int c2.1]
    refine x_if_ne C 20 d_M_rounds_11 (by decide) (fun g3 => ?_) (fun g3 => ?_)
    · replace hf := ie g3 hf
      cases hf
      exact x_sub [1] rfl K
    · replace hf := it g3 hf
      refine x_iinc (v := (x1 + 1)) (lv' := [(1, .int (x1 + 1)), (0, .ref (ad 100))]) C d_M_rounds_14 1 rfl rfl (by decide) rfl ?_
      refine x_goto C 6 d_M_rounds_17 (by decide) ?_
      refine x_sub [1, 0] rfl ?_
      exact ih _ _ _ hf K
set_option maxHeartbeats 4000000 in
set_option maxRecDepth 100000 in
theorem ct_M_rounds {l : Launch} {D : va_G} {ad : Nat → Nat} {cs : Nat → ClassId} {A : Nat → Prop} (E : Ev ad cs A LM) (F : Nat) (M : Mem)  (R : (Int32 × Mem))  (hf : M_rounds F M = some R) : Met l y_M_rounds (Cond.code y_M_rounds b_M_rounds 2 (some .int) :: wl) (rmD 4) (PX D ad cs A LM [.ref (ad 100)] M) (QX D ad cs A LM (some (.int R.1)) R.2) 0 0 A := by
  refine x_enter (lv := [(0, .ref (ad 100))]) E mi_M_rounds.1 (Nat.le_of_ble_eq_true rfl) rfl (fun p e s m args below meth c C => ?_)
  unfold M_rounds at hf
  refine x_aload_n C d_M_rounds_0 0 rfl ?_
  obtain ⟨c1, hc1, hf⟩ := bs hf
  refine x_callV (rest := []) (n := 0) C (ct_M_layPairs E F _ _  hc1) mi_M_layPairs (by decide) mc_100 ⟨_, cel_M kc_100⟩ rfl rfl wL_M_283 d_M_rounds_1 rfl rfl (Nat.le_of_ble_eq_true rfl) ?_
  show X _ _ _ _ _ _ _ _ _ _ _ _ _ _ _ _ _ _ _ _ _ []
  refine x_iconst (v := 0) C d_M_rounds_4 rfl ?_
  refine x_istore_n (lv' := [(1, .int 0), (0, .ref (ad 100))]) C d_M_rounds_5 (by decide) rfl ?_
  obtain ⟨u4, hu4, hf⟩ := bs hf
  refine x_sub [1, 0] rfl ?_
  refine lw_M_rounds_6 E C F _ _ _ _ hu4 ?_
  refine x_iload_n C d_M_rounds_20 0 rfl ?_
  cases hf
  exact x_iret C d_M_rounds_21 rfl rfl
set_option maxHeartbeats 4000000 in
set_option maxRecDepth 100000 in
theorem ct_M_row {l : Launch} {D : va_G} {ad : Nat → Nat} {cs : Nat → ClassId} {A : Nat → Prop} (E : Ev ad cs A LM) (F : Nat) (M : Mem) (x1 : Int32) (x2 : Int32) (R : (Int32 × Mem))  (hf : M_row F M x1 x2 = some R) : Met l y_M_row (Cond.code y_M_row b_M_row 3 (some .int) :: wl) (rmD 2) (PX D ad cs A LM [.ref (ad 100), .int x1, .int x2] M) (QX D ad cs A LM (some (.int R.1)) R.2) 0 0 A := by
  refine x_enter (lv := [(0, .ref (ad 100)), (1, .int x1), (2, .int x2)]) E mi_M_row.1 (Nat.le_of_ble_eq_true rfl) rfl (fun p e s m args below meth c C => ?_)
  unfold M_row at hf
  refine x_iload_n C d_M_row_0 1 rfl ?_
  obtain ⟨c1, hc1, hf⟩ := bs hf
  refine x_callS (rest := []) (n := 1) C (ct_M_isRow E F _ _ _  hc1) mi_M_isRow (by decide) wL_M_71 d_M_row_1 rfl rfl (Nat.le_of_ble_eq_true rfl) ?_
  show X _ _ _ _ _ _ _ _ _ _ _ _ _ _ _ _ _ _ _ _ _ [.int c1]
  refine x_if_eq C 13 d_M_row_4 (by decide) (fun g2 => ?_) (fun g2 => ?_)
  · replace hf := it g2 hf
    refine x_iconst (v := (-1)) C d_M_row_13 rfl ?_
    cases hf
    exact x_iret C d_M_row_14 rfl rfl
  · replace hf := ie g2 hf
    refine x_iload_n C d_M_row_7 2 rfl ?_
    refine x_bipush (v := 40) C d_M_row_8 rfl ?_
    refine x_icmp_le C 15 d_M_row_10 (by decide) (fun g3 => ?_) (fun g3 => ?_)
    · replace hf := it g3 hf
      refine x_iload_n C d_M_row_15 2 rfl ?_
      refine x_if_ge C 25 d_M_row_16 (by decide) (fun g4 => ?_) (fun g4 => ?_)
      · replace hf := it g4 hf
        refine x_aload_n C d_M_row_25 0 rfl ?_
        refine x_iload_n C d_M_row_26 1 rfl ?_
        refine x_iload_n C d_M_row_27 2 rfl ?_
        obtain ⟨c5, hc5, hf⟩ := bs hf
        refine x_callV (rest := []) (n := 2) C (ct_M_makeRow E F _ _ _ _  hc5) mi_M_makeRow (by decide) mc_100 ⟨_, cel_M kc_100⟩ rfl rfl wL_M_79 d_M_row_28 rfl rfl (Nat.le_of_ble_eq_true rfl) ?_
        show X _ _ _ _ _ _ _ _ _ _ _ _ _ _ _ _ _ _ _ _ _ []
        refine x_iload_n C d_M_row_31 2 rfl ?_
        cases hf
        exact x_iret C d_M_row_32 rfl rfl
      · replace hf := ie g4 hf
        refine x_aload_n C d_M_row_19 0 rfl ?_
        refine x_iconst (v := 5) C d_M_row_20 rfl ?_
        obtain ⟨c6, hc6, hf⟩ := bs hf
        refine x_callV (rest := []) (n := 1) C (ct_M_find E F _ _ _  hc6) mi_M_find (by decide) mc_100 ⟨_, cel_M kc_100⟩ rfl rfl wL_M_75 d_M_row_21 rfl rfl (Nat.le_of_ble_eq_true rfl) ?_
        show X _ _ _ _ _ _ _ _ _ _ _ _ _ _ _ _ _ _ _ _ _ [.int c6.1]
        cases hf
        exact x_iret C d_M_row_24 rfl rfl
    · replace hf := ie g3 hf
      refine x_iconst (v := (-1)) C d_M_row_13 rfl ?_
      cases hf
      exact x_iret C d_M_row_14 rfl rfl
set_option maxHeartbeats 4000000 in
set_option maxRecDepth 100000 in
theorem lw_M_saved_13 {p : Program} {l : Launch} {e : Env} {s : State} {m : MethodId} {args : Array Value} {below : List Frame} {meth : Method} {c : Code} {D : va_G} {ad : Nat → Nat} {cs : Nat → ClassId} {A : Nat → Prop} {V : Option Value} {N : Mem} (E : Ev ad cs A LM) (C : Cx p s m args meth c "KissClearingModel" b_M_saved 4 (some .int) D ad cs A LM) (F : Nat) (M : Mem) (x1 : Int32) (x2 : Int32) : ∀ (n : Nat) (x3 : Int32) (u0 : (Sum Int32 Unit)), L_M_saved_13 F M x1 x2 n x3 = some u0 → (∀ r, u0 = .inl r → V = some (.int r) ∧ N = M) →  (∀ u, u0 = .inr u → X p l e 4 s m args below meth c 4 D ad cs A LM V N M 42 [] []) → X p l e 4 s m args below meth c 4 D ad cs A LM V N M 13 [(0, .ref (ad 100)), (1, .int x1), (2, .int x2), (3, .int x3)] [] := by
  intro n
  induction n with
  | zero => intro x3 u0 hf; cases hf
  | succ n ih =>
    intro x3 u0 hf Kr Kx
    replace hf : B_M_saved_13 F M x1 x2 (L_M_saved_13 F M x1 x2 n) x3 = some u0 := hf
    unfold B_M_saved_13 at hf
    refine x_iload_n C d_M_saved_13 3 rfl ?_
    refine x_sipush (v := 200) C d_M_saved_14 rfl ?_
    refine x_icmp_gt C 42 d_M_saved_17 (by decide) (fun g3 => ?_) (fun g3 => ?_)
    · replace hf := it g3 hf
      cases hf
      exact x_sub [] rfl (Kx _ rfl)
    · replace hf := ie g3 hf
      refine x_aload_n C d_M_saved_20 0 rfl ?_
      refine x_iload_n C d_M_saved_21 2 rfl ?_
      refine x_iload_n C d_M_saved_22 1 rfl ?_
      refine x_iload_n C d_M_saved_23 3 rfl ?_
      obtain ⟨c4, hc4, hf⟩ := bs hf
      refine x_callV (rest := []) (n := 3) C (ct_M_fallen E F _ _ _ _ _  hc4) mi_M_fallen (by decide) mc_100 ⟨_, cel_M kc_100⟩ rfl rfl wL_M_274 d_M_saved_24 rfl rfl (Nat.le_of_ble_eq_true rfl) ?_
      show X _ _ _ _ _ _ _ _ _ _ _ _ _ _ _ _ _ _ _ _ _ [.int c4]
      refine x_iload_n C d_M_saved_27 1 rfl ?_
      obtain ⟨c5, hc5, hf⟩ := bs hf
      refine x_callS (rest := []) (n := 2) C (ct_M_has E F _ _ _ _  hc5) mi_M_has (by decide) wL_M_152 d_M_saved_28 rfl rfl (Nat.le_of_ble_eq_true rfl) ?_
      show X _ _ _ _ _ _ _ _ _ _ _ _ _ _ _ _ _ _ _ _ _ [.int c5]
      refine x_if_ne C 36 d_M_saved_31 (by decide) (fun g6 => ?_) (fun g6 => ?_)
      · replace hf := ie g6 hf
        refine x_iinc (v := (x3 + 1)) (lv' := [(3, .int (x3 + 1)), (0, .ref (ad 100)), (1, .int x1), (2, .int x2)]) C d_M_saved_36 3 rfl rfl (by decide) rfl ?_
        refine x_goto C 13 d_M_saved_39 (by decide) ?_
        refine x_sub [1, 2, 3, 0] rfl ?_
        exact ih _ _ hf Kr Kx
      · replace hf := it g6 hf
        refine x_iload_n C d_M_saved_34 3 rfl ?_
        cases hf
        obtain ⟨hV, hN⟩ := Kr _ rfl
        exact x_iret C d_M_saved_35 hV hN
set_option maxHeartbeats 4000000 in
set_option maxRecDepth 100000 in
theorem ct_M_saved {l : Launch} {D : va_G} {ad : Nat → Nat} {cs : Nat → ClassId} {A : Nat → Prop} (E : Ev ad cs A LM) (F : Nat) (M : Mem) (x1 : Int32) (x2 : Int32) (R : Int32)  (hf : M_saved F M x1 x2 = some R) : Met l y_M_saved (Cond.code y_M_saved b_M_saved 4 (some .int) :: wl) (rmD 4) (PX D ad cs A LM [.ref (ad 100), .int x1, .int x2] M) (QX D ad cs A LM (some (.int R)) M) 0 0 A := by
  refine x_enter (lv := [(0, .ref (ad 100)), (1, .int x1), (2, .int x2)]) E mi_M_saved.1 (Nat.le_of_ble_eq_true rfl) rfl (fun p e s m args below meth c C => ?_)
  unfold M_saved at hf
  refine x_aload_n C d_M_saved_0 0 rfl ?_
  refine x_iload_n C d_M_saved_1 1 rfl ?_
  refine x_iload_n C d_M_saved_2 2 rfl ?_
  obtain ⟨c1, hc1, hf⟩ := bs hf
  refine x_callV (rest := []) (n := 2) C (ct_M_areTwo E F _ _ _ _  hc1) mi_M_areTwo (by decide) mc_100 ⟨_, cel_M kc_100⟩ rfl rfl wL_M_200 d_M_saved_3 rfl rfl (Nat.le_of_ble_eq_true rfl) ?_
  show X _ _ _ _ _ _ _ _ _ _ _ _ _ _ _ _ _ _ _ _ _ [.int c1]
  refine x_if_ne C 11 d_M_saved_6 (by decide) (fun g2 => ?_) (fun g2 => ?_)
  · replace hf := ie g2 hf
    refine x_iconst (v := 0) C d_M_saved_11 rfl ?_
    refine x_istore_n (lv' := [(3, .int 0), (0, .ref (ad 100)), (1, .int x1), (2, .int x2)]) C d_M_saved_12 (by decide) rfl ?_
    obtain ⟨u7, hu7, hf⟩ := bs hf
    refine x_sub [1, 2, 3, 0] rfl ?_
    refine lw_M_saved_13 E C F _ _ _ _ _ _ hu7 (fun r8 hr8 => ?_) (fun w9 hw9 => ?_)
    · subst hr8
      replace hf := se_l hf
      cases hf
      exact ⟨rfl, rfl⟩
    · subst hw9
      replace hf := se_r hf
      refine x_bipush (v := (-9)) C d_M_saved_42 rfl ?_
      cases hf
      exact x_iret C d_M_saved_44 rfl rfl
  · replace hf := it g2 hf
    refine x_iconst (v := (-1)) C d_M_saved_9 rfl ?_
    cases hf
    exact x_iret C d_M_saved_10 rfl rfl
set_option maxHeartbeats 4000000 in
set_option maxRecDepth 100000 in
theorem ct_M_sure {l : Launch} {D : va_G} {ad : Nat → Nat} {cs : Nat → ClassId} {A : Nat → Prop} (E : Ev ad cs A LM) (F : Nat) (M : Mem) (x1 : Int32) (R : (Int32 × Mem))  (hf : M_sure F M x1 = some R) : Met l y_M_sure (Cond.code y_M_sure b_M_sure 3 (some .int) :: wl) (rmD 4) (PX D ad cs A LM [.ref (ad 100), .int x1] M) (QX D ad cs A LM (some (.int R.1)) R.2) 0 0 A := by
  refine x_enter (lv := [(0, .ref (ad 100)), (1, .int x1)]) E mi_M_sure.1 (Nat.le_of_ble_eq_true rfl) rfl (fun p e s m args below meth c C => ?_)
  unfold M_sure at hf
  refine x_aload_n C d_M_sure_0 0 rfl ?_
  refine x_iload_n C d_M_sure_1 1 rfl ?_
  obtain ⟨c1, hc1, hf⟩ := bs hf
  refine x_callV (rest := []) (n := 1) C (ct_M_layBlushes E F _ _ _  hc1) mi_M_layBlushes (by decide) mc_100 ⟨_, cel_M kc_100⟩ rfl rfl wL_M_320 d_M_sure_2 rfl rfl (Nat.le_of_ble_eq_true rfl) ?_
  show X _ _ _ _ _ _ _ _ _ _ _ _ _ _ _ _ _ _ _ _ _ [.int c1.1]
  refine x_istore_n (lv' := [(2, .int c1.1), (0, .ref (ad 100)), (1, .int x1)]) C d_M_sure_5 (by decide) rfl ?_
  refine x_iload_n C d_M_sure_6 0 rfl ?_
  refine x_if_eq C 14 d_M_sure_7 (by decide) (fun g2 => ?_) (fun g2 => ?_)
  · replace hf := it g2 hf
    refine x_aload_n C d_M_sure_14 1 rfl ?_
    refine xg_M_blushesSure C wF_M_311 mc_100 kc_100 d_M_sure_15 ?_
    cases hf
    exact x_iret C d_M_sure_18 rfl rfl
  · replace hf := ie g2 hf
    refine x_iload_n C d_M_sure_10 0 rfl ?_
    refine x_goto C 18 d_M_sure_11 (by decide) ?_
    cases hf
    exact x_iret C d_M_sure_18 rfl rfl
set_option maxHeartbeats 4000000 in
set_option maxRecDepth 100000 in
theorem ct_M_tear {l : Launch} {D : va_G} {ad : Nat → Nat} {cs : Nat → ClassId} {A : Nat → Prop} (E : Ev ad cs A LM) (F : Nat) (M : Mem) (x1 : Int32) (R : (Int32 × Mem))  (hf : M_tear F M x1 = some R) : Met l y_M_tear (Cond.code y_M_tear b_M_tear 2 (some .int) :: wl) (rmD 2) (PX D ad cs A LM [.ref (ad 100), .int x1] M) (QX D ad cs A LM (some (.int R.1)) R.2) 0 0 A := by
  refine x_enter (lv := [(0, .ref (ad 100)), (1, .int x1)]) E mi_M_tear.1 (Nat.le_of_ble_eq_true rfl) rfl (fun p e s m args below meth c C => ?_)
  unfold M_tear at hf
  refine x_iload_n C d_M_tear_0 1 rfl ?_
  obtain ⟨c1, hc1, hf⟩ := bs hf
  refine x_callS (rest := []) (n := 1) C (ct_M_isRow E F _ _ _  hc1) mi_M_isRow (by decide) wL_M_71 d_M_tear_1 rfl rfl (Nat.le_of_ble_eq_true rfl) ?_
  show X _ _ _ _ _ _ _ _ _ _ _ _ _ _ _ _ _ _ _ _ _ [.int c1]
  refine x_if_ne C 9 d_M_tear_4 (by decide) (fun g2 => ?_) (fun g2 => ?_)
  · replace hf := ie g2 hf
    refine x_aload_n C d_M_tear_9 0 rfl ?_
    refine xg_M_sizes C wF_M_16 mc_100 kc_100 d_M_tear_10 ?_
    refine x_iload_n C d_M_tear_13 1 rfl ?_
    obtain ⟨t3, ht3, hf⟩ := bs hf
    refine x_iald C ht3 mc_103 kc_103 d_M_tear_14 ?_
    refine x_if_ge C 24 d_M_tear_15 (by decide) (fun g4 => ?_) (fun g4 => ?_)
    · replace hf := it g4 hf
      refine x_aload_n C d_M_tear_24 0 rfl ?_
      refine xg_M_sizes C wF_M_16 mc_100 kc_100 d_M_tear_25 ?_
      refine x_iload_n C d_M_tear_28 1 rfl ?_
      refine x_iconst (v := (-1)) C d_M_tear_29 rfl ?_
      obtain ⟨M5, hM5, hf⟩ := bs hf
      refine x_iast C hM5 mc_103 kc_103 d_M_tear_30 ?_
      refine x_iconst (v := 1) C d_M_tear_31 rfl ?_
      cases hf
      exact x_iret C d_M_tear_32 rfl rfl
    · replace hf := ie g4 hf
      refine x_aload_n C d_M_tear_18 0 rfl ?_
      refine x_iconst (v := 1) C d_M_tear_19 rfl ?_
      obtain ⟨c6, hc6, hf⟩ := bs hf
      refine x_callV (rest := []) (n := 1) C (ct_M_find E F _ _ _  hc6) mi_M_find (by decide) mc_100 ⟨_, cel_M kc_100⟩ rfl rfl wL_M_75 d_M_tear_20 rfl rfl (Nat.le_of_ble_eq_true rfl) ?_
      show X _ _ _ _ _ _ _ _ _ _ _ _ _ _ _ _ _ _ _ _ _ [.int c6.1]
      cases hf
      exact x_iret C d_M_tear_23 rfl rfl
  · replace hf := it g2 hf
    refine x_iconst (v := (-1)) C d_M_tear_7 rfl ?_
    cases hf
    exact x_iret C d_M_tear_8 rfl rfl
set_option maxHeartbeats 4000000 in
set_option maxRecDepth 100000 in
theorem lw_M_text_34 {p : Program} {l : Launch} {e : Env} {s : State} {m : MethodId} {args : Array Value} {below : List Frame} {meth : Method} {c : Code} {D : va_G} {ad : Nat → Nat} {cs : Nat → ClassId} {A : Nat → Prop} {V : Option Value} {N : Mem} (E : Ev ad cs A LM) (C : Cx p s m args meth c "KissClearingModel" b_M_text 4 (some .int) D ad cs A LM) (F : Nat) (x1 : Int32) (x2 : Int32) : ∀ (n : Nat) (M : Mem) (x3 : Int32) (u : Mem), L_M_text_34 F x1 x2 n M x3 = some u → X p l e 2 s m args below meth c 4 D ad cs A LM V N u 59 [(2, .int x2)] [] → X p l e 2 s m args below meth c 4 D ad cs A LM V N M 34 [(0, .ref (ad 100)), (1, .int x1), (2, .int x2), (3, .int x3)] [] := by
  intro n
  induction n with
  | zero => intro M x3 u hf; cases hf
  | succ n ih =>
    intro M x3 u hf K
    replace hf : B_M_text_34 F x1 x2 (L_M_text_34 F x1 x2 n) M x3 = some u := hf
    unfold B_M_text_34 at hf
    refine x_iload_n C d_M_text_34 3 rfl ?_
    refine x_bipush (v := 80) C d_M_text_35 rfl ?_
    refine x_icmp_ge C 59 d_M_text_37 (by decide) (fun g6 => ?_) (fun g6 => ?_)
    · replace hf := it g6 hf
      cases hf
      exact x_sub [2] rfl K
    · replace hf := ie g6 hf
      refine x_aload_n C d_M_text_40 0 rfl ?_
      refine xg_M_bytes C wF_M_25 mc_100 kc_100 d_M_text_41 ?_
      refine x_bipush (v := 80) C d_M_text_44 rfl ?_
      refine x_iload_n C d_M_text_46 1 rfl ?_
      refine x_imul C d_M_text_47 ?_
      refine x_iload_n C d_M_text_48 3 rfl ?_
      refine x_iadd C d_M_text_49 ?_
      refine x_bipush (v := 32) C d_M_text_50 rfl ?_
      obtain ⟨M7, hM7, hf⟩ := bs hf
      refine x_iast C hM7 mc_106 kc_106 d_M_text_52 ?_
      refine x_iinc (v := (x3 + 1)) (lv' := [(3, .int (x3 + 1)), (0, .ref (ad 100)), (1, .int x1), (2, .int x2)]) C d_M_text_53 3 rfl rfl (by decide) rfl ?_
      refine x_goto C 34 d_M_text_56 (by decide) ?_
      refine x_sub [1, 2, 3, 0] rfl ?_
      exact ih _ _ _ hf K
set_option maxHeartbeats 4000000 in
set_option maxRecDepth 100000 in
theorem ct_M_text {l : Launch} {D : va_G} {ad : Nat → Nat} {cs : Nat → ClassId} {A : Nat → Prop} (E : Ev ad cs A LM) (F : Nat) (M : Mem) (x1 : Int32) (x2 : Int32) (R : (Int32 × Mem))  (hf : M_text F M x1 x2 = some R) : Met l y_M_text (Cond.code y_M_text b_M_text 4 (some .int) :: wl) (rmD 2) (PX D ad cs A LM [.ref (ad 100), .int x1, .int x2] M) (QX D ad cs A LM (some (.int R.1)) R.2) 0 0 A := by
  refine x_enter (lv := [(0, .ref (ad 100)), (1, .int x1), (2, .int x2)]) E mi_M_text.1 (Nat.le_of_ble_eq_true rfl) rfl (fun p e s m args below meth c C => ?_)
  unfold M_text at hf
  refine x_iload_n C d_M_text_0 1 rfl ?_
  obtain ⟨c1, hc1, hf⟩ := bs hf
  refine x_callS (rest := []) (n := 1) C (ct_M_isText E F _ _ _  hc1) mi_M_isText (by decide) wL_M_94 d_M_text_1 rfl rfl (Nat.le_of_ble_eq_true rfl) ?_
  show X _ _ _ _ _ _ _ _ _ _ _ _ _ _ _ _ _ _ _ _ _ [.int c1]
  refine x_if_eq C 13 d_M_text_4 (by decide) (fun g2 => ?_) (fun g2 => ?_)
  · replace hf := it g2 hf
    refine x_iconst (v := (-1)) C d_M_text_13 rfl ?_
    cases hf
    exact x_iret C d_M_text_14 rfl rfl
  · replace hf := ie g2 hf
    refine x_iload_n C d_M_text_7 2 rfl ?_
    refine x_bipush (v := 80) C d_M_text_8 rfl ?_
    refine x_icmp_le C 15 d_M_text_10 (by decide) (fun g3 => ?_) (fun g3 => ?_)
    · replace hf := it g3 hf
      refine x_iload_n C d_M_text_15 2 rfl ?_
      refine x_if_ge C 25 d_M_text_16 (by decide) (fun g4 => ?_) (fun g4 => ?_)
      · replace hf := it g4 hf
        refine x_aload_n C d_M_text_25 0 rfl ?_
        refine xg_M_lengths C wF_M_22 mc_100 kc_100 d_M_text_26 ?_
        refine x_iload_n C d_M_text_29 1 rfl ?_
        refine x_iload_n C d_M_text_30 2 rfl ?_
        obtain ⟨M5, hM5, hf⟩ := bs hf
        refine x_iast C hM5 mc_105 kc_105 d_M_text_31 ?_
        refine x_iconst (v := 0) C d_M_text_32 rfl ?_
        refine x_istore_n (lv' := [(3, .int 0), (0, .ref (ad 100)), (1, .int x1), (2, .int x2)]) C d_M_text_33 (by decide) rfl ?_
        obtain ⟨u8, hu8, hf⟩ := bs hf
        refine x_sub [1, 2, 3, 0] rfl ?_
        refine lw_M_text_34 E C F _ _ _ _ _ _ hu8 ?_
        refine x_iload_n C d_M_text_59 0 rfl ?_
        cases hf
        exact x_iret C d_M_text_60 rfl rfl
      · replace hf := ie g4 hf
        refine x_aload_n C d_M_text_19 0 rfl ?_
        refine x_iconst (v := 5) C d_M_text_20 rfl ?_
        obtain ⟨c9, hc9, hf⟩ := bs hf
        refine x_callV (rest := []) (n := 1) C (ct_M_find E F _ _ _  hc9) mi_M_find (by decide) mc_100 ⟨_, cel_M kc_100⟩ rfl rfl wL_M_75 d_M_text_21 rfl rfl (Nat.le_of_ble_eq_true rfl) ?_
        show X _ _ _ _ _ _ _ _ _ _ _ _ _ _ _ _ _ _ _ _ _ [.int c9.1]
        cases hf
        exact x_iret C d_M_text_24 rfl rfl
    · replace hf := ie g3 hf
      refine x_iconst (v := (-1)) C d_M_text_13 rfl ?_
      cases hf
      exact x_iret C d_M_text_14 rfl rfl
set_option maxHeartbeats 4000000 in
set_option maxRecDepth 100000 in
theorem lw_M_trust_30 {p : Program} {l : Launch} {e : Env} {s : State} {m : MethodId} {args : Array Value} {below : List Frame} {meth : Method} {c : Code} {D : va_G} {ad : Nat → Nat} {cs : Nat → ClassId} {A : Nat → Prop} {V : Option Value} {N : Mem} (E : Ev ad cs A LM) (C : Cx p s m args meth c "KissClearingModel" b_M_trust 7 (some .int) D ad cs A LM) (F : Nat) (M : Mem) (x2 : Int32) (x3 : Int32) (x4 : Int32) : ∀ (n : Nat) (x5 : Int32) (x6 : Int32) (u : Int32), L_M_trust_30 F M x2 x3 x4 n x5 x6 = some u → X p l e 3 s m args below meth c 7 D ad cs A LM V N M 88 [(0, .ref (ad 100)), (2, .int x2), (4, .int x4), (5, .int u)] [] → X p l e 3 s m args below meth c 7 D ad cs A LM V N M 30 [(0, .ref (ad 100)), (2, .int x2), (3, .int x3), (4, .int x4), (5, .int x5), (6, .int x6)] [] := by
  intro n
  induction n with
  | zero => intro x5 x6 u hf; cases hf
  | succ n ih =>
    intro x5 x6 u hf K
    replace hf : B_M_trust_30 F M x2 x3 x4 (L_M_trust_30 F M x2 x3 x4 n) x5 x6 = some u := hf
    unfold B_M_trust_30 at hf
    refine x_iload C d_M_trust_30 5 rfl ?_
    refine x_aload_n C d_M_trust_32 0 rfl ?_
    refine xg_M_row C wF_M_7 mc_100 kc_100 d_M_trust_33 ?_
    refine x_iconst (v := 1) C d_M_trust_36 rfl ?_
    refine x_iald C (ac_101_1 M) mc_101 kc_101 d_M_trust_37 ?_
    refine x_icmp_ge C 88 d_M_trust_38 (by decide) (fun g4 => ?_) (fun g4 => ?_)
    · replace hf := it g4 hf
      cases hf
      exact x_sub [0, 1, 3, 4] rfl K
    · replace hf := ie g4 hf
      refine x_iload C d_M_trust_41 4 rfl ?_
      refine x_aload_n C d_M_trust_43 0 rfl ?_
      refine x_iload C d_M_trust_44 5 rfl ?_
      obtain ⟨c5, hc5, hf⟩ := bs hf
      refine x_callV (rest := [.int x5]) (n := 1) C (ct_M_isOpen E F _ _ _  hc5) mi_M_isOpen (by decide) mc_100 ⟨_, cel_M kc_100⟩ rfl rfl wL_M_156 d_M_trust_46 rfl rfl (Nat.le_of_ble_eq_true rfl) ?_
      show X _ _ _ _ _ _ _ _ _ _ _ _ _ _ _ _ _ _ _ _ _ [.int c5, .int x5]
      refine x_if_eq C 78 d_M_trust_49 (by decide) (fun g6 => ?_) (fun g6 => ?_)
      · replace hf := it g6 hf
        refine x_iconst (v := 0) C d_M_trust_78 rfl ?_
        refine x_ior C d_M_trust_79 ?_
        refine x_istore (lv' := [(5, .int (x5 ||| 0)), (0, .ref (ad 100)), (2, .int x2), (3, .int x3), (4, .int x4), (6, .int x6)]) C d_M_trust_80 (by decide) rfl ?_
        refine x_iinc (v := (x6 + 1)) (lv' := [(6, .int (x6 + 1)), (5, .int (x5 ||| 0)), (0, .ref (ad 100)), (2, .int x2), (3, .int x3), (4, .int x4)]) C d_M_trust_82 5 rfl rfl (by decide) rfl ?_
        refine x_goto C 30 d_M_trust_85 (by decide) ?_
        refine x_sub [2, 3, 4, 5, 1, 0] rfl ?_
        exact ih _ _ _ hf K
      · replace hf := ie g6 hf
        refine x_iload_n C d_M_trust_52 2 rfl ?_
        refine x_aload_n C d_M_trust_53 0 rfl ?_
        refine x_iload C d_M_trust_54 5 rfl ?_
        refine x_iconst (v := 0) C d_M_trust_56 rfl ?_
        obtain ⟨c7, hc7, hf⟩ := bs hf
        refine x_callV (rest := [.int x3, .int x5]) (n := 2) C (ct_M_of E F _ _ _ _  hc7) mi_M_of (by decide) mc_100 ⟨_, cel_M kc_100⟩ rfl rfl wL_M_146 d_M_trust_57 rfl rfl (Nat.le_of_ble_eq_true rfl) ?_
        show X _ _ _ _ _ _ _ _ _ _ _ _ _ _ _ _ _ _ _ _ _ [.int c7, .int x3, .int x5]
        obtain ⟨c8, hc8, hf⟩ := bs hf
        refine x_callS (rest := [.int x5]) (n := 2) C (ct_M_has E F _ _ _ _  hc8) mi_M_has (by decide) wL_M_152 d_M_trust_60 rfl rfl (Nat.le_of_ble_eq_true rfl) ?_
        show X _ _ _ _ _ _ _ _ _ _ _ _ _ _ _ _ _ _ _ _ _ [.int c8, .int x5]
        refine x_if_eq C 78 d_M_trust_63 (by decide) (fun g9 => ?_) (fun g9 => ?_)
        · replace hf := it g9 hf
          refine x_iconst (v := 0) C d_M_trust_78 rfl ?_
          refine x_ior C d_M_trust_79 ?_
          refine x_istore (lv' := [(5, .int (x5 ||| 0)), (0, .ref (ad 100)), (2, .int x2), (3, .int x3), (4, .int x4), (6, .int x6)]) C d_M_trust_80 (by decide) rfl ?_
          refine x_iinc (v := (x6 + 1)) (lv' := [(6, .int (x6 + 1)), (5, .int (x5 ||| 0)), (0, .ref (ad 100)), (2, .int x2), (3, .int x3), (4, .int x4)]) C d_M_trust_82 5 rfl rfl (by decide) rfl ?_
          refine x_goto C 30 d_M_trust_85 (by decide) ?_
          refine x_sub [2, 3, 4, 5, 1, 0] rfl ?_
          exact ih _ _ _ hf K
        · replace hf := ie g9 hf
          refine x_iconst (v := 1) C d_M_trust_66 rfl ?_
          refine x_aload_n C d_M_trust_67 0 rfl ?_
          refine x_iload C d_M_trust_68 5 rfl ?_
          refine x_iconst (v := 1) C d_M_trust_70 rfl ?_
          obtain ⟨c10, hc10, hf⟩ := bs hf
          refine x_callV (rest := [.int 1, .int x5]) (n := 2) C (ct_M_of E F _ _ _ _  hc10) mi_M_of (by decide) mc_100 ⟨_, cel_M kc_100⟩ rfl rfl wL_M_146 d_M_trust_71 rfl rfl (Nat.le_of_ble_eq_true rfl) ?_
          show X _ _ _ _ _ _ _ _ _ _ _ _ _ _ _ _ _ _ _ _ _ [.int c10, .int 1, .int x5]
          refine x_ishl C d_M_trust_74 ?_
          refine x_goto C 79 d_M_trust_75 (by decide) ?_
          refine x_ior C d_M_trust_79 ?_
          refine x_istore (lv' := [(5, .int (x5 ||| (1 <<< (c10 &&& 31)))), (0, .ref (ad 100)), (2, .int x2), (3, .int x3), (4, .int x4), (6, .int x6)]) C d_M_trust_80 (by decide) rfl ?_
          refine x_iinc (v := (x6 + 1)) (lv' := [(6, .int (x6 + 1)), (5, .int (x5 ||| (1 <<< (c10 &&& 31)))), (0, .ref (ad 100)), (2, .int x2), (3, .int x3), (4, .int x4)]) C d_M_trust_82 5 rfl rfl (by decide) rfl ?_
          refine x_goto C 30 d_M_trust_85 (by decide) ?_
          refine x_sub [2, 3, 4, 5, 1, 0] rfl ?_
          exact ih _ _ _ hf K
set_option maxHeartbeats 4000000 in
set_option maxRecDepth 100000 in
theorem lw_M_trust_18 {p : Program} {l : Launch} {e : Env} {s : State} {m : MethodId} {args : Array Value} {below : List Frame} {meth : Method} {c : Code} {D : va_G} {ad : Nat → Nat} {cs : Nat → ClassId} {A : Nat → Prop} {V : Option Value} {N : Mem} (E : Ev ad cs A LM) (C : Cx p s m args meth c "KissClearingModel" b_M_trust 7 (some .int) D ad cs A LM) (F : Nat) (M : Mem) (x2 : Int32) : ∀ (n : Nat) (x3 : Int32) (x4 : Int32) (u0 : (Sum Int32 Unit)), L_M_trust_18 F M x2 n x3 x4 = some u0 → (∀ r, u0 = .inl r → V = some (.int r) ∧ N = M) →  (∀ u, u0 = .inr u → X p l e 3 s m args below meth c 7 D ad cs A LM V N M 109 [] []) → X p l e 3 s m args below meth c 7 D ad cs A LM V N M 18 [(0, .ref (ad 100)), (2, .int x2), (3, .int x3), (4, .int x4)] [] := by
  intro n
  induction n with
  | zero => intro x3 x4 u0 hf; cases hf
  | succ n ih =>
    intro x3 x4 u0 hf Kr Kx
    replace hf : B_M_trust_18 F M x2 (L_M_trust_18 F M x2 n) x3 x4 = some u0 := hf
    unfold B_M_trust_18 at hf
    refine x_iload C d_M_trust_18 3 rfl ?_
    refine x_iconst (v := 4) C d_M_trust_20 rfl ?_
    refine x_icmp_ge C 109 d_M_trust_21 (by decide) (fun g3 => ?_) (fun g3 => ?_)
    · replace hf := it g3 hf
      cases hf
      exact x_sub [] rfl (Kx _ rfl)
    · replace hf := ie g3 hf
      refine x_iconst (v := 0) C d_M_trust_24 rfl ?_
      refine x_istore (lv' := [(5, .int 0), (0, .ref (ad 100)), (2, .int x2), (3, .int x3), (4, .int x4)]) C d_M_trust_25 (by decide) rfl ?_
      refine x_iconst (v := 0) C d_M_trust_27 rfl ?_
      refine x_istore (lv' := [(6, .int 0), (5, .int 0), (0, .ref (ad 100)), (2, .int x2), (3, .int x3), (4, .int x4)]) C d_M_trust_28 (by decide) rfl ?_
      obtain ⟨u11, hu11, hf⟩ := bs hf
      refine x_sub [2, 3, 4, 5, 1, 0] rfl ?_
      refine lw_M_trust_30 E C F _ _ _ _ _ _ _ _ hu11 ?_
      refine x_iload C d_M_trust_88 3 rfl ?_
      refine x_iload_n C d_M_trust_90 1 rfl ?_
      obtain ⟨c12, hc12, hf⟩ := bs hf
      refine x_callS (rest := []) (n := 2) C (ct_M_has E F _ _ _ _  hc12) mi_M_has (by decide) wL_M_152 d_M_trust_91 rfl rfl (Nat.le_of_ble_eq_true rfl) ?_
      show X _ _ _ _ _ _ _ _ _ _ _ _ _ _ _ _ _ _ _ _ _ [.int c12]
      refine x_if_eq C 100 d_M_trust_94 (by decide) (fun g13 => ?_) (fun g13 => ?_)
      · replace hf := it g13 hf
        refine x_iload C d_M_trust_100 3 rfl ?_
        refine x_istore_n (lv' := [(3, .int u11), (0, .ref (ad 100)), (2, .int x2), (4, .int x4), (5, .int u11)]) C d_M_trust_102 (by decide) rfl ?_
        refine x_iinc (v := (x4 + 1)) (lv' := [(4, .int (x4 + 1)), (3, .int u11), (0, .ref (ad 100)), (2, .int x2), (5, .int u11)]) C d_M_trust_103 3 rfl rfl (by decide) rfl ?_
        refine x_goto C 18 d_M_trust_106 (by decide) ?_
        refine x_sub [2, 3, 1, 0] rfl ?_
        exact ih _ _ _ hf Kr Kx
      · replace hf := ie g13 hf
        refine x_iload C d_M_trust_97 2 rfl ?_
        cases hf
        obtain ⟨hV, hN⟩ := Kr _ rfl
        exact x_iret C d_M_trust_99 hV hN
set_option maxHeartbeats 4000000 in
set_option maxRecDepth 100000 in
theorem ct_M_trust {l : Launch} {D : va_G} {ad : Nat → Nat} {cs : Nat → ClassId} {A : Nat → Prop} (E : Ev ad cs A LM) (F : Nat) (M : Mem) (x1 : Int32) (x2 : Int32) (R : Int32)  (hf : M_trust F M x1 x2 = some R) : Met l y_M_trust (Cond.code y_M_trust b_M_trust 7 (some .int) :: wl) (rmD 3) (PX D ad cs A LM [.ref (ad 100), .int x1, .int x2] M) (QX D ad cs A LM (some (.int R)) M) 0 0 A := by
  refine x_enter (lv := [(0, .ref (ad 100)), (1, .int x1), (2, .int x2)]) E mi_M_trust.1 (Nat.le_of_ble_eq_true rfl) rfl (fun p e s m args below meth c C => ?_)
  unfold M_trust at hf
  refine x_aload_n C d_M_trust_0 0 rfl ?_
  refine x_iload_n C d_M_trust_1 1 rfl ?_
  refine x_iload_n C d_M_trust_2 2 rfl ?_
  obtain ⟨c1, hc1, hf⟩ := bs hf
  refine x_callV (rest := []) (n := 2) C (ct_M_areTwo E F _ _ _ _  hc1) mi_M_areTwo (by decide) mc_100 ⟨_, cel_M kc_100⟩ rfl rfl wL_M_200 d_M_trust_3 rfl rfl (Nat.le_of_ble_eq_true rfl) ?_
  show X _ _ _ _ _ _ _ _ _ _ _ _ _ _ _ _ _ _ _ _ _ [.int c1]
  refine x_if_ne C 11 d_M_trust_6 (by decide) (fun g2 => ?_) (fun g2 => ?_)
  · replace hf := ie g2 hf
    refine x_iconst (v := 1) C d_M_trust_11 rfl ?_
    refine x_iload_n C d_M_trust_12 1 rfl ?_
    refine x_ishl C d_M_trust_13 ?_
    refine x_istore_n (lv' := [(3, .int (1 <<< (x1 &&& 31))), (0, .ref (ad 100)), (1, .int x1), (2, .int x2)]) C d_M_trust_14 (by decide) rfl ?_
    refine x_iconst (v := 1) C d_M_trust_15 rfl ?_
    refine x_istore (lv' := [(4, .int 1), (3, .int (1 <<< (x1 &&& 31))), (0, .ref (ad 100)), (1, .int x1), (2, .int x2)]) C d_M_trust_16 (by decide) rfl ?_
    obtain ⟨u14, hu14, hf⟩ := bs hf
    refine x_sub [2, 4, 1, 0] rfl ?_
    refine lw_M_trust_18 E C F _ _ _ _ _ _ hu14 (fun r15 hr15 => ?_) (fun w16 hw16 => ?_)
    · subst hr15
      replace hf := se_l hf
      cases hf
      exact ⟨rfl, rfl⟩
    · subst hw16
      replace hf := se_r hf
      refine x_bipush (v := (-9)) C d_M_trust_109 rfl ?_
      cases hf
      exact x_iret C d_M_trust_111 rfl rfl
  · replace hf := it g2 hf
    refine x_iconst (v := (-1)) C d_M_trust_9 rfl ?_
    cases hf
    exact x_iret C d_M_trust_10 rfl rfl
set_option maxHeartbeats 4000000 in
set_option maxRecDepth 100000 in
theorem lw_M_undo_29 {p : Program} {l : Launch} {e : Env} {s : State} {m : MethodId} {args : Array Value} {below : List Frame} {meth : Method} {c : Code} {D : va_G} {ad : Nat → Nat} {cs : Nat → ClassId} {A : Nat → Prop} {V : Option Value} {N : Mem} (E : Ev ad cs A LM) (C : Cx p s m args meth c "KissClearingModel" b_M_undo 4 (some .int) D ad cs A LM) (F : Nat) (x1 : Int32) (x2 : Int32) : ∀ (n : Nat) (M : Mem) (x3 : Int32) (u : Mem), L_M_undo_29 F x1 x2 n M x3 = some u → X p l e 1 s m args below meth c 4 D ad cs A LM V N u 67 [(0, .ref (ad 100)), (1, .int x1), (2, .int x2)] [] → X p l e 1 s m args below meth c 4 D ad cs A LM V N M 29 [(0, .ref (ad 100)), (1, .int x1), (2, .int x2), (3, .int x3)] [] := by
  intro n
  induction n with
  | zero => intro M x3 u hf; cases hf
  | succ n ih =>
    intro M x3 u hf K
    replace hf : B_M_undo_29 F x1 x2 (L_M_undo_29 F x1 x2 n) M x3 = some u := hf
    unfold B_M_undo_29 at hf
    refine x_iload_n C d_M_undo_29 3 rfl ?_
    refine x_bipush (v := 73) C d_M_undo_30 rfl ?_
    refine x_icmp_ge C 67 d_M_undo_32 (by decide) (fun g3 => ?_) (fun g3 => ?_)
    · replace hf := it g3 hf
      cases hf
      exact x_sub [0, 1, 2] rfl K
    · replace hf := ie g3 hf
      refine x_iload_n C d_M_undo_35 2 rfl ?_
      refine x_if_le C 67 d_M_undo_36 (by decide) (fun g4 => ?_) (fun g4 => ?_)
      · replace hf := it g4 hf
        cases hf
        exact x_sub [0, 1, 2] rfl K
      · replace hf := ie g4 hf
        refine x_aload_n C d_M_undo_39 0 rfl ?_
        refine xg_M_row C wF_M_7 mc_100 kc_100 d_M_undo_40 ?_
        refine x_iconst (v := 1) C d_M_undo_43 rfl ?_
        refine x_iload_n C d_M_undo_44 3 rfl ?_
        refine x_iadd C d_M_undo_45 ?_
        refine x_aload_n C d_M_undo_46 0 rfl ?_
        refine xg_M_row C wF_M_7 mc_100 kc_100 d_M_undo_47 ?_
        refine x_bipush (v := 74) C d_M_undo_50 rfl ?_
        refine x_bipush (v := 73) C d_M_undo_52 rfl ?_
        refine x_iload_n C d_M_undo_54 1 rfl ?_
        refine x_imul C d_M_undo_55 ?_
        refine x_iadd C d_M_undo_56 ?_
        refine x_iload_n C d_M_undo_57 3 rfl ?_
        refine x_iadd C d_M_undo_58 ?_
        obtain ⟨t5, ht5, hf⟩ := bs hf
        refine x_iald C ht5 mc_101 kc_101 d_M_undo_59 ?_
        obtain ⟨M6, hM6, hf⟩ := bs hf
        refine x_iast C hM6 mc_101 kc_101 d_M_undo_60 ?_
        refine x_iinc (v := (x3 + 1)) (lv' := [(3, .int (x3 + 1)), (0, .ref (ad 100)), (1, .int x1), (2, .int x2)]) C d_M_undo_61 3 rfl rfl (by decide) rfl ?_
        refine x_goto C 29 d_M_undo_64 (by decide) ?_
        refine x_sub [1, 2, 3, 0] rfl ?_
        exact ih _ _ _ hf K
set_option maxHeartbeats 4000000 in
set_option maxRecDepth 100000 in
theorem ct_M_undo {l : Launch} {D : va_G} {ad : Nat → Nat} {cs : Nat → ClassId} {A : Nat → Prop} (E : Ev ad cs A LM) (F : Nat) (M : Mem) (x1 : Int32) (R : (Int32 × Mem))  (hf : M_undo F M x1 = some R) : Met l y_M_undo (Cond.code y_M_undo b_M_undo 4 (some .int) :: wl) (rmD 1) (PX D ad cs A LM [.ref (ad 100), .int x1] M) (QX D ad cs A LM (some (.int R.1)) R.2) 0 0 A := by
  refine x_enter (lv := [(0, .ref (ad 100)), (1, .int x1)]) E mi_M_undo.1 (Nat.le_of_ble_eq_true rfl) rfl (fun p e s m args below meth c C => ?_)
  unfold M_undo at hf
  refine x_iload_n C d_M_undo_0 1 rfl ?_
  refine x_i2l C d_M_undo_1 ?_
  refine x_lconst (v := 0) C d_M_undo_2 rfl ?_
  refine x_aload_n C d_M_undo_3 0 rfl ?_
  refine xg_M_row C wF_M_7 mc_100 kc_100 d_M_undo_4 ?_
  refine x_iconst (v := 0) C d_M_undo_7 rfl ?_
  refine x_iald C (ac_101_0 M) mc_101 kc_101 d_M_undo_8 ?_
  refine x_i2l C d_M_undo_9 ?_
  obtain ⟨c1, hc1, hf⟩ := bs hf
  refine x_callS (rest := []) (n := 3) C (ct_M_in E F _ _ _ _ _  hc1) mi_M_in (by decide) wL_M_65 d_M_undo_10 rfl rfl (Nat.le_of_ble_eq_true rfl) ?_
  show X _ _ _ _ _ _ _ _ _ _ _ _ _ _ _ _ _ _ _ _ _ [.int c1]
  refine x_if_ne C 18 d_M_undo_13 (by decide) (fun g2 => ?_) (fun g2 => ?_)
  · replace hf := ie g2 hf
    refine x_aload_n C d_M_undo_18 0 rfl ?_
    refine xg_M_row C wF_M_7 mc_100 kc_100 d_M_undo_19 ?_
    refine x_iconst (v := 0) C d_M_undo_22 rfl ?_
    refine x_iald C (ac_101_0 M) mc_101 kc_101 d_M_undo_23 ?_
    refine x_iload_n C d_M_undo_24 1 rfl ?_
    refine x_isub C d_M_undo_25 ?_
    refine x_istore_n (lv' := [(2, .int ((M 101 0) - x1)), (0, .ref (ad 100)), (1, .int x1)]) C d_M_undo_26 (by decide) rfl ?_
    refine x_iconst (v := 0) C d_M_undo_27 rfl ?_
    refine x_istore_n (lv' := [(3, .int 0), (2, .int ((M 101 0) - x1)), (0, .ref (ad 100)), (1, .int x1)]) C d_M_undo_28 (by decide) rfl ?_
    obtain ⟨u7, hu7, hf⟩ := bs hf
    refine x_sub [2, 3, 1, 0] rfl ?_
    refine lw_M_undo_29 E C F _ _ _ _ _ _ hu7 ?_
    refine x_aload_n C d_M_undo_67 0 rfl ?_
    refine xg_M_row C wF_M_7 mc_100 kc_100 d_M_undo_68 ?_
    refine x_iconst (v := 0) C d_M_undo_71 rfl ?_
    refine x_iload_n C d_M_undo_72 1 rfl ?_
    obtain ⟨M8, hM8, hf⟩ := bs hf
    refine x_iast C hM8 mc_101 kc_101 d_M_undo_73 ?_
    refine x_iload_n C d_M_undo_74 2 rfl ?_
    cases hf
    exact x_iret C d_M_undo_75 rfl rfl
  · replace hf := it g2 hf
    refine x_iconst (v := (-1)) C d_M_undo_16 rfl ?_
    cases hf
    exact x_iret C d_M_undo_17 rfl rfl
set_option maxHeartbeats 4000000 in
set_option maxRecDepth 100000 in
theorem ct_M_upper {l : Launch} {D : va_G} {ad : Nat → Nat} {cs : Nat → ClassId} {A : Nat → Prop} (E : Ev ad cs A LM) (F : Nat) (M : Mem)  (R : Int64)  (hf : M_upper F M = some R) : Met l y_M_upper (Cond.code y_M_upper b_M_upper 1 (some .long) :: wl) (rmD 0) (PX D ad cs A LM [.ref (ad 100)] M) (QX D ad cs A LM (some (.long R)) M) 0 0 A := by
  refine x_enter (lv := [(0, .ref (ad 100))]) E mi_M_upper.1 (Nat.le_of_ble_eq_true rfl) rfl (fun p e s m args below meth c C => ?_)
  unfold M_upper at hf
  refine x_aload_n C d_M_upper_0 0 rfl ?_
  refine xg_M_upper C wF_M_326 mc_100 kc_100 d_M_upper_1 ?_
  cases hf
  exact x_lret C d_M_upper_4 rfl rfl
set_option maxHeartbeats 4000000 in
set_option maxRecDepth 100000 in
theorem lw_M_village_47 {p : Program} {l : Launch} {e : Env} {s : State} {m : MethodId} {args : Array Value} {below : List Frame} {meth : Method} {c : Code} {D : va_G} {ad : Nat → Nat} {cs : Nat → ClassId} {A : Nat → Prop} {V : Option Value} {N : Mem} (E : Ev ad cs A LM) (C : Cx p s m args meth c "KissClearingModel" b_M_village 3 (some .int) D ad cs A LM) (F : Nat)  : ∀ (n : Nat) (M : Mem) (x2 : Int32) (u : Mem), L_M_village_47 F n M x2 = some u → X p l e 4 s m args below meth c 3 D ad cs A LM V N u 73 [(0, .ref (ad 100))] [] → X p l e 4 s m args below meth c 3 D ad cs A LM V N M 47 [(0, .ref (ad 100)), (2, .int x2)] [] := by
  intro n
  induction n with
  | zero => intro M x2 u hf; cases hf
  | succ n ih =>
    intro M x2 u hf K
    replace hf : B_M_village_47 F (L_M_village_47 F n) M x2 = some u := hf
    unfold B_M_village_47 at hf
    refine x_iload_n C d_M_village_47 1 rfl ?_
    refine x_aload_n C d_M_village_48 0 rfl ?_
    refine xg_M_persons C wF_M_136 mc_100 kc_100 d_M_village_49 ?_
    refine x_icmp_ge C 73 d_M_village_52 (by decide) (fun g7 => ?_) (fun g7 => ?_)
    · replace hf := it g7 hf
      cases hf
      exact x_sub [0] rfl K
    · replace hf := ie g7 hf
      refine x_aload_n C d_M_village_55 0 rfl ?_
      refine xg_M_kinds C wF_M_13 mc_100 kc_100 d_M_village_56 ?_
      refine x_iload_n C d_M_village_59 1 rfl ?_
      refine x_aload_n C d_M_village_60 0 rfl ?_
      refine xg_M_readKinds C wF_M_35 mc_100 kc_100 d_M_village_61 ?_
      refine x_iload_n C d_M_village_64 1 rfl ?_
      obtain ⟨t8, ht8, hf⟩ := bs hf
      refine x_iald C ht8 mc_108 kc_108 d_M_village_65 ?_
      obtain ⟨M9, hM9, hf⟩ := bs hf
      refine x_iast C hM9 mc_102 kc_102 d_M_village_66 ?_
      refine x_iinc (v := (x2 + 1)) (lv' := [(2, .int (x2 + 1)), (0, .ref (ad 100))]) C d_M_village_67 1 rfl rfl (by decide) rfl ?_
      refine x_goto C 47 d_M_village_70 (by decide) ?_
      refine x_sub [1, 0] rfl ?_
      exact ih _ _ _ hf K
set_option maxHeartbeats 4000000 in
set_option maxRecDepth 100000 in
theorem lw_M_village_75 {p : Program} {l : Launch} {e : Env} {s : State} {m : MethodId} {args : Array Value} {below : List Frame} {meth : Method} {c : Code} {D : va_G} {ad : Nat → Nat} {cs : Nat → ClassId} {A : Nat → Prop} {V : Option Value} {N : Mem} (E : Ev ad cs A LM) (C : Cx p s m args meth c "KissClearingModel" b_M_village 3 (some .int) D ad cs A LM) (F : Nat)  : ∀ (n : Nat) (M : Mem) (x2 : Int32) (u : Mem), L_M_village_75 F n M x2 = some u → X p l e 4 s m args below meth c 3 D ad cs A LM V N u 95 [(0, .ref (ad 100))] [] → X p l e 4 s m args below meth c 3 D ad cs A LM V N M 75 [(0, .ref (ad 100)), (2, .int x2)] [] := by
  intro n
  induction n with
  | zero => intro M x2 u hf; cases hf
  | succ n ih =>
    intro M x2 u hf K
    replace hf : B_M_village_75 F (L_M_village_75 F n) M x2 = some u := hf
    unfold B_M_village_75 at hf
    refine x_iload_n C d_M_village_75 1 rfl ?_
    refine x_sipush (v := 2994) C d_M_village_76 rfl ?_
    refine x_icmp_ge C 95 d_M_village_79 (by decide) (fun g11 => ?_) (fun g11 => ?_)
    · replace hf := it g11 hf
      cases hf
      exact x_sub [0] rfl K
    · replace hf := ie g11 hf
      refine x_aload_n C d_M_village_82 0 rfl ?_
      refine xg_M_row C wF_M_7 mc_100 kc_100 d_M_village_83 ?_
      refine x_iload_n C d_M_village_86 1 rfl ?_
      refine x_iconst (v := 0) C d_M_village_87 rfl ?_
      obtain ⟨M12, hM12, hf⟩ := bs hf
      refine x_iast C hM12 mc_101 kc_101 d_M_village_88 ?_
      refine x_iinc (v := (x2 + 1)) (lv' := [(2, .int (x2 + 1)), (0, .ref (ad 100))]) C d_M_village_89 1 rfl rfl (by decide) rfl ?_
      refine x_goto C 75 d_M_village_92 (by decide) ?_
      refine x_sub [1, 0] rfl ?_
      exact ih _ _ _ hf K
set_option maxHeartbeats 4000000 in
set_option maxRecDepth 100000 in
theorem lw_M_village_97 {p : Program} {l : Launch} {e : Env} {s : State} {m : MethodId} {args : Array Value} {below : List Frame} {meth : Method} {c : Code} {D : va_G} {ad : Nat → Nat} {cs : Nat → ClassId} {A : Nat → Prop} {V : Option Value} {N : Mem} (E : Ev ad cs A LM) (C : Cx p s m args meth c "KissClearingModel" b_M_village 3 (some .int) D ad cs A LM) (F : Nat)  : ∀ (n : Nat) (M : Mem) (x2 : Int32) (u : Mem), L_M_village_97 F n M x2 = some u → X p l e 4 s m args below meth c 3 D ad cs A LM V N u 153 [(0, .ref (ad 100))] [] → X p l e 4 s m args below meth c 3 D ad cs A LM V N M 97 [(0, .ref (ad 100)), (2, .int x2)] [] := by
  intro n
  induction n with
  | zero => intro M x2 u hf; cases hf
  | succ n ih =>
    intro M x2 u hf K
    replace hf : B_M_village_97 F (L_M_village_97 F n) M x2 = some u := hf
    unfold B_M_village_97 at hf
    refine x_iload_n C d_M_village_97 1 rfl ?_
    refine x_aload_n C d_M_village_98 0 rfl ?_
    refine xg_M_readMany C wF_M_116 mc_100 kc_100 d_M_village_99 ?_
    refine x_icmp_ge C 153 d_M_village_102 (by decide) (fun g14 => ?_) (fun g14 => ?_)
    · replace hf := it g14 hf
      cases hf
      exact x_sub [0] rfl K
    · replace hf := ie g14 hf
      refine x_aload_n C d_M_village_105 0 rfl ?_
      refine x_aload_n C d_M_village_106 0 rfl ?_
      refine xg_M_readDrafts C wF_M_38 mc_100 kc_100 d_M_village_107 ?_
      refine x_iconst (v := 4) C d_M_village_110 rfl ?_
      refine x_iload_n C d_M_village_111 1 rfl ?_
      refine x_imul C d_M_village_112 ?_
      obtain ⟨t15, ht15, hf⟩ := bs hf
      refine x_iald C ht15 mc_109 kc_109 d_M_village_113 ?_
      refine x_aload_n C d_M_village_114 0 rfl ?_
      refine xg_M_readDrafts C wF_M_38 mc_100 kc_100 d_M_village_115 ?_
      refine x_iconst (v := 4) C d_M_village_118 rfl ?_
      refine x_iload_n C d_M_village_119 1 rfl ?_
      refine x_imul C d_M_village_120 ?_
      refine x_iconst (v := 1) C d_M_village_121 rfl ?_
      refine x_iadd C d_M_village_122 ?_
      obtain ⟨t16, ht16, hf⟩ := bs hf
      refine x_iald C ht16 mc_109 kc_109 d_M_village_123 ?_
      refine x_aload_n C d_M_village_124 0 rfl ?_
      refine xg_M_readDrafts C wF_M_38 mc_100 kc_100 d_M_village_125 ?_
      refine x_iconst (v := 4) C d_M_village_128 rfl ?_
      refine x_iload_n C d_M_village_129 1 rfl ?_
      refine x_imul C d_M_village_130 ?_
      refine x_iconst (v := 2) C d_M_village_131 rfl ?_
      refine x_iadd C d_M_village_132 ?_
      obtain ⟨t17, ht17, hf⟩ := bs hf
      refine x_iald C ht17 mc_109 kc_109 d_M_village_133 ?_
      refine x_aload_n C d_M_village_134 0 rfl ?_
      refine xg_M_readDrafts C wF_M_38 mc_100 kc_100 d_M_village_135 ?_
      refine x_iconst (v := 4) C d_M_village_138 rfl ?_
      refine x_iload_n C d_M_village_139 1 rfl ?_
      refine x_imul C d_M_village_140 ?_
      refine x_iconst (v := 3) C d_M_village_141 rfl ?_
      refine x_iadd C d_M_village_142 ?_
      obtain ⟨t18, ht18, hf⟩ := bs hf
      refine x_iald C ht18 mc_109 kc_109 d_M_village_143 ?_
      obtain ⟨c19, hc19, hf⟩ := bs hf
      refine x_callV (rest := []) (n := 4) C (ct_M_addDraft E F _ _ _ _ _ _  hc19) mi_M_addDraft (by decide) mc_100 ⟨_, cel_M kc_100⟩ rfl rfl wL_M_139 d_M_village_144 rfl rfl (Nat.le_of_ble_eq_true rfl) ?_
      show X _ _ _ _ _ _ _ _ _ _ _ _ _ _ _ _ _ _ _ _ _ []
      refine x_iinc (v := (x2 + 1)) (lv' := [(2, .int (x2 + 1)), (0, .ref (ad 100))]) C d_M_village_147 1 rfl rfl (by decide) rfl ?_
      refine x_goto C 97 d_M_village_150 (by decide) ?_
      refine x_sub [1, 0] rfl ?_
      exact ih _ _ _ hf K
set_option maxHeartbeats 4000000 in
set_option maxRecDepth 100000 in
theorem lw_M_village_155 {p : Program} {l : Launch} {e : Env} {s : State} {m : MethodId} {args : Array Value} {below : List Frame} {meth : Method} {c : Code} {D : va_G} {ad : Nat → Nat} {cs : Nat → ClassId} {A : Nat → Prop} {V : Option Value} {N : Mem} (E : Ev ad cs A LM) (C : Cx p s m args meth c "KissClearingModel" b_M_village 3 (some .int) D ad cs A LM) (F : Nat)  : ∀ (n : Nat) (M : Mem) (x2 : Int32) (u : Mem), L_M_village_155 F n M x2 = some u → X p l e 4 s m args below meth c 3 D ad cs A LM V N u 179 [(0, .ref (ad 100))] [] → X p l e 4 s m args below meth c 3 D ad cs A LM V N M 155 [(0, .ref (ad 100)), (2, .int x2)] [] := by
  intro n
  induction n with
  | zero => intro M x2 u hf; cases hf
  | succ n ih =>
    intro M x2 u hf K
    replace hf : B_M_village_155 F (L_M_village_155 F n) M x2 = some u := hf
    unfold B_M_village_155 at hf
    refine x_iload_n C d_M_village_155 1 rfl ?_
    refine x_iconst (v := 4) C d_M_village_156 rfl ?_
    refine x_icmp_ge C 179 d_M_village_157 (by decide) (fun g21 => ?_) (fun g21 => ?_)
    · replace hf := it g21 hf
      cases hf
      exact x_sub [0] rfl K
    · replace hf := ie g21 hf
      refine x_aload_n C d_M_village_160 0 rfl ?_
      refine xg_M_row C wF_M_7 mc_100 kc_100 d_M_village_161 ?_
      refine x_sipush (v := 2994) C d_M_village_164 rfl ?_
      refine x_iload_n C d_M_village_167 1 rfl ?_
      refine x_imul C d_M_village_168 ?_
      refine x_iconst (v := 0) C d_M_village_169 rfl ?_
      refine x_iadd C d_M_village_170 ?_
      refine x_iconst (v := (-1)) C d_M_village_171 rfl ?_
      obtain ⟨M22, hM22, hf⟩ := bs hf
      refine x_iast C hM22 mc_101 kc_101 d_M_village_172 ?_
      refine x_iinc (v := (x2 + 1)) (lv' := [(2, .int (x2 + 1)), (0, .ref (ad 100))]) C d_M_village_173 1 rfl rfl (by decide) rfl ?_
      refine x_goto C 155 d_M_village_176 (by decide) ?_
      refine x_sub [1, 0] rfl ?_
      exact ih _ _ _ hf K
set_option maxHeartbeats 4000000 in
set_option maxRecDepth 100000 in
theorem ct_M_village {l : Launch} {D : va_G} {ad : Nat → Nat} {cs : Nat → ClassId} {A : Nat → Prop} (E : Ev ad cs A LM) (F : Nat) (M : Mem) (x1 : Int32) (R : (Int32 × Mem))  (hf : M_village F M x1 = some R) : Met l y_M_village (Cond.code y_M_village b_M_village 3 (some .int) :: wl) (rmD 4) (PX D ad cs A LM [.ref (ad 100), .int x1] M) (QX D ad cs A LM (some (.int R.1)) R.2) 0 0 A := by
  refine x_enter (lv := [(0, .ref (ad 100)), (1, .int x1)]) E mi_M_village.1 (Nat.le_of_ble_eq_true rfl) rfl (fun p e s m args below meth c C => ?_)
  unfold M_village at hf
  refine x_iload_n C d_M_village_0 1 rfl ?_
  obtain ⟨c1, hc1, hf⟩ := bs hf
  refine x_callS (rest := []) (n := 1) C (ct_M_isText E F _ _ _  hc1) mi_M_isText (by decide) wL_M_94 d_M_village_1 rfl rfl (Nat.le_of_ble_eq_true rfl) ?_
  show X _ _ _ _ _ _ _ _ _ _ _ _ _ _ _ _ _ _ _ _ _ [.int c1]
  refine x_if_ne C 9 d_M_village_4 (by decide) (fun g2 => ?_) (fun g2 => ?_)
  · replace hf := ie g2 hf
    refine x_aload_n C d_M_village_9 0 rfl ?_
    refine xg_M_lengths C wF_M_22 mc_100 kc_100 d_M_village_10 ?_
    refine x_iload_n C d_M_village_13 1 rfl ?_
    obtain ⟨t3, ht3, hf⟩ := bs hf
    refine x_iald C ht3 mc_105 kc_105 d_M_village_14 ?_
    refine x_if_ge C 24 d_M_village_15 (by decide) (fun g4 => ?_) (fun g4 => ?_)
    · replace hf := it g4 hf
      refine x_aload_n C d_M_village_24 0 rfl ?_
      refine x_iload_n C d_M_village_25 1 rfl ?_
      obtain ⟨c5, hc5, hf⟩ := bs hf
      refine x_callV (rest := []) (n := 1) C (ct_M_faultOf E F _ _ _  hc5) mi_M_faultOf (by decide) mc_100 ⟨_, cel_M kc_100⟩ rfl rfl wL_M_133 d_M_village_26 rfl rfl (Nat.le_of_ble_eq_true rfl) ?_
      show X _ _ _ _ _ _ _ _ _ _ _ _ _ _ _ _ _ _ _ _ _ [.int c5.1]
      refine x_bipush (v := (-9)) C d_M_village_29 rfl ?_
      refine x_icmp_eq C 37 d_M_village_31 (by decide) (fun g6 => ?_) (fun g6 => ?_)
      · replace hf := it g6 hf
        refine x_aload_n C d_M_village_37 0 rfl ?_
        refine x_aload_n C d_M_village_38 0 rfl ?_
        refine xg_M_readPersons C wF_M_113 mc_100 kc_100 d_M_village_39 ?_
        refine xp_M_persons (x := (c5.2 100 16)) C wF_M_136 mc_100 kc_100 d_M_village_42 ?_
        refine x_iconst (v := 0) C d_M_village_45 rfl ?_
        refine x_istore_n (lv' := [(2, .int 0), (0, .ref (ad 100)), (1, .int x1)]) C d_M_village_46 (by decide) rfl ?_
        obtain ⟨u10, hu10, hf⟩ := bs hf
        refine x_sub [1, 0] rfl ?_
        refine lw_M_village_47 E C F _ _ _ _ hu10 ?_
        refine x_iconst (v := 0) C d_M_village_73 rfl ?_
        refine x_istore_n (lv' := [(2, .int 0), (0, .ref (ad 100))]) C d_M_village_74 (by decide) rfl ?_
        obtain ⟨u13, hu13, hf⟩ := bs hf
        refine x_sub [1, 0] rfl ?_
        refine lw_M_village_75 E C F _ _ _ _ hu13 ?_
        refine x_iconst (v := 0) C d_M_village_95 rfl ?_
        refine x_istore_n (lv' := [(2, .int 0), (0, .ref (ad 100))]) C d_M_village_96 (by decide) rfl ?_
        obtain ⟨u20, hu20, hf⟩ := bs hf
        refine x_sub [1, 0] rfl ?_
        refine lw_M_village_97 E C F _ _ _ _ hu20 ?_
        refine x_iconst (v := 1) C d_M_village_153 rfl ?_
        refine x_istore_n (lv' := [(2, .int 1), (0, .ref (ad 100))]) C d_M_village_154 (by decide) rfl ?_
        obtain ⟨u23, hu23, hf⟩ := bs hf
        refine x_sub [1, 0] rfl ?_
        refine lw_M_village_155 E C F _ _ _ _ hu23 ?_
        refine x_aload_n C d_M_village_179 0 rfl ?_
        refine xg_M_persons C wF_M_136 mc_100 kc_100 d_M_village_180 ?_
        cases hf
        exact x_iret C d_M_village_183 rfl rfl
      · replace hf := ie g6 hf
        refine x_bipush (v := (-4)) C d_M_village_34 rfl ?_
        cases hf
        exact x_iret C d_M_village_36 rfl rfl
    · replace hf := ie g4 hf
      refine x_aload_n C d_M_village_18 0 rfl ?_
      refine x_iconst (v := 1) C d_M_village_19 rfl ?_
      obtain ⟨c24, hc24, hf⟩ := bs hf
      refine x_callV (rest := []) (n := 1) C (ct_M_find E F _ _ _  hc24) mi_M_find (by decide) mc_100 ⟨_, cel_M kc_100⟩ rfl rfl wL_M_75 d_M_village_20 rfl rfl (Nat.le_of_ble_eq_true rfl) ?_
      show X _ _ _ _ _ _ _ _ _ _ _ _ _ _ _ _ _ _ _ _ _ [.int c24.1]
      cases hf
      exact x_iret C d_M_village_23 rfl rfl
  · replace hf := it g2 hf
    refine x_iconst (v := (-1)) C d_M_village_7 rfl ?_
    cases hf
    exact x_iret C d_M_village_8 rfl rfl
set_option maxHeartbeats 4000000 in
set_option maxRecDepth 100000 in
theorem lw_M_week_28 {p : Program} {l : Launch} {e : Env} {s : State} {m : MethodId} {args : Array Value} {below : List Frame} {meth : Method} {c : Code} {D : va_G} {ad : Nat → Nat} {cs : Nat → ClassId} {A : Nat → Prop} {V : Option Value} {N : Mem} (E : Ev ad cs A LM) (C : Cx p s m args meth c "KissClearingModel" b_M_week 5 (some .int) D ad cs A LM) (F : Nat)  : ∀ (n : Nat) (M : Mem) (x1 : Int32) (x2 : Int32) (u : (Int32 × Mem)), L_M_week_28 F n M x1 x2 = some u → X p l e 2 s m args below meth c 5 D ad cs A LM V N u.2 155 [(1, .int u.1)] [] → X p l e 2 s m args below meth c 5 D ad cs A LM V N M 28 [(0, .ref (ad 100)), (1, .int x1), (2, .int x2)] [] := by
  intro n
  induction n with
  | zero => intro M x1 x2 u hf; cases hf
  | succ n ih =>
    intro M x1 x2 u hf K
    replace hf : B_M_week_28 F (L_M_week_28 F n) M x1 x2 = some u := hf
    unfold B_M_week_28 at hf
    refine x_iload_n C d_M_week_28 2 rfl ?_
    refine x_aload_n C d_M_week_29 0 rfl ?_
    refine xg_M_row C wF_M_7 mc_100 kc_100 d_M_week_30 ?_
    refine x_iconst (v := 1) C d_M_week_33 rfl ?_
    refine x_iald C (ac_101_1 M) mc_101 kc_101 d_M_week_34 ?_
    refine x_icmp_ge C 155 d_M_week_35 (by decide) (fun g5 => ?_) (fun g5 => ?_)
    · replace hf := it g5 hf
      cases hf
      exact x_sub [1] rfl K
    · replace hf := ie g5 hf
      refine x_aload_n C d_M_week_38 0 rfl ?_
      refine x_iload_n C d_M_week_39 2 rfl ?_
      obtain ⟨c6, hc6, hf⟩ := bs hf
      refine x_callV (rest := []) (n := 1) C (ct_M_isOpen E F _ _ _  hc6) mi_M_isOpen (by decide) mc_100 ⟨_, cel_M kc_100⟩ rfl rfl wL_M_156 d_M_week_40 rfl rfl (Nat.le_of_ble_eq_true rfl) ?_
      show X _ _ _ _ _ _ _ _ _ _ _ _ _ _ _ _ _ _ _ _ _ [.int c6]
      refine x_if_eq C 149 d_M_week_43 (by decide) (fun g7 => ?_) (fun g7 => ?_)
      · replace hf := it g7 hf
        refine x_iinc (v := (x2 + 1)) (lv' := [(2, .int (x2 + 1)), (0, .ref (ad 100)), (1, .int x1)]) C d_M_week_149 2 rfl rfl (by decide) rfl ?_
        refine x_goto C 28 d_M_week_152 (by decide) ?_
        refine x_sub [1, 2, 0] rfl ?_
        exact ih _ _ _ _ hf K
      · replace hf := ie g7 hf
        refine x_aload_n C d_M_week_46 0 rfl ?_
        refine xg_M_row C wF_M_7 mc_100 kc_100 d_M_week_47 ?_
        refine x_iconst (v := 2) C d_M_week_50 rfl ?_
        refine x_bipush (v := 6) C d_M_week_51 rfl ?_
        refine x_iload_n C d_M_week_53 2 rfl ?_
        refine x_imul C d_M_week_54 ?_
        refine x_iadd C d_M_week_55 ?_
        refine x_iconst (v := 4) C d_M_week_56 rfl ?_
        refine x_iadd C d_M_week_57 ?_
        refine x_dup2 C d_M_week_58 rfl rfl ?_
        obtain ⟨t8, ht8, hf⟩ := bs hf
        refine x_iald C ht8 mc_101 kc_101 d_M_week_59 ?_
        refine x_iconst (v := 1) C d_M_week_60 rfl ?_
        refine x_iadd C d_M_week_61 ?_
        obtain ⟨M9, hM9, hf⟩ := bs hf
        refine x_iast C hM9 mc_101 kc_101 d_M_week_62 ?_
        refine x_aload_n C d_M_week_63 0 rfl ?_
        refine x_iload_n C d_M_week_64 2 rfl ?_
        refine x_iconst (v := 3) C d_M_week_65 rfl ?_
        obtain ⟨c10, hc10, hf⟩ := bs hf
        refine x_callV (rest := []) (n := 2) C (ct_M_of E F _ _ _ _  hc10) mi_M_of (by decide) mc_100 ⟨_, cel_M kc_100⟩ rfl rfl wL_M_146 d_M_week_66 rfl rfl (Nat.le_of_ble_eq_true rfl) ?_
        show X _ _ _ _ _ _ _ _ _ _ _ _ _ _ _ _ _ _ _ _ _ [.int c10]
        refine x_aload_n C d_M_week_69 0 rfl ?_
        refine x_aload_n C d_M_week_70 0 rfl ?_
        refine x_iload_n C d_M_week_71 2 rfl ?_
        refine x_iconst (v := 1) C d_M_week_72 rfl ?_
        obtain ⟨c11, hc11, hf⟩ := bs hf
        refine x_callV (rest := [.ref (ad 100), .int c10]) (n := 2) C (ct_M_of E F _ _ _ _  hc11) mi_M_of (by decide) mc_100 ⟨_, cel_M kc_100⟩ rfl rfl wL_M_146 d_M_week_73 rfl rfl (Nat.le_of_ble_eq_true rfl) ?_
        show X _ _ _ _ _ _ _ _ _ _ _ _ _ _ _ _ _ _ _ _ _ [.int c11, .ref (ad 100), .int c10]
        obtain ⟨c12, hc12, hf⟩ := bs hf
        refine x_callV (rest := [.int c10]) (n := 1) C (ct_M_growth E F _ _ _  hc12) mi_M_growth (by decide) mc_100 ⟨_, cel_M kc_100⟩ rfl rfl wL_M_188 d_M_week_76 rfl rfl (Nat.le_of_ble_eq_true rfl) ?_
        show X _ _ _ _ _ _ _ _ _ _ _ _ _ _ _ _ _ _ _ _ _ [.int c12, .int c10]
        refine x_iadd C d_M_week_79 ?_
        refine x_istore_n (lv' := [(3, .int (c10 + c12)), (0, .ref (ad 100)), (1, .int x1), (2, .int x2)]) C d_M_week_80 (by decide) rfl ?_
        refine x_iload_n C d_M_week_81 0 rfl ?_
        refine x_bipush (v := 99) C d_M_week_82 rfl ?_
        obtain ⟨j13, hj13, hf⟩ := bs hf
        have Jj13 : X p l e 2 s m args below meth c 5 D ad cs A LM V N M9 93 [(0, .ref (ad 100)), (1, .int x1), (2, .int x2)] [.int j13] := by
          refine x_istore_n (lv' := [(3, .int j13), (0, .ref (ad 100)), (1, .int x1), (2, .int x2)]) C d_M_week_93 (by decide) rfl ?_
          refine x_aload_n C d_M_week_94 1 rfl ?_
          refine x_iload_n C d_M_week_95 3 rfl ?_
          refine x_iconst (v := 4) C d_M_week_96 rfl ?_
          obtain ⟨c14, hc14, hf⟩ := bs hf
          refine x_callV (rest := []) (n := 2) C (ct_M_of E F _ _ _ _  hc14) mi_M_of (by decide) mc_100 ⟨_, cel_M kc_100⟩ rfl rfl wL_M_146 d_M_week_97 rfl rfl (Nat.le_of_ble_eq_true rfl) ?_
          show X _ _ _ _ _ _ _ _ _ _ _ _ _ _ _ _ _ _ _ _ _ [.int c14]
          refine x_iconst (v := 3) C d_M_week_100 rfl ?_
          obtain ⟨j15, hj15, hf⟩ := bs hf
          have Jj15 : X p l e 2 s m args below meth c 5 D ad cs A LM V N M9 119 [(0, .ref (ad 100)), (1, .int x1), (2, .int x2), (3, .int j13)] [.int j15] := by
            refine x_istore (lv' := [(4, .int j15), (0, .ref (ad 100)), (1, .int x1), (2, .int x2), (3, .int j13)]) C d_M_week_119 (by decide) rfl ?_
            refine x_iload_n C d_M_week_121 2 rfl ?_
            refine x_iload C d_M_week_122 0 rfl ?_
            obtain ⟨j16, hj16, hf⟩ := bs hf
            have Jj16 : X p l e 2 s m args below meth c 5 D ad cs A LM V N M9 132 [(0, .ref (ad 100)), (2, .int x2), (3, .int j13), (4, .int j15)] [.int j16, .int x1] := by
              refine x_iadd C d_M_week_132 ?_
              refine x_istore_n (lv' := [(1, .int (x1 + j16)), (0, .ref (ad 100)), (2, .int x2), (3, .int j13), (4, .int j15)]) C d_M_week_133 (by decide) rfl ?_
              refine x_aload_n C d_M_week_134 1 rfl ?_
              refine x_iload_n C d_M_week_135 2 rfl ?_
              refine x_iload C d_M_week_136 4 rfl ?_
              obtain ⟨j17, hj17, hf⟩ := bs hf
              have Jj17 : X p l e 2 s m args below meth c 5 D ad cs A LM V N M9 146 [(0, .ref (ad 100)), (1, .int (x1 + j16)), (2, .int x2)] [.int j17, .int x2, .ref (ad 100)] := by
                obtain ⟨c18, hc18, hf⟩ := bs hf
                refine x_callV (rest := []) (n := 2) C (ct_M_leave E F _ _ _ _  hc18) mi_M_leave (by decide) mc_100 ⟨_, cel_M kc_100⟩ rfl rfl wL_M_219 d_M_week_146 rfl rfl (Nat.le_of_ble_eq_true rfl) ?_
                show X _ _ _ _ _ _ _ _ _ _ _ _ _ _ _ _ _ _ _ _ _ []
                refine x_iinc (v := (x2 + 1)) (lv' := [(2, .int (x2 + 1)), (0, .ref (ad 100)), (1, .int (x1 + j16))]) C d_M_week_149 2 rfl rfl (by decide) rfl ?_
                refine x_goto C 28 d_M_week_152 (by decide) ?_
                refine x_sub [1, 2, 0] rfl ?_
                exact ih _ _ _ _ hf K
              replace hf := hj17
              refine x_if_eq C 145 d_M_week_138 (by decide) (fun g19 => ?_) (fun g19 => ?_)
              · replace hf := it g19 hf
                refine x_iload_n C d_M_week_145 3 rfl ?_
                cases hf
                exact x_sub [1, 0, 2] rfl Jj17
              · replace hf := ie g19 hf
                refine x_iconst (v := 0) C d_M_week_141 rfl ?_
                refine x_goto C 146 d_M_week_142 (by decide) ?_
                cases hf
                exact x_sub [1, 0, 2] rfl Jj17
            replace hf := hj16
            refine x_if_eq C 131 d_M_week_124 (by decide) (fun g20 => ?_) (fun g20 => ?_)
            · replace hf := it g20 hf
              refine x_iconst (v := 0) C d_M_week_131 rfl ?_
              cases hf
              exact x_sub [1, 3, 4, 0] rfl Jj16
            · replace hf := ie g20 hf
              refine x_iload_n C d_M_week_127 4 rfl ?_
              refine x_goto C 132 d_M_week_128 (by decide) ?_
              cases hf
              exact x_sub [1, 3, 4, 0] rfl Jj16
          replace hf := hj15
          refine x_icmp_le C 118 d_M_week_101 (by decide) (fun g21 => ?_) (fun g21 => ?_)
          · replace hf := it g21 hf
            refine x_iconst (v := 0) C d_M_week_118 rfl ?_
            cases hf
            exact x_sub [1, 2, 3, 0] rfl Jj15
          · replace hf := ie g21 hf
            refine x_aload_n C d_M_week_104 1 rfl ?_
            refine x_iload_n C d_M_week_105 3 rfl ?_
            refine x_iconst (v := 2) C d_M_week_106 rfl ?_
            obtain ⟨c22, hc22, hf⟩ := bs hf
            refine x_callV (rest := []) (n := 2) C (ct_M_of E F _ _ _ _  hc22) mi_M_of (by decide) mc_100 ⟨_, cel_M kc_100⟩ rfl rfl wL_M_146 d_M_week_107 rfl rfl (Nat.le_of_ble_eq_true rfl) ?_
            show X _ _ _ _ _ _ _ _ _ _ _ _ _ _ _ _ _ _ _ _ _ [.int c22]
            refine x_iconst (v := 2) C d_M_week_110 rfl ?_
            refine x_icmp_eq C 118 d_M_week_111 (by decide) (fun g23 => ?_) (fun g23 => ?_)
            · replace hf := it g23 hf
              refine x_iconst (v := 0) C d_M_week_118 rfl ?_
              cases hf
              exact x_sub [1, 2, 3, 0] rfl Jj15
            · replace hf := ie g23 hf
              refine x_iconst (v := 1) C d_M_week_114 rfl ?_
              refine x_goto C 119 d_M_week_115 (by decide) ?_
              cases hf
              exact x_sub [1, 2, 3, 0] rfl Jj15
        replace hf := hj13
        refine x_icmp_le C 92 d_M_week_84 (by decide) (fun g24 => ?_) (fun g24 => ?_)
        · replace hf := it g24 hf
          refine x_iload_n C d_M_week_92 0 rfl ?_
          cases hf
          exact x_sub [1, 2, 3] rfl Jj13
        · replace hf := ie g24 hf
          refine x_bipush (v := 99) C d_M_week_87 rfl ?_
          refine x_goto C 93 d_M_week_89 (by decide) ?_
          cases hf
          exact x_sub [1, 2, 3] rfl Jj13
set_option maxHeartbeats 4000000 in
set_option maxRecDepth 100000 in
theorem ct_M_week {l : Launch} {D : va_G} {ad : Nat → Nat} {cs : Nat → ClassId} {A : Nat → Prop} (E : Ev ad cs A LM) (F : Nat) (M : Mem)  (R : (Int32 × Mem))  (hf : M_week F M = some R) : Met l y_M_week (Cond.code y_M_week b_M_week 5 (some .int) :: wl) (rmD 2) (PX D ad cs A LM [.ref (ad 100)] M) (QX D ad cs A LM (some (.int R.1)) R.2) 0 0 A := by
  refine x_enter (lv := [(0, .ref (ad 100))]) E mi_M_week.1 (Nat.le_of_ble_eq_true rfl) rfl (fun p e s m args below meth c C => ?_)
  unfold M_week at hf
  refine x_aload_n C d_M_week_0 0 rfl ?_
  refine xg_M_persons C wF_M_136 mc_100 kc_100 d_M_week_1 ?_
  refine x_if_ne C 10 d_M_week_4 (by decide) (fun g1 => ?_) (fun g1 => ?_)
  · replace hf := ie g1 hf
    refine x_aload_n C d_M_week_10 0 rfl ?_
    obtain ⟨c2, hc2, hf⟩ := bs hf
    refine x_callV (rest := []) (n := 0) C (ct_M_isFull E F _ _  hc2) mi_M_isFull (by decide) mc_100 ⟨_, cel_M kc_100⟩ rfl rfl wL_M_207 d_M_week_11 rfl rfl (Nat.le_of_ble_eq_true rfl) ?_
    show X _ _ _ _ _ _ _ _ _ _ _ _ _ _ _ _ _ _ _ _ _ [.int c2]
    refine x_if_eq C 20 d_M_week_14 (by decide) (fun g3 => ?_) (fun g3 => ?_)
    · replace hf := it g3 hf
      refine x_aload_n C d_M_week_20 0 rfl ?_
      obtain ⟨c4, hc4, hf⟩ := bs hf
      refine x_callV (rest := []) (n := 0) C (ct_M_keepPast E F _ _  hc4) mi_M_keepPast (by decide) mc_100 ⟨_, cel_M kc_100⟩ rfl rfl wL_M_210 d_M_week_21 rfl rfl (Nat.le_of_ble_eq_true rfl) ?_
      show X _ _ _ _ _ _ _ _ _ _ _ _ _ _ _ _ _ _ _ _ _ []
      refine x_iconst (v := 0) C d_M_week_24 rfl ?_
      refine x_istore_n (lv' := [(1, .int 0), (0, .ref (ad 100))]) C d_M_week_25 (by decide) rfl ?_
      refine x_iconst (v := 0) C d_M_week_26 rfl ?_
      refine x_istore_n (lv' := [(2, .int 0), (1, .int 0), (0, .ref (ad 100))]) C d_M_week_27 (by decide) rfl ?_
      obtain ⟨u25, hu25, hf⟩ := bs hf
      refine x_sub [2, 1, 0] rfl ?_
      refine lw_M_week_28 E C F _ _ _ _ _ hu25 ?_
      refine x_iload_n C d_M_week_155 0 rfl ?_
      cases hf
      exact x_iret C d_M_week_156 rfl rfl
    · replace hf := ie g3 hf
      refine x_bipush (v := (-2)) C d_M_week_17 rfl ?_
      cases hf
      exact x_iret C d_M_week_19 rfl rfl
  · replace hf := it g1 hf
    refine x_bipush (v := (-4)) C d_M_week_7 rfl ?_
    cases hf
    exact x_iret C d_M_week_9 rfl rfl
set_option maxHeartbeats 4000000 in
set_option maxRecDepth 100000 in
theorem lw_M_worst_16 {p : Program} {l : Launch} {e : Env} {s : State} {m : MethodId} {args : Array Value} {below : List Frame} {meth : Method} {c : Code} {D : va_G} {ad : Nat → Nat} {cs : Nat → ClassId} {A : Nat → Prop} {V : Option Value} {N : Mem} (E : Ev ad cs A LM) (C : Cx p s m args meth c "KissClearingModel" b_M_worst 5 (some .int) D ad cs A LM) (F : Nat) (M : Mem)  : ∀ (n : Nat) (x1 : Int32) (x2 : Int32) (x3 : Int32) (u : (Int32 × Int32)), L_M_worst_16 F M n x1 x2 x3 = some u → X p l e 4 s m args below meth c 5 D ad cs A LM V N M 68 [(0, .ref (ad 100)), (1, .int u.1), (2, .int u.2)] [] → X p l e 4 s m args below meth c 5 D ad cs A LM V N M 16 [(0, .ref (ad 100)), (1, .int x1), (2, .int x2), (3, .int x3)] [] := by
  intro n
  induction n with
  | zero => intro x1 x2 x3 u hf; cases hf
  | succ n ih =>
    intro x1 x2 x3 u hf K
    replace hf : B_M_worst_16 F M (L_M_worst_16 F M n) x1 x2 x3 = some u := hf
    unfold B_M_worst_16 at hf
    refine x_iload_n C d_M_worst_16 3 rfl ?_
    refine x_aload_n C d_M_worst_17 0 rfl ?_
    refine xg_M_persons C wF_M_136 mc_100 kc_100 d_M_worst_18 ?_
    refine x_icmp_ge C 68 d_M_worst_21 (by decide) (fun g2 => ?_) (fun g2 => ?_)
    · replace hf := it g2 hf
      cases hf
      exact x_sub [0, 1, 2] rfl K
    · replace hf := ie g2 hf
      refine x_aload_n C d_M_worst_24 0 rfl ?_
      refine x_iload_n C d_M_worst_25 3 rfl ?_
      refine x_bipush (v := (-9)) C d_M_worst_26 rfl ?_
      refine x_iconst (v := 0) C d_M_worst_28 rfl ?_
      obtain ⟨c3, hc3, hf⟩ := bs hf
      refine x_callV (rest := []) (n := 3) C (ct_M_fallen E F _ _ _ _ _  hc3) mi_M_fallen (by decide) mc_100 ⟨_, cel_M kc_100⟩ rfl rfl wL_M_274 d_M_worst_29 rfl rfl (Nat.le_of_ble_eq_true rfl) ?_
      show X _ _ _ _ _ _ _ _ _ _ _ _ _ _ _ _ _ _ _ _ _ [.int c3]
      obtain ⟨c4, hc4, hf⟩ := bs hf
      refine x_callS (rest := []) (n := 1) C (ct_M_bits E F _ _ _  hc4) mi_M_bits (by decide) wL_M_159 d_M_worst_32 rfl rfl (Nat.le_of_ble_eq_true rfl) ?_
      show X _ _ _ _ _ _ _ _ _ _ _ _ _ _ _ _ _ _ _ _ _ [.int c4]
      refine x_istore (lv' := [(4, .int c4), (0, .ref (ad 100)), (1, .int x1), (2, .int x2), (3, .int x3)]) C d_M_worst_35 (by decide) rfl ?_
      refine x_iload C d_M_worst_37 0 rfl ?_
      refine x_iload_n C d_M_worst_39 3 rfl ?_
      obtain ⟨j5, hj5, hf⟩ := bs hf
      have Jj5 : X p l e 4 s m args below meth c 5 D ad cs A LM V N M 48 [(0, .ref (ad 100)), (2, .int x2), (3, .int x3), (4, .int c4)] [.int j5] := by
        refine x_istore_n (lv' := [(1, .int j5), (0, .ref (ad 100)), (2, .int x2), (3, .int x3), (4, .int c4)]) C d_M_worst_48 (by decide) rfl ?_
        refine x_iload C d_M_worst_49 4 rfl ?_
        refine x_iload_n C d_M_worst_51 2 rfl ?_
        refine x_icmp_le C 60 d_M_worst_52 (by decide) (fun g6 => ?_) (fun g6 => ?_)
        · replace hf := it g6 hf
          refine x_iload_n C d_M_worst_60 2 rfl ?_
          refine x_istore_n (lv' := [(2, .int x2), (1, .int j5), (0, .ref (ad 100)), (3, .int x3), (4, .int c4)]) C d_M_worst_61 (by decide) rfl ?_
          refine x_iinc (v := (x3 + 1)) (lv' := [(3, .int (x3 + 1)), (2, .int x2), (1, .int j5), (0, .ref (ad 100)), (4, .int c4)]) C d_M_worst_62 3 rfl rfl (by decide) rfl ?_
          refine x_goto C 16 d_M_worst_65 (by decide) ?_
          refine x_sub [3, 2, 1, 0] rfl ?_
          exact ih _ _ _ _ hf K
        · replace hf := ie g6 hf
          refine x_iload C d_M_worst_55 4 rfl ?_
          refine x_goto C 61 d_M_worst_57 (by decide) ?_
          refine x_istore_n (lv' := [(2, .int c4), (1, .int j5), (0, .ref (ad 100)), (3, .int x3), (4, .int c4)]) C d_M_worst_61 (by decide) rfl ?_
          refine x_iinc (v := (x3 + 1)) (lv' := [(3, .int (x3 + 1)), (2, .int c4), (1, .int j5), (0, .ref (ad 100)), (4, .int c4)]) C d_M_worst_62 3 rfl rfl (by decide) rfl ?_
          refine x_goto C 16 d_M_worst_65 (by decide) ?_
          refine x_sub [3, 2, 1, 0] rfl ?_
          exact ih _ _ _ _ hf K
      replace hf := hj5
      refine x_icmp_le C 47 d_M_worst_40 (by decide) (fun g7 => ?_) (fun g7 => ?_)
      · replace hf := it g7 hf
        refine x_iload_n C d_M_worst_47 2 rfl ?_
        cases hf
        exact x_sub [1, 3, 4, 0] rfl Jj5
      · replace hf := ie g7 hf
        refine x_iload_n C d_M_worst_43 4 rfl ?_
        refine x_goto C 48 d_M_worst_44 (by decide) ?_
        cases hf
        exact x_sub [1, 3, 4, 0] rfl Jj5
set_option maxHeartbeats 4000000 in
set_option maxRecDepth 100000 in
theorem ct_M_worst {l : Launch} {D : va_G} {ad : Nat → Nat} {cs : Nat → ClassId} {A : Nat → Prop} (E : Ev ad cs A LM) (F : Nat) (M : Mem)  (R : (Int32 × Mem))  (hf : M_worst F M = some R) : Met l y_M_worst (Cond.code y_M_worst b_M_worst 5 (some .int) :: wl) (rmD 4) (PX D ad cs A LM [.ref (ad 100)] M) (QX D ad cs A LM (some (.int R.1)) R.2) 0 0 A := by
  refine x_enter (lv := [(0, .ref (ad 100))]) E mi_M_worst.1 (Nat.le_of_ble_eq_true rfl) rfl (fun p e s m args below meth c C => ?_)
  unfold M_worst at hf
  refine x_aload_n C d_M_worst_0 0 rfl ?_
  refine xg_M_persons C wF_M_136 mc_100 kc_100 d_M_worst_1 ?_
  refine x_if_ne C 10 d_M_worst_4 (by decide) (fun g1 => ?_) (fun g1 => ?_)
  · replace hf := ie g1 hf
    refine x_iconst (v := 0) C d_M_worst_10 rfl ?_
    refine x_istore_n (lv' := [(1, .int 0), (0, .ref (ad 100))]) C d_M_worst_11 (by decide) rfl ?_
    refine x_iconst (v := (-1)) C d_M_worst_12 rfl ?_
    refine x_istore_n (lv' := [(2, .int (-1)), (1, .int 0), (0, .ref (ad 100))]) C d_M_worst_13 (by decide) rfl ?_
    refine x_iconst (v := 0) C d_M_worst_14 rfl ?_
    refine x_istore_n (lv' := [(3, .int 0), (2, .int (-1)), (1, .int 0), (0, .ref (ad 100))]) C d_M_worst_15 (by decide) rfl ?_
    obtain ⟨u8, hu8, hf⟩ := bs hf
    refine x_sub [3, 2, 1, 0] rfl ?_
    refine lw_M_worst_16 E C F _ _ _ _ _ _ hu8 ?_
    refine x_aload_n C d_M_worst_68 0 rfl ?_
    refine x_iload_n C d_M_worst_69 2 rfl ?_
    refine xp_M_asked (x := u8.2) C wF_M_60 mc_100 kc_100 d_M_worst_70 ?_
    refine x_iload_n C d_M_worst_73 1 rfl ?_
    cases hf
    exact x_iret C d_M_worst_74 rfl rfl
  · replace hf := it g1 hf
    refine x_bipush (v := (-4)) C d_M_worst_7 rfl ?_
    cases hf
    exact x_iret C d_M_worst_9 rfl rfl
