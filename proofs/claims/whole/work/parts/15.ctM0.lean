/-! contracts of the reference (by program: wip/whole/emit.py) -/
set_option maxHeartbeats 4000000 in
set_option maxRecDepth 100000 in
theorem ct_M_addDraft {l : Launch} {D : va_G} {ad : Nat → Nat} {cs : Nat → ClassId} {A : Nat → Prop} (E : Ev ad cs A LM) (F : Nat) (M : Mem) (x1 : Int32) (x2 : Int32) (x3 : Int32) (x4 : Int32) (R : Mem)  (hf : M_addDraft F M x1 x2 x3 x4 = some R) : Met l y_M_addDraft (Cond.code y_M_addDraft b_M_addDraft 6 none :: wl) (rmD 0) (PX D ad cs A LM [.ref (ad 100), .int x1, .int x2, .int x3, .int x4] M) (QX D ad cs A LM (none) R) 0 0 A := by
  refine x_enter (lv := [(0, .ref (ad 100)), (1, .int x1), (2, .int x2), (3, .int x3), (4, .int x4)]) E mi_M_addDraft.1 (Nat.le_of_ble_eq_true rfl) rfl (fun p e s m args below meth c C => ?_)
  unfold M_addDraft at hf
  refine x_iconst (v := 2) C d_M_addDraft_0 rfl ?_
  refine x_bipush (v := 6) C d_M_addDraft_1 rfl ?_
  refine x_aload_n C d_M_addDraft_3 0 rfl ?_
  refine xg_M_row C wF_M_7 mc_100 kc_100 d_M_addDraft_4 ?_
  refine x_iconst (v := 1) C d_M_addDraft_7 rfl ?_
  refine x_iald C (ac_101_1 M) mc_101 kc_101 d_M_addDraft_8 ?_
  refine x_imul C d_M_addDraft_9 ?_
  refine x_iadd C d_M_addDraft_10 ?_
  refine x_istore (lv' := [(5, .int (2 + (6 * (M 101 1)))), (0, .ref (ad 100)), (1, .int x1), (2, .int x2), (3, .int x3), (4, .int x4)]) C d_M_addDraft_11 (by decide) rfl ?_
  refine x_aload_n C d_M_addDraft_13 1 rfl ?_
  refine xg_M_row C wF_M_7 mc_100 kc_100 d_M_addDraft_14 ?_
  refine x_iload C d_M_addDraft_17 0 rfl ?_
  refine x_iconst (v := 0) C d_M_addDraft_19 rfl ?_
  refine x_iadd C d_M_addDraft_20 ?_
  refine x_iload_n C d_M_addDraft_21 2 rfl ?_
  obtain ⟨M1, hM1, hf⟩ := bs hf
  refine x_iast C hM1 mc_101 kc_101 d_M_addDraft_22 ?_
  refine x_aload_n C d_M_addDraft_23 1 rfl ?_
  refine xg_M_row C wF_M_7 mc_100 kc_100 d_M_addDraft_24 ?_
  refine x_iload C d_M_addDraft_27 0 rfl ?_
  refine x_iconst (v := 1) C d_M_addDraft_29 rfl ?_
  refine x_iadd C d_M_addDraft_30 ?_
  refine x_iload_n C d_M_addDraft_31 3 rfl ?_
  obtain ⟨M2, hM2, hf⟩ := bs hf
  refine x_iast C hM2 mc_101 kc_101 d_M_addDraft_32 ?_
  refine x_aload_n C d_M_addDraft_33 1 rfl ?_
  refine xg_M_row C wF_M_7 mc_100 kc_100 d_M_addDraft_34 ?_
  refine x_iload C d_M_addDraft_37 0 rfl ?_
  refine x_iconst (v := 2) C d_M_addDraft_39 rfl ?_
  refine x_iadd C d_M_addDraft_40 ?_
  refine x_iload_n C d_M_addDraft_41 4 rfl ?_
  obtain ⟨M3, hM3, hf⟩ := bs hf
  refine x_iast C hM3 mc_101 kc_101 d_M_addDraft_42 ?_
  refine x_aload_n C d_M_addDraft_43 1 rfl ?_
  refine xg_M_row C wF_M_7 mc_100 kc_100 d_M_addDraft_44 ?_
  refine x_iload C d_M_addDraft_47 0 rfl ?_
  refine x_iconst (v := 3) C d_M_addDraft_49 rfl ?_
  refine x_iadd C d_M_addDraft_50 ?_
  refine x_iload C d_M_addDraft_51 5 rfl ?_
  obtain ⟨M4, hM4, hf⟩ := bs hf
  refine x_iast C hM4 mc_101 kc_101 d_M_addDraft_53 ?_
  refine x_aload_n C d_M_addDraft_54 1 rfl ?_
  refine xg_M_row C wF_M_7 mc_100 kc_100 d_M_addDraft_55 ?_
  refine x_iload C d_M_addDraft_58 0 rfl ?_
  refine x_iconst (v := 4) C d_M_addDraft_60 rfl ?_
  refine x_iadd C d_M_addDraft_61 ?_
  refine x_iconst (v := 0) C d_M_addDraft_62 rfl ?_
  obtain ⟨M5, hM5, hf⟩ := bs hf
  refine x_iast C hM5 mc_101 kc_101 d_M_addDraft_63 ?_
  refine x_aload_n C d_M_addDraft_64 1 rfl ?_
  refine xg_M_row C wF_M_7 mc_100 kc_100 d_M_addDraft_65 ?_
  refine x_iload C d_M_addDraft_68 0 rfl ?_
  refine x_iconst (v := 5) C d_M_addDraft_70 rfl ?_
  refine x_iadd C d_M_addDraft_71 ?_
  refine x_iconst (v := 0) C d_M_addDraft_72 rfl ?_
  obtain ⟨M6, hM6, hf⟩ := bs hf
  refine x_iast C hM6 mc_101 kc_101 d_M_addDraft_73 ?_
  refine x_aload_n C d_M_addDraft_74 1 rfl ?_
  refine xg_M_row C wF_M_7 mc_100 kc_100 d_M_addDraft_75 ?_
  refine x_iconst (v := 1) C d_M_addDraft_78 rfl ?_
  refine x_dup2 C d_M_addDraft_79 rfl rfl ?_
  refine x_iald C (ac_101_1 M6) mc_101 kc_101 d_M_addDraft_80 ?_
  refine x_iconst (v := 1) C d_M_addDraft_81 rfl ?_
  refine x_iadd C d_M_addDraft_82 ?_
  obtain ⟨M7, hM7, hf⟩ := bs hf
  refine x_iast C hM7 mc_101 kc_101 d_M_addDraft_83 ?_
  cases hf
  exact x_vret C d_M_addDraft_84 rfl rfl
set_option maxHeartbeats 4000000 in
set_option maxRecDepth 100000 in
theorem ct_M_in {l : Launch} {D : va_G} {ad : Nat → Nat} {cs : Nat → ClassId} {A : Nat → Prop} (E : Ev ad cs A LM) (F : Nat) (M : Mem) (x0 : Int64) (x2 : Int64) (x4 : Int64) (R : Int32)  (hf : M_in F M x0 x2 x4 = some R) : Met l y_M_in (Cond.code y_M_in b_M_in 6 (some .boolean) :: wl) (rmD 0) (PX D ad cs A LM [.long x0, .long x2, .long x4] M) (QX D ad cs A LM (some (.int R)) M) 0 0 A := by
  refine x_enter (lv := [(0, .long x0), (2, .long x2), (4, .long x4)]) E mi_M_in.1 (Nat.le_of_ble_eq_true rfl) rfl (fun p e s m args below meth c C => ?_)
  unfold M_in at hf
  refine x_lload_n C d_M_in_0 0 rfl ?_
  refine x_lload_n C d_M_in_1 1 rfl ?_
  refine x_lcmp C d_M_in_2 ?_
  refine x_if_lt C 17 d_M_in_3 (by decide) (fun g1 => ?_) (fun g1 => ?_)
  · replace hf := it g1 hf
    refine x_iconst (v := 0) C d_M_in_17 rfl ?_
    cases hf
    exact x_zret C d_M_in_18 (Or.inl rfl) rfl rfl
  · replace hf := ie g1 hf
    refine x_lload_n C d_M_in_6 0 rfl ?_
    refine x_lload C d_M_in_7 2 rfl ?_
    refine x_lcmp C d_M_in_9 ?_
    refine x_if_gt C 17 d_M_in_10 (by decide) (fun g2 => ?_) (fun g2 => ?_)
    · replace hf := it g2 hf
      refine x_iconst (v := 0) C d_M_in_17 rfl ?_
      cases hf
      exact x_zret C d_M_in_18 (Or.inl rfl) rfl rfl
    · replace hf := ie g2 hf
      refine x_iconst (v := 1) C d_M_in_13 rfl ?_
      refine x_goto C 18 d_M_in_14 (by decide) ?_
      cases hf
      exact x_zret C d_M_in_18 (Or.inr rfl) rfl rfl
set_option maxHeartbeats 4000000 in
set_option maxRecDepth 100000 in
theorem ct_M_of {l : Launch} {D : va_G} {ad : Nat → Nat} {cs : Nat → ClassId} {A : Nat → Prop} (E : Ev ad cs A LM) (F : Nat) (M : Mem) (x1 : Int32) (x2 : Int32) (R : Int32)  (hf : M_of F M x1 x2 = some R) : Met l y_M_of (Cond.code y_M_of b_M_of 3 (some .int) :: wl) (rmD 0) (PX D ad cs A LM [.ref (ad 100), .int x1, .int x2] M) (QX D ad cs A LM (some (.int R)) M) 0 0 A := by
  refine x_enter (lv := [(0, .ref (ad 100)), (1, .int x1), (2, .int x2)]) E mi_M_of.1 (Nat.le_of_ble_eq_true rfl) rfl (fun p e s m args below meth c C => ?_)
  unfold M_of at hf
  refine x_aload_n C d_M_of_0 0 rfl ?_
  refine xg_M_row C wF_M_7 mc_100 kc_100 d_M_of_1 ?_
  refine x_iconst (v := 2) C d_M_of_4 rfl ?_
  refine x_bipush (v := 6) C d_M_of_5 rfl ?_
  refine x_iload_n C d_M_of_7 1 rfl ?_
  refine x_imul C d_M_of_8 ?_
  refine x_iadd C d_M_of_9 ?_
  refine x_iload_n C d_M_of_10 2 rfl ?_
  refine x_iadd C d_M_of_11 ?_
  obtain ⟨t1, ht1, hf⟩ := bs hf
  refine x_iald C ht1 mc_101 kc_101 d_M_of_12 ?_
  cases hf
  exact x_iret C d_M_of_13 rfl rfl
set_option maxHeartbeats 4000000 in
set_option maxRecDepth 100000 in
theorem lw_M_beginRings_2 {p : Program} {l : Launch} {e : Env} {s : State} {m : MethodId} {args : Array Value} {below : List Frame} {meth : Method} {c : Code} {D : va_G} {ad : Nat → Nat} {cs : Nat → ClassId} {A : Nat → Prop} {V : Option Value} {N : Mem} (E : Ev ad cs A LM) (C : Cx p s m args meth c "KissClearingModel" b_M_beginRings 3 none D ad cs A LM) (F : Nat) (x1 : Int32) : ∀ (n : Nat) (M : Mem) (x2 : Int32) (u : Mem), L_M_beginRings_2 F x1 n M x2 = some u → X p l e 1 s m args below meth c 3 D ad cs A LM V N u 50 [(0, .ref (ad 100))] [] → X p l e 1 s m args below meth c 3 D ad cs A LM V N M 2 [(0, .ref (ad 100)), (1, .int x1), (2, .int x2)] [] := by
  intro n
  induction n with
  | zero => intro M x2 u hf; cases hf
  | succ n ih =>
    intro M x2 u hf K
    replace hf : B_M_beginRings_2 F x1 (L_M_beginRings_2 F x1 n) M x2 = some u := hf
    unfold B_M_beginRings_2 at hf
    refine x_iload_n C d_M_beginRings_2 2 rfl ?_
    refine x_bipush (v := 12) C d_M_beginRings_3 rfl ?_
    refine x_icmp_ge C 50 d_M_beginRings_5 (by decide) (fun g1 => ?_) (fun g1 => ?_)
    · replace hf := it g1 hf
      cases hf
      exact x_sub [0] rfl K
    · replace hf := ie g1 hf
      refine x_aload_n C d_M_beginRings_8 0 rfl ?_
      refine xg_M_tried C wF_M_41 mc_100 kc_100 d_M_beginRings_9 ?_
      refine x_iload_n C d_M_beginRings_12 2 rfl ?_
      refine x_iload_n C d_M_beginRings_13 2 rfl ?_
      refine x_aload_n C d_M_beginRings_14 0 rfl ?_
      refine xg_M_row C wF_M_7 mc_100 kc_100 d_M_beginRings_15 ?_
      refine x_iconst (v := 1) C d_M_beginRings_18 rfl ?_
      refine x_iald C (ac_101_1 M) mc_101 kc_101 d_M_beginRings_19 ?_
      obtain ⟨j2, hj2, hf⟩ := bs hf
      have Jj2 : X p l e 1 s m args below meth c 3 D ad cs A LM V N M 43 [(0, .ref (ad 100)), (1, .int x1), (2, .int x2)] [.int j2, .int x2, .ref (ad 110)] := by
        obtain ⟨M3, hM3, hf⟩ := bs hf
        refine x_iast C hM3 mc_110 kc_110 d_M_beginRings_43 ?_
        refine x_iinc (v := (x2 + 1)) (lv' := [(2, .int (x2 + 1)), (0, .ref (ad 100)), (1, .int x1)]) C d_M_beginRings_44 2 rfl rfl (by decide) rfl ?_
        refine x_goto C 2 d_M_beginRings_47 (by decide) ?_
        refine x_sub [1, 2, 0] rfl ?_
        exact ih _ _ _ hf K
      replace hf := hj2
      refine x_icmp_ge C 42 d_M_beginRings_20 (by decide) (fun g4 => ?_) (fun g4 => ?_)
      · replace hf := it g4 hf
        refine x_iconst (v := 0) C d_M_beginRings_42 rfl ?_
        cases hf
        exact x_sub [0, 1, 2] rfl Jj2
      · replace hf := ie g4 hf
        refine x_aload_n C d_M_beginRings_23 0 rfl ?_
        refine x_iload_n C d_M_beginRings_24 2 rfl ?_
        refine x_iconst (v := 2) C d_M_beginRings_25 rfl ?_
        obtain ⟨c5, hc5, hf⟩ := bs hf
        refine x_callV (rest := [.int x2, .ref (ad 110)]) (n := 2) C (ct_M_of E F _ _ _ _  hc5) mi_M_of (by decide) mc_100 ⟨_, cel_M kc_100⟩ rfl rfl wL_M_146 d_M_beginRings_26 rfl rfl (Nat.le_of_ble_eq_true rfl) ?_
        show X _ _ _ _ _ _ _ _ _ _ _ _ _ _ _ _ _ _ _ _ _ [.int c5, .int x2, .ref (ad 110)]
        refine x_iload_n C d_M_beginRings_29 1 rfl ?_
        refine x_icmp_ne C 42 d_M_beginRings_30 (by decide) (fun g6 => ?_) (fun g6 => ?_)
        · replace hf := ie g6 hf
          refine x_iconst (v := 0) C d_M_beginRings_42 rfl ?_
          cases hf
          exact x_sub [0, 1, 2] rfl Jj2
        · replace hf := it g6 hf
          refine x_aload_n C d_M_beginRings_33 0 rfl ?_
          refine x_iload_n C d_M_beginRings_34 2 rfl ?_
          refine x_iconst (v := 3) C d_M_beginRings_35 rfl ?_
          obtain ⟨c7, hc7, hf⟩ := bs hf
          refine x_callV (rest := [.int x2, .ref (ad 110)]) (n := 2) C (ct_M_of E F _ _ _ _  hc7) mi_M_of (by decide) mc_100 ⟨_, cel_M kc_100⟩ rfl rfl wL_M_146 d_M_beginRings_36 rfl rfl (Nat.le_of_ble_eq_true rfl) ?_
          show X _ _ _ _ _ _ _ _ _ _ _ _ _ _ _ _ _ _ _ _ _ [.int c7, .int x2, .ref (ad 110)]
          refine x_goto C 43 d_M_beginRings_39 (by decide) ?_
          cases hf
          exact x_sub [0, 1, 2] rfl Jj2
set_option maxHeartbeats 4000000 in
set_option maxRecDepth 100000 in
theorem ct_M_beginRings {l : Launch} {D : va_G} {ad : Nat → Nat} {cs : Nat → ClassId} {A : Nat → Prop} (E : Ev ad cs A LM) (F : Nat) (M : Mem) (x1 : Int32) (R : Mem)  (hf : M_beginRings F M x1 = some R) : Met l y_M_beginRings (Cond.code y_M_beginRings b_M_beginRings 3 none :: wl) (rmD 1) (PX D ad cs A LM [.ref (ad 100), .int x1] M) (QX D ad cs A LM (none) R) 0 0 A := by
  refine x_enter (lv := [(0, .ref (ad 100)), (1, .int x1)]) E mi_M_beginRings.1 (Nat.le_of_ble_eq_true rfl) rfl (fun p e s m args below meth c C => ?_)
  unfold M_beginRings at hf
  refine x_iconst (v := 0) C d_M_beginRings_0 rfl ?_
  refine x_istore_n (lv' := [(2, .int 0), (0, .ref (ad 100)), (1, .int x1)]) C d_M_beginRings_1 (by decide) rfl ?_
  obtain ⟨u8, hu8, hf⟩ := bs hf
  refine x_sub [1, 2, 0] rfl ?_
  refine lw_M_beginRings_2 E C F _ _ _ _ _ hu8 ?_
  refine x_aload_n C d_M_beginRings_50 0 rfl ?_
  refine x_iconst (v := 0) C d_M_beginRings_51 rfl ?_
  refine xp_M_chainMany (x := 0) C wF_M_243 mc_100 kc_100 d_M_beginRings_52 ?_
  cases hf
  exact x_vret C d_M_beginRings_55 rfl rfl
set_option maxHeartbeats 4000000 in
set_option maxRecDepth 100000 in
theorem lw_M_follows_74 {p : Program} {l : Launch} {e : Env} {s : State} {m : MethodId} {args : Array Value} {below : List Frame} {meth : Method} {c : Code} {D : va_G} {ad : Nat → Nat} {cs : Nat → ClassId} {A : Nat → Prop} {V : Option Value} {N : Mem} (E : Ev ad cs A LM) (C : Cx p s m args meth c "KissClearingModel" b_M_follows 4 (some .boolean) D ad cs A LM) (F : Nat) (M : Mem) (x1 : Int32) : ∀ (n : Nat) (x2 : Int32) (x3 : Int32) (u : Int32), L_M_follows_74 F M x1 n x2 x3 = some u → X p l e 1 s m args below meth c 4 D ad cs A LM V N M 118 [(2, .int u)] [] → X p l e 1 s m args below meth c 4 D ad cs A LM V N M 74 [(0, .ref (ad 100)), (1, .int x1), (2, .int x2), (3, .int x3)] [] := by
  intro n
  induction n with
  | zero => intro x2 x3 u hf; cases hf
  | succ n ih =>
    intro x2 x3 u hf K
    replace hf : B_M_follows_74 F M x1 (L_M_follows_74 F M x1 n) x2 x3 = some u := hf
    unfold B_M_follows_74 at hf
    refine x_iload_n C d_M_follows_74 3 rfl ?_
    refine x_aload_n C d_M_follows_75 0 rfl ?_
    refine xg_M_chainMany C wF_M_243 mc_100 kc_100 d_M_follows_76 ?_
    refine x_icmp_ge C 118 d_M_follows_79 (by decide) (fun g7 => ?_) (fun g7 => ?_)
    · replace hf := it g7 hf
      cases hf
      exact x_sub [2] rfl K
    · replace hf := ie g7 hf
      refine x_iload_n C d_M_follows_82 2 rfl ?_
      refine x_if_eq C 118 d_M_follows_83 (by decide) (fun g8 => ?_) (fun g8 => ?_)
      · replace hf := it g8 hf
        cases hf
        exact x_sub [2] rfl K
      · replace hf := ie g8 hf
        refine x_aload_n C d_M_follows_86 0 rfl ?_
        refine x_aload_n C d_M_follows_87 0 rfl ?_
        refine xg_M_chain C wF_M_44 mc_100 kc_100 d_M_follows_88 ?_
        refine x_iload_n C d_M_follows_91 3 rfl ?_
        obtain ⟨t9, ht9, hf⟩ := bs hf
        refine x_iald C ht9 mc_111 kc_111 d_M_follows_92 ?_
        refine x_iconst (v := 0) C d_M_follows_93 rfl ?_
        obtain ⟨c10, hc10, hf⟩ := bs hf
        refine x_callV (rest := []) (n := 2) C (ct_M_of E F _ _ _ _  hc10) mi_M_of (by decide) mc_100 ⟨_, cel_M kc_100⟩ rfl rfl wL_M_146 d_M_follows_94 rfl rfl (Nat.le_of_ble_eq_true rfl) ?_
        show X _ _ _ _ _ _ _ _ _ _ _ _ _ _ _ _ _ _ _ _ _ [.int c10]
        refine x_aload_n C d_M_follows_97 0 rfl ?_
        refine x_iload_n C d_M_follows_98 1 rfl ?_
        refine x_iconst (v := 1) C d_M_follows_99 rfl ?_
        obtain ⟨c11, hc11, hf⟩ := bs hf
        refine x_callV (rest := [.int c10]) (n := 2) C (ct_M_of E F _ _ _ _  hc11) mi_M_of (by decide) mc_100 ⟨_, cel_M kc_100⟩ rfl rfl wL_M_146 d_M_follows_100 rfl rfl (Nat.le_of_ble_eq_true rfl) ?_
        show X _ _ _ _ _ _ _ _ _ _ _ _ _ _ _ _ _ _ _ _ _ [.int c11, .int c10]
        refine x_icmp_eq C 110 d_M_follows_103 (by decide) (fun g12 => ?_) (fun g12 => ?_)
        · replace hf := it g12 hf
          refine x_iconst (v := 0) C d_M_follows_110 rfl ?_
          refine x_istore_n (lv' := [(2, .int 0), (0, .ref (ad 100)), (1, .int x1), (3, .int x3)]) C d_M_follows_111 (by decide) rfl ?_
          refine x_iinc (v := (x3 + 1)) (lv' := [(3, .int (x3 + 1)), (2, .int 0), (0, .ref (ad 100)), (1, .int x1)]) C d_M_follows_112 3 rfl rfl (by decide) rfl ?_
          refine x_goto C 74 d_M_follows_115 (by decide) ?_
          refine x_sub [2, 3, 1, 0] rfl ?_
          exact ih _ _ _ hf K
        · replace hf := ie g12 hf
          refine x_iconst (v := 1) C d_M_follows_106 rfl ?_
          refine x_goto C 111 d_M_follows_107 (by decide) ?_
          refine x_istore_n (lv' := [(2, .int 1), (0, .ref (ad 100)), (1, .int x1), (3, .int x3)]) C d_M_follows_111 (by decide) rfl ?_
          refine x_iinc (v := (x3 + 1)) (lv' := [(3, .int (x3 + 1)), (2, .int 1), (0, .ref (ad 100)), (1, .int x1)]) C d_M_follows_112 3 rfl rfl (by decide) rfl ?_
          refine x_goto C 74 d_M_follows_115 (by decide) ?_
          refine x_sub [2, 3, 1, 0] rfl ?_
          exact ih _ _ _ hf K
set_option maxHeartbeats 4000000 in
set_option maxRecDepth 100000 in
theorem ct_M_follows {l : Launch} {D : va_G} {ad : Nat → Nat} {cs : Nat → ClassId} {A : Nat → Prop} (E : Ev ad cs A LM) (F : Nat) (M : Mem) (x1 : Int32) (R : Int32)  (hf : M_follows F M x1 = some R) : Met l y_M_follows (Cond.code y_M_follows b_M_follows 4 (some .boolean) :: wl) (rmD 1) (PX D ad cs A LM [.ref (ad 100), .int x1] M) (QX D ad cs A LM (some (.int R)) M) 0 0 A := by
  refine x_enter (lv := [(0, .ref (ad 100)), (1, .int x1)]) E mi_M_follows.1 (Nat.le_of_ble_eq_true rfl) rfl (fun p e s m args below meth c C => ?_)
  unfold M_follows at hf
  refine x_aload_n C d_M_follows_0 0 rfl ?_
  refine xg_M_tried C wF_M_41 mc_100 kc_100 d_M_follows_1 ?_
  refine x_iload_n C d_M_follows_4 1 rfl ?_
  obtain ⟨t1, ht1, hf⟩ := bs hf
  refine x_iald C ht1 mc_110 kc_110 d_M_follows_5 ?_
  refine x_if_eq C 16 d_M_follows_6 (by decide) (fun g2 => ?_) (fun g2 => ?_)
  · replace hf := it g2 hf
    refine x_aload_n C d_M_follows_16 0 rfl ?_
    refine xg_M_tried C wF_M_41 mc_100 kc_100 d_M_follows_17 ?_
    refine x_iload_n C d_M_follows_20 1 rfl ?_
    obtain ⟨t3, ht3, hf⟩ := bs hf
    refine x_iald C ht3 mc_110 kc_110 d_M_follows_21 ?_
    refine x_if_le C 29 d_M_follows_22 (by decide) (fun g4 => ?_) (fun g4 => ?_)
    · replace hf := it g4 hf
      refine x_iconst (v := 0) C d_M_follows_29 rfl ?_
      cases hf
      exact x_zret C d_M_follows_30 (Or.inl rfl) rfl rfl
    · replace hf := ie g4 hf
      refine x_iconst (v := 1) C d_M_follows_25 rfl ?_
      refine x_goto C 30 d_M_follows_26 (by decide) ?_
      cases hf
      exact x_zret C d_M_follows_30 (Or.inr rfl) rfl rfl
  · replace hf := ie g2 hf
    refine x_aload_n C d_M_follows_9 0 rfl ?_
    refine xg_M_chainMany C wF_M_243 mc_100 kc_100 d_M_follows_10 ?_
    refine x_if_ne C 31 d_M_follows_13 (by decide) (fun g5 => ?_) (fun g5 => ?_)
    · replace hf := ie g5 hf
      refine x_iload_n C d_M_follows_31 1 rfl ?_
      refine x_aload_n C d_M_follows_32 0 rfl ?_
      refine xg_M_chain C wF_M_44 mc_100 kc_100 d_M_follows_33 ?_
      refine x_iconst (v := 0) C d_M_follows_36 rfl ?_
      refine x_iald C (ac_111_0 M) mc_111 kc_111 d_M_follows_37 ?_
      obtain ⟨j6, hj6, hf⟩ := bs hf
      have Jj6 : X p l e 1 s m args below meth c 4 D ad cs A LM (some (.int R)) M M 71 [(0, .ref (ad 100)), (1, .int x1)] [.int j6] := by
        refine x_istore_n (lv' := [(2, .int j6), (0, .ref (ad 100)), (1, .int x1)]) C d_M_follows_71 (by decide) rfl ?_
        refine x_iconst (v := 1) C d_M_follows_72 rfl ?_
        refine x_istore_n (lv' := [(3, .int 1), (2, .int j6), (0, .ref (ad 100)), (1, .int x1)]) C d_M_follows_73 (by decide) rfl ?_
        obtain ⟨u13, hu13, hf⟩ := bs hf
        refine x_sub [2, 3, 1, 0] rfl ?_
        refine lw_M_follows_74 E C F _ _ _ _ _ _ hu13 ?_
        refine x_iload_n C d_M_follows_118 0 rfl ?_
        obtain ⟨t14, ht14, hf⟩ := bs hf
        obtain ⟨hb, hq⟩ := gd ht14
        cases hf
        exact x_zret C d_M_follows_119 hb (congrArg (fun z => some (Value.int z)) hq) rfl
      replace hf := hj6
      refine x_icmp_le C 70 d_M_follows_38 (by decide) (fun g15 => ?_) (fun g15 => ?_)
      · replace hf := it g15 hf
        refine x_iconst (v := 0) C d_M_follows_70 rfl ?_
        cases hf
        exact x_sub [0, 1] rfl Jj6
      · replace hf := ie g15 hf
        refine x_aload_n C d_M_follows_41 0 rfl ?_
        refine x_iload_n C d_M_follows_42 1 rfl ?_
        refine x_iconst (v := 0) C d_M_follows_43 rfl ?_
        obtain ⟨c16, hc16, hf⟩ := bs hf
        refine x_callV (rest := []) (n := 2) C (ct_M_of E F _ _ _ _  hc16) mi_M_of (by decide) mc_100 ⟨_, cel_M kc_100⟩ rfl rfl wL_M_146 d_M_follows_44 rfl rfl (Nat.le_of_ble_eq_true rfl) ?_
        show X _ _ _ _ _ _ _ _ _ _ _ _ _ _ _ _ _ _ _ _ _ [.int c16]
        refine x_aload_n C d_M_follows_47 0 rfl ?_
        refine x_aload_n C d_M_follows_48 0 rfl ?_
        refine xg_M_chain C wF_M_44 mc_100 kc_100 d_M_follows_49 ?_
        refine x_aload_n C d_M_follows_52 0 rfl ?_
        refine xg_M_chainMany C wF_M_243 mc_100 kc_100 d_M_follows_53 ?_
        refine x_iconst (v := 1) C d_M_follows_56 rfl ?_
        refine x_isub C d_M_follows_57 ?_
        obtain ⟨t17, ht17, hf⟩ := bs hf
        refine x_iald C ht17 mc_111 kc_111 d_M_follows_58 ?_
        refine x_iconst (v := 1) C d_M_follows_59 rfl ?_
        obtain ⟨c18, hc18, hf⟩ := bs hf
        refine x_callV (rest := [.int c16]) (n := 2) C (ct_M_of E F _ _ _ _  hc18) mi_M_of (by decide) mc_100 ⟨_, cel_M kc_100⟩ rfl rfl wL_M_146 d_M_follows_60 rfl rfl (Nat.le_of_ble_eq_true rfl) ?_
        show X _ _ _ _ _ _ _ _ _ _ _ _ _ _ _ _ _ _ _ _ _ [.int c18, .int c16]
        refine x_icmp_ne C 70 d_M_follows_63 (by decide) (fun g19 => ?_) (fun g19 => ?_)
        · replace hf := ie g19 hf
          refine x_iconst (v := 0) C d_M_follows_70 rfl ?_
          cases hf
          exact x_sub [0, 1] rfl Jj6
        · replace hf := it g19 hf
          refine x_iconst (v := 1) C d_M_follows_66 rfl ?_
          refine x_goto C 71 d_M_follows_67 (by decide) ?_
          cases hf
          exact x_sub [0, 1] rfl Jj6
    · replace hf := it g5 hf
      refine x_aload_n C d_M_follows_16 0 rfl ?_
      refine xg_M_tried C wF_M_41 mc_100 kc_100 d_M_follows_17 ?_
      refine x_iload_n C d_M_follows_20 1 rfl ?_
      obtain ⟨t20, ht20, hf⟩ := bs hf
      refine x_iald C ht20 mc_110 kc_110 d_M_follows_21 ?_
      refine x_if_le C 29 d_M_follows_22 (by decide) (fun g21 => ?_) (fun g21 => ?_)
      · replace hf := it g21 hf
        refine x_iconst (v := 0) C d_M_follows_29 rfl ?_
        cases hf
        exact x_zret C d_M_follows_30 (Or.inl rfl) rfl rfl
      · replace hf := ie g21 hf
        refine x_iconst (v := 1) C d_M_follows_25 rfl ?_
        refine x_goto C 30 d_M_follows_26 (by decide) ?_
        cases hf
        exact x_zret C d_M_follows_30 (Or.inr rfl) rfl rfl
set_option maxHeartbeats 4000000 in
set_option maxRecDepth 100000 in
theorem lw_M_following_2 {p : Program} {l : Launch} {e : Env} {s : State} {m : MethodId} {args : Array Value} {below : List Frame} {meth : Method} {c : Code} {D : va_G} {ad : Nat → Nat} {cs : Nat → ClassId} {A : Nat → Prop} {V : Option Value} {N : Mem} (E : Ev ad cs A LM) (C : Cx p s m args meth c "KissClearingModel" b_M_following 3 (some .int) D ad cs A LM) (F : Nat) (M : Mem)  : ∀ (n : Nat) (x2 : Int32) (u0 : (Sum Int32 Unit)), L_M_following_2 F M n x2 = some u0 → (∀ r, u0 = .inl r → V = some (.int r) ∧ N = M) →  (∀ u, u0 = .inr u → X p l e 2 s m args below meth c 3 D ad cs A LM V N M 28 [] []) → X p l e 2 s m args below meth c 3 D ad cs A LM V N M 2 [(0, .ref (ad 100)), (2, .int x2)] [] := by
  intro n
  induction n with
  | zero => intro x2 u0 hf; cases hf
  | succ n ih =>
    intro x2 u0 hf Kr Kx
    replace hf : B_M_following_2 F M (L_M_following_2 F M n) x2 = some u0 := hf
    unfold B_M_following_2 at hf
    refine x_iload_n C d_M_following_2 1 rfl ?_
    refine x_aload_n C d_M_following_3 0 rfl ?_
    refine xg_M_row C wF_M_7 mc_100 kc_100 d_M_following_4 ?_
    refine x_iconst (v := 1) C d_M_following_7 rfl ?_
    refine x_iald C (ac_101_1 M) mc_101 kc_101 d_M_following_8 ?_
    refine x_icmp_ge C 28 d_M_following_9 (by decide) (fun g1 => ?_) (fun g1 => ?_)
    · replace hf := it g1 hf
      cases hf
      exact x_sub [] rfl (Kx _ rfl)
    · replace hf := ie g1 hf
      refine x_aload_n C d_M_following_12 0 rfl ?_
      refine x_iload_n C d_M_following_13 1 rfl ?_
      obtain ⟨c2, hc2, hf⟩ := bs hf
      refine x_callV (rest := []) (n := 1) C (ct_M_follows E F _ _ _  hc2) mi_M_follows (by decide) mc_100 ⟨_, cel_M kc_100⟩ rfl rfl wL_M_246 d_M_following_14 rfl rfl (Nat.le_of_ble_eq_true rfl) ?_
      show X _ _ _ _ _ _ _ _ _ _ _ _ _ _ _ _ _ _ _ _ _ [.int c2]
      refine x_if_eq C 22 d_M_following_17 (by decide) (fun g3 => ?_) (fun g3 => ?_)
      · replace hf := it g3 hf
        refine x_iinc (v := (x2 + 1)) (lv' := [(2, .int (x2 + 1)), (0, .ref (ad 100))]) C d_M_following_22 1 rfl rfl (by decide) rfl ?_
        refine x_goto C 2 d_M_following_25 (by decide) ?_
        refine x_sub [1, 0] rfl ?_
        exact ih _ _ hf Kr Kx
      · replace hf := ie g3 hf
        refine x_iload_n C d_M_following_20 1 rfl ?_
        cases hf
        obtain ⟨hV, hN⟩ := Kr _ rfl
        exact x_iret C d_M_following_21 hV hN
set_option maxHeartbeats 4000000 in
set_option maxRecDepth 100000 in
theorem ct_M_following {l : Launch} {D : va_G} {ad : Nat → Nat} {cs : Nat → ClassId} {A : Nat → Prop} (E : Ev ad cs A LM) (F : Nat) (M : Mem) (x1 : Int32) (R : Int32)  (hf : M_following F M x1 = some R) : Met l y_M_following (Cond.code y_M_following b_M_following 3 (some .int) :: wl) (rmD 2) (PX D ad cs A LM [.ref (ad 100), .int x1] M) (QX D ad cs A LM (some (.int R)) M) 0 0 A := by
  refine x_enter (lv := [(0, .ref (ad 100)), (1, .int x1)]) E mi_M_following.1 (Nat.le_of_ble_eq_true rfl) rfl (fun p e s m args below meth c C => ?_)
  unfold M_following at hf
  refine x_iload_n C d_M_following_0 1 rfl ?_
  refine x_istore_n (lv' := [(2, .int x1), (0, .ref (ad 100)), (1, .int x1)]) C d_M_following_1 (by decide) rfl ?_
  obtain ⟨u4, hu4, hf⟩ := bs hf
  refine x_sub [1, 0] rfl ?_
  refine lw_M_following_2 E C F _ _ _ _ hu4 (fun r5 hr5 => ?_) (fun w6 hw6 => ?_)
  · subst hr5
    replace hf := se_l hf
    cases hf
    exact ⟨rfl, rfl⟩
  · subst hw6
    replace hf := se_r hf
    refine x_bipush (v := (-9)) C d_M_following_28 rfl ?_
    cases hf
    exact x_iret C d_M_following_30 rfl rfl
set_option maxHeartbeats 4000000 in
set_option maxRecDepth 100000 in
theorem ct_M_closes {l : Launch} {D : va_G} {ad : Nat → Nat} {cs : Nat → ClassId} {A : Nat → Prop} (E : Ev ad cs A LM) (F : Nat) (M : Mem)  (R : Int32)  (hf : M_closes F M = some R) : Met l y_M_closes (Cond.code y_M_closes b_M_closes 1 (some .boolean) :: wl) (rmD 1) (PX D ad cs A LM [.ref (ad 100)] M) (QX D ad cs A LM (some (.int R)) M) 0 0 A := by
  refine x_enter (lv := [(0, .ref (ad 100))]) E mi_M_closes.1 (Nat.le_of_ble_eq_true rfl) rfl (fun p e s m args below meth c C => ?_)
  unfold M_closes at hf
  refine x_aload_n C d_M_closes_0 0 rfl ?_
  refine x_aload_n C d_M_closes_1 0 rfl ?_
  refine xg_M_chain C wF_M_44 mc_100 kc_100 d_M_closes_2 ?_
  refine x_aload_n C d_M_closes_5 0 rfl ?_
  refine xg_M_chainMany C wF_M_243 mc_100 kc_100 d_M_closes_6 ?_
  refine x_iconst (v := 1) C d_M_closes_9 rfl ?_
  refine x_isub C d_M_closes_10 ?_
  obtain ⟨t1, ht1, hf⟩ := bs hf
  refine x_iald C ht1 mc_111 kc_111 d_M_closes_11 ?_
  refine x_iconst (v := 1) C d_M_closes_12 rfl ?_
  obtain ⟨c2, hc2, hf⟩ := bs hf
  refine x_callV (rest := []) (n := 2) C (ct_M_of E F _ _ _ _  hc2) mi_M_of (by decide) mc_100 ⟨_, cel_M kc_100⟩ rfl rfl wL_M_146 d_M_closes_13 rfl rfl (Nat.le_of_ble_eq_true rfl) ?_
  show X _ _ _ _ _ _ _ _ _ _ _ _ _ _ _ _ _ _ _ _ _ [.int c2]
  refine x_aload_n C d_M_closes_16 0 rfl ?_
  refine x_aload_n C d_M_closes_17 0 rfl ?_
  refine xg_M_chain C wF_M_44 mc_100 kc_100 d_M_closes_18 ?_
  refine x_iconst (v := 0) C d_M_closes_21 rfl ?_
  refine x_iald C (ac_111_0 M) mc_111 kc_111 d_M_closes_22 ?_
  refine x_iconst (v := 0) C d_M_closes_23 rfl ?_
  obtain ⟨c3, hc3, hf⟩ := bs hf
  refine x_callV (rest := [.int c2]) (n := 2) C (ct_M_of E F _ _ _ _  hc3) mi_M_of (by decide) mc_100 ⟨_, cel_M kc_100⟩ rfl rfl wL_M_146 d_M_closes_24 rfl rfl (Nat.le_of_ble_eq_true rfl) ?_
  show X _ _ _ _ _ _ _ _ _ _ _ _ _ _ _ _ _ _ _ _ _ [.int c3, .int c2]
  refine x_icmp_ne C 34 d_M_closes_27 (by decide) (fun g4 => ?_) (fun g4 => ?_)
  · replace hf := ie g4 hf
    refine x_iconst (v := 0) C d_M_closes_34 rfl ?_
    cases hf
    exact x_zret C d_M_closes_35 (Or.inl rfl) rfl rfl
  · replace hf := it g4 hf
    refine x_iconst (v := 1) C d_M_closes_30 rfl ?_
    refine x_goto C 35 d_M_closes_31 (by decide) ?_
    cases hf
    exact x_zret C d_M_closes_35 (Or.inr rfl) rfl rfl
set_option maxHeartbeats 4000000 in
set_option maxRecDepth 100000 in
theorem lw_M_nextRing_31 {p : Program} {l : Launch} {e : Env} {s : State} {m : MethodId} {args : Array Value} {below : List Frame} {meth : Method} {c : Code} {D : va_G} {ad : Nat → Nat} {cs : Nat → ClassId} {A : Nat → Prop} {V : Option Value} {N : Mem} (E : Ev ad cs A LM) (C : Cx p s m args meth c "KissClearingModel" b_M_nextRing 4 (some .boolean) D ad cs A LM) (F : Nat)  : ∀ (n : Nat) (M : Mem) (x1 : Int32) (u0 : (Sum (Int32 × Mem) Unit)), L_M_nextRing_31 F n M x1 = some u0 → (∀ r, u0 = .inl r → V = some (.int r.1) ∧ N = r.2) →  True → X p l e 3 s m args below meth c 4 D ad cs A LM V N M 31 [(0, .ref (ad 100)), (1, .int x1)] [] := by
  intro n
  induction n with
  | zero => intro M x1 u0 hf; cases hf
  | succ n ih =>
    intro M x1 u0 hf Kr Kx
    replace hf : B_M_nextRing_31 F (L_M_nextRing_31 F n) M x1 = some u0 := hf
    unfold B_M_nextRing_31 at hf
    refine x_aload_n C d_M_nextRing_31 0 rfl ?_
    refine x_iload_n C d_M_nextRing_32 1 rfl ?_
    obtain ⟨c2, hc2, hf⟩ := bs hf
    refine x_callV (rest := []) (n := 1) C (ct_M_following E F _ _ _  hc2) mi_M_following (by decide) mc_100 ⟨_, cel_M kc_100⟩ rfl rfl wL_M_249 d_M_nextRing_33 rfl rfl (Nat.le_of_ble_eq_true rfl) ?_
    show X _ _ _ _ _ _ _ _ _ _ _ _ _ _ _ _ _ _ _ _ _ [.int c2]
    refine x_istore_n (lv' := [(2, .int c2), (0, .ref (ad 100)), (1, .int x1)]) C d_M_nextRing_36 (by decide) rfl ?_
    refine x_iload_n C d_M_nextRing_37 0 rfl ?_
    refine x_bipush (v := (-9)) C d_M_nextRing_38 rfl ?_
    refine x_icmp_ne C 52 d_M_nextRing_40 (by decide) (fun g3 => ?_) (fun g3 => ?_)
    · replace hf := ie g3 hf
      refine x_iload_n C d_M_nextRing_52 0 rfl ?_
      refine x_bipush (v := (-9)) C d_M_nextRing_53 rfl ?_
      refine x_icmp_ne C 83 d_M_nextRing_55 (by decide) (fun g4 => ?_) (fun g4 => ?_)
      · replace hf := ie g4 hf
        refine x_aload_n C d_M_nextRing_83 1 rfl ?_
        refine xg_M_chain C wF_M_44 mc_100 kc_100 d_M_nextRing_84 ?_
        refine x_aload_n C d_M_nextRing_87 1 rfl ?_
        refine xg_M_chainMany C wF_M_243 mc_100 kc_100 d_M_nextRing_88 ?_
        refine x_iload_n C d_M_nextRing_91 0 rfl ?_
        obtain ⟨M5, hM5, hf⟩ := bs hf
        refine x_iast C hM5 mc_111 kc_111 d_M_nextRing_92 ?_
        refine x_aload_n C d_M_nextRing_93 1 rfl ?_
        refine x_dup C d_M_nextRing_94 rfl ?_
        refine xg_M_chainMany C wF_M_243 mc_100 kc_100 d_M_nextRing_95 ?_
        refine x_iconst (v := 1) C d_M_nextRing_98 rfl ?_
        refine x_iadd C d_M_nextRing_99 ?_
        refine xp_M_chainMany (x := ((M5 100 21) + 1)) C wF_M_243 mc_100 kc_100 d_M_nextRing_100 ?_
        refine x_aload_n C d_M_nextRing_103 1 rfl ?_
        obtain ⟨c6, hc6, hf⟩ := bs hf
        refine x_callV (rest := []) (n := 0) C (ct_M_closes E F _ _  hc6) mi_M_closes (by decide) mc_100 ⟨_, cel_M kc_100⟩ rfl rfl wL_M_252 d_M_nextRing_104 rfl rfl (Nat.le_of_ble_eq_true rfl) ?_
        show X _ _ _ _ _ _ _ _ _ _ _ _ _ _ _ _ _ _ _ _ _ [.int c6]
        refine x_istore_n (lv' := [(3, .int c6), (2, .int c2), (0, .ref (ad 100)), (1, .int x1)]) C d_M_nextRing_107 (by decide) rfl ?_
        refine x_iload_n C d_M_nextRing_108 0 rfl ?_
        refine x_if_eq C 122 d_M_nextRing_109 (by decide) (fun g7 => ?_) (fun g7 => ?_)
        · replace hf := it g7 hf
          refine x_aload_n C d_M_nextRing_122 2 rfl ?_
          refine x_dup C d_M_nextRing_123 rfl ?_
          refine xg_M_chainMany C wF_M_243 mc_100 kc_100 d_M_nextRing_124 ?_
          refine x_iload_n C d_M_nextRing_127 0 rfl ?_
          obtain ⟨j8, hj8, hf⟩ := bs hf
          have Jj8 : X p l e 3 s m args below meth c 4 D ad cs A LM V N (up M5 100 21 ((M5 100 21) + 1)) 136 [(0, .ref (ad 100)), (2, .int c2), (3, .int c6)] [.int j8, .int ((up M5 100 21 ((M5 100 21) + 1)) 100 21), .ref (ad 100)] := by
            refine x_isub C d_M_nextRing_136 ?_
            refine xp_M_chainMany (x := (((up M5 100 21 ((M5 100 21) + 1)) 100 21) - j8)) C wF_M_243 mc_100 kc_100 d_M_nextRing_137 ?_
            refine x_iload_n C d_M_nextRing_140 2 rfl ?_
            refine x_if_eq C 150 d_M_nextRing_141 (by decide) (fun g9 => ?_) (fun g9 => ?_)
            · replace hf := it g9 hf
              refine x_iconst (v := 0) C d_M_nextRing_150 rfl ?_
              refine x_istore_n (lv' := [(1, .int 0), (0, .ref (ad 100)), (2, .int c2), (3, .int c6)]) C d_M_nextRing_151 (by decide) rfl ?_
              refine x_goto C 31 d_M_nextRing_152 (by decide) ?_
              refine x_sub [1, 0] rfl ?_
              exact ih _ _ _ hf Kr Kx
            · replace hf := ie g9 hf
              refine x_iload_n C d_M_nextRing_144 1 rfl ?_
              refine x_iconst (v := 1) C d_M_nextRing_145 rfl ?_
              refine x_iadd C d_M_nextRing_146 ?_
              refine x_goto C 151 d_M_nextRing_147 (by decide) ?_
              refine x_istore_n (lv' := [(1, .int (c2 + 1)), (0, .ref (ad 100)), (2, .int c2), (3, .int c6)]) C d_M_nextRing_151 (by decide) rfl ?_
              refine x_goto C 31 d_M_nextRing_152 (by decide) ?_
              refine x_sub [1, 0] rfl ?_
              exact ih _ _ _ hf Kr Kx
          replace hf := hj8
          refine x_if_eq C 135 d_M_nextRing_128 (by decide) (fun g10 => ?_) (fun g10 => ?_)
          · replace hf := it g10 hf
            refine x_iconst (v := 0) C d_M_nextRing_135 rfl ?_
            cases hf
            exact x_sub [2, 1, 0] rfl Jj8
          · replace hf := ie g10 hf
            refine x_iconst (v := 1) C d_M_nextRing_131 rfl ?_
            refine x_goto C 136 d_M_nextRing_132 (by decide) ?_
            cases hf
            exact x_sub [2, 1, 0] rfl Jj8
        · replace hf := ie g7 hf
          refine x_aload_n C d_M_nextRing_112 2 rfl ?_
          refine xg_M_chainMany C wF_M_243 mc_100 kc_100 d_M_nextRing_113 ?_
          refine x_iconst (v := 2) C d_M_nextRing_116 rfl ?_
          refine x_icmp_le C 122 d_M_nextRing_117 (by decide) (fun g11 => ?_) (fun g11 => ?_)
          · replace hf := it g11 hf
            refine x_aload_n C d_M_nextRing_122 2 rfl ?_
            refine x_dup C d_M_nextRing_123 rfl ?_
            refine xg_M_chainMany C wF_M_243 mc_100 kc_100 d_M_nextRing_124 ?_
            refine x_iload_n C d_M_nextRing_127 0 rfl ?_
            obtain ⟨j12, hj12, hf⟩ := bs hf
            have Jj12 : X p l e 3 s m args below meth c 4 D ad cs A LM V N (up M5 100 21 ((M5 100 21) + 1)) 136 [(0, .ref (ad 100)), (2, .int c2), (3, .int c6)] [.int j12, .int ((up M5 100 21 ((M5 100 21) + 1)) 100 21), .ref (ad 100)] := by
              refine x_isub C d_M_nextRing_136 ?_
              refine xp_M_chainMany (x := (((up M5 100 21 ((M5 100 21) + 1)) 100 21) - j12)) C wF_M_243 mc_100 kc_100 d_M_nextRing_137 ?_
              refine x_iload_n C d_M_nextRing_140 2 rfl ?_
              refine x_if_eq C 150 d_M_nextRing_141 (by decide) (fun g13 => ?_) (fun g13 => ?_)
              · replace hf := it g13 hf
                refine x_iconst (v := 0) C d_M_nextRing_150 rfl ?_
                refine x_istore_n (lv' := [(1, .int 0), (0, .ref (ad 100)), (2, .int c2), (3, .int c6)]) C d_M_nextRing_151 (by decide) rfl ?_
                refine x_goto C 31 d_M_nextRing_152 (by decide) ?_
                refine x_sub [1, 0] rfl ?_
                exact ih _ _ _ hf Kr Kx
              · replace hf := ie g13 hf
                refine x_iload_n C d_M_nextRing_144 1 rfl ?_
                refine x_iconst (v := 1) C d_M_nextRing_145 rfl ?_
                refine x_iadd C d_M_nextRing_146 ?_
                refine x_goto C 151 d_M_nextRing_147 (by decide) ?_
                refine x_istore_n (lv' := [(1, .int (c2 + 1)), (0, .ref (ad 100)), (2, .int c2), (3, .int c6)]) C d_M_nextRing_151 (by decide) rfl ?_
                refine x_goto C 31 d_M_nextRing_152 (by decide) ?_
                refine x_sub [1, 0] rfl ?_
                exact ih _ _ _ hf Kr Kx
            replace hf := hj12
            refine x_if_eq C 135 d_M_nextRing_128 (by decide) (fun g14 => ?_) (fun g14 => ?_)
            · replace hf := it g14 hf
              refine x_iconst (v := 0) C d_M_nextRing_135 rfl ?_
              cases hf
              exact x_sub [2, 1, 0] rfl Jj12
            · replace hf := ie g14 hf
              refine x_iconst (v := 1) C d_M_nextRing_131 rfl ?_
              refine x_goto C 136 d_M_nextRing_132 (by decide) ?_
              cases hf
              exact x_sub [2, 1, 0] rfl Jj12
          · replace hf := ie g11 hf
            refine x_iconst (v := 1) C d_M_nextRing_120 rfl ?_
            cases hf
            obtain ⟨hV, hN⟩ := Kr _ rfl
            exact x_zret C d_M_nextRing_121 (Or.inr rfl) hV hN
      · replace hf := it g4 hf
        refine x_aload_n C d_M_nextRing_58 1 rfl ?_
        refine x_dup C d_M_nextRing_59 rfl ?_
        refine xg_M_chainMany C wF_M_243 mc_100 kc_100 d_M_nextRing_60 ?_
        refine x_iconst (v := 1) C d_M_nextRing_63 rfl ?_
        refine x_isub C d_M_nextRing_64 ?_
        refine xp_M_chainMany (x := ((M 100 21) - 1)) C wF_M_243 mc_100 kc_100 d_M_nextRing_65 ?_
        refine x_aload_n C d_M_nextRing_68 1 rfl ?_
        refine xg_M_chain C wF_M_44 mc_100 kc_100 d_M_nextRing_69 ?_
        refine x_aload_n C d_M_nextRing_72 1 rfl ?_
        refine xg_M_chainMany C wF_M_243 mc_100 kc_100 d_M_nextRing_73 ?_
        obtain ⟨t15, ht15, hf⟩ := bs hf
        refine x_iald C ht15 mc_111 kc_111 d_M_nextRing_76 ?_
        refine x_iconst (v := 1) C d_M_nextRing_77 rfl ?_
        refine x_iadd C d_M_nextRing_78 ?_
        refine x_istore_n (lv' := [(1, .int (t15 + 1)), (2, .int c2), (0, .ref (ad 100))]) C d_M_nextRing_79 (by decide) rfl ?_
        refine x_goto C 152 d_M_nextRing_80 (by decide) ?_
        refine x_goto C 31 d_M_nextRing_152 (by decide) ?_
        refine x_sub [2, 0] rfl ?_
        exact ih _ _ _ hf Kr Kx
    · replace hf := it g3 hf
      refine x_aload_n C d_M_nextRing_43 1 rfl ?_
      refine xg_M_chainMany C wF_M_243 mc_100 kc_100 d_M_nextRing_44 ?_
      refine x_if_ne C 52 d_M_nextRing_47 (by decide) (fun g16 => ?_) (fun g16 => ?_)
      · replace hf := ie g16 hf
        refine x_iload_n C d_M_nextRing_52 0 rfl ?_
        refine x_bipush (v := (-9)) C d_M_nextRing_53 rfl ?_
        refine x_icmp_ne C 83 d_M_nextRing_55 (by decide) (fun g17 => ?_) (fun g17 => ?_)
        · replace hf := ie g17 hf
          refine x_aload_n C d_M_nextRing_83 1 rfl ?_
          refine xg_M_chain C wF_M_44 mc_100 kc_100 d_M_nextRing_84 ?_
          refine x_aload_n C d_M_nextRing_87 1 rfl ?_
          refine xg_M_chainMany C wF_M_243 mc_100 kc_100 d_M_nextRing_88 ?_
          refine x_iload_n C d_M_nextRing_91 0 rfl ?_
          obtain ⟨M18, hM18, hf⟩ := bs hf
          refine x_iast C hM18 mc_111 kc_111 d_M_nextRing_92 ?_
          refine x_aload_n C d_M_nextRing_93 1 rfl ?_
          refine x_dup C d_M_nextRing_94 rfl ?_
          refine xg_M_chainMany C wF_M_243 mc_100 kc_100 d_M_nextRing_95 ?_
          refine x_iconst (v := 1) C d_M_nextRing_98 rfl ?_
          refine x_iadd C d_M_nextRing_99 ?_
          refine xp_M_chainMany (x := ((M18 100 21) + 1)) C wF_M_243 mc_100 kc_100 d_M_nextRing_100 ?_
          refine x_aload_n C d_M_nextRing_103 1 rfl ?_
          obtain ⟨c19, hc19, hf⟩ := bs hf
          refine x_callV (rest := []) (n := 0) C (ct_M_closes E F _ _  hc19) mi_M_closes (by decide) mc_100 ⟨_, cel_M kc_100⟩ rfl rfl wL_M_252 d_M_nextRing_104 rfl rfl (Nat.le_of_ble_eq_true rfl) ?_
          show X _ _ _ _ _ _ _ _ _ _ _ _ _ _ _ _ _ _ _ _ _ [.int c19]
          refine x_istore_n (lv' := [(3, .int c19), (2, .int c2), (0, .ref (ad 100)), (1, .int x1)]) C d_M_nextRing_107 (by decide) rfl ?_
          refine x_iload_n C d_M_nextRing_108 0 rfl ?_
          refine x_if_eq C 122 d_M_nextRing_109 (by decide) (fun g20 => ?_) (fun g20 => ?_)
          · replace hf := it g20 hf
            refine x_aload_n C d_M_nextRing_122 2 rfl ?_
            refine x_dup C d_M_nextRing_123 rfl ?_
            refine xg_M_chainMany C wF_M_243 mc_100 kc_100 d_M_nextRing_124 ?_
            refine x_iload_n C d_M_nextRing_127 0 rfl ?_
            obtain ⟨j21, hj21, hf⟩ := bs hf
            have Jj21 : X p l e 3 s m args below meth c 4 D ad cs A LM V N (up M18 100 21 ((M18 100 21) + 1)) 136 [(0, .ref (ad 100)), (2, .int c2), (3, .int c19)] [.int j21, .int ((up M18 100 21 ((M18 100 21) + 1)) 100 21), .ref (ad 100)] := by
              refine x_isub C d_M_nextRing_136 ?_
              refine xp_M_chainMany (x := (((up M18 100 21 ((M18 100 21) + 1)) 100 21) - j21)) C wF_M_243 mc_100 kc_100 d_M_nextRing_137 ?_
              refine x_iload_n C d_M_nextRing_140 2 rfl ?_
              refine x_if_eq C 150 d_M_nextRing_141 (by decide) (fun g22 => ?_) (fun g22 => ?_)
              · replace hf := it g22 hf
                refine x_iconst (v := 0) C d_M_nextRing_150 rfl ?_
                refine x_istore_n (lv' := [(1, .int 0), (0, .ref (ad 100)), (2, .int c2), (3, .int c19)]) C d_M_nextRing_151 (by decide) rfl ?_
                refine x_goto C 31 d_M_nextRing_152 (by decide) ?_
                refine x_sub [1, 0] rfl ?_
                exact ih _ _ _ hf Kr Kx
              · replace hf := ie g22 hf
                refine x_iload_n C d_M_nextRing_144 1 rfl ?_
                refine x_iconst (v := 1) C d_M_nextRing_145 rfl ?_
                refine x_iadd C d_M_nextRing_146 ?_
                refine x_goto C 151 d_M_nextRing_147 (by decide) ?_
                refine x_istore_n (lv' := [(1, .int (c2 + 1)), (0, .ref (ad 100)), (2, .int c2), (3, .int c19)]) C d_M_nextRing_151 (by decide) rfl ?_
                refine x_goto C 31 d_M_nextRing_152 (by decide) ?_
                refine x_sub [1, 0] rfl ?_
                exact ih _ _ _ hf Kr Kx
            replace hf := hj21
            refine x_if_eq C 135 d_M_nextRing_128 (by decide) (fun g23 => ?_) (fun g23 => ?_)
            · replace hf := it g23 hf
              refine x_iconst (v := 0) C d_M_nextRing_135 rfl ?_
              cases hf
              exact x_sub [2, 1, 0] rfl Jj21
            · replace hf := ie g23 hf
              refine x_iconst (v := 1) C d_M_nextRing_131 rfl ?_
              refine x_goto C 136 d_M_nextRing_132 (by decide) ?_
              cases hf
              exact x_sub [2, 1, 0] rfl Jj21
          · replace hf := ie g20 hf
            refine x_aload_n C d_M_nextRing_112 2 rfl ?_
            refine xg_M_chainMany C wF_M_243 mc_100 kc_100 d_M_nextRing_113 ?_
            refine x_iconst (v := 2) C d_M_nextRing_116 rfl ?_
            refine x_icmp_le C 122 d_M_nextRing_117 (by decide) (fun g24 => ?_) (fun g24 => ?_)
            · replace hf := it g24 hf
              refine x_aload_n C d_M_nextRing_122 2 rfl ?_
              refine x_dup C d_M_nextRing_123 rfl ?_
              refine xg_M_chainMany C wF_M_243 mc_100 kc_100 d_M_nextRing_124 ?_
              refine x_iload_n C d_M_nextRing_127 0 rfl ?_
              obtain ⟨j25, hj25, hf⟩ := bs hf
              have Jj25 : X p l e 3 s m args below meth c 4 D ad cs A LM V N (up M18 100 21 ((M18 100 21) + 1)) 136 [(0, .ref (ad 100)), (2, .int c2), (3, .int c19)] [.int j25, .int ((up M18 100 21 ((M18 100 21) + 1)) 100 21), .ref (ad 100)] := by
                refine x_isub C d_M_nextRing_136 ?_
                refine xp_M_chainMany (x := (((up M18 100 21 ((M18 100 21) + 1)) 100 21) - j25)) C wF_M_243 mc_100 kc_100 d_M_nextRing_137 ?_
                refine x_iload_n C d_M_nextRing_140 2 rfl ?_
                refine x_if_eq C 150 d_M_nextRing_141 (by decide) (fun g26 => ?_) (fun g26 => ?_)
                · replace hf := it g26 hf
                  refine x_iconst (v := 0) C d_M_nextRing_150 rfl ?_
                  refine x_istore_n (lv' := [(1, .int 0), (0, .ref (ad 100)), (2, .int c2), (3, .int c19)]) C d_M_nextRing_151 (by decide) rfl ?_
                  refine x_goto C 31 d_M_nextRing_152 (by decide) ?_
                  refine x_sub [1, 0] rfl ?_
                  exact ih _ _ _ hf Kr Kx
                · replace hf := ie g26 hf
                  refine x_iload_n C d_M_nextRing_144 1 rfl ?_
                  refine x_iconst (v := 1) C d_M_nextRing_145 rfl ?_
                  refine x_iadd C d_M_nextRing_146 ?_
                  refine x_goto C 151 d_M_nextRing_147 (by decide) ?_
                  refine x_istore_n (lv' := [(1, .int (c2 + 1)), (0, .ref (ad 100)), (2, .int c2), (3, .int c19)]) C d_M_nextRing_151 (by decide) rfl ?_
                  refine x_goto C 31 d_M_nextRing_152 (by decide) ?_
                  refine x_sub [1, 0] rfl ?_
                  exact ih _ _ _ hf Kr Kx
              replace hf := hj25
              refine x_if_eq C 135 d_M_nextRing_128 (by decide) (fun g27 => ?_) (fun g27 => ?_)
              · replace hf := it g27 hf
                refine x_iconst (v := 0) C d_M_nextRing_135 rfl ?_
                cases hf
                exact x_sub [2, 1, 0] rfl Jj25
              · replace hf := ie g27 hf
                refine x_iconst (v := 1) C d_M_nextRing_131 rfl ?_
                refine x_goto C 136 d_M_nextRing_132 (by decide) ?_
                cases hf
                exact x_sub [2, 1, 0] rfl Jj25
            · replace hf := ie g24 hf
              refine x_iconst (v := 1) C d_M_nextRing_120 rfl ?_
              cases hf
              obtain ⟨hV, hN⟩ := Kr _ rfl
              exact x_zret C d_M_nextRing_121 (Or.inr rfl) hV hN
        · replace hf := it g17 hf
          refine x_aload_n C d_M_nextRing_58 1 rfl ?_
          refine x_dup C d_M_nextRing_59 rfl ?_
          refine xg_M_chainMany C wF_M_243 mc_100 kc_100 d_M_nextRing_60 ?_
          refine x_iconst (v := 1) C d_M_nextRing_63 rfl ?_
          refine x_isub C d_M_nextRing_64 ?_
          refine xp_M_chainMany (x := ((M 100 21) - 1)) C wF_M_243 mc_100 kc_100 d_M_nextRing_65 ?_
          refine x_aload_n C d_M_nextRing_68 1 rfl ?_
          refine xg_M_chain C wF_M_44 mc_100 kc_100 d_M_nextRing_69 ?_
          refine x_aload_n C d_M_nextRing_72 1 rfl ?_
          refine xg_M_chainMany C wF_M_243 mc_100 kc_100 d_M_nextRing_73 ?_
          obtain ⟨t28, ht28, hf⟩ := bs hf
          refine x_iald C ht28 mc_111 kc_111 d_M_nextRing_76 ?_
          refine x_iconst (v := 1) C d_M_nextRing_77 rfl ?_
          refine x_iadd C d_M_nextRing_78 ?_
          refine x_istore_n (lv' := [(1, .int (t28 + 1)), (2, .int c2), (0, .ref (ad 100))]) C d_M_nextRing_79 (by decide) rfl ?_
          refine x_goto C 152 d_M_nextRing_80 (by decide) ?_
          refine x_goto C 31 d_M_nextRing_152 (by decide) ?_
          refine x_sub [2, 0] rfl ?_
          exact ih _ _ _ hf Kr Kx
      · replace hf := it g16 hf
        refine x_iconst (v := 0) C d_M_nextRing_50 rfl ?_
        cases hf
        obtain ⟨hV, hN⟩ := Kr _ rfl
        exact x_zret C d_M_nextRing_51 (Or.inl rfl) hV hN
set_option maxHeartbeats 4000000 in
set_option maxRecDepth 100000 in
theorem ct_M_nextRing {l : Launch} {D : va_G} {ad : Nat → Nat} {cs : Nat → ClassId} {A : Nat → Prop} (E : Ev ad cs A LM) (F : Nat) (M : Mem)  (R : (Int32 × Mem))  (hf : M_nextRing F M = some R) : Met l y_M_nextRing (Cond.code y_M_nextRing b_M_nextRing 4 (some .boolean) :: wl) (rmD 3) (PX D ad cs A LM [.ref (ad 100)] M) (QX D ad cs A LM (some (.int R.1)) R.2) 0 0 A := by
  refine x_enter (lv := [(0, .ref (ad 100))]) E mi_M_nextRing.1 (Nat.le_of_ble_eq_true rfl) rfl (fun p e s m args below meth c C => ?_)
  unfold M_nextRing at hf
  refine x_iconst (v := 0) C d_M_nextRing_0 rfl ?_
  refine x_istore_n (lv' := [(1, .int 0), (0, .ref (ad 100))]) C d_M_nextRing_1 (by decide) rfl ?_
  refine x_aload_n C d_M_nextRing_2 1 rfl ?_
  refine xg_M_chainMany C wF_M_243 mc_100 kc_100 d_M_nextRing_3 ?_
  obtain ⟨j1, hj1, hf⟩ := bs hf
  have Jj1 : X p l e 3 s m args below meth c 4 D ad cs A LM (some (.int R.1)) R.2 j1.2 31 [(0, .ref (ad 100)), (1, .int j1.1)] [] := by
    obtain ⟨u29, hu29, hf⟩ := bs hf
    refine x_sub [0, 1] rfl ?_
    refine lw_M_nextRing_31 E C F _ _ _ _ hu29 (fun r30 hr30 => ?_) trivial
    · subst hr30
      replace hf := se_l hf
      cases hf
      exact ⟨rfl, rfl⟩
  replace hf := hj1
  refine x_if_le C 31 d_M_nextRing_6 (by decide) (fun g32 => ?_) (fun g32 => ?_)
  · replace hf := it g32 hf
    cases hf
    exact x_sub [1, 0] rfl Jj1
  · replace hf := ie g32 hf
    refine x_aload_n C d_M_nextRing_9 1 rfl ?_
    refine x_dup C d_M_nextRing_10 rfl ?_
    refine xg_M_chainMany C wF_M_243 mc_100 kc_100 d_M_nextRing_11 ?_
    refine x_iconst (v := 1) C d_M_nextRing_14 rfl ?_
    refine x_isub C d_M_nextRing_15 ?_
    refine xp_M_chainMany (x := ((M 100 21) - 1)) C wF_M_243 mc_100 kc_100 d_M_nextRing_16 ?_
    refine x_aload_n C d_M_nextRing_19 1 rfl ?_
    refine xg_M_chain C wF_M_44 mc_100 kc_100 d_M_nextRing_20 ?_
    refine x_aload_n C d_M_nextRing_23 1 rfl ?_
    refine xg_M_chainMany C wF_M_243 mc_100 kc_100 d_M_nextRing_24 ?_
    obtain ⟨t33, ht33, hf⟩ := bs hf
    refine x_iald C ht33 mc_111 kc_111 d_M_nextRing_27 ?_
    refine x_iconst (v := 1) C d_M_nextRing_28 rfl ?_
    refine x_iadd C d_M_nextRing_29 ?_
    refine x_istore_n (lv' := [(1, .int (t33 + 1)), (0, .ref (ad 100))]) C d_M_nextRing_30 (by decide) rfl ?_
    cases hf
    exact x_sub [1, 0] rfl Jj1
set_option maxHeartbeats 4000000 in
set_option maxRecDepth 100000 in
theorem lw_M_leastOfRing_5 {p : Program} {l : Launch} {e : Env} {s : State} {m : MethodId} {args : Array Value} {below : List Frame} {meth : Method} {c : Code} {D : va_G} {ad : Nat → Nat} {cs : Nat → ClassId} {A : Nat → Prop} {V : Option Value} {N : Mem} (E : Ev ad cs A LM) (C : Cx p s m args meth c "KissClearingModel" b_M_leastOfRing 3 (some .int) D ad cs A LM) (F : Nat) (M : Mem)  : ∀ (n : Nat) (x1 : Int32) (x2 : Int32) (u : Int32), L_M_leastOfRing_5 F M n x1 x2 = some u → X p l e 0 s m args below meth c 3 D ad cs A LM V N M 50 [(1, .int u)] [] → X p l e 0 s m args below meth c 3 D ad cs A LM V N M 5 [(0, .ref (ad 100)), (1, .int x1), (2, .int x2)] [] := by
  intro n
  induction n with
  | zero => intro x1 x2 u hf; cases hf
  | succ n ih =>
    intro x1 x2 u hf K
    replace hf : B_M_leastOfRing_5 F M (L_M_leastOfRing_5 F M n) x1 x2 = some u := hf
    unfold B_M_leastOfRing_5 at hf
    refine x_iload_n C d_M_leastOfRing_5 2 rfl ?_
    refine x_aload_n C d_M_leastOfRing_6 0 rfl ?_
    refine xg_M_chainMany C wF_M_243 mc_100 kc_100 d_M_leastOfRing_7 ?_
    refine x_icmp_ge C 50 d_M_leastOfRing_10 (by decide) (fun g1 => ?_) (fun g1 => ?_)
    · replace hf := it g1 hf
      cases hf
      exact x_sub [1] rfl K
    · replace hf := ie g1 hf
      refine x_aload_n C d_M_leastOfRing_13 0 rfl ?_
      refine xg_M_tried C wF_M_41 mc_100 kc_100 d_M_leastOfRing_14 ?_
      refine x_aload_n C d_M_leastOfRing_17 0 rfl ?_
      refine xg_M_chain C wF_M_44 mc_100 kc_100 d_M_leastOfRing_18 ?_
      refine x_iload_n C d_M_leastOfRing_21 2 rfl ?_
      obtain ⟨t2, ht2, hf⟩ := bs hf
      refine x_iald C ht2 mc_111 kc_111 d_M_leastOfRing_22 ?_
      obtain ⟨t3, ht3, hf⟩ := bs hf
      refine x_iald C ht3 mc_110 kc_110 d_M_leastOfRing_23 ?_
      refine x_iload_n C d_M_leastOfRing_24 1 rfl ?_
      refine x_icmp_ge C 42 d_M_leastOfRing_25 (by decide) (fun g4 => ?_) (fun g4 => ?_)
      · replace hf := it g4 hf
        refine x_iload_n C d_M_leastOfRing_42 1 rfl ?_
        refine x_istore_n (lv' := [(1, .int x1), (0, .ref (ad 100)), (2, .int x2)]) C d_M_leastOfRing_43 (by decide) rfl ?_
        refine x_iinc (v := (x2 + 1)) (lv' := [(2, .int (x2 + 1)), (1, .int x1), (0, .ref (ad 100))]) C d_M_leastOfRing_44 2 rfl rfl (by decide) rfl ?_
        refine x_goto C 5 d_M_leastOfRing_47 (by decide) ?_
        refine x_sub [2, 1, 0] rfl ?_
        exact ih _ _ _ hf K
      · replace hf := ie g4 hf
        refine x_aload_n C d_M_leastOfRing_28 0 rfl ?_
        refine xg_M_tried C wF_M_41 mc_100 kc_100 d_M_leastOfRing_29 ?_
        refine x_aload_n C d_M_leastOfRing_32 0 rfl ?_
        refine xg_M_chain C wF_M_44 mc_100 kc_100 d_M_leastOfRing_33 ?_
        refine x_iload_n C d_M_leastOfRing_36 2 rfl ?_
        obtain ⟨t5, ht5, hf⟩ := bs hf
        refine x_iald C ht5 mc_111 kc_111 d_M_leastOfRing_37 ?_
        obtain ⟨t6, ht6, hf⟩ := bs hf
        refine x_iald C ht6 mc_110 kc_110 d_M_leastOfRing_38 ?_
        refine x_goto C 43 d_M_leastOfRing_39 (by decide) ?_
        refine x_istore_n (lv' := [(1, .int t6), (0, .ref (ad 100)), (2, .int x2)]) C d_M_leastOfRing_43 (by decide) rfl ?_
        refine x_iinc (v := (x2 + 1)) (lv' := [(2, .int (x2 + 1)), (1, .int t6), (0, .ref (ad 100))]) C d_M_leastOfRing_44 2 rfl rfl (by decide) rfl ?_
        refine x_goto C 5 d_M_leastOfRing_47 (by decide) ?_
        refine x_sub [2, 1, 0] rfl ?_
        exact ih _ _ _ hf K
set_option maxHeartbeats 4000000 in
set_option maxRecDepth 100000 in
theorem ct_M_leastOfRing {l : Launch} {D : va_G} {ad : Nat → Nat} {cs : Nat → ClassId} {A : Nat → Prop} (E : Ev ad cs A LM) (F : Nat) (M : Mem)  (R : Int32)  (hf : M_leastOfRing F M = some R) : Met l y_M_leastOfRing (Cond.code y_M_leastOfRing b_M_leastOfRing 3 (some .int) :: wl) (rmD 0) (PX D ad cs A LM [.ref (ad 100)] M) (QX D ad cs A LM (some (.int R)) M) 0 0 A := by
  refine x_enter (lv := [(0, .ref (ad 100))]) E mi_M_leastOfRing.1 (Nat.le_of_ble_eq_true rfl) rfl (fun p e s m args below meth c C => ?_)
  unfold M_leastOfRing at hf
  refine x_bipush (v := 99) C d_M_leastOfRing_0 rfl ?_
  refine x_istore_n (lv' := [(1, .int 99), (0, .ref (ad 100))]) C d_M_leastOfRing_2 (by decide) rfl ?_
  refine x_iconst (v := 0) C d_M_leastOfRing_3 rfl ?_
  refine x_istore_n (lv' := [(2, .int 0), (1, .int 99), (0, .ref (ad 100))]) C d_M_leastOfRing_4 (by decide) rfl ?_
  obtain ⟨u7, hu7, hf⟩ := bs hf
  refine x_sub [2, 1, 0] rfl ?_
  refine lw_M_leastOfRing_5 E C F _ _ _ _ _ hu7 ?_
  refine x_iload_n C d_M_leastOfRing_50 0 rfl ?_
  cases hf
  exact x_iret C d_M_leastOfRing_51 rfl rfl
set_option maxHeartbeats 4000000 in
set_option maxRecDepth 100000 in
theorem lw_M_all_24 {p : Program} {l : Launch} {e : Env} {s : State} {m : MethodId} {args : Array Value} {below : List Frame} {meth : Method} {c : Code} {D : va_G} {ad : Nat → Nat} {cs : Nat → ClassId} {A : Nat → Prop} {V : Option Value} {N : Mem} (E : Ev ad cs A LM) (C : Cx p s m args meth c "KissClearingModel" b_M_all 4 (some .int) D ad cs A LM) (F : Nat)  : ∀ (n : Nat) (M : Mem) (x2 : Int32) (u : (Int32 × Mem)), L_M_all_24 F n M x2 = some u → X p l e 4 s m args below meth c 4 D ad cs A LM V N u.2 67 [(2, .int u.1)] [] → X p l e 4 s m args below meth c 4 D ad cs A LM V N M 24 [(0, .ref (ad 100)), (2, .int x2)] [] := by
  intro n
  induction n with
  | zero => intro M x2 u hf; cases hf
  | succ n ih =>
    intro M x2 u hf K
    replace hf : B_M_all_24 F (L_M_all_24 F n) M x2 = some u := hf
    unfold B_M_all_24 at hf
    refine x_aload_n C d_M_all_24 0 rfl ?_
    obtain ⟨c4, hc4, hf⟩ := bs hf
    refine x_callV (rest := []) (n := 0) C (ct_M_nextRing E F _ _  hc4) mi_M_nextRing (by decide) mc_100 ⟨_, cel_M kc_100⟩ rfl rfl wL_M_259 d_M_all_25 rfl rfl (Nat.le_of_ble_eq_true rfl) ?_
    show X _ _ _ _ _ _ _ _ _ _ _ _ _ _ _ _ _ _ _ _ _ [.int c4.1]
    refine x_if_eq C 67 d_M_all_28 (by decide) (fun g5 => ?_) (fun g5 => ?_)
    · replace hf := it g5 hf
      cases hf
      exact x_sub [1] rfl K
    · replace hf := ie g5 hf
      refine x_aload_n C d_M_all_31 0 rfl ?_
      obtain ⟨c6, hc6, hf⟩ := bs hf
      refine x_callV (rest := []) (n := 0) C (ct_M_leastOfRing E F _ _  hc6) mi_M_leastOfRing (by decide) mc_100 ⟨_, cel_M kc_100⟩ rfl rfl wL_M_262 d_M_all_32 rfl rfl (Nat.le_of_ble_eq_true rfl) ?_
      show X _ _ _ _ _ _ _ _ _ _ _ _ _ _ _ _ _ _ _ _ _ [.int c6]
      refine x_aload_n C d_M_all_35 0 rfl ?_
      refine xg_M_chainMany C wF_M_243 mc_100 kc_100 d_M_all_36 ?_
      refine x_imul C d_M_all_39 ?_
      refine x_istore_n (lv' := [(3, .int (c6 * (c4.2 100 21))), (0, .ref (ad 100)), (2, .int x2)]) C d_M_all_40 (by decide) rfl ?_
      refine x_aload_n C d_M_all_41 1 rfl ?_
      refine x_iload_n C d_M_all_42 0 rfl ?_
      refine x_aload_n C d_M_all_43 1 rfl ?_
      refine xg_M_asked C wF_M_60 mc_100 kc_100 d_M_all_44 ?_
      obtain ⟨j7, hj7, hf⟩ := bs hf
      have Jj7 : X p l e 4 s m args below meth c 4 D ad cs A LM V N c4.2 58 [(0, .ref (ad 100)), (2, .int x2)] [.int j7, .ref (ad 100)] := by
        refine xp_M_asked (x := j7) C wF_M_60 mc_100 kc_100 d_M_all_58 ?_
        refine x_iinc (v := (x2 + 1)) (lv' := [(2, .int (x2 + 1)), (0, .ref (ad 100))]) C d_M_all_61 1 rfl rfl (by decide) rfl ?_
        refine x_goto C 24 d_M_all_64 (by decide) ?_
        refine x_sub [1, 0] rfl ?_
        exact ih _ _ _ hf K
      replace hf := hj7
      refine x_icmp_le C 54 d_M_all_47 (by decide) (fun g8 => ?_) (fun g8 => ?_)
      · replace hf := it g8 hf
        refine x_aload_n C d_M_all_54 1 rfl ?_
        refine xg_M_asked C wF_M_60 mc_100 kc_100 d_M_all_55 ?_
        cases hf
        exact x_sub [1, 2] rfl Jj7
      · replace hf := ie g8 hf
        refine x_iload_n C d_M_all_50 0 rfl ?_
        refine x_goto C 58 d_M_all_51 (by decide) ?_
        cases hf
        exact x_sub [1, 2] rfl Jj7
set_option maxHeartbeats 4000000 in
set_option maxRecDepth 100000 in
theorem ct_M_all {l : Launch} {D : va_G} {ad : Nat → Nat} {cs : Nat → ClassId} {A : Nat → Prop} (E : Ev ad cs A LM) (F : Nat) (M : Mem) (x1 : Int32) (R : (Int32 × Mem))  (hf : M_all F M x1 = some R) : Met l y_M_all (Cond.code y_M_all b_M_all 4 (some .int) :: wl) (rmD 4) (PX D ad cs A LM [.ref (ad 100), .int x1] M) (QX D ad cs A LM (some (.int R.1)) R.2) 0 0 A := by
  refine x_enter (lv := [(0, .ref (ad 100)), (1, .int x1)]) E mi_M_all.1 (Nat.le_of_ble_eq_true rfl) rfl (fun p e s m args below meth c C => ?_)
  unfold M_all at hf
  refine x_iload_n C d_M_all_0 1 rfl ?_
  refine x_i2l C d_M_all_1 ?_
  refine x_lconst (v := 0) C d_M_all_2 rfl ?_
  refine x_lconst (v := 1) C d_M_all_3 rfl ?_
  obtain ⟨c1, hc1, hf⟩ := bs hf
  refine x_callS (rest := []) (n := 3) C (ct_M_in E F _ _ _ _ _  hc1) mi_M_in (by decide) wL_M_65 d_M_all_4 rfl rfl (Nat.le_of_ble_eq_true rfl) ?_
  show X _ _ _ _ _ _ _ _ _ _ _ _ _ _ _ _ _ _ _ _ _ [.int c1]
  refine x_if_ne C 12 d_M_all_7 (by decide) (fun g2 => ?_) (fun g2 => ?_)
  · replace hf := ie g2 hf
    refine x_iconst (v := 0) C d_M_all_12 rfl ?_
    refine x_istore_n (lv' := [(2, .int 0), (0, .ref (ad 100)), (1, .int x1)]) C d_M_all_13 (by decide) rfl ?_
    refine x_aload_n C d_M_all_14 1 rfl ?_
    refine x_iconst (v := 0) C d_M_all_15 rfl ?_
    refine xp_M_asked (x := 0) C wF_M_60 mc_100 kc_100 d_M_all_16 ?_
    refine x_aload_n C d_M_all_19 1 rfl ?_
    refine x_iload_n C d_M_all_20 2 rfl ?_
    obtain ⟨c3, hc3, hf⟩ := bs hf
    refine x_callV (rest := []) (n := 1) C (ct_M_beginRings E F _ _ _  hc3) mi_M_beginRings (by decide) mc_100 ⟨_, cel_M kc_100⟩ rfl rfl wL_M_255 d_M_all_21 rfl rfl (Nat.le_of_ble_eq_true rfl) ?_
    show X _ _ _ _ _ _ _ _ _ _ _ _ _ _ _ _ _ _ _ _ _ []
    obtain ⟨u9, hu9, hf⟩ := bs hf
    refine x_sub [1, 0] rfl ?_
    refine lw_M_all_24 E C F _ _ _ _ hu9 ?_
    refine x_iload_n C d_M_all_67 0 rfl ?_
    cases hf
    exact x_iret C d_M_all_68 rfl rfl
  · replace hf := it g2 hf
    refine x_iconst (v := (-1)) C d_M_all_10 rfl ?_
    cases hf
    exact x_iret C d_M_all_11 rfl rfl
set_option maxHeartbeats 4000000 in
set_option maxRecDepth 100000 in
theorem ct_M_isDraft {l : Launch} {D : va_G} {ad : Nat → Nat} {cs : Nat → ClassId} {A : Nat → Prop} (E : Ev ad cs A LM) (F : Nat) (M : Mem) (x1 : Int32) (R : Int32)  (hf : M_isDraft F M x1 = some R) : Met l y_M_isDraft (Cond.code y_M_isDraft b_M_isDraft 2 (some .boolean) :: wl) (rmD 1) (PX D ad cs A LM [.ref (ad 100), .int x1] M) (QX D ad cs A LM (some (.int R)) M) 0 0 A := by
  refine x_enter (lv := [(0, .ref (ad 100)), (1, .int x1)]) E mi_M_isDraft.1 (Nat.le_of_ble_eq_true rfl) rfl (fun p e s m args below meth c C => ?_)
  unfold M_isDraft at hf
  refine x_iload_n C d_M_isDraft_0 1 rfl ?_
  refine x_i2l C d_M_isDraft_1 ?_
  refine x_lconst (v := 0) C d_M_isDraft_2 rfl ?_
  refine x_aload_n C d_M_isDraft_3 0 rfl ?_
  refine xg_M_row C wF_M_7 mc_100 kc_100 d_M_isDraft_4 ?_
  refine x_iconst (v := 1) C d_M_isDraft_7 rfl ?_
  refine x_iald C (ac_101_1 M) mc_101 kc_101 d_M_isDraft_8 ?_
  refine x_iconst (v := 1) C d_M_isDraft_9 rfl ?_
  refine x_isub C d_M_isDraft_10 ?_
  refine x_i2l C d_M_isDraft_11 ?_
  obtain ⟨c1, hc1, hf⟩ := bs hf
  refine x_callS (rest := []) (n := 3) C (ct_M_in E F _ _ _ _ _  hc1) mi_M_in (by decide) wL_M_65 d_M_isDraft_12 rfl rfl (Nat.le_of_ble_eq_true rfl) ?_
  show X _ _ _ _ _ _ _ _ _ _ _ _ _ _ _ _ _ _ _ _ _ [.int c1]
  obtain ⟨t2, ht2, hf⟩ := bs hf
  obtain ⟨hb, hq⟩ := gd ht2
  cases hf
  exact x_zret C d_M_isDraft_15 hb (congrArg (fun z => some (Value.int z)) hq) rfl
set_option maxHeartbeats 4000000 in
set_option maxRecDepth 100000 in
theorem lw_M_areDrafts_4 {p : Program} {l : Launch} {e : Env} {s : State} {m : MethodId} {args : Array Value} {below : List Frame} {meth : Method} {c : Code} {D : va_G} {ad : Nat → Nat} {cs : Nat → ClassId} {A : Nat → Prop} {V : Option Value} {N : Mem} (E : Ev ad cs A LM) (C : Cx p s m args meth c "KissClearingModel" b_M_areDrafts 4 (some .boolean) D ad cs A LM) (F : Nat) (M : Mem) (x1 : Int32) : ∀ (n : Nat) (x2 : Int32) (x3 : Int32) (u : Int32), L_M_areDrafts_4 F M x1 n x2 x3 = some u → X p l e 2 s m args below meth c 4 D ad cs A LM V N M 48 [(2, .int u)] [] → X p l e 2 s m args below meth c 4 D ad cs A LM V N M 4 [(0, .ref (ad 100)), (1, .int x1), (2, .int x2), (3, .int x3)] [] := by
  intro n
  induction n with
  | zero => intro x2 x3 u hf; cases hf
  | succ n ih =>
    intro x2 x3 u hf K
    replace hf : B_M_areDrafts_4 F M x1 (L_M_areDrafts_4 F M x1 n) x2 x3 = some u := hf
    unfold B_M_areDrafts_4 at hf
    refine x_iload_n C d_M_areDrafts_4 3 rfl ?_
    refine x_aload_n C d_M_areDrafts_5 0 rfl ?_
    refine xg_M_sizes C wF_M_16 mc_100 kc_100 d_M_areDrafts_6 ?_
    refine x_iload_n C d_M_areDrafts_9 1 rfl ?_
    obtain ⟨t1, ht1, hf⟩ := bs hf
    refine x_iald C ht1 mc_103 kc_103 d_M_areDrafts_10 ?_
    refine x_icmp_ge C 48 d_M_areDrafts_11 (by decide) (fun g2 => ?_) (fun g2 => ?_)
    · replace hf := it g2 hf
      cases hf
      exact x_sub [2] rfl K
    · replace hf := ie g2 hf
      refine x_iload_n C d_M_areDrafts_14 2 rfl ?_
      refine x_if_eq C 40 d_M_areDrafts_15 (by decide) (fun g3 => ?_) (fun g3 => ?_)
      · replace hf := it g3 hf
        refine x_iconst (v := 0) C d_M_areDrafts_40 rfl ?_
        refine x_istore_n (lv' := [(2, .int 0), (0, .ref (ad 100)), (1, .int x1), (3, .int x3)]) C d_M_areDrafts_41 (by decide) rfl ?_
        refine x_iinc (v := (x3 + 1)) (lv' := [(3, .int (x3 + 1)), (2, .int 0), (0, .ref (ad 100)), (1, .int x1)]) C d_M_areDrafts_42 3 rfl rfl (by decide) rfl ?_
        refine x_goto C 4 d_M_areDrafts_45 (by decide) ?_
        refine x_sub [2, 3, 1, 0] rfl ?_
        exact ih _ _ _ hf K
      · replace hf := ie g3 hf
        refine x_aload_n C d_M_areDrafts_18 0 rfl ?_
        refine x_aload_n C d_M_areDrafts_19 0 rfl ?_
        refine xg_M_items C wF_M_19 mc_100 kc_100 d_M_areDrafts_20 ?_
        refine x_bipush (v := 40) C d_M_areDrafts_23 rfl ?_
        refine x_iload_n C d_M_areDrafts_25 1 rfl ?_
        refine x_imul C d_M_areDrafts_26 ?_
        refine x_iload_n C d_M_areDrafts_27 3 rfl ?_
        refine x_iadd C d_M_areDrafts_28 ?_
        obtain ⟨t4, ht4, hf⟩ := bs hf
        refine x_iald C ht4 mc_104 kc_104 d_M_areDrafts_29 ?_
        obtain ⟨c5, hc5, hf⟩ := bs hf
        refine x_callV (rest := []) (n := 1) C (ct_M_isDraft E F _ _ _  hc5) mi_M_isDraft (by decide) mc_100 ⟨_, cel_M kc_100⟩ rfl rfl wL_M_179 d_M_areDrafts_30 rfl rfl (Nat.le_of_ble_eq_true rfl) ?_
        show X _ _ _ _ _ _ _ _ _ _ _ _ _ _ _ _ _ _ _ _ _ [.int c5]
        refine x_if_eq C 40 d_M_areDrafts_33 (by decide) (fun g6 => ?_) (fun g6 => ?_)
        · replace hf := it g6 hf
          refine x_iconst (v := 0) C d_M_areDrafts_40 rfl ?_
          refine x_istore_n (lv' := [(2, .int 0), (0, .ref (ad 100)), (1, .int x1), (3, .int x3)]) C d_M_areDrafts_41 (by decide) rfl ?_
          refine x_iinc (v := (x3 + 1)) (lv' := [(3, .int (x3 + 1)), (2, .int 0), (0, .ref (ad 100)), (1, .int x1)]) C d_M_areDrafts_42 3 rfl rfl (by decide) rfl ?_
          refine x_goto C 4 d_M_areDrafts_45 (by decide) ?_
          refine x_sub [2, 3, 1, 0] rfl ?_
          exact ih _ _ _ hf K
        · replace hf := ie g6 hf
          refine x_iconst (v := 1) C d_M_areDrafts_36 rfl ?_
          refine x_goto C 41 d_M_areDrafts_37 (by decide) ?_
          refine x_istore_n (lv' := [(2, .int 1), (0, .ref (ad 100)), (1, .int x1), (3, .int x3)]) C d_M_areDrafts_41 (by decide) rfl ?_
          refine x_iinc (v := (x3 + 1)) (lv' := [(3, .int (x3 + 1)), (2, .int 1), (0, .ref (ad 100)), (1, .int x1)]) C d_M_areDrafts_42 3 rfl rfl (by decide) rfl ?_
          refine x_goto C 4 d_M_areDrafts_45 (by decide) ?_
          refine x_sub [2, 3, 1, 0] rfl ?_
          exact ih _ _ _ hf K
set_option maxHeartbeats 4000000 in
set_option maxRecDepth 100000 in
theorem ct_M_areDrafts {l : Launch} {D : va_G} {ad : Nat → Nat} {cs : Nat → ClassId} {A : Nat → Prop} (E : Ev ad cs A LM) (F : Nat) (M : Mem) (x1 : Int32) (R : Int32)  (hf : M_areDrafts F M x1 = some R) : Met l y_M_areDrafts (Cond.code y_M_areDrafts b_M_areDrafts 4 (some .boolean) :: wl) (rmD 2) (PX D ad cs A LM [.ref (ad 100), .int x1] M) (QX D ad cs A LM (some (.int R)) M) 0 0 A := by
  refine x_enter (lv := [(0, .ref (ad 100)), (1, .int x1)]) E mi_M_areDrafts.1 (Nat.le_of_ble_eq_true rfl) rfl (fun p e s m args below meth c C => ?_)
  unfold M_areDrafts at hf
  refine x_iconst (v := 1) C d_M_areDrafts_0 rfl ?_
  refine x_istore_n (lv' := [(2, .int 1), (0, .ref (ad 100)), (1, .int x1)]) C d_M_areDrafts_1 (by decide) rfl ?_
  refine x_iconst (v := 0) C d_M_areDrafts_2 rfl ?_
  refine x_istore_n (lv' := [(3, .int 0), (2, .int 1), (0, .ref (ad 100)), (1, .int x1)]) C d_M_areDrafts_3 (by decide) rfl ?_
  obtain ⟨u7, hu7, hf⟩ := bs hf
  refine x_sub [2, 3, 1, 0] rfl ?_
  refine lw_M_areDrafts_4 E C F _ _ _ _ _ _ hu7 ?_
  refine x_iload_n C d_M_areDrafts_48 0 rfl ?_
  obtain ⟨t8, ht8, hf⟩ := bs hf
  obtain ⟨hb, hq⟩ := gd ht8
  cases hf
  exact x_zret C d_M_areDrafts_49 hb (congrArg (fun z => some (Value.int z)) hq) rfl
set_option maxHeartbeats 4000000 in
set_option maxRecDepth 100000 in
theorem ct_M_has {l : Launch} {D : va_G} {ad : Nat → Nat} {cs : Nat → ClassId} {A : Nat → Prop} (E : Ev ad cs A LM) (F : Nat) (M : Mem) (x0 : Int32) (x1 : Int32) (R : Int32)  (hf : M_has F M x0 x1 = some R) : Met l y_M_has (Cond.code y_M_has b_M_has 2 (some .boolean) :: wl) (rmD 0) (PX D ad cs A LM [.int x0, .int x1] M) (QX D ad cs A LM (some (.int R)) M) 0 0 A := by
  refine x_enter (lv := [(0, .int x0), (1, .int x1)]) E mi_M_has.1 (Nat.le_of_ble_eq_true rfl) rfl (fun p e s m args below meth c C => ?_)
  unfold M_has at hf
  refine x_iload_n C d_M_has_0 0 rfl ?_
  refine x_iload_n C d_M_has_1 1 rfl ?_
  refine x_ishr C d_M_has_2 ?_
  refine x_iconst (v := 1) C d_M_has_3 rfl ?_
  refine x_iand C d_M_has_4 ?_
  refine x_iconst (v := 1) C d_M_has_5 rfl ?_
  refine x_icmp_ne C 13 d_M_has_6 (by decide) (fun g1 => ?_) (fun g1 => ?_)
  · replace hf := ie g1 hf
    refine x_iconst (v := 0) C d_M_has_13 rfl ?_
    cases hf
    exact x_zret C d_M_has_14 (Or.inl rfl) rfl rfl
  · replace hf := it g1 hf
    refine x_iconst (v := 1) C d_M_has_9 rfl ?_
    refine x_goto C 14 d_M_has_10 (by decide) ?_
    cases hf
    exact x_zret C d_M_has_14 (Or.inr rfl) rfl rfl
set_option maxHeartbeats 4000000 in
set_option maxRecDepth 100000 in
theorem ct_M_isOpen {l : Launch} {D : va_G} {ad : Nat → Nat} {cs : Nat → ClassId} {A : Nat → Prop} (E : Ev ad cs A LM) (F : Nat) (M : Mem) (x1 : Int32) (R : Int32)  (hf : M_isOpen F M x1 = some R) : Met l y_M_isOpen (Cond.code y_M_isOpen b_M_isOpen 2 (some .boolean) :: wl) (rmD 1) (PX D ad cs A LM [.ref (ad 100), .int x1] M) (QX D ad cs A LM (some (.int R)) M) 0 0 A := by
  refine x_enter (lv := [(0, .ref (ad 100)), (1, .int x1)]) E mi_M_isOpen.1 (Nat.le_of_ble_eq_true rfl) rfl (fun p e s m args below meth c C => ?_)
  unfold M_isOpen at hf
  refine x_aload_n C d_M_isOpen_0 0 rfl ?_
  refine x_iload_n C d_M_isOpen_1 1 rfl ?_
  refine x_iconst (v := 3) C d_M_isOpen_2 rfl ?_
  obtain ⟨c1, hc1, hf⟩ := bs hf
  refine x_callV (rest := []) (n := 2) C (ct_M_of E F _ _ _ _  hc1) mi_M_of (by decide) mc_100 ⟨_, cel_M kc_100⟩ rfl rfl wL_M_146 d_M_isOpen_3 rfl rfl (Nat.le_of_ble_eq_true rfl) ?_
  show X _ _ _ _ _ _ _ _ _ _ _ _ _ _ _ _ _ _ _ _ _ [.int c1]
  refine x_if_le C 13 d_M_isOpen_6 (by decide) (fun g2 => ?_) (fun g2 => ?_)
  · replace hf := it g2 hf
    refine x_iconst (v := 0) C d_M_isOpen_13 rfl ?_
    cases hf
    exact x_zret C d_M_isOpen_14 (Or.inl rfl) rfl rfl
  · replace hf := ie g2 hf
    refine x_iconst (v := 1) C d_M_isOpen_9 rfl ?_
    refine x_goto C 14 d_M_isOpen_10 (by decide) ?_
    cases hf
    exact x_zret C d_M_isOpen_14 (Or.inr rfl) rfl rfl
set_option maxHeartbeats 4000000 in
set_option maxRecDepth 100000 in
theorem lw_M_areOpen_4 {p : Program} {l : Launch} {e : Env} {s : State} {m : MethodId} {args : Array Value} {below : List Frame} {meth : Method} {c : Code} {D : va_G} {ad : Nat → Nat} {cs : Nat → ClassId} {A : Nat → Prop} {V : Option Value} {N : Mem} (E : Ev ad cs A LM) (C : Cx p s m args meth c "KissClearingModel" b_M_areOpen 4 (some .boolean) D ad cs A LM) (F : Nat) (M : Mem) (x1 : Int32) : ∀ (n : Nat) (x2 : Int32) (x3 : Int32) (u : Int32), L_M_areOpen_4 F M x1 n x2 x3 = some u → X p l e 2 s m args below meth c 4 D ad cs A LM V N M 46 [(2, .int u)] [] → X p l e 2 s m args below meth c 4 D ad cs A LM V N M 4 [(0, .ref (ad 100)), (1, .int x1), (2, .int x2), (3, .int x3)] [] := by
  intro n
  induction n with
  | zero => intro x2 x3 u hf; cases hf
  | succ n ih =>
    intro x2 x3 u hf K
    replace hf : B_M_areOpen_4 F M x1 (L_M_areOpen_4 F M x1 n) x2 x3 = some u := hf
    unfold B_M_areOpen_4 at hf
    refine x_iload_n C d_M_areOpen_4 3 rfl ?_
    refine x_aload_n C d_M_areOpen_5 0 rfl ?_
    refine xg_M_row C wF_M_7 mc_100 kc_100 d_M_areOpen_6 ?_
    refine x_iconst (v := 1) C d_M_areOpen_9 rfl ?_
    refine x_iald C (ac_101_1 M) mc_101 kc_101 d_M_areOpen_10 ?_
    refine x_icmp_ge C 46 d_M_areOpen_11 (by decide) (fun g1 => ?_) (fun g1 => ?_)
    · replace hf := it g1 hf
      cases hf
      exact x_sub [2] rfl K
    · replace hf := ie g1 hf
      refine x_iload_n C d_M_areOpen_14 2 rfl ?_
      refine x_if_eq C 38 d_M_areOpen_15 (by decide) (fun g2 => ?_) (fun g2 => ?_)
      · replace hf := it g2 hf
        refine x_iconst (v := 0) C d_M_areOpen_38 rfl ?_
        refine x_istore_n (lv' := [(2, .int 0), (0, .ref (ad 100)), (1, .int x1), (3, .int x3)]) C d_M_areOpen_39 (by decide) rfl ?_
        refine x_iinc (v := (x3 + 1)) (lv' := [(3, .int (x3 + 1)), (2, .int 0), (0, .ref (ad 100)), (1, .int x1)]) C d_M_areOpen_40 3 rfl rfl (by decide) rfl ?_
        refine x_goto C 4 d_M_areOpen_43 (by decide) ?_
        refine x_sub [2, 3, 1, 0] rfl ?_
        exact ih _ _ _ hf K
      · replace hf := ie g2 hf
        refine x_iload_n C d_M_areOpen_18 1 rfl ?_
        refine x_iload_n C d_M_areOpen_19 3 rfl ?_
        obtain ⟨c3, hc3, hf⟩ := bs hf
        refine x_callS (rest := []) (n := 2) C (ct_M_has E F _ _ _ _  hc3) mi_M_has (by decide) wL_M_152 d_M_areOpen_20 rfl rfl (Nat.le_of_ble_eq_true rfl) ?_
        show X _ _ _ _ _ _ _ _ _ _ _ _ _ _ _ _ _ _ _ _ _ [.int c3]
        refine x_if_eq C 34 d_M_areOpen_23 (by decide) (fun g4 => ?_) (fun g4 => ?_)
        · replace hf := it g4 hf
          refine x_iconst (v := 1) C d_M_areOpen_34 rfl ?_
          refine x_goto C 39 d_M_areOpen_35 (by decide) ?_
          refine x_istore_n (lv' := [(2, .int 1), (0, .ref (ad 100)), (1, .int x1), (3, .int x3)]) C d_M_areOpen_39 (by decide) rfl ?_
          refine x_iinc (v := (x3 + 1)) (lv' := [(3, .int (x3 + 1)), (2, .int 1), (0, .ref (ad 100)), (1, .int x1)]) C d_M_areOpen_40 3 rfl rfl (by decide) rfl ?_
          refine x_goto C 4 d_M_areOpen_43 (by decide) ?_
          refine x_sub [2, 3, 1, 0] rfl ?_
          exact ih _ _ _ hf K
        · replace hf := ie g4 hf
          refine x_aload_n C d_M_areOpen_26 0 rfl ?_
          refine x_iload_n C d_M_areOpen_27 3 rfl ?_
          obtain ⟨c5, hc5, hf⟩ := bs hf
          refine x_callV (rest := []) (n := 1) C (ct_M_isOpen E F _ _ _  hc5) mi_M_isOpen (by decide) mc_100 ⟨_, cel_M kc_100⟩ rfl rfl wL_M_156 d_M_areOpen_28 rfl rfl (Nat.le_of_ble_eq_true rfl) ?_
          show X _ _ _ _ _ _ _ _ _ _ _ _ _ _ _ _ _ _ _ _ _ [.int c5]
          refine x_if_eq C 38 d_M_areOpen_31 (by decide) (fun g6 => ?_) (fun g6 => ?_)
          · replace hf := it g6 hf
            refine x_iconst (v := 0) C d_M_areOpen_38 rfl ?_
            refine x_istore_n (lv' := [(2, .int 0), (0, .ref (ad 100)), (1, .int x1), (3, .int x3)]) C d_M_areOpen_39 (by decide) rfl ?_
            refine x_iinc (v := (x3 + 1)) (lv' := [(3, .int (x3 + 1)), (2, .int 0), (0, .ref (ad 100)), (1, .int x1)]) C d_M_areOpen_40 3 rfl rfl (by decide) rfl ?_
            refine x_goto C 4 d_M_areOpen_43 (by decide) ?_
            refine x_sub [2, 3, 1, 0] rfl ?_
            exact ih _ _ _ hf K
          · replace hf := ie g6 hf
            refine x_iconst (v := 1) C d_M_areOpen_34 rfl ?_
            refine x_goto C 39 d_M_areOpen_35 (by decide) ?_
            refine x_istore_n (lv' := [(2, .int 1), (0, .ref (ad 100)), (1, .int x1), (3, .int x3)]) C d_M_areOpen_39 (by decide) rfl ?_
            refine x_iinc (v := (x3 + 1)) (lv' := [(3, .int (x3 + 1)), (2, .int 1), (0, .ref (ad 100)), (1, .int x1)]) C d_M_areOpen_40 3 rfl rfl (by decide) rfl ?_
            refine x_goto C 4 d_M_areOpen_43 (by decide) ?_
            refine x_sub [2, 3, 1, 0] rfl ?_
            exact ih _ _ _ hf K
set_option maxHeartbeats 4000000 in
set_option maxRecDepth 100000 in
theorem ct_M_areOpen {l : Launch} {D : va_G} {ad : Nat → Nat} {cs : Nat → ClassId} {A : Nat → Prop} (E : Ev ad cs A LM) (F : Nat) (M : Mem) (x1 : Int32) (R : Int32)  (hf : M_areOpen F M x1 = some R) : Met l y_M_areOpen (Cond.code y_M_areOpen b_M_areOpen 4 (some .boolean) :: wl) (rmD 2) (PX D ad cs A LM [.ref (ad 100), .int x1] M) (QX D ad cs A LM (some (.int R)) M) 0 0 A := by
  refine x_enter (lv := [(0, .ref (ad 100)), (1, .int x1)]) E mi_M_areOpen.1 (Nat.le_of_ble_eq_true rfl) rfl (fun p e s m args below meth c C => ?_)
  unfold M_areOpen at hf
  refine x_iconst (v := 1) C d_M_areOpen_0 rfl ?_
  refine x_istore_n (lv' := [(2, .int 1), (0, .ref (ad 100)), (1, .int x1)]) C d_M_areOpen_1 (by decide) rfl ?_
  refine x_iconst (v := 0) C d_M_areOpen_2 rfl ?_
  refine x_istore_n (lv' := [(3, .int 0), (2, .int 1), (0, .ref (ad 100)), (1, .int x1)]) C d_M_areOpen_3 (by decide) rfl ?_
  obtain ⟨u7, hu7, hf⟩ := bs hf
  refine x_sub [2, 3, 1, 0] rfl ?_
  refine lw_M_areOpen_4 E C F _ _ _ _ _ _ hu7 ?_
  refine x_iload_n C d_M_areOpen_46 0 rfl ?_
  obtain ⟨t8, ht8, hf⟩ := bs hf
  obtain ⟨hb, hq⟩ := gd ht8
  cases hf
  exact x_zret C d_M_areOpen_47 hb (congrArg (fun z => some (Value.int z)) hq) rfl
set_option maxHeartbeats 4000000 in
set_option maxRecDepth 100000 in
theorem lw_M_areRates_4 {p : Program} {l : Launch} {e : Env} {s : State} {m : MethodId} {args : Array Value} {below : List Frame} {meth : Method} {c : Code} {D : va_G} {ad : Nat → Nat} {cs : Nat → ClassId} {A : Nat → Prop} {V : Option Value} {N : Mem} (E : Ev ad cs A LM) (C : Cx p s m args meth c "KissClearingModel" b_M_areRates 4 (some .boolean) D ad cs A LM) (F : Nat) (M : Mem) (x1 : Int32) : ∀ (n : Nat) (x2 : Int32) (x3 : Int32) (u : Int32), L_M_areRates_4 F M x1 n x2 x3 = some u → X p l e 1 s m args below meth c 4 D ad cs A LM V N M 48 [(2, .int u)] [] → X p l e 1 s m args below meth c 4 D ad cs A LM V N M 4 [(0, .ref (ad 100)), (1, .int x1), (2, .int x2), (3, .int x3)] [] := by
  intro n
  induction n with
  | zero => intro x2 x3 u hf; cases hf
  | succ n ih =>
    intro x2 x3 u hf K
    replace hf : B_M_areRates_4 F M x1 (L_M_areRates_4 F M x1 n) x2 x3 = some u := hf
    unfold B_M_areRates_4 at hf
    refine x_iload_n C d_M_areRates_4 3 rfl ?_
    refine x_bipush (v := 6) C d_M_areRates_5 rfl ?_
    refine x_icmp_ge C 48 d_M_areRates_7 (by decide) (fun g1 => ?_) (fun g1 => ?_)
    · replace hf := it g1 hf
      cases hf
      exact x_sub [2] rfl K
    · replace hf := ie g1 hf
      refine x_iload_n C d_M_areRates_10 2 rfl ?_
      refine x_if_eq C 40 d_M_areRates_11 (by decide) (fun g2 => ?_) (fun g2 => ?_)
      · replace hf := it g2 hf
        refine x_iconst (v := 0) C d_M_areRates_40 rfl ?_
        refine x_istore_n (lv' := [(2, .int 0), (0, .ref (ad 100)), (1, .int x1), (3, .int x3)]) C d_M_areRates_41 (by decide) rfl ?_
        refine x_iinc (v := (x3 + 1)) (lv' := [(3, .int (x3 + 1)), (2, .int 0), (0, .ref (ad 100)), (1, .int x1)]) C d_M_areRates_42 3 rfl rfl (by decide) rfl ?_
        refine x_goto C 4 d_M_areRates_45 (by decide) ?_
        refine x_sub [2, 3, 1, 0] rfl ?_
        exact ih _ _ _ hf K
      · replace hf := ie g2 hf
        refine x_aload_n C d_M_areRates_14 0 rfl ?_
        refine xg_M_items C wF_M_19 mc_100 kc_100 d_M_areRates_15 ?_
        refine x_bipush (v := 40) C d_M_areRates_18 rfl ?_
        refine x_iload_n C d_M_areRates_20 1 rfl ?_
        refine x_imul C d_M_areRates_21 ?_
        refine x_iload_n C d_M_areRates_22 3 rfl ?_
        refine x_iadd C d_M_areRates_23 ?_
        obtain ⟨t3, ht3, hf⟩ := bs hf
        refine x_iald C ht3 mc_104 kc_104 d_M_areRates_24 ?_
        refine x_i2l C d_M_areRates_25 ?_
        refine x_lconst (v := 1) C d_M_areRates_26 rfl ?_
        refine x_ldc2 C wJ_M_292 d_M_areRates_27 ?_
        obtain ⟨c4, hc4, hf⟩ := bs hf
        refine x_callS (rest := []) (n := 3) C (ct_M_in E F _ _ _ _ _  hc4) mi_M_in (by decide) wL_M_65 d_M_areRates_30 rfl rfl (Nat.le_of_ble_eq_true rfl) ?_
        show X _ _ _ _ _ _ _ _ _ _ _ _ _ _ _ _ _ _ _ _ _ [.int c4]
        refine x_if_eq C 40 d_M_areRates_33 (by decide) (fun g5 => ?_) (fun g5 => ?_)
        · replace hf := it g5 hf
          refine x_iconst (v := 0) C d_M_areRates_40 rfl ?_
          refine x_istore_n (lv' := [(2, .int 0), (0, .ref (ad 100)), (1, .int x1), (3, .int x3)]) C d_M_areRates_41 (by decide) rfl ?_
          refine x_iinc (v := (x3 + 1)) (lv' := [(3, .int (x3 + 1)), (2, .int 0), (0, .ref (ad 100)), (1, .int x1)]) C d_M_areRates_42 3 rfl rfl (by decide) rfl ?_
          refine x_goto C 4 d_M_areRates_45 (by decide) ?_
          refine x_sub [2, 3, 1, 0] rfl ?_
          exact ih _ _ _ hf K
        · replace hf := ie g5 hf
          refine x_iconst (v := 1) C d_M_areRates_36 rfl ?_
          refine x_goto C 41 d_M_areRates_37 (by decide) ?_
          refine x_istore_n (lv' := [(2, .int 1), (0, .ref (ad 100)), (1, .int x1), (3, .int x3)]) C d_M_areRates_41 (by decide) rfl ?_
          refine x_iinc (v := (x3 + 1)) (lv' := [(3, .int (x3 + 1)), (2, .int 1), (0, .ref (ad 100)), (1, .int x1)]) C d_M_areRates_42 3 rfl rfl (by decide) rfl ?_
          refine x_goto C 4 d_M_areRates_45 (by decide) ?_
          refine x_sub [2, 3, 1, 0] rfl ?_
          exact ih _ _ _ hf K
set_option maxHeartbeats 4000000 in
set_option maxRecDepth 100000 in
theorem ct_M_areRates {l : Launch} {D : va_G} {ad : Nat → Nat} {cs : Nat → ClassId} {A : Nat → Prop} (E : Ev ad cs A LM) (F : Nat) (M : Mem) (x1 : Int32) (R : Int32)  (hf : M_areRates F M x1 = some R) : Met l y_M_areRates (Cond.code y_M_areRates b_M_areRates 4 (some .boolean) :: wl) (rmD 1) (PX D ad cs A LM [.ref (ad 100), .int x1] M) (QX D ad cs A LM (some (.int R)) M) 0 0 A := by
  refine x_enter (lv := [(0, .ref (ad 100)), (1, .int x1)]) E mi_M_areRates.1 (Nat.le_of_ble_eq_true rfl) rfl (fun p e s m args below meth c C => ?_)
  unfold M_areRates at hf
  refine x_iconst (v := 1) C d_M_areRates_0 rfl ?_
  refine x_istore_n (lv' := [(2, .int 1), (0, .ref (ad 100)), (1, .int x1)]) C d_M_areRates_1 (by decide) rfl ?_
  refine x_iconst (v := 0) C d_M_areRates_2 rfl ?_
  refine x_istore_n (lv' := [(3, .int 0), (2, .int 1), (0, .ref (ad 100)), (1, .int x1)]) C d_M_areRates_3 (by decide) rfl ?_
  obtain ⟨u6, hu6, hf⟩ := bs hf
  refine x_sub [2, 3, 1, 0] rfl ?_
  refine lw_M_areRates_4 E C F _ _ _ _ _ _ hu6 ?_
  refine x_iload_n C d_M_areRates_48 0 rfl ?_
  obtain ⟨t7, ht7, hf⟩ := bs hf
  obtain ⟨hb, hq⟩ := gd ht7
  cases hf
  exact x_zret C d_M_areRates_49 hb (congrArg (fun z => some (Value.int z)) hq) rfl
set_option maxHeartbeats 4000000 in
set_option maxRecDepth 100000 in
theorem ct_M_isPerson {l : Launch} {D : va_G} {ad : Nat → Nat} {cs : Nat → ClassId} {A : Nat → Prop} (E : Ev ad cs A LM) (F : Nat) (M : Mem) (x1 : Int32) (R : Int32)  (hf : M_isPerson F M x1 = some R) : Met l y_M_isPerson (Cond.code y_M_isPerson b_M_isPerson 2 (some .boolean) :: wl) (rmD 1) (PX D ad cs A LM [.ref (ad 100), .int x1] M) (QX D ad cs A LM (some (.int R)) M) 0 0 A := by
  refine x_enter (lv := [(0, .ref (ad 100)), (1, .int x1)]) E mi_M_isPerson.1 (Nat.le_of_ble_eq_true rfl) rfl (fun p e s m args below meth c C => ?_)
  unfold M_isPerson at hf
  refine x_iload_n C d_M_isPerson_0 1 rfl ?_
  refine x_i2l C d_M_isPerson_1 ?_
  refine x_lconst (v := 0) C d_M_isPerson_2 rfl ?_
  refine x_aload_n C d_M_isPerson_3 0 rfl ?_
  refine xg_M_persons C wF_M_136 mc_100 kc_100 d_M_isPerson_4 ?_
  refine x_iconst (v := 1) C d_M_isPerson_7 rfl ?_
  refine x_isub C d_M_isPerson_8 ?_
  refine x_i2l C d_M_isPerson_9 ?_
  obtain ⟨c1, hc1, hf⟩ := bs hf
  refine x_callS (rest := []) (n := 3) C (ct_M_in E F _ _ _ _ _  hc1) mi_M_in (by decide) wL_M_65 d_M_isPerson_10 rfl rfl (Nat.le_of_ble_eq_true rfl) ?_
  show X _ _ _ _ _ _ _ _ _ _ _ _ _ _ _ _ _ _ _ _ _ [.int c1]
  obtain ⟨t2, ht2, hf⟩ := bs hf
  obtain ⟨hb, hq⟩ := gd ht2
  cases hf
  exact x_zret C d_M_isPerson_13 hb (congrArg (fun z => some (Value.int z)) hq) rfl
set_option maxHeartbeats 4000000 in
set_option maxRecDepth 100000 in
theorem ct_M_areTwo {l : Launch} {D : va_G} {ad : Nat → Nat} {cs : Nat → ClassId} {A : Nat → Prop} (E : Ev ad cs A LM) (F : Nat) (M : Mem) (x1 : Int32) (x2 : Int32) (R : Int32)  (hf : M_areTwo F M x1 x2 = some R) : Met l y_M_areTwo (Cond.code y_M_areTwo b_M_areTwo 3 (some .boolean) :: wl) (rmD 2) (PX D ad cs A LM [.ref (ad 100), .int x1, .int x2] M) (QX D ad cs A LM (some (.int R)) M) 0 0 A := by
  refine x_enter (lv := [(0, .ref (ad 100)), (1, .int x1), (2, .int x2)]) E mi_M_areTwo.1 (Nat.le_of_ble_eq_true rfl) rfl (fun p e s m args below meth c C => ?_)
  unfold M_areTwo at hf
  refine x_aload_n C d_M_areTwo_0 0 rfl ?_
  refine x_iload_n C d_M_areTwo_1 1 rfl ?_
  obtain ⟨c1, hc1, hf⟩ := bs hf
  refine x_callV (rest := []) (n := 1) C (ct_M_isPerson E F _ _ _  hc1) mi_M_isPerson (by decide) mc_100 ⟨_, cel_M kc_100⟩ rfl rfl wL_M_143 d_M_areTwo_2 rfl rfl (Nat.le_of_ble_eq_true rfl) ?_
  show X _ _ _ _ _ _ _ _ _ _ _ _ _ _ _ _ _ _ _ _ _ [.int c1]
  refine x_if_eq C 25 d_M_areTwo_5 (by decide) (fun g2 => ?_) (fun g2 => ?_)
  · replace hf := it g2 hf
    refine x_iconst (v := 0) C d_M_areTwo_25 rfl ?_
    cases hf
    exact x_zret C d_M_areTwo_26 (Or.inl rfl) rfl rfl
  · replace hf := ie g2 hf
    refine x_aload_n C d_M_areTwo_8 0 rfl ?_
    refine x_iload_n C d_M_areTwo_9 2 rfl ?_
    obtain ⟨c3, hc3, hf⟩ := bs hf
    refine x_callV (rest := []) (n := 1) C (ct_M_isPerson E F _ _ _  hc3) mi_M_isPerson (by decide) mc_100 ⟨_, cel_M kc_100⟩ rfl rfl wL_M_143 d_M_areTwo_10 rfl rfl (Nat.le_of_ble_eq_true rfl) ?_
    show X _ _ _ _ _ _ _ _ _ _ _ _ _ _ _ _ _ _ _ _ _ [.int c3]
    refine x_if_eq C 25 d_M_areTwo_13 (by decide) (fun g4 => ?_) (fun g4 => ?_)
    · replace hf := it g4 hf
      refine x_iconst (v := 0) C d_M_areTwo_25 rfl ?_
      cases hf
      exact x_zret C d_M_areTwo_26 (Or.inl rfl) rfl rfl
    · replace hf := ie g4 hf
      refine x_iload_n C d_M_areTwo_16 1 rfl ?_
      refine x_iload_n C d_M_areTwo_17 2 rfl ?_
      refine x_icmp_eq C 25 d_M_areTwo_18 (by decide) (fun g5 => ?_) (fun g5 => ?_)
      · replace hf := it g5 hf
        refine x_iconst (v := 0) C d_M_areTwo_25 rfl ?_
        cases hf
        exact x_zret C d_M_areTwo_26 (Or.inl rfl) rfl rfl
      · replace hf := ie g5 hf
        refine x_iconst (v := 1) C d_M_areTwo_21 rfl ?_
        refine x_goto C 26 d_M_areTwo_22 (by decide) ?_
        cases hf
        exact x_zret C d_M_areTwo_26 (Or.inr rfl) rfl rfl
set_option maxHeartbeats 4000000 in
set_option maxRecDepth 100000 in
theorem ct_M_asked {l : Launch} {D : va_G} {ad : Nat → Nat} {cs : Nat → ClassId} {A : Nat → Prop} (E : Ev ad cs A LM) (F : Nat) (M : Mem)  (R : Int32)  (hf : M_asked F M = some R) : Met l y_M_asked (Cond.code y_M_asked b_M_asked 1 (some .int) :: wl) (rmD 0) (PX D ad cs A LM [.ref (ad 100)] M) (QX D ad cs A LM (some (.int R)) M) 0 0 A := by
  refine x_enter (lv := [(0, .ref (ad 100))]) E mi_M_asked.1 (Nat.le_of_ble_eq_true rfl) rfl (fun p e s m args below meth c C => ?_)
  unfold M_asked at hf
  refine x_aload_n C d_M_asked_0 0 rfl ?_
  refine xg_M_asked C wF_M_60 mc_100 kc_100 d_M_asked_1 ?_
  cases hf
  exact x_iret C d_M_asked_4 rfl rfl
set_option maxHeartbeats 4000000 in
set_option maxRecDepth 100000 in
theorem ct_M_isRow {l : Launch} {D : va_G} {ad : Nat → Nat} {cs : Nat → ClassId} {A : Nat → Prop} (E : Ev ad cs A LM) (F : Nat) (M : Mem) (x0 : Int32) (R : Int32)  (hf : M_isRow F M x0 = some R) : Met l y_M_isRow (Cond.code y_M_isRow b_M_isRow 1 (some .boolean) :: wl) (rmD 1) (PX D ad cs A LM [.int x0] M) (QX D ad cs A LM (some (.int R)) M) 0 0 A := by
  refine x_enter (lv := [(0, .int x0)]) E mi_M_isRow.1 (Nat.le_of_ble_eq_true rfl) rfl (fun p e s m args below meth c C => ?_)
  unfold M_isRow at hf
  refine x_iload_n C d_M_isRow_0 0 rfl ?_
  refine x_i2l C d_M_isRow_1 ?_
  refine x_lconst (v := 0) C d_M_isRow_2 rfl ?_
  refine x_ldc2 C wJ_M_63 d_M_isRow_3 ?_
  obtain ⟨c1, hc1, hf⟩ := bs hf
  refine x_callS (rest := []) (n := 3) C (ct_M_in E F _ _ _ _ _  hc1) mi_M_in (by decide) wL_M_65 d_M_isRow_6 rfl rfl (Nat.le_of_ble_eq_true rfl) ?_
  show X _ _ _ _ _ _ _ _ _ _ _ _ _ _ _ _ _ _ _ _ _ [.int c1]
  obtain ⟨t2, ht2, hf⟩ := bs hf
  obtain ⟨hb, hq⟩ := gd ht2
  cases hf
  exact x_zret C d_M_isRow_9 hb (congrArg (fun z => some (Value.int z)) hq) rfl
set_option maxHeartbeats 4000000 in
set_option maxRecDepth 100000 in
theorem ct_M_find {l : Launch} {D : va_G} {ad : Nat → Nat} {cs : Nat → ClassId} {A : Nat → Prop} (E : Ev ad cs A LM) (F : Nat) (M : Mem) (x1 : Int32) (R : (Int32 × Mem))  (hf : M_find F M x1 = some R) : Met l y_M_find (Cond.code y_M_find b_M_find 2 (some .int) :: wl) (rmD 0) (PX D ad cs A LM [.ref (ad 100), .int x1] M) (QX D ad cs A LM (some (.int R.1)) R.2) 0 0 A := by
  refine x_enter (lv := [(0, .ref (ad 100)), (1, .int x1)]) E mi_M_find.1 (Nat.le_of_ble_eq_true rfl) rfl (fun p e s m args below meth c C => ?_)
  unfold M_find at hf
  refine x_aload_n C d_M_find_0 0 rfl ?_
  refine x_iload_n C d_M_find_1 1 rfl ?_
  refine xp_M_finding (x := x1) C wF_M_56 mc_100 kc_100 d_M_find_2 ?_
  refine x_aload_n C d_M_find_5 0 rfl ?_
  refine xg_M_findings C wF_M_32 mc_100 kc_100 d_M_find_6 ?_
  refine x_iload_n C d_M_find_9 1 rfl ?_
  refine x_dup2 C d_M_find_10 rfl rfl ?_
  obtain ⟨t1, ht1, hf⟩ := bs hf
  refine x_iald C ht1 mc_107 kc_107 d_M_find_11 ?_
  refine x_iconst (v := 1) C d_M_find_12 rfl ?_
  refine x_iadd C d_M_find_13 ?_
  obtain ⟨M2, hM2, hf⟩ := bs hf
  refine x_iast C hM2 mc_107 kc_107 d_M_find_14 ?_
  refine x_bipush (v := (-3)) C d_M_find_15 rfl ?_
  cases hf
  exact x_iret C d_M_find_17 rfl rfl
set_option maxHeartbeats 4000000 in
set_option maxRecDepth 100000 in
theorem ct_M_refused {l : Launch} {D : va_G} {ad : Nat → Nat} {cs : Nat → ClassId} {A : Nat → Prop} (E : Ev ad cs A LM) (F : Nat) (M : Mem) (x1 : Int32) (x2 : Int32) (R : (Int32 × Mem))  (hf : M_refused F M x1 x2 = some R) : Met l y_M_refused (Cond.code y_M_refused b_M_refused 3 (some .int) :: wl) (rmD 2) (PX D ad cs A LM [.ref (ad 100), .int x1, .int x2] M) (QX D ad cs A LM (some (.int R.1)) R.2) 0 0 A := by
  refine x_enter (lv := [(0, .ref (ad 100)), (1, .int x1), (2, .int x2)]) E mi_M_refused.1 (Nat.le_of_ble_eq_true rfl) rfl (fun p e s m args below meth c C => ?_)
  unfold M_refused at hf
  refine x_iload_n C d_M_refused_0 1 rfl ?_
  obtain ⟨c1, hc1, hf⟩ := bs hf
  refine x_callS (rest := []) (n := 1) C (ct_M_isRow E F _ _ _  hc1) mi_M_isRow (by decide) wL_M_71 d_M_refused_1 rfl rfl (Nat.le_of_ble_eq_true rfl) ?_
  show X _ _ _ _ _ _ _ _ _ _ _ _ _ _ _ _ _ _ _ _ _ [.int c1]
  refine x_if_ne C 11 d_M_refused_4 (by decide) (fun g2 => ?_) (fun g2 => ?_)
  · replace hf := ie g2 hf
    refine x_aload_n C d_M_refused_11 0 rfl ?_
    refine xg_M_sizes C wF_M_16 mc_100 kc_100 d_M_refused_12 ?_
    refine x_iload_n C d_M_refused_15 1 rfl ?_
    obtain ⟨t3, ht3, hf⟩ := bs hf
    refine x_iald C ht3 mc_103 kc_103 d_M_refused_16 ?_
    refine x_if_ge C 28 d_M_refused_17 (by decide) (fun g4 => ?_) (fun g4 => ?_)
    · replace hf := it g4 hf
      refine x_iload_n C d_M_refused_28 2 rfl ?_
      refine x_i2l C d_M_refused_29 ?_
      refine x_lconst (v := 0) C d_M_refused_30 rfl ?_
      refine x_aload_n C d_M_refused_31 0 rfl ?_
      refine xg_M_sizes C wF_M_16 mc_100 kc_100 d_M_refused_32 ?_
      refine x_iload_n C d_M_refused_35 1 rfl ?_
      obtain ⟨t5, ht5, hf⟩ := bs hf
      refine x_iald C ht5 mc_103 kc_103 d_M_refused_36 ?_
      refine x_iconst (v := 1) C d_M_refused_37 rfl ?_
      refine x_isub C d_M_refused_38 ?_
      refine x_i2l C d_M_refused_39 ?_
      obtain ⟨c6, hc6, hf⟩ := bs hf
      refine x_callS (rest := []) (n := 3) C (ct_M_in E F _ _ _ _ _  hc6) mi_M_in (by decide) wL_M_65 d_M_refused_40 rfl rfl (Nat.le_of_ble_eq_true rfl) ?_
      show X _ _ _ _ _ _ _ _ _ _ _ _ _ _ _ _ _ _ _ _ _ [.int c6]
      refine x_if_eq C 50 d_M_refused_43 (by decide) (fun g7 => ?_) (fun g7 => ?_)
      · replace hf := it g7 hf
        refine x_aload_n C d_M_refused_50 0 rfl ?_
        refine x_iconst (v := 2) C d_M_refused_51 rfl ?_
        obtain ⟨c8, hc8, hf⟩ := bs hf
        refine x_callV (rest := []) (n := 1) C (ct_M_find E F _ _ _  hc8) mi_M_find (by decide) mc_100 ⟨_, cel_M kc_100⟩ rfl rfl wL_M_75 d_M_refused_52 rfl rfl (Nat.le_of_ble_eq_true rfl) ?_
        show X _ _ _ _ _ _ _ _ _ _ _ _ _ _ _ _ _ _ _ _ _ [.int c8.1]
        cases hf
        exact x_iret C d_M_refused_55 rfl rfl
      · replace hf := ie g7 hf
        refine x_iconst (v := 0) C d_M_refused_46 rfl ?_
        refine x_goto C 55 d_M_refused_47 (by decide) ?_
        cases hf
        exact x_iret C d_M_refused_55 rfl rfl
    · replace hf := ie g4 hf
      refine x_aload_n C d_M_refused_20 0 rfl ?_
      refine x_iconst (v := 1) C d_M_refused_21 rfl ?_
      obtain ⟨c9, hc9, hf⟩ := bs hf
      refine x_callV (rest := []) (n := 1) C (ct_M_find E F _ _ _  hc9) mi_M_find (by decide) mc_100 ⟨_, cel_M kc_100⟩ rfl rfl wL_M_75 d_M_refused_22 rfl rfl (Nat.le_of_ble_eq_true rfl) ?_
      show X _ _ _ _ _ _ _ _ _ _ _ _ _ _ _ _ _ _ _ _ _ [.int c9.1]
      refine x_goto C 55 d_M_refused_25 (by decide) ?_
      cases hf
      exact x_iret C d_M_refused_55 rfl rfl
  · replace hf := it g2 hf
    refine x_iconst (v := (-1)) C d_M_refused_7 rfl ?_
    refine x_goto C 55 d_M_refused_8 (by decide) ?_
    cases hf
    exact x_iret C d_M_refused_55 rfl rfl
set_option maxHeartbeats 4000000 in
set_option maxRecDepth 100000 in
theorem ct_M_tell {l : Launch} {D : va_G} {ad : Nat → Nat} {cs : Nat → ClassId} {A : Nat → Prop} (E : Ev ad cs A LM) (F : Nat) (M : Mem) (x1 : Int32) (R : (Int32 × Mem))  (hf : M_tell F M x1 = some R) : Met l y_M_tell (Cond.code y_M_tell b_M_tell 2 (some .int) :: wl) (rmD 0) (PX D ad cs A LM [.ref (ad 100), .int x1] M) (QX D ad cs A LM (some (.int R.1)) R.2) 0 0 A := by
  refine x_enter (lv := [(0, .ref (ad 100)), (1, .int x1)]) E mi_M_tell.1 (Nat.le_of_ble_eq_true rfl) rfl (fun p e s m args below meth c C => ?_)
  unfold M_tell at hf
  refine x_aload_n C d_M_tell_0 0 rfl ?_
  refine x_iload_n C d_M_tell_1 1 rfl ?_
  refine xp_M_asked (x := x1) C wF_M_60 mc_100 kc_100 d_M_tell_2 ?_
  refine x_iconst (v := 1) C d_M_tell_5 rfl ?_
  cases hf
  exact x_iret C d_M_tell_6 rfl rfl
set_option maxHeartbeats 4000000 in
set_option maxRecDepth 100000 in
theorem ct_M_at {l : Launch} {D : va_G} {ad : Nat → Nat} {cs : Nat → ClassId} {A : Nat → Prop} (E : Ev ad cs A LM) (F : Nat) (M : Mem) (x1 : Int32) (x2 : Int32) (R : (Int32 × Mem))  (hf : M_at F M x1 x2 = some R) : Met l y_M_at (Cond.code y_M_at b_M_at 4 (some .int) :: wl) (rmD 3) (PX D ad cs A LM [.ref (ad 100), .int x1, .int x2] M) (QX D ad cs A LM (some (.int R.1)) R.2) 0 0 A := by
  refine x_enter (lv := [(0, .ref (ad 100)), (1, .int x1), (2, .int x2)]) E mi_M_at.1 (Nat.le_of_ble_eq_true rfl) rfl (fun p e s m args below meth c C => ?_)
  unfold M_at at hf
  refine x_aload_n C d_M_at_0 0 rfl ?_
  refine x_iload_n C d_M_at_1 1 rfl ?_
  refine x_iload_n C d_M_at_2 2 rfl ?_
  obtain ⟨c1, hc1, hf⟩ := bs hf
  refine x_callV (rest := []) (n := 2) C (ct_M_refused E F _ _ _ _  hc1) mi_M_refused (by decide) mc_100 ⟨_, cel_M kc_100⟩ rfl rfl wL_M_83 d_M_at_3 rfl rfl (Nat.le_of_ble_eq_true rfl) ?_
  show X _ _ _ _ _ _ _ _ _ _ _ _ _ _ _ _ _ _ _ _ _ [.int c1.1]
  refine x_istore_n (lv' := [(3, .int c1.1), (0, .ref (ad 100)), (1, .int x1), (2, .int x2)]) C d_M_at_6 (by decide) rfl ?_
  refine x_iload_n C d_M_at_7 0 rfl ?_
  refine x_if_eq C 15 d_M_at_8 (by decide) (fun g2 => ?_) (fun g2 => ?_)
  · replace hf := it g2 hf
    refine x_aload_n C d_M_at_15 1 rfl ?_
    refine x_aload_n C d_M_at_16 1 rfl ?_
    refine xg_M_items C wF_M_19 mc_100 kc_100 d_M_at_17 ?_
    refine x_bipush (v := 40) C d_M_at_20 rfl ?_
    refine x_iload_n C d_M_at_22 2 rfl ?_
    refine x_imul C d_M_at_23 ?_
    refine x_iload_n C d_M_at_24 3 rfl ?_
    refine x_iadd C d_M_at_25 ?_
    obtain ⟨t3, ht3, hf⟩ := bs hf
    refine x_iald C ht3 mc_104 kc_104 d_M_at_26 ?_
    obtain ⟨c4, hc4, hf⟩ := bs hf
    refine x_callV (rest := []) (n := 1) C (ct_M_tell E F _ _ _  hc4) mi_M_tell (by decide) mc_100 ⟨_, cel_M kc_100⟩ rfl rfl wL_M_87 d_M_at_27 rfl rfl (Nat.le_of_ble_eq_true rfl) ?_
    show X _ _ _ _ _ _ _ _ _ _ _ _ _ _ _ _ _ _ _ _ _ [.int c4.1]
    cases hf
    exact x_iret C d_M_at_30 rfl rfl
  · replace hf := ie g2 hf
    refine x_iload_n C d_M_at_11 0 rfl ?_
    refine x_goto C 30 d_M_at_12 (by decide) ?_
    cases hf
    exact x_iret C d_M_at_30 rfl rfl
set_option maxHeartbeats 4000000 in
set_option maxRecDepth 100000 in
theorem ct_M_isAunt {l : Launch} {D : va_G} {ad : Nat → Nat} {cs : Nat → ClassId} {A : Nat → Prop} (E : Ev ad cs A LM) (F : Nat) (M : Mem) (x0 : Int32) (R : Int32)  (hf : M_isAunt F M x0 = some R) : Met l y_M_isAunt (Cond.code y_M_isAunt b_M_isAunt 1 (some .boolean) :: wl) (rmD 0) (PX D ad cs A LM [.int x0] M) (QX D ad cs A LM (some (.int R)) M) 0 0 A := by
  refine x_enter (lv := [(0, .int x0)]) E mi_M_isAunt.1 (Nat.le_of_ble_eq_true rfl) rfl (fun p e s m args below meth c C => ?_)
  unfold M_isAunt at hf
  refine x_iload_n C d_M_isAunt_0 0 rfl ?_
  refine x_iconst (v := 1) C d_M_isAunt_1 rfl ?_
  refine x_icmp_eq C 10 d_M_isAunt_2 (by decide) (fun g1 => ?_) (fun g1 => ?_)
  · replace hf := it g1 hf
    refine x_iconst (v := 1) C d_M_isAunt_10 rfl ?_
    refine x_goto C 15 d_M_isAunt_11 (by decide) ?_
    cases hf
    exact x_zret C d_M_isAunt_15 (Or.inr rfl) rfl rfl
  · replace hf := ie g1 hf
    refine x_iload_n C d_M_isAunt_5 0 rfl ?_
    refine x_iconst (v := 4) C d_M_isAunt_6 rfl ?_
    refine x_icmp_ne C 14 d_M_isAunt_7 (by decide) (fun g2 => ?_) (fun g2 => ?_)
    · replace hf := ie g2 hf
      refine x_iconst (v := 0) C d_M_isAunt_14 rfl ?_
      cases hf
      exact x_zret C d_M_isAunt_15 (Or.inl rfl) rfl rfl
    · replace hf := it g2 hf
      refine x_iconst (v := 1) C d_M_isAunt_10 rfl ?_
      refine x_goto C 15 d_M_isAunt_11 (by decide) ?_
      cases hf
      exact x_zret C d_M_isAunt_15 (Or.inr rfl) rfl rfl
set_option maxHeartbeats 4000000 in
set_option maxRecDepth 100000 in
theorem lw_M_aunts_4 {p : Program} {l : Launch} {e : Env} {s : State} {m : MethodId} {args : Array Value} {below : List Frame} {meth : Method} {c : Code} {D : va_G} {ad : Nat → Nat} {cs : Nat → ClassId} {A : Nat → Prop} {V : Option Value} {N : Mem} (E : Ev ad cs A LM) (C : Cx p s m args meth c "KissClearingModel" b_M_aunts 3 (some .int) D ad cs A LM) (F : Nat) (M : Mem)  : ∀ (n : Nat) (x1 : Int32) (x2 : Int32) (u : Int32), L_M_aunts_4 F M n x1 x2 = some u → X p l e 1 s m args below meth c 3 D ad cs A LM V N M 38 [(1, .int u)] [] → X p l e 1 s m args below meth c 3 D ad cs A LM V N M 4 [(0, .ref (ad 100)), (1, .int x1), (2, .int x2)] [] := by
  intro n
  induction n with
  | zero => intro x1 x2 u hf; cases hf
  | succ n ih =>
    intro x1 x2 u hf K
    replace hf : B_M_aunts_4 F M (L_M_aunts_4 F M n) x1 x2 = some u := hf
    unfold B_M_aunts_4 at hf
    refine x_iload_n C d_M_aunts_4 2 rfl ?_
    refine x_aload_n C d_M_aunts_5 0 rfl ?_
    refine xg_M_persons C wF_M_136 mc_100 kc_100 d_M_aunts_6 ?_
    refine x_icmp_ge C 38 d_M_aunts_9 (by decide) (fun g1 => ?_) (fun g1 => ?_)
    · replace hf := it g1 hf
      cases hf
      exact x_sub [1] rfl K
    · replace hf := ie g1 hf
      refine x_iload_n C d_M_aunts_12 1 rfl ?_
      refine x_aload_n C d_M_aunts_13 0 rfl ?_
      refine xg_M_kinds C wF_M_13 mc_100 kc_100 d_M_aunts_14 ?_
      refine x_iload_n C d_M_aunts_17 2 rfl ?_
      obtain ⟨t2, ht2, hf⟩ := bs hf
      refine x_iald C ht2 mc_102 kc_102 d_M_aunts_18 ?_
      obtain ⟨c3, hc3, hf⟩ := bs hf
      refine x_callS (rest := [.int x1]) (n := 1) C (ct_M_isAunt E F _ _ _  hc3) mi_M_isAunt (by decide) wL_M_339 d_M_aunts_19 rfl rfl (Nat.le_of_ble_eq_true rfl) ?_
      show X _ _ _ _ _ _ _ _ _ _ _ _ _ _ _ _ _ _ _ _ _ [.int c3, .int x1]
      refine x_if_eq C 29 d_M_aunts_22 (by decide) (fun g4 => ?_) (fun g4 => ?_)
      · replace hf := it g4 hf
        refine x_iconst (v := 0) C d_M_aunts_29 rfl ?_
        refine x_iadd C d_M_aunts_30 ?_
        refine x_istore_n (lv' := [(1, .int (x1 + 0)), (0, .ref (ad 100)), (2, .int x2)]) C d_M_aunts_31 (by decide) rfl ?_
        refine x_iinc (v := (x2 + 1)) (lv' := [(2, .int (x2 + 1)), (1, .int (x1 + 0)), (0, .ref (ad 100))]) C d_M_aunts_32 2 rfl rfl (by decide) rfl ?_
        refine x_goto C 4 d_M_aunts_35 (by decide) ?_
        refine x_sub [2, 1, 0] rfl ?_
        exact ih _ _ _ hf K
      · replace hf := ie g4 hf
        refine x_iconst (v := 1) C d_M_aunts_25 rfl ?_
        refine x_goto C 30 d_M_aunts_26 (by decide) ?_
        refine x_iadd C d_M_aunts_30 ?_
        refine x_istore_n (lv' := [(1, .int (x1 + 1)), (0, .ref (ad 100)), (2, .int x2)]) C d_M_aunts_31 (by decide) rfl ?_
        refine x_iinc (v := (x2 + 1)) (lv' := [(2, .int (x2 + 1)), (1, .int (x1 + 1)), (0, .ref (ad 100))]) C d_M_aunts_32 2 rfl rfl (by decide) rfl ?_
        refine x_goto C 4 d_M_aunts_35 (by decide) ?_
        refine x_sub [2, 1, 0] rfl ?_
        exact ih _ _ _ hf K
set_option maxHeartbeats 4000000 in
set_option maxRecDepth 100000 in
theorem ct_M_aunts {l : Launch} {D : va_G} {ad : Nat → Nat} {cs : Nat → ClassId} {A : Nat → Prop} (E : Ev ad cs A LM) (F : Nat) (M : Mem)  (R : Int32)  (hf : M_aunts F M = some R) : Met l y_M_aunts (Cond.code y_M_aunts b_M_aunts 3 (some .int) :: wl) (rmD 1) (PX D ad cs A LM [.ref (ad 100)] M) (QX D ad cs A LM (some (.int R)) M) 0 0 A := by
  refine x_enter (lv := [(0, .ref (ad 100))]) E mi_M_aunts.1 (Nat.le_of_ble_eq_true rfl) rfl (fun p e s m args below meth c C => ?_)
  unfold M_aunts at hf
  refine x_iconst (v := 0) C d_M_aunts_0 rfl ?_
  refine x_istore_n (lv' := [(1, .int 0), (0, .ref (ad 100))]) C d_M_aunts_1 (by decide) rfl ?_
  refine x_iconst (v := 0) C d_M_aunts_2 rfl ?_
  refine x_istore_n (lv' := [(2, .int 0), (1, .int 0), (0, .ref (ad 100))]) C d_M_aunts_3 (by decide) rfl ?_
  obtain ⟨u5, hu5, hf⟩ := bs hf
  refine x_sub [2, 1, 0] rfl ?_
  refine lw_M_aunts_4 E C F _ _ _ _ _ hu5 ?_
  refine x_iload_n C d_M_aunts_38 0 rfl ?_
  cases hf
  exact x_iret C d_M_aunts_39 rfl rfl
set_option maxHeartbeats 4000000 in
set_option maxRecDepth 100000 in
theorem ct_M_isOn {l : Launch} {D : va_G} {ad : Nat → Nat} {cs : Nat → ClassId} {A : Nat → Prop} (E : Ev ad cs A LM) (F : Nat) (M : Mem) (x1 : Int32) (x2 : Int32) (x3 : Int32) (R : Int32)  (hf : M_isOn F M x1 x2 x3 = some R) : Met l y_M_isOn (Cond.code y_M_isOn b_M_isOn 4 (some .boolean) :: wl) (rmD 1) (PX D ad cs A LM [.ref (ad 100), .int x1, .int x2, .int x3] M) (QX D ad cs A LM (some (.int R)) M) 0 0 A := by
  refine x_enter (lv := [(0, .ref (ad 100)), (1, .int x1), (2, .int x2), (3, .int x3)]) E mi_M_isOn.1 (Nat.le_of_ble_eq_true rfl) rfl (fun p e s m args below meth c C => ?_)
  unfold M_isOn at hf
  refine x_aload_n C d_M_isOn_0 0 rfl ?_
  refine x_iload_n C d_M_isOn_1 1 rfl ?_
  refine x_iconst (v := 0) C d_M_isOn_2 rfl ?_
  obtain ⟨c1, hc1, hf⟩ := bs hf
  refine x_callV (rest := []) (n := 2) C (ct_M_of E F _ _ _ _  hc1) mi_M_of (by decide) mc_100 ⟨_, cel_M kc_100⟩ rfl rfl wL_M_146 d_M_isOn_3 rfl rfl (Nat.le_of_ble_eq_true rfl) ?_
  show X _ _ _ _ _ _ _ _ _ _ _ _ _ _ _ _ _ _ _ _ _ [.int c1]
  refine x_iload_n C d_M_isOn_6 2 rfl ?_
  refine x_icmp_ne C 24 d_M_isOn_7 (by decide) (fun g2 => ?_) (fun g2 => ?_)
  · replace hf := ie g2 hf
    refine x_iconst (v := 0) C d_M_isOn_24 rfl ?_
    cases hf
    exact x_zret C d_M_isOn_25 (Or.inl rfl) rfl rfl
  · replace hf := it g2 hf
    refine x_aload_n C d_M_isOn_10 0 rfl ?_
    refine x_iload_n C d_M_isOn_11 1 rfl ?_
    refine x_iconst (v := 1) C d_M_isOn_12 rfl ?_
    obtain ⟨c3, hc3, hf⟩ := bs hf
    refine x_callV (rest := []) (n := 2) C (ct_M_of E F _ _ _ _  hc3) mi_M_of (by decide) mc_100 ⟨_, cel_M kc_100⟩ rfl rfl wL_M_146 d_M_isOn_13 rfl rfl (Nat.le_of_ble_eq_true rfl) ?_
    show X _ _ _ _ _ _ _ _ _ _ _ _ _ _ _ _ _ _ _ _ _ [.int c3]
    refine x_iload_n C d_M_isOn_16 3 rfl ?_
    refine x_icmp_ne C 24 d_M_isOn_17 (by decide) (fun g4 => ?_) (fun g4 => ?_)
    · replace hf := ie g4 hf
      refine x_iconst (v := 0) C d_M_isOn_24 rfl ?_
      cases hf
      exact x_zret C d_M_isOn_25 (Or.inl rfl) rfl rfl
    · replace hf := it g4 hf
      refine x_iconst (v := 1) C d_M_isOn_20 rfl ?_
      refine x_goto C 25 d_M_isOn_21 (by decide) ?_
      cases hf
      exact x_zret C d_M_isOn_25 (Or.inr rfl) rfl rfl
set_option maxHeartbeats 4000000 in
set_option maxRecDepth 100000 in
theorem lw_M_sumOf_6 {p : Program} {l : Launch} {e : Env} {s : State} {m : MethodId} {args : Array Value} {below : List Frame} {meth : Method} {c : Code} {D : va_G} {ad : Nat → Nat} {cs : Nat → ClassId} {A : Nat → Prop} {V : Option Value} {N : Mem} (E : Ev ad cs A LM) (C : Cx p s m args meth c "KissClearingModel" b_M_sumOf 6 (some .int) D ad cs A LM) (F : Nat) (M : Mem) (x1 : Int32) (x2 : Int32) (x3 : Int32) : ∀ (n : Nat) (x4 : Int32) (x5 : Int32) (u : Int32), L_M_sumOf_6 F M x1 x2 x3 n x4 x5 = some u → X p l e 2 s m args below meth c 6 D ad cs A LM V N M 61 [(4, .int u)] [] → X p l e 2 s m args below meth c 6 D ad cs A LM V N M 6 [(0, .ref (ad 100)), (1, .int x1), (2, .int x2), (3, .int x3), (4, .int x4), (5, .int x5)] [] := by
  intro n
  induction n with
  | zero => intro x4 x5 u hf; cases hf
  | succ n ih =>
    intro x4 x5 u hf K
    replace hf : B_M_sumOf_6 F M x1 x2 x3 (L_M_sumOf_6 F M x1 x2 x3 n) x4 x5 = some u := hf
    unfold B_M_sumOf_6 at hf
    refine x_iload C d_M_sumOf_6 5 rfl ?_
    refine x_aload_n C d_M_sumOf_8 0 rfl ?_
    refine xg_M_row C wF_M_7 mc_100 kc_100 d_M_sumOf_9 ?_
    refine x_iconst (v := 1) C d_M_sumOf_12 rfl ?_
    refine x_iald C (ac_101_1 M) mc_101 kc_101 d_M_sumOf_13 ?_
    refine x_icmp_ge C 61 d_M_sumOf_14 (by decide) (fun g1 => ?_) (fun g1 => ?_)
    · replace hf := it g1 hf
      cases hf
      exact x_sub [4] rfl K
    · replace hf := ie g1 hf
      refine x_iload C d_M_sumOf_17 4 rfl ?_
      refine x_aload_n C d_M_sumOf_19 0 rfl ?_
      refine x_iload C d_M_sumOf_20 5 rfl ?_
      refine x_iload_n C d_M_sumOf_22 1 rfl ?_
      refine x_iload_n C d_M_sumOf_23 2 rfl ?_
      obtain ⟨c2, hc2, hf⟩ := bs hf
      refine x_callV (rest := [.int x4]) (n := 3) C (ct_M_isOn E F _ _ _ _ _  hc2) mi_M_isOn (by decide) mc_100 ⟨_, cel_M kc_100⟩ rfl rfl wL_M_213 d_M_sumOf_24 rfl rfl (Nat.le_of_ble_eq_true rfl) ?_
      show X _ _ _ _ _ _ _ _ _ _ _ _ _ _ _ _ _ _ _ _ _ [.int c2, .int x4]
      refine x_if_eq C 51 d_M_sumOf_27 (by decide) (fun g3 => ?_) (fun g3 => ?_)
      · replace hf := it g3 hf
        refine x_iconst (v := 0) C d_M_sumOf_51 rfl ?_
        refine x_iadd C d_M_sumOf_52 ?_
        refine x_istore (lv' := [(4, .int (x4 + 0)), (0, .ref (ad 100)), (1, .int x1), (2, .int x2), (3, .int x3), (5, .int x5)]) C d_M_sumOf_53 (by decide) rfl ?_
        refine x_iinc (v := (x5 + 1)) (lv' := [(5, .int (x5 + 1)), (4, .int (x4 + 0)), (0, .ref (ad 100)), (1, .int x1), (2, .int x2), (3, .int x3)]) C d_M_sumOf_55 5 rfl rfl (by decide) rfl ?_
        refine x_goto C 6 d_M_sumOf_58 (by decide) ?_
        refine x_sub [2, 3, 4, 5, 1, 0] rfl ?_
        exact ih _ _ _ hf K
      · replace hf := ie g3 hf
        refine x_aload_n C d_M_sumOf_30 0 rfl ?_
        refine x_iload C d_M_sumOf_31 5 rfl ?_
        refine x_iconst (v := 2) C d_M_sumOf_33 rfl ?_
        obtain ⟨c4, hc4, hf⟩ := bs hf
        refine x_callV (rest := [.int x4]) (n := 2) C (ct_M_of E F _ _ _ _  hc4) mi_M_of (by decide) mc_100 ⟨_, cel_M kc_100⟩ rfl rfl wL_M_146 d_M_sumOf_34 rfl rfl (Nat.le_of_ble_eq_true rfl) ?_
        show X _ _ _ _ _ _ _ _ _ _ _ _ _ _ _ _ _ _ _ _ _ [.int c4, .int x4]
        refine x_iload_n C d_M_sumOf_37 3 rfl ?_
        refine x_icmp_ne C 51 d_M_sumOf_38 (by decide) (fun g5 => ?_) (fun g5 => ?_)
        · replace hf := ie g5 hf
          refine x_iconst (v := 0) C d_M_sumOf_51 rfl ?_
          refine x_iadd C d_M_sumOf_52 ?_
          refine x_istore (lv' := [(4, .int (x4 + 0)), (0, .ref (ad 100)), (1, .int x1), (2, .int x2), (3, .int x3), (5, .int x5)]) C d_M_sumOf_53 (by decide) rfl ?_
          refine x_iinc (v := (x5 + 1)) (lv' := [(5, .int (x5 + 1)), (4, .int (x4 + 0)), (0, .ref (ad 100)), (1, .int x1), (2, .int x2), (3, .int x3)]) C d_M_sumOf_55 5 rfl rfl (by decide) rfl ?_
          refine x_goto C 6 d_M_sumOf_58 (by decide) ?_
          refine x_sub [2, 3, 4, 5, 1, 0] rfl ?_
          exact ih _ _ _ hf K
        · replace hf := it g5 hf
          refine x_aload_n C d_M_sumOf_41 0 rfl ?_
          refine x_iload C d_M_sumOf_42 5 rfl ?_
          refine x_iconst (v := 3) C d_M_sumOf_44 rfl ?_
          obtain ⟨c6, hc6, hf⟩ := bs hf
          refine x_callV (rest := [.int x4]) (n := 2) C (ct_M_of E F _ _ _ _  hc6) mi_M_of (by decide) mc_100 ⟨_, cel_M kc_100⟩ rfl rfl wL_M_146 d_M_sumOf_45 rfl rfl (Nat.le_of_ble_eq_true rfl) ?_
          show X _ _ _ _ _ _ _ _ _ _ _ _ _ _ _ _ _ _ _ _ _ [.int c6, .int x4]
          refine x_goto C 52 d_M_sumOf_48 (by decide) ?_
          refine x_iadd C d_M_sumOf_52 ?_
          refine x_istore (lv' := [(4, .int (x4 + c6)), (0, .ref (ad 100)), (1, .int x1), (2, .int x2), (3, .int x3), (5, .int x5)]) C d_M_sumOf_53 (by decide) rfl ?_
          refine x_iinc (v := (x5 + 1)) (lv' := [(5, .int (x5 + 1)), (4, .int (x4 + c6)), (0, .ref (ad 100)), (1, .int x1), (2, .int x2), (3, .int x3)]) C d_M_sumOf_55 5 rfl rfl (by decide) rfl ?_
          refine x_goto C 6 d_M_sumOf_58 (by decide) ?_
          refine x_sub [2, 3, 4, 5, 1, 0] rfl ?_
          exact ih _ _ _ hf K
set_option maxHeartbeats 4000000 in
set_option maxRecDepth 100000 in
theorem ct_M_sumOf {l : Launch} {D : va_G} {ad : Nat → Nat} {cs : Nat → ClassId} {A : Nat → Prop} (E : Ev ad cs A LM) (F : Nat) (M : Mem) (x1 : Int32) (x2 : Int32) (x3 : Int32) (R : Int32)  (hf : M_sumOf F M x1 x2 x3 = some R) : Met l y_M_sumOf (Cond.code y_M_sumOf b_M_sumOf 6 (some .int) :: wl) (rmD 2) (PX D ad cs A LM [.ref (ad 100), .int x1, .int x2, .int x3] M) (QX D ad cs A LM (some (.int R)) M) 0 0 A := by
  refine x_enter (lv := [(0, .ref (ad 100)), (1, .int x1), (2, .int x2), (3, .int x3)]) E mi_M_sumOf.1 (Nat.le_of_ble_eq_true rfl) rfl (fun p e s m args below meth c C => ?_)
  unfold M_sumOf at hf
  refine x_iconst (v := 0) C d_M_sumOf_0 rfl ?_
  refine x_istore (lv' := [(4, .int 0), (0, .ref (ad 100)), (1, .int x1), (2, .int x2), (3, .int x3)]) C d_M_sumOf_1 (by decide) rfl ?_
  refine x_iconst (v := 0) C d_M_sumOf_3 rfl ?_
  refine x_istore (lv' := [(5, .int 0), (4, .int 0), (0, .ref (ad 100)), (1, .int x1), (2, .int x2), (3, .int x3)]) C d_M_sumOf_4 (by decide) rfl ?_
  obtain ⟨u7, hu7, hf⟩ := bs hf
  refine x_sub [2, 3, 4, 5, 1, 0] rfl ?_
  refine lw_M_sumOf_6 E C F _ _ _ _ _ _ _ _ hu7 ?_
  refine x_iload C d_M_sumOf_61 0 rfl ?_
  cases hf
  exact x_iret C d_M_sumOf_63 rfl rfl
set_option maxHeartbeats 4000000 in
set_option maxRecDepth 100000 in
theorem ct_M_between {l : Launch} {D : va_G} {ad : Nat → Nat} {cs : Nat → ClassId} {A : Nat → Prop} (E : Ev ad cs A LM) (F : Nat) (M : Mem) (x1 : Int32) (x2 : Int32) (x3 : Int32) (R : Int32)  (hf : M_between F M x1 x2 x3 = some R) : Met l y_M_between (Cond.code y_M_between b_M_between 4 (some .int) :: wl) (rmD 3) (PX D ad cs A LM [.ref (ad 100), .int x1, .int x2, .int x3] M) (QX D ad cs A LM (some (.int R)) M) 0 0 A := by
  refine x_enter (lv := [(0, .ref (ad 100)), (1, .int x1), (2, .int x2), (3, .int x3)]) E mi_M_between.1 (Nat.le_of_ble_eq_true rfl) rfl (fun p e s m args below meth c C => ?_)
  unfold M_between at hf
  refine x_aload_n C d_M_between_0 0 rfl ?_
  refine x_iload_n C d_M_between_1 1 rfl ?_
  refine x_iload_n C d_M_between_2 2 rfl ?_
  obtain ⟨c1, hc1, hf⟩ := bs hf
  refine x_callV (rest := []) (n := 2) C (ct_M_areTwo E F _ _ _ _  hc1) mi_M_areTwo (by decide) mc_100 ⟨_, cel_M kc_100⟩ rfl rfl wL_M_200 d_M_between_3 rfl rfl (Nat.le_of_ble_eq_true rfl) ?_
  show X _ _ _ _ _ _ _ _ _ _ _ _ _ _ _ _ _ _ _ _ _ [.int c1]
  refine x_if_eq C 31 d_M_between_6 (by decide) (fun g2 => ?_) (fun g2 => ?_)
  · replace hf := it g2 hf
    refine x_iconst (v := (-1)) C d_M_between_31 rfl ?_
    cases hf
    exact x_iret C d_M_between_32 rfl rfl
  · replace hf := ie g2 hf
    refine x_iload_n C d_M_between_9 3 rfl ?_
    refine x_i2l C d_M_between_10 ?_
    refine x_lconst (v := 0) C d_M_between_11 rfl ?_
    refine x_ldc2 C wJ_M_203 d_M_between_12 ?_
    obtain ⟨c3, hc3, hf⟩ := bs hf
    refine x_callS (rest := []) (n := 3) C (ct_M_in E F _ _ _ _ _  hc3) mi_M_in (by decide) wL_M_65 d_M_between_15 rfl rfl (Nat.le_of_ble_eq_true rfl) ?_
    show X _ _ _ _ _ _ _ _ _ _ _ _ _ _ _ _ _ _ _ _ _ [.int c3]
    refine x_if_eq C 31 d_M_between_18 (by decide) (fun g4 => ?_) (fun g4 => ?_)
    · replace hf := it g4 hf
      refine x_iconst (v := (-1)) C d_M_between_31 rfl ?_
      cases hf
      exact x_iret C d_M_between_32 rfl rfl
    · replace hf := ie g4 hf
      refine x_aload_n C d_M_between_21 0 rfl ?_
      refine x_iload_n C d_M_between_22 1 rfl ?_
      refine x_iload_n C d_M_between_23 2 rfl ?_
      refine x_iload_n C d_M_between_24 3 rfl ?_
      obtain ⟨c5, hc5, hf⟩ := bs hf
      refine x_callV (rest := []) (n := 3) C (ct_M_sumOf E F _ _ _ _ _  hc5) mi_M_sumOf (by decide) mc_100 ⟨_, cel_M kc_100⟩ rfl rfl wL_M_216 d_M_between_25 rfl rfl (Nat.le_of_ble_eq_true rfl) ?_
      show X _ _ _ _ _ _ _ _ _ _ _ _ _ _ _ _ _ _ _ _ _ [.int c5]
      refine x_goto C 32 d_M_between_28 (by decide) ?_
      cases hf
      exact x_iret C d_M_between_32 rfl rfl
set_option maxHeartbeats 4000000 in
set_option maxRecDepth 100000 in
theorem lw_M_bits_4 {p : Program} {l : Launch} {e : Env} {s : State} {m : MethodId} {args : Array Value} {below : List Frame} {meth : Method} {c : Code} {D : va_G} {ad : Nat → Nat} {cs : Nat → ClassId} {A : Nat → Prop} {V : Option Value} {N : Mem} (E : Ev ad cs A LM) (C : Cx p s m args meth c "KissClearingModel" b_M_bits 3 (some .int) D ad cs A LM) (F : Nat) (M : Mem) (x0 : Int32) : ∀ (n : Nat) (x1 : Int32) (x2 : Int32) (u : Int32), L_M_bits_4 F M x0 n x1 x2 = some u → X p l e 0 s m args below meth c 3 D ad cs A LM V N M 24 [(1, .int u)] [] → X p l e 0 s m args below meth c 3 D ad cs A LM V N M 4 [(0, .int x0), (1, .int x1), (2, .int x2)] [] := by
  intro n
  induction n with
  | zero => intro x1 x2 u hf; cases hf
  | succ n ih =>
    intro x1 x2 u hf K
    replace hf : B_M_bits_4 F M x0 (L_M_bits_4 F M x0 n) x1 x2 = some u := hf
    unfold B_M_bits_4 at hf
    refine x_iload_n C d_M_bits_4 2 rfl ?_
    refine x_bipush (v := 12) C d_M_bits_5 rfl ?_
    refine x_icmp_ge C 24 d_M_bits_7 (by decide) (fun g1 => ?_) (fun g1 => ?_)
    · replace hf := it g1 hf
      cases hf
      exact x_sub [1] rfl K
    · replace hf := ie g1 hf
      refine x_iload_n C d_M_bits_10 1 rfl ?_
      refine x_iload_n C d_M_bits_11 0 rfl ?_
      refine x_iload_n C d_M_bits_12 2 rfl ?_
      refine x_ishr C d_M_bits_13 ?_
      refine x_iconst (v := 1) C d_M_bits_14 rfl ?_
      refine x_iand C d_M_bits_15 ?_
      refine x_iadd C d_M_bits_16 ?_
      refine x_istore_n (lv' := [(1, .int (x1 + ((x0 >>> (x2 &&& 31)) &&& 1))), (0, .int x0), (2, .int x2)]) C d_M_bits_17 (by decide) rfl ?_
      refine x_iinc (v := (x2 + 1)) (lv' := [(2, .int (x2 + 1)), (1, .int (x1 + ((x0 >>> (x2 &&& 31)) &&& 1))), (0, .int x0)]) C d_M_bits_18 2 rfl rfl (by decide) rfl ?_
      refine x_goto C 4 d_M_bits_21 (by decide) ?_
      refine x_sub [2, 1, 0] rfl ?_
      exact ih _ _ _ hf K
set_option maxHeartbeats 4000000 in
set_option maxRecDepth 100000 in
theorem ct_M_bits {l : Launch} {D : va_G} {ad : Nat → Nat} {cs : Nat → ClassId} {A : Nat → Prop} (E : Ev ad cs A LM) (F : Nat) (M : Mem) (x0 : Int32) (R : Int32)  (hf : M_bits F M x0 = some R) : Met l y_M_bits (Cond.code y_M_bits b_M_bits 3 (some .int) :: wl) (rmD 0) (PX D ad cs A LM [.int x0] M) (QX D ad cs A LM (some (.int R)) M) 0 0 A := by
  refine x_enter (lv := [(0, .int x0)]) E mi_M_bits.1 (Nat.le_of_ble_eq_true rfl) rfl (fun p e s m args below meth c C => ?_)
  unfold M_bits at hf
  refine x_iconst (v := 0) C d_M_bits_0 rfl ?_
  refine x_istore_n (lv' := [(1, .int 0), (0, .int x0)]) C d_M_bits_1 (by decide) rfl ?_
  refine x_iconst (v := 0) C d_M_bits_2 rfl ?_
  refine x_istore_n (lv' := [(2, .int 0), (1, .int 0), (0, .int x0)]) C d_M_bits_3 (by decide) rfl ?_
  obtain ⟨u2, hu2, hf⟩ := bs hf
  refine x_sub [2, 1, 0] rfl ?_
  refine lw_M_bits_4 E C F _ _ _ _ _ _ hu2 ?_
  refine x_iload_n C d_M_bits_24 0 rfl ?_
  cases hf
  exact x_iret C d_M_bits_25 rfl rfl
set_option maxHeartbeats 4000000 in
set_option maxRecDepth 100000 in
theorem lw_M_fits_24 {p : Program} {l : Launch} {e : Env} {s : State} {m : MethodId} {args : Array Value} {below : List Frame} {meth : Method} {c : Code} {D : va_G} {ad : Nat → Nat} {cs : Nat → ClassId} {A : Nat → Prop} {V : Option Value} {N : Mem} (E : Ev ad cs A LM) (C : Cx p s m args meth c "KissClearingModel" b_M_fits 7 (some .boolean) D ad cs A LM) (F : Nat) (M : Mem) (x1 : Int32) (x2 : Int32) (x4 : Int32) : ∀ (n : Nat) (x5 : Int32) (x6 : Int32) (u : Int32), L_M_fits_24 F M x1 x2 x4 n x5 x6 = some u → X p l e 1 s m args below meth c 7 D ad cs A LM V N M 90 [(0, .ref (ad 100)), (1, .int x1), (2, .int x2), (4, .int x4), (5, .int u)] [] → X p l e 1 s m args below meth c 7 D ad cs A LM V N M 24 [(0, .ref (ad 100)), (1, .int x1), (2, .int x2), (4, .int x4), (5, .int x5), (6, .int x6)] [] := by
  intro n
  induction n with
  | zero => intro x5 x6 u hf; cases hf
  | succ n ih =>
    intro x5 x6 u hf K
    replace hf : B_M_fits_24 F M x1 x2 x4 (L_M_fits_24 F M x1 x2 x4 n) x5 x6 = some u := hf
    unfold B_M_fits_24 at hf
    refine x_iload C d_M_fits_24 5 rfl ?_
    refine x_aload_n C d_M_fits_26 0 rfl ?_
    refine xg_M_row C wF_M_7 mc_100 kc_100 d_M_fits_27 ?_
    refine x_iconst (v := 1) C d_M_fits_30 rfl ?_
    refine x_iald C (ac_101_1 M) mc_101 kc_101 d_M_fits_31 ?_
    refine x_icmp_ge C 90 d_M_fits_32 (by decide) (fun g3 => ?_) (fun g3 => ?_)
    · replace hf := it g3 hf
      cases hf
      exact x_sub [0, 1, 2, 3, 4] rfl K
    · replace hf := ie g3 hf
      refine x_iload C d_M_fits_35 4 rfl ?_
      refine x_iload_n C d_M_fits_37 2 rfl ?_
      refine x_iload C d_M_fits_38 5 rfl ?_
      obtain ⟨c4, hc4, hf⟩ := bs hf
      refine x_callS (rest := [.int x5]) (n := 2) C (ct_M_has E F _ _ _ _  hc4) mi_M_has (by decide) wL_M_152 d_M_fits_40 rfl rfl (Nat.le_of_ble_eq_true rfl) ?_
      show X _ _ _ _ _ _ _ _ _ _ _ _ _ _ _ _ _ _ _ _ _ [.int c4, .int x5]
      refine x_if_eq C 80 d_M_fits_43 (by decide) (fun g5 => ?_) (fun g5 => ?_)
      · replace hf := it g5 hf
        refine x_iconst (v := 0) C d_M_fits_80 rfl ?_
        refine x_iadd C d_M_fits_81 ?_
        refine x_istore (lv' := [(5, .int (x5 + 0)), (0, .ref (ad 100)), (1, .int x1), (2, .int x2), (4, .int x4), (6, .int x6)]) C d_M_fits_82 (by decide) rfl ?_
        refine x_iinc (v := (x6 + 1)) (lv' := [(6, .int (x6 + 1)), (5, .int (x5 + 0)), (0, .ref (ad 100)), (1, .int x1), (2, .int x2), (4, .int x4)]) C d_M_fits_84 5 rfl rfl (by decide) rfl ?_
        refine x_goto C 24 d_M_fits_87 (by decide) ?_
        refine x_sub [2, 3, 4, 5, 1, 0] rfl ?_
        exact ih _ _ _ hf K
      · replace hf := ie g5 hf
        refine x_aload_n C d_M_fits_46 0 rfl ?_
        refine x_iload C d_M_fits_47 5 rfl ?_
        refine x_iconst (v := 0) C d_M_fits_49 rfl ?_
        obtain ⟨c6, hc6, hf⟩ := bs hf
        refine x_callV (rest := [.int x5]) (n := 2) C (ct_M_of E F _ _ _ _  hc6) mi_M_of (by decide) mc_100 ⟨_, cel_M kc_100⟩ rfl rfl wL_M_146 d_M_fits_50 rfl rfl (Nat.le_of_ble_eq_true rfl) ?_
        show X _ _ _ _ _ _ _ _ _ _ _ _ _ _ _ _ _ _ _ _ _ [.int c6, .int x5]
        refine x_iload C d_M_fits_53 3 rfl ?_
        refine x_icmp_eq C 70 d_M_fits_55 (by decide) (fun g7 => ?_) (fun g7 => ?_)
        · replace hf := it g7 hf
          refine x_aload_n C d_M_fits_70 0 rfl ?_
          refine x_iload C d_M_fits_71 5 rfl ?_
          refine x_iconst (v := 3) C d_M_fits_73 rfl ?_
          obtain ⟨c8, hc8, hf⟩ := bs hf
          refine x_callV (rest := [.int x5]) (n := 2) C (ct_M_of E F _ _ _ _  hc8) mi_M_of (by decide) mc_100 ⟨_, cel_M kc_100⟩ rfl rfl wL_M_146 d_M_fits_74 rfl rfl (Nat.le_of_ble_eq_true rfl) ?_
          show X _ _ _ _ _ _ _ _ _ _ _ _ _ _ _ _ _ _ _ _ _ [.int c8, .int x5]
          refine x_goto C 81 d_M_fits_77 (by decide) ?_
          refine x_iadd C d_M_fits_81 ?_
          refine x_istore (lv' := [(5, .int (x5 + c8)), (0, .ref (ad 100)), (1, .int x1), (2, .int x2), (4, .int x4), (6, .int x6)]) C d_M_fits_82 (by decide) rfl ?_
          refine x_iinc (v := (x6 + 1)) (lv' := [(6, .int (x6 + 1)), (5, .int (x5 + c8)), (0, .ref (ad 100)), (1, .int x1), (2, .int x2), (4, .int x4)]) C d_M_fits_84 5 rfl rfl (by decide) rfl ?_
          refine x_goto C 24 d_M_fits_87 (by decide) ?_
          refine x_sub [2, 3, 4, 5, 1, 0] rfl ?_
          exact ih _ _ _ hf K
        · replace hf := ie g7 hf
          refine x_aload_n C d_M_fits_58 0 rfl ?_
          refine x_iload C d_M_fits_59 5 rfl ?_
          refine x_iconst (v := 1) C d_M_fits_61 rfl ?_
          obtain ⟨c9, hc9, hf⟩ := bs hf
          refine x_callV (rest := [.int x5]) (n := 2) C (ct_M_of E F _ _ _ _  hc9) mi_M_of (by decide) mc_100 ⟨_, cel_M kc_100⟩ rfl rfl wL_M_146 d_M_fits_62 rfl rfl (Nat.le_of_ble_eq_true rfl) ?_
          show X _ _ _ _ _ _ _ _ _ _ _ _ _ _ _ _ _ _ _ _ _ [.int c9, .int x5]
          refine x_iload C d_M_fits_65 3 rfl ?_
          refine x_icmp_ne C 80 d_M_fits_67 (by decide) (fun g10 => ?_) (fun g10 => ?_)
          · replace hf := ie g10 hf
            refine x_iconst (v := 0) C d_M_fits_80 rfl ?_
            refine x_iadd C d_M_fits_81 ?_
            refine x_istore (lv' := [(5, .int (x5 + 0)), (0, .ref (ad 100)), (1, .int x1), (2, .int x2), (4, .int x4), (6, .int x6)]) C d_M_fits_82 (by decide) rfl ?_
            refine x_iinc (v := (x6 + 1)) (lv' := [(6, .int (x6 + 1)), (5, .int (x5 + 0)), (0, .ref (ad 100)), (1, .int x1), (2, .int x2), (4, .int x4)]) C d_M_fits_84 5 rfl rfl (by decide) rfl ?_
            refine x_goto C 24 d_M_fits_87 (by decide) ?_
            refine x_sub [2, 3, 4, 5, 1, 0] rfl ?_
            exact ih _ _ _ hf K
          · replace hf := it g10 hf
            refine x_aload_n C d_M_fits_70 0 rfl ?_
            refine x_iload C d_M_fits_71 5 rfl ?_
            refine x_iconst (v := 3) C d_M_fits_73 rfl ?_
            obtain ⟨c11, hc11, hf⟩ := bs hf
            refine x_callV (rest := [.int x5]) (n := 2) C (ct_M_of E F _ _ _ _  hc11) mi_M_of (by decide) mc_100 ⟨_, cel_M kc_100⟩ rfl rfl wL_M_146 d_M_fits_74 rfl rfl (Nat.le_of_ble_eq_true rfl) ?_
            show X _ _ _ _ _ _ _ _ _ _ _ _ _ _ _ _ _ _ _ _ _ [.int c11, .int x5]
            refine x_goto C 81 d_M_fits_77 (by decide) ?_
            refine x_iadd C d_M_fits_81 ?_
            refine x_istore (lv' := [(5, .int (x5 + c11)), (0, .ref (ad 100)), (1, .int x1), (2, .int x2), (4, .int x4), (6, .int x6)]) C d_M_fits_82 (by decide) rfl ?_
            refine x_iinc (v := (x6 + 1)) (lv' := [(6, .int (x6 + 1)), (5, .int (x5 + c11)), (0, .ref (ad 100)), (1, .int x1), (2, .int x2), (4, .int x4)]) C d_M_fits_84 5 rfl rfl (by decide) rfl ?_
            refine x_goto C 24 d_M_fits_87 (by decide) ?_
            refine x_sub [2, 3, 4, 5, 1, 0] rfl ?_
            exact ih _ _ _ hf K
set_option maxHeartbeats 4000000 in
set_option maxRecDepth 100000 in
theorem lw_M_fits_5 {p : Program} {l : Launch} {e : Env} {s : State} {m : MethodId} {args : Array Value} {below : List Frame} {meth : Method} {c : Code} {D : va_G} {ad : Nat → Nat} {cs : Nat → ClassId} {A : Nat → Prop} {V : Option Value} {N : Mem} (E : Ev ad cs A LM) (C : Cx p s m args meth c "KissClearingModel" b_M_fits 7 (some .boolean) D ad cs A LM) (F : Nat) (M : Mem) (x1 : Int32) (x2 : Int32) : ∀ (n : Nat) (x3 : Int32) (x4 : Int32) (u : Int32), L_M_fits_5 F M x1 x2 n x3 x4 = some u → X p l e 1 s m args below meth c 7 D ad cs A LM V N M 119 [(3, .int u)] [] → X p l e 1 s m args below meth c 7 D ad cs A LM V N M 5 [(0, .ref (ad 100)), (1, .int x1), (2, .int x2), (3, .int x3), (4, .int x4)] [] := by
  intro n
  induction n with
  | zero => intro x3 x4 u hf; cases hf
  | succ n ih =>
    intro x3 x4 u hf K
    replace hf : B_M_fits_5 F M x1 x2 (L_M_fits_5 F M x1 x2 n) x3 x4 = some u := hf
    unfold B_M_fits_5 at hf
    refine x_iload C d_M_fits_5 4 rfl ?_
    refine x_aload_n C d_M_fits_7 0 rfl ?_
    refine xg_M_persons C wF_M_136 mc_100 kc_100 d_M_fits_8 ?_
    refine x_icmp_ge C 119 d_M_fits_11 (by decide) (fun g1 => ?_) (fun g1 => ?_)
    · replace hf := it g1 hf
      cases hf
      exact x_sub [3] rfl K
    · replace hf := ie g1 hf
      refine x_iload_n C d_M_fits_14 3 rfl ?_
      refine x_if_eq C 119 d_M_fits_15 (by decide) (fun g2 => ?_) (fun g2 => ?_)
      · replace hf := it g2 hf
        cases hf
        exact x_sub [3] rfl K
      · replace hf := ie g2 hf
        refine x_iconst (v := 0) C d_M_fits_18 rfl ?_
        refine x_istore (lv' := [(5, .int 0), (0, .ref (ad 100)), (1, .int x1), (2, .int x2), (3, .int x3), (4, .int x4)]) C d_M_fits_19 (by decide) rfl ?_
        refine x_iconst (v := 0) C d_M_fits_21 rfl ?_
        refine x_istore (lv' := [(6, .int 0), (5, .int 0), (0, .ref (ad 100)), (1, .int x1), (2, .int x2), (3, .int x3), (4, .int x4)]) C d_M_fits_22 (by decide) rfl ?_
        obtain ⟨u12, hu12, hf⟩ := bs hf
        refine x_sub [2, 3, 4, 6, 1, 0] rfl ?_
        refine lw_M_fits_24 E C F _ _ _ _ _ _ _ _ hu12 ?_
        refine x_iload C d_M_fits_90 4 rfl ?_
        refine x_aload_n C d_M_fits_92 0 rfl ?_
        refine xg_M_items C wF_M_19 mc_100 kc_100 d_M_fits_93 ?_
        refine x_bipush (v := 40) C d_M_fits_96 rfl ?_
        refine x_iload_n C d_M_fits_98 1 rfl ?_
        refine x_imul C d_M_fits_99 ?_
        refine x_iload C d_M_fits_100 3 rfl ?_
        refine x_iadd C d_M_fits_102 ?_
        obtain ⟨t13, ht13, hf⟩ := bs hf
        refine x_iald C ht13 mc_104 kc_104 d_M_fits_103 ?_
        refine x_icmp_ne C 111 d_M_fits_104 (by decide) (fun g14 => ?_) (fun g14 => ?_)
        · replace hf := ie g14 hf
          refine x_iconst (v := 0) C d_M_fits_111 rfl ?_
          refine x_istore_n (lv' := [(3, .int 0), (0, .ref (ad 100)), (1, .int x1), (2, .int x2), (4, .int x4), (5, .int u12)]) C d_M_fits_112 (by decide) rfl ?_
          refine x_iinc (v := (x4 + 1)) (lv' := [(4, .int (x4 + 1)), (3, .int 0), (0, .ref (ad 100)), (1, .int x1), (2, .int x2), (5, .int u12)]) C d_M_fits_113 4 rfl rfl (by decide) rfl ?_
          refine x_goto C 5 d_M_fits_116 (by decide) ?_
          refine x_sub [2, 3, 4, 1, 0] rfl ?_
          exact ih _ _ _ hf K
        · replace hf := it g14 hf
          refine x_iconst (v := 1) C d_M_fits_107 rfl ?_
          refine x_goto C 112 d_M_fits_108 (by decide) ?_
          refine x_istore_n (lv' := [(3, .int 1), (0, .ref (ad 100)), (1, .int x1), (2, .int x2), (4, .int x4), (5, .int u12)]) C d_M_fits_112 (by decide) rfl ?_
          refine x_iinc (v := (x4 + 1)) (lv' := [(4, .int (x4 + 1)), (3, .int 1), (0, .ref (ad 100)), (1, .int x1), (2, .int x2), (5, .int u12)]) C d_M_fits_113 4 rfl rfl (by decide) rfl ?_
          refine x_goto C 5 d_M_fits_116 (by decide) ?_
          refine x_sub [2, 3, 4, 1, 0] rfl ?_
          exact ih _ _ _ hf K
set_option maxHeartbeats 4000000 in
set_option maxRecDepth 100000 in
theorem ct_M_fits {l : Launch} {D : va_G} {ad : Nat → Nat} {cs : Nat → ClassId} {A : Nat → Prop} (E : Ev ad cs A LM) (F : Nat) (M : Mem) (x1 : Int32) (x2 : Int32) (R : Int32)  (hf : M_fits F M x1 x2 = some R) : Met l y_M_fits (Cond.code y_M_fits b_M_fits 7 (some .boolean) :: wl) (rmD 1) (PX D ad cs A LM [.ref (ad 100), .int x1, .int x2] M) (QX D ad cs A LM (some (.int R)) M) 0 0 A := by
  refine x_enter (lv := [(0, .ref (ad 100)), (1, .int x1), (2, .int x2)]) E mi_M_fits.1 (Nat.le_of_ble_eq_true rfl) rfl (fun p e s m args below meth c C => ?_)
  unfold M_fits at hf
  refine x_iconst (v := 1) C d_M_fits_0 rfl ?_
  refine x_istore_n (lv' := [(3, .int 1), (0, .ref (ad 100)), (1, .int x1), (2, .int x2)]) C d_M_fits_1 (by decide) rfl ?_
  refine x_iconst (v := 0) C d_M_fits_2 rfl ?_
  refine x_istore (lv' := [(4, .int 0), (3, .int 1), (0, .ref (ad 100)), (1, .int x1), (2, .int x2)]) C d_M_fits_3 (by decide) rfl ?_
  obtain ⟨u15, hu15, hf⟩ := bs hf
  refine x_sub [2, 3, 4, 1, 0] rfl ?_
  refine lw_M_fits_5 E C F _ _ _ _ _ _ _ hu15 ?_
  refine x_iload_n C d_M_fits_119 0 rfl ?_
  obtain ⟨t16, ht16, hf⟩ := bs hf
  obtain ⟨hb, hq⟩ := gd ht16
  cases hf
  exact x_zret C d_M_fits_120 hb (congrArg (fun z => some (Value.int z)) hq) rfl
set_option maxHeartbeats 4000000 in
set_option maxRecDepth 100000 in
theorem lw_M_layBlushes_71 {p : Program} {l : Launch} {e : Env} {s : State} {m : MethodId} {args : Array Value} {below : List Frame} {meth : Method} {c : Code} {D : va_G} {ad : Nat → Nat} {cs : Nat → ClassId} {A : Nat → Prop} {V : Option Value} {N : Mem} (E : Ev ad cs A LM) (C : Cx p s m args meth c "KissClearingModel" b_M_layBlushes 3 (some .int) D ad cs A LM) (F : Nat) (x1 : Int32) : ∀ (n : Nat) (M : Mem) (x2 : Int32) (u : Mem), L_M_layBlushes_71 F x1 n M x2 = some u → X p l e 3 s m args below meth c 3 D ad cs A LM V N u 156 [] [] → X p l e 3 s m args below meth c 3 D ad cs A LM V N M 71 [(0, .ref (ad 100)), (1, .int x1), (2, .int x2)] [] := by
  intro n
  induction n with
  | zero => intro M x2 u hf; cases hf
  | succ n ih =>
    intro M x2 u hf K
    replace hf : B_M_layBlushes_71 F x1 (L_M_layBlushes_71 F x1 n) M x2 = some u := hf
    unfold B_M_layBlushes_71 at hf
    refine x_iload_n C d_M_layBlushes_71 2 rfl ?_
    refine x_iconst (v := 1) C d_M_layBlushes_72 rfl ?_
    refine x_aload_n C d_M_layBlushes_73 0 rfl ?_
    refine xg_M_row C wF_M_7 mc_100 kc_100 d_M_layBlushes_74 ?_
    refine x_iconst (v := 1) C d_M_layBlushes_77 rfl ?_
    refine x_iald C (ac_101_1 M) mc_101 kc_101 d_M_layBlushes_78 ?_
    refine x_ishl C d_M_layBlushes_79 ?_
    refine x_icmp_ge C 156 d_M_layBlushes_80 (by decide) (fun g8 => ?_) (fun g8 => ?_)
    · replace hf := it g8 hf
      cases hf
      exact x_sub [] rfl K
    · replace hf := ie g8 hf
      refine x_aload_n C d_M_layBlushes_83 0 rfl ?_
      refine x_iload_n C d_M_layBlushes_84 2 rfl ?_
      obtain ⟨c9, hc9, hf⟩ := bs hf
      refine x_callV (rest := []) (n := 1) C (ct_M_areOpen E F _ _ _  hc9) mi_M_areOpen (by decide) mc_100 ⟨_, cel_M kc_100⟩ rfl rfl wL_M_314 d_M_layBlushes_85 rfl rfl (Nat.le_of_ble_eq_true rfl) ?_
      show X _ _ _ _ _ _ _ _ _ _ _ _ _ _ _ _ _ _ _ _ _ [.int c9]
      refine x_if_eq C 150 d_M_layBlushes_88 (by decide) (fun g10 => ?_) (fun g10 => ?_)
      · replace hf := it g10 hf
        refine x_iinc (v := (x2 + 1)) (lv' := [(2, .int (x2 + 1)), (0, .ref (ad 100)), (1, .int x1)]) C d_M_layBlushes_150 2 rfl rfl (by decide) rfl ?_
        refine x_goto C 71 d_M_layBlushes_153 (by decide) ?_
        refine x_sub [1, 2, 0] rfl ?_
        exact ih _ _ _ hf K
      · replace hf := ie g10 hf
        refine x_aload_n C d_M_layBlushes_91 0 rfl ?_
        refine x_iload_n C d_M_layBlushes_92 1 rfl ?_
        refine x_iload_n C d_M_layBlushes_93 2 rfl ?_
        obtain ⟨c11, hc11, hf⟩ := bs hf
        refine x_callV (rest := []) (n := 2) C (ct_M_fits E F _ _ _ _  hc11) mi_M_fits (by decide) mc_100 ⟨_, cel_M kc_100⟩ rfl rfl wL_M_317 d_M_layBlushes_94 rfl rfl (Nat.le_of_ble_eq_true rfl) ?_
        show X _ _ _ _ _ _ _ _ _ _ _ _ _ _ _ _ _ _ _ _ _ [.int c11]
        refine x_if_eq C 150 d_M_layBlushes_97 (by decide) (fun g12 => ?_) (fun g12 => ?_)
        · replace hf := it g12 hf
          refine x_iinc (v := (x2 + 1)) (lv' := [(2, .int (x2 + 1)), (0, .ref (ad 100)), (1, .int x1)]) C d_M_layBlushes_150 2 rfl rfl (by decide) rfl ?_
          refine x_goto C 71 d_M_layBlushes_153 (by decide) ?_
          refine x_sub [1, 2, 0] rfl ?_
          exact ih _ _ _ hf K
        · replace hf := ie g12 hf
          refine x_aload_n C d_M_layBlushes_100 0 rfl ?_
          refine x_aload_n C d_M_layBlushes_101 0 rfl ?_
          refine xg_M_blushesMany C wF_M_305 mc_100 kc_100 d_M_layBlushes_102 ?_
          obtain ⟨j13, hj13, hf⟩ := bs hf
          have Jj13 : X p l e 3 s m args below meth c 3 D ad cs A LM V N M 116 [(0, .ref (ad 100)), (1, .int x1), (2, .int x2)] [.int j13, .ref (ad 100)] := by
            refine xp_M_blushesFirst (x := j13) C wF_M_308 mc_100 kc_100 d_M_layBlushes_116 ?_
            refine x_aload_n C d_M_layBlushes_119 0 rfl ?_
            refine x_aload_n C d_M_layBlushes_120 0 rfl ?_
            refine xg_M_blushesMany C wF_M_305 mc_100 kc_100 d_M_layBlushes_121 ?_
            obtain ⟨j14, hj14, hf⟩ := bs hf
            have Jj14 : X p l e 3 s m args below meth c 3 D ad cs A LM V N (up M 100 29 j13) 137 [(0, .ref (ad 100)), (1, .int x1), (2, .int x2)] [.int j14, .ref (ad 100)] := by
              refine xp_M_blushesSure (x := j14) C wF_M_311 mc_100 kc_100 d_M_layBlushes_137 ?_
              refine x_aload_n C d_M_layBlushes_140 0 rfl ?_
              refine x_dup C d_M_layBlushes_141 rfl ?_
              refine xg_M_blushesMany C wF_M_305 mc_100 kc_100 d_M_layBlushes_142 ?_
              refine x_iconst (v := 1) C d_M_layBlushes_145 rfl ?_
              refine x_iadd C d_M_layBlushes_146 ?_
              refine xp_M_blushesMany (x := (((up (up M 100 29 j13) 100 30 j14) 100 28) + 1)) C wF_M_305 mc_100 kc_100 d_M_layBlushes_147 ?_
              refine x_iinc (v := (x2 + 1)) (lv' := [(2, .int (x2 + 1)), (0, .ref (ad 100)), (1, .int x1)]) C d_M_layBlushes_150 2 rfl rfl (by decide) rfl ?_
              refine x_goto C 71 d_M_layBlushes_153 (by decide) ?_
              refine x_sub [1, 2, 0] rfl ?_
              exact ih _ _ _ hf K
            replace hf := hj14
            refine x_if_ne C 131 d_M_layBlushes_124 (by decide) (fun g15 => ?_) (fun g15 => ?_)
            · replace hf := ie g15 hf
              refine x_aload_n C d_M_layBlushes_131 0 rfl ?_
              refine xg_M_blushesSure C wF_M_311 mc_100 kc_100 d_M_layBlushes_132 ?_
              refine x_iload_n C d_M_layBlushes_135 2 rfl ?_
              refine x_iand C d_M_layBlushes_136 ?_
              cases hf
              exact x_sub [0, 1, 2] rfl Jj14
            · replace hf := it g15 hf
              refine x_iload_n C d_M_layBlushes_127 2 rfl ?_
              refine x_goto C 137 d_M_layBlushes_128 (by decide) ?_
              cases hf
              exact x_sub [0, 1, 2] rfl Jj14
          replace hf := hj13
          refine x_if_ne C 112 d_M_layBlushes_105 (by decide) (fun g16 => ?_) (fun g16 => ?_)
          · replace hf := ie g16 hf
            refine x_aload_n C d_M_layBlushes_112 0 rfl ?_
            refine xg_M_blushesFirst C wF_M_308 mc_100 kc_100 d_M_layBlushes_113 ?_
            cases hf
            exact x_sub [0, 1, 2] rfl Jj13
          · replace hf := it g16 hf
            refine x_iload_n C d_M_layBlushes_108 2 rfl ?_
            refine x_goto C 116 d_M_layBlushes_109 (by decide) ?_
            cases hf
            exact x_sub [0, 1, 2] rfl Jj13
set_option maxHeartbeats 4000000 in
set_option maxRecDepth 100000 in
theorem ct_M_layBlushes {l : Launch} {D : va_G} {ad : Nat → Nat} {cs : Nat → ClassId} {A : Nat → Prop} (E : Ev ad cs A LM) (F : Nat) (M : Mem) (x1 : Int32) (R : (Int32 × Mem))  (hf : M_layBlushes F M x1 = some R) : Met l y_M_layBlushes (Cond.code y_M_layBlushes b_M_layBlushes 3 (some .int) :: wl) (rmD 3) (PX D ad cs A LM [.ref (ad 100), .int x1] M) (QX D ad cs A LM (some (.int R.1)) R.2) 0 0 A := by
  refine x_enter (lv := [(0, .ref (ad 100)), (1, .int x1)]) E mi_M_layBlushes.1 (Nat.le_of_ble_eq_true rfl) rfl (fun p e s m args below meth c C => ?_)
  unfold M_layBlushes at hf
  refine x_iload_n C d_M_layBlushes_0 1 rfl ?_
  obtain ⟨c1, hc1, hf⟩ := bs hf
  refine x_callS (rest := []) (n := 1) C (ct_M_isRow E F _ _ _  hc1) mi_M_isRow (by decide) wL_M_71 d_M_layBlushes_1 rfl rfl (Nat.le_of_ble_eq_true rfl) ?_
  show X _ _ _ _ _ _ _ _ _ _ _ _ _ _ _ _ _ _ _ _ _ [.int c1]
  refine x_if_ne C 9 d_M_layBlushes_4 (by decide) (fun g2 => ?_) (fun g2 => ?_)
  · replace hf := ie g2 hf
    refine x_aload_n C d_M_layBlushes_9 0 rfl ?_
    refine xg_M_persons C wF_M_136 mc_100 kc_100 d_M_layBlushes_10 ?_
    refine x_if_ne C 19 d_M_layBlushes_13 (by decide) (fun g3 => ?_) (fun g3 => ?_)
    · replace hf := ie g3 hf
      refine x_aload_n C d_M_layBlushes_19 0 rfl ?_
      refine xg_M_sizes C wF_M_16 mc_100 kc_100 d_M_layBlushes_20 ?_
      refine x_iload_n C d_M_layBlushes_23 1 rfl ?_
      obtain ⟨t4, ht4, hf⟩ := bs hf
      refine x_iald C ht4 mc_103 kc_103 d_M_layBlushes_24 ?_
      refine x_if_ge C 34 d_M_layBlushes_25 (by decide) (fun g5 => ?_) (fun g5 => ?_)
      · replace hf := it g5 hf
        refine x_aload_n C d_M_layBlushes_34 0 rfl ?_
        refine xg_M_sizes C wF_M_16 mc_100 kc_100 d_M_layBlushes_35 ?_
        refine x_iload_n C d_M_layBlushes_38 1 rfl ?_
        obtain ⟨t6, ht6, hf⟩ := bs hf
        refine x_iald C ht6 mc_103 kc_103 d_M_layBlushes_39 ?_
        refine x_aload_n C d_M_layBlushes_40 0 rfl ?_
        refine xg_M_persons C wF_M_136 mc_100 kc_100 d_M_layBlushes_41 ?_
        refine x_icmp_eq C 53 d_M_layBlushes_44 (by decide) (fun g7 => ?_) (fun g7 => ?_)
        · replace hf := it g7 hf
          refine x_aload_n C d_M_layBlushes_53 0 rfl ?_
          refine x_iconst (v := 0) C d_M_layBlushes_54 rfl ?_
          refine xp_M_blushesMany (x := 0) C wF_M_305 mc_100 kc_100 d_M_layBlushes_55 ?_
          refine x_aload_n C d_M_layBlushes_58 0 rfl ?_
          refine x_bipush (v := (-9)) C d_M_layBlushes_59 rfl ?_
          refine xp_M_blushesFirst (x := (-9)) C wF_M_308 mc_100 kc_100 d_M_layBlushes_61 ?_
          refine x_aload_n C d_M_layBlushes_64 0 rfl ?_
          refine x_iconst (v := 0) C d_M_layBlushes_65 rfl ?_
          refine xp_M_blushesSure (x := 0) C wF_M_311 mc_100 kc_100 d_M_layBlushes_66 ?_
          refine x_iconst (v := 0) C d_M_layBlushes_69 rfl ?_
          refine x_istore_n (lv' := [(2, .int 0), (0, .ref (ad 100)), (1, .int x1)]) C d_M_layBlushes_70 (by decide) rfl ?_
          obtain ⟨u17, hu17, hf⟩ := bs hf
          refine x_sub [1, 2, 0] rfl ?_
          refine lw_M_layBlushes_71 E C F _ _ _ _ _ hu17 ?_
          refine x_iconst (v := 0) C d_M_layBlushes_156 rfl ?_
          cases hf
          exact x_iret C d_M_layBlushes_157 rfl rfl
        · replace hf := ie g7 hf
          refine x_aload_n C d_M_layBlushes_47 0 rfl ?_
          refine x_iconst (v := 5) C d_M_layBlushes_48 rfl ?_
          obtain ⟨c18, hc18, hf⟩ := bs hf
          refine x_callV (rest := []) (n := 1) C (ct_M_find E F _ _ _  hc18) mi_M_find (by decide) mc_100 ⟨_, cel_M kc_100⟩ rfl rfl wL_M_75 d_M_layBlushes_49 rfl rfl (Nat.le_of_ble_eq_true rfl) ?_
          show X _ _ _ _ _ _ _ _ _ _ _ _ _ _ _ _ _ _ _ _ _ [.int c18.1]
          cases hf
          exact x_iret C d_M_layBlushes_52 rfl rfl
      · replace hf := ie g5 hf
        refine x_aload_n C d_M_layBlushes_28 0 rfl ?_
        refine x_iconst (v := 1) C d_M_layBlushes_29 rfl ?_
        obtain ⟨c19, hc19, hf⟩ := bs hf
        refine x_callV (rest := []) (n := 1) C (ct_M_find E F _ _ _  hc19) mi_M_find (by decide) mc_100 ⟨_, cel_M kc_100⟩ rfl rfl wL_M_75 d_M_layBlushes_30 rfl rfl (Nat.le_of_ble_eq_true rfl) ?_
        show X _ _ _ _ _ _ _ _ _ _ _ _ _ _ _ _ _ _ _ _ _ [.int c19.1]
        cases hf
        exact x_iret C d_M_layBlushes_33 rfl rfl
    · replace hf := it g3 hf
      refine x_bipush (v := (-4)) C d_M_layBlushes_16 rfl ?_
      cases hf
      exact x_iret C d_M_layBlushes_18 rfl rfl
  · replace hf := it g2 hf
    refine x_iconst (v := (-1)) C d_M_layBlushes_7 rfl ?_
    cases hf
    exact x_iret C d_M_layBlushes_8 rfl rfl
set_option maxHeartbeats 4000000 in
set_option maxRecDepth 100000 in
theorem ct_M_blushes {l : Launch} {D : va_G} {ad : Nat → Nat} {cs : Nat → ClassId} {A : Nat → Prop} (E : Ev ad cs A LM) (F : Nat) (M : Mem) (x1 : Int32) (R : (Int32 × Mem))  (hf : M_blushes F M x1 = some R) : Met l y_M_blushes (Cond.code y_M_blushes b_M_blushes 3 (some .int) :: wl) (rmD 4) (PX D ad cs A LM [.ref (ad 100), .int x1] M) (QX D ad cs A LM (some (.int R.1)) R.2) 0 0 A := by
  refine x_enter (lv := [(0, .ref (ad 100)), (1, .int x1)]) E mi_M_blushes.1 (Nat.le_of_ble_eq_true rfl) rfl (fun p e s m args below meth c C => ?_)
  unfold M_blushes at hf
  refine x_aload_n C d_M_blushes_0 0 rfl ?_
  refine x_iload_n C d_M_blushes_1 1 rfl ?_
  obtain ⟨c1, hc1, hf⟩ := bs hf
  refine x_callV (rest := []) (n := 1) C (ct_M_layBlushes E F _ _ _  hc1) mi_M_layBlushes (by decide) mc_100 ⟨_, cel_M kc_100⟩ rfl rfl wL_M_320 d_M_blushes_2 rfl rfl (Nat.le_of_ble_eq_true rfl) ?_
  show X _ _ _ _ _ _ _ _ _ _ _ _ _ _ _ _ _ _ _ _ _ [.int c1.1]
  refine x_istore_n (lv' := [(2, .int c1.1), (0, .ref (ad 100)), (1, .int x1)]) C d_M_blushes_5 (by decide) rfl ?_
  refine x_iload_n C d_M_blushes_6 0 rfl ?_
  refine x_if_eq C 12 d_M_blushes_7 (by decide) (fun g2 => ?_) (fun g2 => ?_)
  · replace hf := it g2 hf
    refine x_aload_n C d_M_blushes_12 1 rfl ?_
    refine x_aload_n C d_M_blushes_13 1 rfl ?_
    refine xg_M_blushesFirst C wF_M_308 mc_100 kc_100 d_M_blushes_14 ?_
    refine xp_M_asked (x := (c1.2 100 29)) C wF_M_60 mc_100 kc_100 d_M_blushes_17 ?_
    refine x_aload_n C d_M_blushes_20 1 rfl ?_
    refine xg_M_blushesMany C wF_M_305 mc_100 kc_100 d_M_blushes_21 ?_
    cases hf
    exact x_iret C d_M_blushes_24 rfl rfl
  · replace hf := ie g2 hf
    refine x_iload_n C d_M_blushes_10 0 rfl ?_
    cases hf
    exact x_iret C d_M_blushes_11 rfl rfl
set_option maxHeartbeats 4000000 in
set_option maxRecDepth 100000 in
theorem lw_M_isBusy_4 {p : Program} {l : Launch} {e : Env} {s : State} {m : MethodId} {args : Array Value} {below : List Frame} {meth : Method} {c : Code} {D : va_G} {ad : Nat → Nat} {cs : Nat → ClassId} {A : Nat → Prop} {V : Option Value} {N : Mem} (E : Ev ad cs A LM) (C : Cx p s m args meth c "KissClearingModel" b_M_isBusy 5 (some .boolean) D ad cs A LM) (F : Nat) (M : Mem) (x1 : Int32) : ∀ (n : Nat) (x2 : Int32) (x3 : Int32) (u : Int32), L_M_isBusy_4 F M x1 n x2 x3 = some u → X p l e 0 s m args below meth c 5 D ad cs A LM V N M 136 [(2, .int u)] [] → X p l e 0 s m args below meth c 5 D ad cs A LM V N M 4 [(0, .ref (ad 100)), (1, .int x1), (2, .int x2), (3, .int x3)] [] := by
  intro n
  induction n with
  | zero => intro x2 x3 u hf; cases hf
  | succ n ih =>
    intro x2 x3 u hf K
    replace hf : B_M_isBusy_4 F M x1 (L_M_isBusy_4 F M x1 n) x2 x3 = some u := hf
    unfold B_M_isBusy_4 at hf
    refine x_iload_n C d_M_isBusy_4 3 rfl ?_
    refine x_iload_n C d_M_isBusy_5 1 rfl ?_
    refine x_icmp_ge C 136 d_M_isBusy_6 (by decide) (fun g1 => ?_) (fun g1 => ?_)
    · replace hf := it g1 hf
      cases hf
      exact x_sub [2] rfl K
    · replace hf := ie g1 hf
      refine x_aload_n C d_M_isBusy_9 0 rfl ?_
      refine xg_M_met C wF_M_50 mc_100 kc_100 d_M_isBusy_10 ?_
      refine x_iconst (v := 2) C d_M_isBusy_13 rfl ?_
      refine x_iload_n C d_M_isBusy_14 3 rfl ?_
      refine x_imul C d_M_isBusy_15 ?_
      obtain ⟨t2, ht2, hf⟩ := bs hf
      refine x_iald C ht2 mc_113 kc_113 d_M_isBusy_16 ?_
      refine x_aload_n C d_M_isBusy_17 0 rfl ?_
      refine xg_M_met C wF_M_50 mc_100 kc_100 d_M_isBusy_18 ?_
      refine x_iconst (v := 2) C d_M_isBusy_21 rfl ?_
      refine x_iload_n C d_M_isBusy_22 1 rfl ?_
      refine x_imul C d_M_isBusy_23 ?_
      obtain ⟨t3, ht3, hf⟩ := bs hf
      refine x_iald C ht3 mc_113 kc_113 d_M_isBusy_24 ?_
      obtain ⟨j4, hj4, hf⟩ := bs hf
      have Jj4 : X p l e 0 s m args below meth c 5 D ad cs A LM V N M 98 [(0, .ref (ad 100)), (1, .int x1), (2, .int x2), (3, .int x3)] [.int j4] := by
        refine x_istore (lv' := [(4, .int j4), (0, .ref (ad 100)), (1, .int x1), (2, .int x2), (3, .int x3)]) C d_M_isBusy_98 (by decide) rfl ?_
        refine x_iload_n C d_M_isBusy_100 3 rfl ?_
        refine x_if_ne C 124 d_M_isBusy_101 (by decide) (fun g5 => ?_) (fun g5 => ?_)
        · replace hf := ie g5 hf
          refine x_iconst (v := 1) C d_M_isBusy_124 rfl ?_
          refine x_goto C 129 d_M_isBusy_125 (by decide) ?_
          refine x_istore_n (lv' := [(2, .int 1), (4, .int j4), (0, .ref (ad 100)), (1, .int x1), (3, .int x3)]) C d_M_isBusy_129 (by decide) rfl ?_
          refine x_iinc (v := (x3 + 1)) (lv' := [(3, .int (x3 + 1)), (2, .int 1), (4, .int j4), (0, .ref (ad 100)), (1, .int x1)]) C d_M_isBusy_130 4 rfl rfl (by decide) rfl ?_
          refine x_goto C 4 d_M_isBusy_133 (by decide) ?_
          refine x_sub [3, 4, 1, 0] rfl ?_
          exact ih _ _ _ hf K
        · replace hf := it g5 hf
          refine x_iload C d_M_isBusy_104 0 rfl ?_
          refine x_if_eq C 128 d_M_isBusy_106 (by decide) (fun g6 => ?_) (fun g6 => ?_)
          · replace hf := it g6 hf
            refine x_iconst (v := 0) C d_M_isBusy_128 rfl ?_
            refine x_istore_n (lv' := [(2, .int 0), (4, .int j4), (0, .ref (ad 100)), (1, .int x1), (3, .int x3)]) C d_M_isBusy_129 (by decide) rfl ?_
            refine x_iinc (v := (x3 + 1)) (lv' := [(3, .int (x3 + 1)), (2, .int 0), (4, .int j4), (0, .ref (ad 100)), (1, .int x1)]) C d_M_isBusy_130 4 rfl rfl (by decide) rfl ?_
            refine x_goto C 4 d_M_isBusy_133 (by decide) ?_
            refine x_sub [3, 4, 1, 0] rfl ?_
            exact ih _ _ _ hf K
          · replace hf := ie g6 hf
            refine x_aload_n C d_M_isBusy_109 1 rfl ?_
            refine xg_M_round C wF_M_53 mc_100 kc_100 d_M_isBusy_110 ?_
            refine x_iload_n C d_M_isBusy_113 4 rfl ?_
            obtain ⟨t7, ht7, hf⟩ := bs hf
            refine x_iald C ht7 mc_114 kc_114 d_M_isBusy_114 ?_
            refine x_aload_n C d_M_isBusy_115 1 rfl ?_
            refine xg_M_round C wF_M_53 mc_100 kc_100 d_M_isBusy_116 ?_
            refine x_iload_n C d_M_isBusy_119 2 rfl ?_
            obtain ⟨t8, ht8, hf⟩ := bs hf
            refine x_iald C ht8 mc_114 kc_114 d_M_isBusy_120 ?_
            refine x_icmp_ne C 128 d_M_isBusy_121 (by decide) (fun g9 => ?_) (fun g9 => ?_)
            · replace hf := ie g9 hf
              refine x_iconst (v := 0) C d_M_isBusy_128 rfl ?_
              refine x_istore_n (lv' := [(2, .int 0), (4, .int j4), (0, .ref (ad 100)), (1, .int x1), (3, .int x3)]) C d_M_isBusy_129 (by decide) rfl ?_
              refine x_iinc (v := (x3 + 1)) (lv' := [(3, .int (x3 + 1)), (2, .int 0), (4, .int j4), (0, .ref (ad 100)), (1, .int x1)]) C d_M_isBusy_130 4 rfl rfl (by decide) rfl ?_
              refine x_goto C 4 d_M_isBusy_133 (by decide) ?_
              refine x_sub [3, 4, 1, 0] rfl ?_
              exact ih _ _ _ hf K
            · replace hf := it g9 hf
              refine x_iconst (v := 1) C d_M_isBusy_124 rfl ?_
              refine x_goto C 129 d_M_isBusy_125 (by decide) ?_
              refine x_istore_n (lv' := [(2, .int 1), (4, .int j4), (0, .ref (ad 100)), (1, .int x1), (3, .int x3)]) C d_M_isBusy_129 (by decide) rfl ?_
              refine x_iinc (v := (x3 + 1)) (lv' := [(3, .int (x3 + 1)), (2, .int 1), (4, .int j4), (0, .ref (ad 100)), (1, .int x1)]) C d_M_isBusy_130 4 rfl rfl (by decide) rfl ?_
              refine x_goto C 4 d_M_isBusy_133 (by decide) ?_
              refine x_sub [3, 4, 1, 0] rfl ?_
              exact ih _ _ _ hf K
      replace hf := hj4
      refine x_icmp_eq C 93 d_M_isBusy_25 (by decide) (fun g10 => ?_) (fun g10 => ?_)
      · replace hf := it g10 hf
        refine x_iconst (v := 1) C d_M_isBusy_93 rfl ?_
        refine x_goto C 98 d_M_isBusy_94 (by decide) ?_
        cases hf
        exact x_sub [0, 1, 2, 3] rfl Jj4
      · replace hf := ie g10 hf
        refine x_aload_n C d_M_isBusy_28 0 rfl ?_
        refine xg_M_met C wF_M_50 mc_100 kc_100 d_M_isBusy_29 ?_
        refine x_iconst (v := 2) C d_M_isBusy_32 rfl ?_
        refine x_iload_n C d_M_isBusy_33 3 rfl ?_
        refine x_imul C d_M_isBusy_34 ?_
        obtain ⟨t11, ht11, hf⟩ := bs hf
        refine x_iald C ht11 mc_113 kc_113 d_M_isBusy_35 ?_
        refine x_aload_n C d_M_isBusy_36 0 rfl ?_
        refine xg_M_met C wF_M_50 mc_100 kc_100 d_M_isBusy_37 ?_
        refine x_iconst (v := 2) C d_M_isBusy_40 rfl ?_
        refine x_iload_n C d_M_isBusy_41 1 rfl ?_
        refine x_imul C d_M_isBusy_42 ?_
        refine x_iconst (v := 1) C d_M_isBusy_43 rfl ?_
        refine x_iadd C d_M_isBusy_44 ?_
        obtain ⟨t12, ht12, hf⟩ := bs hf
        refine x_iald C ht12 mc_113 kc_113 d_M_isBusy_45 ?_
        refine x_icmp_eq C 93 d_M_isBusy_46 (by decide) (fun g13 => ?_) (fun g13 => ?_)
        · replace hf := it g13 hf
          refine x_iconst (v := 1) C d_M_isBusy_93 rfl ?_
          refine x_goto C 98 d_M_isBusy_94 (by decide) ?_
          cases hf
          exact x_sub [0, 1, 2, 3] rfl Jj4
        · replace hf := ie g13 hf
          refine x_aload_n C d_M_isBusy_49 0 rfl ?_
          refine xg_M_met C wF_M_50 mc_100 kc_100 d_M_isBusy_50 ?_
          refine x_iconst (v := 2) C d_M_isBusy_53 rfl ?_
          refine x_iload_n C d_M_isBusy_54 3 rfl ?_
          refine x_imul C d_M_isBusy_55 ?_
          refine x_iconst (v := 1) C d_M_isBusy_56 rfl ?_
          refine x_iadd C d_M_isBusy_57 ?_
          obtain ⟨t14, ht14, hf⟩ := bs hf
          refine x_iald C ht14 mc_113 kc_113 d_M_isBusy_58 ?_
          refine x_aload_n C d_M_isBusy_59 0 rfl ?_
          refine xg_M_met C wF_M_50 mc_100 kc_100 d_M_isBusy_60 ?_
          refine x_iconst (v := 2) C d_M_isBusy_63 rfl ?_
          refine x_iload_n C d_M_isBusy_64 1 rfl ?_
          refine x_imul C d_M_isBusy_65 ?_
          obtain ⟨t15, ht15, hf⟩ := bs hf
          refine x_iald C ht15 mc_113 kc_113 d_M_isBusy_66 ?_
          refine x_icmp_eq C 93 d_M_isBusy_67 (by decide) (fun g16 => ?_) (fun g16 => ?_)
          · replace hf := it g16 hf
            refine x_iconst (v := 1) C d_M_isBusy_93 rfl ?_
            refine x_goto C 98 d_M_isBusy_94 (by decide) ?_
            cases hf
            exact x_sub [0, 1, 2, 3] rfl Jj4
          · replace hf := ie g16 hf
            refine x_aload_n C d_M_isBusy_70 0 rfl ?_
            refine xg_M_met C wF_M_50 mc_100 kc_100 d_M_isBusy_71 ?_
            refine x_iconst (v := 2) C d_M_isBusy_74 rfl ?_
            refine x_iload_n C d_M_isBusy_75 3 rfl ?_
            refine x_imul C d_M_isBusy_76 ?_
            refine x_iconst (v := 1) C d_M_isBusy_77 rfl ?_
            refine x_iadd C d_M_isBusy_78 ?_
            obtain ⟨t17, ht17, hf⟩ := bs hf
            refine x_iald C ht17 mc_113 kc_113 d_M_isBusy_79 ?_
            refine x_aload_n C d_M_isBusy_80 0 rfl ?_
            refine xg_M_met C wF_M_50 mc_100 kc_100 d_M_isBusy_81 ?_
            refine x_iconst (v := 2) C d_M_isBusy_84 rfl ?_
            refine x_iload_n C d_M_isBusy_85 1 rfl ?_
            refine x_imul C d_M_isBusy_86 ?_
            refine x_iconst (v := 1) C d_M_isBusy_87 rfl ?_
            refine x_iadd C d_M_isBusy_88 ?_
            obtain ⟨t18, ht18, hf⟩ := bs hf
            refine x_iald C ht18 mc_113 kc_113 d_M_isBusy_89 ?_
            refine x_icmp_ne C 97 d_M_isBusy_90 (by decide) (fun g19 => ?_) (fun g19 => ?_)
            · replace hf := ie g19 hf
              refine x_iconst (v := 0) C d_M_isBusy_97 rfl ?_
              cases hf
              exact x_sub [0, 1, 2, 3] rfl Jj4
            · replace hf := it g19 hf
              refine x_iconst (v := 1) C d_M_isBusy_93 rfl ?_
              refine x_goto C 98 d_M_isBusy_94 (by decide) ?_
              cases hf
              exact x_sub [0, 1, 2, 3] rfl Jj4
set_option maxHeartbeats 4000000 in
set_option maxRecDepth 100000 in
theorem ct_M_isBusy {l : Launch} {D : va_G} {ad : Nat → Nat} {cs : Nat → ClassId} {A : Nat → Prop} (E : Ev ad cs A LM) (F : Nat) (M : Mem) (x1 : Int32) (R : Int32)  (hf : M_isBusy F M x1 = some R) : Met l y_M_isBusy (Cond.code y_M_isBusy b_M_isBusy 5 (some .boolean) :: wl) (rmD 0) (PX D ad cs A LM [.ref (ad 100), .int x1] M) (QX D ad cs A LM (some (.int R)) M) 0 0 A := by
  refine x_enter (lv := [(0, .ref (ad 100)), (1, .int x1)]) E mi_M_isBusy.1 (Nat.le_of_ble_eq_true rfl) rfl (fun p e s m args below meth c C => ?_)
  unfold M_isBusy at hf
  refine x_iconst (v := 0) C d_M_isBusy_0 rfl ?_
  refine x_istore_n (lv' := [(2, .int 0), (0, .ref (ad 100)), (1, .int x1)]) C d_M_isBusy_1 (by decide) rfl ?_
  refine x_iconst (v := 0) C d_M_isBusy_2 rfl ?_
  refine x_istore_n (lv' := [(3, .int 0), (2, .int 0), (0, .ref (ad 100)), (1, .int x1)]) C d_M_isBusy_3 (by decide) rfl ?_
  obtain ⟨u20, hu20, hf⟩ := bs hf
  refine x_sub [2, 3, 1, 0] rfl ?_
  refine lw_M_isBusy_4 E C F _ _ _ _ _ _ hu20 ?_
  refine x_iload_n C d_M_isBusy_136 0 rfl ?_
  obtain ⟨t21, ht21, hf⟩ := bs hf
  obtain ⟨hb, hq⟩ := gd ht21
  cases hf
  exact x_zret C d_M_isBusy_137 hb (congrArg (fun z => some (Value.int z)) hq) rfl
set_option maxHeartbeats 4000000 in
set_option maxRecDepth 100000 in
theorem lw_M_canMeet_4 {p : Program} {l : Launch} {e : Env} {s : State} {m : MethodId} {args : Array Value} {below : List Frame} {meth : Method} {c : Code} {D : va_G} {ad : Nat → Nat} {cs : Nat → ClassId} {A : Nat → Prop} {V : Option Value} {N : Mem} (E : Ev ad cs A LM) (C : Cx p s m args meth c "KissClearingModel" b_M_canMeet 4 (some .boolean) D ad cs A LM) (F : Nat) (x1 : Int32) : ∀ (n : Nat) (M : Mem) (x3 : Int32) (u : Mem), L_M_canMeet_4 F x1 n M x3 = some u → X p l e 1 s m args below meth c 4 D ad cs A LM V N u 23 [(0, .ref (ad 100)), (1, .int x1), (2, .int 0)] [] → X p l e 1 s m args below meth c 4 D ad cs A LM V N M 4 [(0, .ref (ad 100)), (1, .int x1), (2, .int 0), (3, .int x3)] [] := by
  intro n
  induction n with
  | zero => intro M x3 u hf; cases hf
  | succ n ih =>
    intro M x3 u hf K
    replace hf : B_M_canMeet_4 F x1 (L_M_canMeet_4 F x1 n) M x3 = some u := hf
    unfold B_M_canMeet_4 at hf
    refine x_iload_n C d_M_canMeet_4 3 rfl ?_
    refine x_bipush (v := 16) C d_M_canMeet_5 rfl ?_
    refine x_icmp_ge C 23 d_M_canMeet_7 (by decide) (fun g1 => ?_) (fun g1 => ?_)
    · replace hf := it g1 hf
      cases hf
      exact x_sub [0, 1, 2] rfl K
    · replace hf := ie g1 hf
      refine x_aload_n C d_M_canMeet_10 0 rfl ?_
      refine xg_M_round C wF_M_53 mc_100 kc_100 d_M_canMeet_11 ?_
      refine x_iload_n C d_M_canMeet_14 3 rfl ?_
      refine x_iconst (v := (-1)) C d_M_canMeet_15 rfl ?_
      obtain ⟨M2, hM2, hf⟩ := bs hf
      refine x_iast C hM2 mc_114 kc_114 d_M_canMeet_16 ?_
      refine x_iinc (v := (x3 + 1)) (lv' := [(3, .int (x3 + 1)), (0, .ref (ad 100)), (1, .int x1), (2, .int 0)]) C d_M_canMeet_17 3 rfl rfl (by decide) rfl ?_
      refine x_goto C 4 d_M_canMeet_20 (by decide) ?_
      refine x_sub [1, 2, 3, 0] rfl ?_
      exact ih _ _ _ hf K
set_option maxHeartbeats 4000000 in
set_option maxRecDepth 100000 in
theorem lw_M_canMeet_45 {p : Program} {l : Launch} {e : Env} {s : State} {m : MethodId} {args : Array Value} {below : List Frame} {meth : Method} {c : Code} {D : va_G} {ad : Nat → Nat} {cs : Nat → ClassId} {A : Nat → Prop} {V : Option Value} {N : Mem} (E : Ev ad cs A LM) (C : Cx p s m args meth c "KissClearingModel" b_M_canMeet 4 (some .boolean) D ad cs A LM) (F : Nat) (x1 : Int32) (x2 : Int32) : ∀ (n : Nat) (M : Mem) (u : Mem), L_M_canMeet_45 F x1 x2 n M = some u → X p l e 1 s m args below meth c 4 D ad cs A LM V N u 76 [(0, .ref (ad 100)), (1, .int x1), (2, .int x2)] [] → X p l e 1 s m args below meth c 4 D ad cs A LM V N M 45 [(0, .ref (ad 100)), (1, .int x1), (2, .int x2)] [] := by
  intro n
  induction n with
  | zero => intro M u hf; cases hf
  | succ n ih =>
    intro M u hf K
    replace hf : B_M_canMeet_45 F x1 x2 (L_M_canMeet_45 F x1 x2 n) M = some u := hf
    unfold B_M_canMeet_45 at hf
    refine x_aload_n C d_M_canMeet_45 0 rfl ?_
    refine xg_M_round C wF_M_53 mc_100 kc_100 d_M_canMeet_46 ?_
    refine x_iload_n C d_M_canMeet_49 2 rfl ?_
    obtain ⟨t8, ht8, hf⟩ := bs hf
    refine x_iald C ht8 mc_114 kc_114 d_M_canMeet_50 ?_
    refine x_iload_n C d_M_canMeet_51 1 rfl ?_
    refine x_icmp_ge C 76 d_M_canMeet_52 (by decide) (fun g9 => ?_) (fun g9 => ?_)
    · replace hf := it g9 hf
      cases hf
      exact x_sub [0, 1, 2] rfl K
    · replace hf := ie g9 hf
      refine x_aload_n C d_M_canMeet_55 0 rfl ?_
      refine x_iload_n C d_M_canMeet_56 2 rfl ?_
      obtain ⟨c10, hc10, hf⟩ := bs hf
      refine x_callV (rest := []) (n := 1) C (ct_M_isBusy E F _ _ _  hc10) mi_M_isBusy (by decide) mc_100 ⟨_, cel_M kc_100⟩ rfl rfl wL_M_286 d_M_canMeet_57 rfl rfl (Nat.le_of_ble_eq_true rfl) ?_
      show X _ _ _ _ _ _ _ _ _ _ _ _ _ _ _ _ _ _ _ _ _ [.int c10]
      refine x_if_eq C 76 d_M_canMeet_60 (by decide) (fun g11 => ?_) (fun g11 => ?_)
      · replace hf := it g11 hf
        cases hf
        exact x_sub [0, 1, 2] rfl K
      · replace hf := ie g11 hf
        refine x_aload_n C d_M_canMeet_63 0 rfl ?_
        refine xg_M_round C wF_M_53 mc_100 kc_100 d_M_canMeet_64 ?_
        refine x_iload_n C d_M_canMeet_67 2 rfl ?_
        refine x_dup2 C d_M_canMeet_68 rfl rfl ?_
        obtain ⟨t12, ht12, hf⟩ := bs hf
        refine x_iald C ht12 mc_114 kc_114 d_M_canMeet_69 ?_
        refine x_iconst (v := 1) C d_M_canMeet_70 rfl ?_
        refine x_iadd C d_M_canMeet_71 ?_
        obtain ⟨M13, hM13, hf⟩ := bs hf
        refine x_iast C hM13 mc_114 kc_114 d_M_canMeet_72 ?_
        refine x_goto C 45 d_M_canMeet_73 (by decide) ?_
        refine x_sub [0, 1, 2] rfl ?_
        exact ih _ _ hf K
set_option maxHeartbeats 4000000 in
set_option maxRecDepth 100000 in
theorem lw_M_canMeet_23 {p : Program} {l : Launch} {e : Env} {s : State} {m : MethodId} {args : Array Value} {below : List Frame} {meth : Method} {c : Code} {D : va_G} {ad : Nat → Nat} {cs : Nat → ClassId} {A : Nat → Prop} {V : Option Value} {N : Mem} (E : Ev ad cs A LM) (C : Cx p s m args meth c "KissClearingModel" b_M_canMeet 4 (some .boolean) D ad cs A LM) (F : Nat) (x1 : Int32) : ∀ (n : Nat) (M : Mem) (x2 : Int32) (u : (Int32 × Mem)), L_M_canMeet_23 F x1 n M x2 = some u → X p l e 1 s m args below meth c 4 D ad cs A LM V N u.2 105 [(0, .ref (ad 100)), (2, .int u.1)] [] → X p l e 1 s m args below meth c 4 D ad cs A LM V N M 23 [(0, .ref (ad 100)), (1, .int x1), (2, .int x2)] [] := by
  intro n
  induction n with
  | zero => intro M x2 u hf; cases hf
  | succ n ih =>
    intro M x2 u hf K
    replace hf : B_M_canMeet_23 F x1 (L_M_canMeet_23 F x1 n) M x2 = some u := hf
    unfold B_M_canMeet_23 at hf
    refine x_iload_n C d_M_canMeet_23 2 rfl ?_
    refine x_if_lt C 105 d_M_canMeet_24 (by decide) (fun g4 => ?_) (fun g4 => ?_)
    · replace hf := it g4 hf
      cases hf
      exact x_sub [0, 2] rfl K
    · replace hf := ie g4 hf
      refine x_iload_n C d_M_canMeet_27 2 rfl ?_
      refine x_aload_n C d_M_canMeet_28 0 rfl ?_
      refine xg_M_metMany C wF_M_277 mc_100 kc_100 d_M_canMeet_29 ?_
      refine x_icmp_ge C 105 d_M_canMeet_32 (by decide) (fun g5 => ?_) (fun g5 => ?_)
      · replace hf := it g5 hf
        cases hf
        exact x_sub [0, 2] rfl K
      · replace hf := ie g5 hf
        refine x_aload_n C d_M_canMeet_35 0 rfl ?_
        refine xg_M_round C wF_M_53 mc_100 kc_100 d_M_canMeet_36 ?_
        refine x_iload_n C d_M_canMeet_39 2 rfl ?_
        refine x_dup2 C d_M_canMeet_40 rfl rfl ?_
        obtain ⟨t6, ht6, hf⟩ := bs hf
        refine x_iald C ht6 mc_114 kc_114 d_M_canMeet_41 ?_
        refine x_iconst (v := 1) C d_M_canMeet_42 rfl ?_
        refine x_iadd C d_M_canMeet_43 ?_
        obtain ⟨M7, hM7, hf⟩ := bs hf
        refine x_iast C hM7 mc_114 kc_114 d_M_canMeet_44 ?_
        obtain ⟨u14, hu14, hf⟩ := bs hf
        refine x_sub [0, 1, 2] rfl ?_
        refine lw_M_canMeet_45 E C F _ _ _ _ _ hu14 ?_
        refine x_aload_n C d_M_canMeet_76 0 rfl ?_
        refine xg_M_round C wF_M_53 mc_100 kc_100 d_M_canMeet_77 ?_
        refine x_iload_n C d_M_canMeet_80 2 rfl ?_
        obtain ⟨t15, ht15, hf⟩ := bs hf
        refine x_iald C ht15 mc_114 kc_114 d_M_canMeet_81 ?_
        refine x_iload_n C d_M_canMeet_82 1 rfl ?_
        refine x_icmp_ge C 92 d_M_canMeet_83 (by decide) (fun g16 => ?_) (fun g16 => ?_)
        · replace hf := it g16 hf
          refine x_aload_n C d_M_canMeet_92 0 rfl ?_
          refine xg_M_round C wF_M_53 mc_100 kc_100 d_M_canMeet_93 ?_
          refine x_iload_n C d_M_canMeet_96 2 rfl ?_
          refine x_iconst (v := (-1)) C d_M_canMeet_97 rfl ?_
          obtain ⟨M17, hM17, hf⟩ := bs hf
          refine x_iast C hM17 mc_114 kc_114 d_M_canMeet_98 ?_
          refine x_iinc (v := (x2 + (-1))) (lv' := [(2, .int (x2 + (-1))), (0, .ref (ad 100)), (1, .int x1)]) C d_M_canMeet_99 2 rfl rfl (by decide) rfl ?_
          refine x_goto C 23 d_M_canMeet_102 (by decide) ?_
          refine x_sub [1, 2, 0] rfl ?_
          exact ih _ _ _ hf K
        · replace hf := ie g16 hf
          refine x_iinc (v := (x2 + 1)) (lv' := [(2, .int (x2 + 1)), (0, .ref (ad 100)), (1, .int x1)]) C d_M_canMeet_86 2 rfl rfl (by decide) rfl ?_
          refine x_goto C 23 d_M_canMeet_89 (by decide) ?_
          refine x_sub [1, 2, 0] rfl ?_
          exact ih _ _ _ hf K
set_option maxHeartbeats 4000000 in
set_option maxRecDepth 100000 in
theorem ct_M_canMeet {l : Launch} {D : va_G} {ad : Nat → Nat} {cs : Nat → ClassId} {A : Nat → Prop} (E : Ev ad cs A LM) (F : Nat) (M : Mem) (x1 : Int32) (R : (Int32 × Mem))  (hf : M_canMeet F M x1 = some R) : Met l y_M_canMeet (Cond.code y_M_canMeet b_M_canMeet 4 (some .boolean) :: wl) (rmD 1) (PX D ad cs A LM [.ref (ad 100), .int x1] M) (QX D ad cs A LM (some (.int R.1)) R.2) 0 0 A := by
  refine x_enter (lv := [(0, .ref (ad 100)), (1, .int x1)]) E mi_M_canMeet.1 (Nat.le_of_ble_eq_true rfl) rfl (fun p e s m args below meth c C => ?_)
  unfold M_canMeet at hf
  refine x_iconst (v := 0) C d_M_canMeet_0 rfl ?_
  refine x_istore_n (lv' := [(2, .int 0), (0, .ref (ad 100)), (1, .int x1)]) C d_M_canMeet_1 (by decide) rfl ?_
  refine x_iconst (v := 0) C d_M_canMeet_2 rfl ?_
  refine x_istore_n (lv' := [(3, .int 0), (2, .int 0), (0, .ref (ad 100)), (1, .int x1)]) C d_M_canMeet_3 (by decide) rfl ?_
  obtain ⟨u3, hu3, hf⟩ := bs hf
  refine x_sub [2, 3, 1, 0] rfl ?_
  refine lw_M_canMeet_4 E C F _ _ _ _ _ hu3 ?_
  obtain ⟨u18, hu18, hf⟩ := bs hf
  refine x_sub [0, 1, 2] rfl ?_
  refine lw_M_canMeet_23 E C F _ _ _ _ _ hu18 ?_
  refine x_iload_n C d_M_canMeet_105 1 rfl ?_
  refine x_aload_n C d_M_canMeet_106 0 rfl ?_
  refine xg_M_metMany C wF_M_277 mc_100 kc_100 d_M_canMeet_107 ?_
  refine x_icmp_ne C 117 d_M_canMeet_110 (by decide) (fun g19 => ?_) (fun g19 => ?_)
  · replace hf := ie g19 hf
    refine x_iconst (v := 0) C d_M_canMeet_117 rfl ?_
    cases hf
    exact x_zret C d_M_canMeet_118 (Or.inl rfl) rfl rfl
  · replace hf := it g19 hf
    refine x_iconst (v := 1) C d_M_canMeet_113 rfl ?_
    refine x_goto C 118 d_M_canMeet_114 (by decide) ?_
    cases hf
    exact x_zret C d_M_canMeet_118 (Or.inr rfl) rfl rfl
set_option maxHeartbeats 4000000 in
set_option maxRecDepth 100000 in
theorem lw_M_isRing_30 {p : Program} {l : Launch} {e : Env} {s : State} {m : MethodId} {args : Array Value} {below : List Frame} {meth : Method} {c : Code} {D : va_G} {ad : Nat → Nat} {cs : Nat → ClassId} {A : Nat → Prop} {V : Option Value} {N : Mem} (E : Ev ad cs A LM) (C : Cx p s m args meth c "KissClearingModel" b_M_isRing 8 (some .boolean) D ad cs A LM) (F : Nat) (M : Mem) (x1 : Int32) (x2 : Int32) : ∀ (n : Nat) (x3 : Int32) (x4 : Int32) (x5 : Int32) (u : Int32), L_M_isRing_30 F M x1 x2 n x3 x4 x5 = some u → X p l e 2 s m args below meth c 8 D ad cs A LM V N M 166 [(4, .int u)] [] → X p l e 2 s m args below meth c 8 D ad cs A LM V N M 30 [(0, .ref (ad 100)), (1, .int x1), (2, .int x2), (3, .int x3), (4, .int x4), (5, .int x5)] [] := by
  intro n
  induction n with
  | zero => intro x3 x4 x5 u hf; cases hf
  | succ n ih =>
    intro x3 x4 x5 u hf K
    replace hf : B_M_isRing_30 F M x1 x2 (L_M_isRing_30 F M x1 x2 n) x3 x4 x5 = some u := hf
    unfold B_M_isRing_30 at hf
    refine x_iload C d_M_isRing_30 5 rfl ?_
    refine x_iload_n C d_M_isRing_32 2 rfl ?_
    refine x_icmp_ge C 166 d_M_isRing_33 (by decide) (fun g3 => ?_) (fun g3 => ?_)
    · replace hf := it g3 hf
      cases hf
      exact x_sub [4] rfl K
    · replace hf := ie g3 hf
      refine x_iload C d_M_isRing_36 4 rfl ?_
      refine x_if_eq C 166 d_M_isRing_38 (by decide) (fun g4 => ?_) (fun g4 => ?_)
      · replace hf := it g4 hf
        cases hf
        exact x_sub [4] rfl K
      · replace hf := ie g4 hf
        refine x_aload_n C d_M_isRing_41 0 rfl ?_
        refine xg_M_items C wF_M_19 mc_100 kc_100 d_M_isRing_42 ?_
        refine x_bipush (v := 40) C d_M_isRing_45 rfl ?_
        refine x_iload_n C d_M_isRing_47 1 rfl ?_
        refine x_imul C d_M_isRing_48 ?_
        refine x_iload C d_M_isRing_49 5 rfl ?_
        refine x_iadd C d_M_isRing_51 ?_
        obtain ⟨t5, ht5, hf⟩ := bs hf
        refine x_iald C ht5 mc_104 kc_104 d_M_isRing_52 ?_
        refine x_istore (lv' := [(6, .int t5), (0, .ref (ad 100)), (1, .int x1), (2, .int x2), (3, .int x3), (4, .int x4), (5, .int x5)]) C d_M_isRing_53 (by decide) rfl ?_
        refine x_aload_n C d_M_isRing_55 1 rfl ?_
        refine xg_M_items C wF_M_19 mc_100 kc_100 d_M_isRing_56 ?_
        refine x_bipush (v := 40) C d_M_isRing_59 rfl ?_
        refine x_iload_n C d_M_isRing_61 2 rfl ?_
        refine x_imul C d_M_isRing_62 ?_
        refine x_iload C d_M_isRing_63 6 rfl ?_
        refine x_iconst (v := 1) C d_M_isRing_65 rfl ?_
        refine x_iadd C d_M_isRing_66 ?_
        refine x_iload_n C d_M_isRing_67 3 rfl ?_
        obtain ⟨t6, ht6, hf⟩ := bs hf
        refine x_irem C ht6 d_M_isRing_68 ?_
        refine x_iadd C d_M_isRing_69 ?_
        obtain ⟨t7, ht7, hf⟩ := bs hf
        refine x_iald C ht7 mc_104 kc_104 d_M_isRing_70 ?_
        refine x_istore (lv' := [(7, .int t7), (6, .int t5), (0, .ref (ad 100)), (1, .int x1), (2, .int x2), (3, .int x3), (4, .int x4), (5, .int x5)]) C d_M_isRing_71 (by decide) rfl ?_
        refine x_aload_n C d_M_isRing_73 2 rfl ?_
        refine x_iload C d_M_isRing_74 1 rfl ?_
        obtain ⟨c8, hc8, hf⟩ := bs hf
        refine x_callV (rest := []) (n := 1) C (ct_M_isOpen E F _ _ _  hc8) mi_M_isOpen (by decide) mc_100 ⟨_, cel_M kc_100⟩ rfl rfl wL_M_156 d_M_isRing_76 rfl rfl (Nat.le_of_ble_eq_true rfl) ?_
        show X _ _ _ _ _ _ _ _ _ _ _ _ _ _ _ _ _ _ _ _ _ [.int c8]
        obtain ⟨j9, hj9, hf⟩ := bs hf
        have Jj9 : X p l e 2 s m args below meth c 8 D ad cs A LM V N M 146 [(0, .ref (ad 100)), (1, .int x1), (2, .int x2), (3, .int x3), (5, .int x5), (6, .int t5)] [.int j9] := by
          refine x_istore (lv' := [(4, .int j9), (0, .ref (ad 100)), (1, .int x1), (2, .int x2), (3, .int x3), (5, .int x5), (6, .int t5)]) C d_M_isRing_146 (by decide) rfl ?_
          refine x_iload_n C d_M_isRing_148 4 rfl ?_
          refine x_iconst (v := 1) C d_M_isRing_149 rfl ?_
          refine x_aload_n C d_M_isRing_150 1 rfl ?_
          refine x_iload C d_M_isRing_151 6 rfl ?_
          refine x_iconst (v := 0) C d_M_isRing_153 rfl ?_
          obtain ⟨c10, hc10, hf⟩ := bs hf
          refine x_callV (rest := [.int 1, .int x3]) (n := 2) C (ct_M_of E F _ _ _ _  hc10) mi_M_of (by decide) mc_100 ⟨_, cel_M kc_100⟩ rfl rfl wL_M_146 d_M_isRing_154 rfl rfl (Nat.le_of_ble_eq_true rfl) ?_
          show X _ _ _ _ _ _ _ _ _ _ _ _ _ _ _ _ _ _ _ _ _ [.int c10, .int 1, .int x3]
          refine x_ishl C d_M_isRing_157 ?_
          refine x_ior C d_M_isRing_158 ?_
          refine x_istore_n (lv' := [(3, .int (x3 ||| (1 <<< (c10 &&& 31)))), (4, .int j9), (0, .ref (ad 100)), (1, .int x1), (2, .int x2), (5, .int x5), (6, .int t5)]) C d_M_isRing_159 (by decide) rfl ?_
          refine x_iinc (v := (x5 + 1)) (lv' := [(5, .int (x5 + 1)), (3, .int (x3 ||| (1 <<< (c10 &&& 31)))), (4, .int j9), (0, .ref (ad 100)), (1, .int x1), (2, .int x2), (6, .int t5)]) C d_M_isRing_160 5 rfl rfl (by decide) rfl ?_
          refine x_goto C 30 d_M_isRing_163 (by decide) ?_
          refine x_sub [3, 4, 5, 1, 2, 0] rfl ?_
          exact ih _ _ _ _ hf K
        replace hf := hj9
        refine x_if_eq C 145 d_M_isRing_79 (by decide) (fun g11 => ?_) (fun g11 => ?_)
        · replace hf := it g11 hf
          refine x_iconst (v := 0) C d_M_isRing_145 rfl ?_
          cases hf
          exact x_sub [2, 3, 4, 5, 7, 1] rfl Jj9
        · replace hf := ie g11 hf
          refine x_aload_n C d_M_isRing_82 2 rfl ?_
          refine x_iload C d_M_isRing_83 1 rfl ?_
          refine x_iconst (v := 2) C d_M_isRing_85 rfl ?_
          obtain ⟨c12, hc12, hf⟩ := bs hf
          refine x_callV (rest := []) (n := 2) C (ct_M_of E F _ _ _ _  hc12) mi_M_of (by decide) mc_100 ⟨_, cel_M kc_100⟩ rfl rfl wL_M_146 d_M_isRing_86 rfl rfl (Nat.le_of_ble_eq_true rfl) ?_
          show X _ _ _ _ _ _ _ _ _ _ _ _ _ _ _ _ _ _ _ _ _ [.int c12]
          refine x_iconst (v := 2) C d_M_isRing_89 rfl ?_
          refine x_icmp_eq C 145 d_M_isRing_90 (by decide) (fun g13 => ?_) (fun g13 => ?_)
          · replace hf := it g13 hf
            refine x_iconst (v := 0) C d_M_isRing_145 rfl ?_
            cases hf
            exact x_sub [2, 3, 4, 5, 7, 1] rfl Jj9
          · replace hf := ie g13 hf
            refine x_aload_n C d_M_isRing_93 2 rfl ?_
            refine x_iload C d_M_isRing_94 1 rfl ?_
            refine x_iconst (v := 2) C d_M_isRing_96 rfl ?_
            obtain ⟨c14, hc14, hf⟩ := bs hf
            refine x_callV (rest := []) (n := 2) C (ct_M_of E F _ _ _ _  hc14) mi_M_of (by decide) mc_100 ⟨_, cel_M kc_100⟩ rfl rfl wL_M_146 d_M_isRing_97 rfl rfl (Nat.le_of_ble_eq_true rfl) ?_
            show X _ _ _ _ _ _ _ _ _ _ _ _ _ _ _ _ _ _ _ _ _ [.int c14]
            refine x_aload_n C d_M_isRing_100 2 rfl ?_
            refine x_iload C d_M_isRing_101 0 rfl ?_
            refine x_iconst (v := 2) C d_M_isRing_103 rfl ?_
            obtain ⟨c15, hc15, hf⟩ := bs hf
            refine x_callV (rest := [.int c14]) (n := 2) C (ct_M_of E F _ _ _ _  hc15) mi_M_of (by decide) mc_100 ⟨_, cel_M kc_100⟩ rfl rfl wL_M_146 d_M_isRing_104 rfl rfl (Nat.le_of_ble_eq_true rfl) ?_
            show X _ _ _ _ _ _ _ _ _ _ _ _ _ _ _ _ _ _ _ _ _ [.int c15, .int c14]
            refine x_icmp_ne C 145 d_M_isRing_107 (by decide) (fun g16 => ?_) (fun g16 => ?_)
            · replace hf := ie g16 hf
              refine x_iconst (v := 0) C d_M_isRing_145 rfl ?_
              cases hf
              exact x_sub [2, 3, 4, 5, 7, 1] rfl Jj9
            · replace hf := it g16 hf
              refine x_aload_n C d_M_isRing_110 2 rfl ?_
              refine x_iload C d_M_isRing_111 1 rfl ?_
              refine x_iconst (v := 1) C d_M_isRing_113 rfl ?_
              obtain ⟨c17, hc17, hf⟩ := bs hf
              refine x_callV (rest := []) (n := 2) C (ct_M_of E F _ _ _ _  hc17) mi_M_of (by decide) mc_100 ⟨_, cel_M kc_100⟩ rfl rfl wL_M_146 d_M_isRing_114 rfl rfl (Nat.le_of_ble_eq_true rfl) ?_
              show X _ _ _ _ _ _ _ _ _ _ _ _ _ _ _ _ _ _ _ _ _ [.int c17]
              refine x_aload_n C d_M_isRing_117 2 rfl ?_
              refine x_iload C d_M_isRing_118 0 rfl ?_
              refine x_iconst (v := 0) C d_M_isRing_120 rfl ?_
              obtain ⟨c18, hc18, hf⟩ := bs hf
              refine x_callV (rest := [.int c17]) (n := 2) C (ct_M_of E F _ _ _ _  hc18) mi_M_of (by decide) mc_100 ⟨_, cel_M kc_100⟩ rfl rfl wL_M_146 d_M_isRing_121 rfl rfl (Nat.le_of_ble_eq_true rfl) ?_
              show X _ _ _ _ _ _ _ _ _ _ _ _ _ _ _ _ _ _ _ _ _ [.int c18, .int c17]
              refine x_icmp_ne C 145 d_M_isRing_124 (by decide) (fun g19 => ?_) (fun g19 => ?_)
              · replace hf := ie g19 hf
                refine x_iconst (v := 0) C d_M_isRing_145 rfl ?_
                cases hf
                exact x_sub [2, 3, 4, 5, 7, 1] rfl Jj9
              · replace hf := it g19 hf
                refine x_iload_n C d_M_isRing_127 5 rfl ?_
                refine x_aload_n C d_M_isRing_128 2 rfl ?_
                refine x_iload C d_M_isRing_129 1 rfl ?_
                refine x_iconst (v := 0) C d_M_isRing_131 rfl ?_
                obtain ⟨c20, hc20, hf⟩ := bs hf
                refine x_callV (rest := [.int x3]) (n := 2) C (ct_M_of E F _ _ _ _  hc20) mi_M_of (by decide) mc_100 ⟨_, cel_M kc_100⟩ rfl rfl wL_M_146 d_M_isRing_132 rfl rfl (Nat.le_of_ble_eq_true rfl) ?_
                show X _ _ _ _ _ _ _ _ _ _ _ _ _ _ _ _ _ _ _ _ _ [.int c20, .int x3]
                obtain ⟨c21, hc21, hf⟩ := bs hf
                refine x_callS (rest := []) (n := 2) C (ct_M_has E F _ _ _ _  hc21) mi_M_has (by decide) wL_M_152 d_M_isRing_135 rfl rfl (Nat.le_of_ble_eq_true rfl) ?_
                show X _ _ _ _ _ _ _ _ _ _ _ _ _ _ _ _ _ _ _ _ _ [.int c21]
                refine x_if_ne C 145 d_M_isRing_138 (by decide) (fun g22 => ?_) (fun g22 => ?_)
                · replace hf := ie g22 hf
                  refine x_iconst (v := 0) C d_M_isRing_145 rfl ?_
                  cases hf
                  exact x_sub [2, 3, 4, 5, 7, 1] rfl Jj9
                · replace hf := it g22 hf
                  refine x_iconst (v := 1) C d_M_isRing_141 rfl ?_
                  refine x_goto C 146 d_M_isRing_142 (by decide) ?_
                  cases hf
                  exact x_sub [2, 3, 4, 5, 7, 1] rfl Jj9
set_option maxHeartbeats 4000000 in
set_option maxRecDepth 100000 in
theorem ct_M_isRing {l : Launch} {D : va_G} {ad : Nat → Nat} {cs : Nat → ClassId} {A : Nat → Prop} (E : Ev ad cs A LM) (F : Nat) (M : Mem) (x1 : Int32) (R : Int32)  (hf : M_isRing F M x1 = some R) : Met l y_M_isRing (Cond.code y_M_isRing b_M_isRing 8 (some .boolean) :: wl) (rmD 2) (PX D ad cs A LM [.ref (ad 100), .int x1] M) (QX D ad cs A LM (some (.int R)) M) 0 0 A := by
  refine x_enter (lv := [(0, .ref (ad 100)), (1, .int x1)]) E mi_M_isRing.1 (Nat.le_of_ble_eq_true rfl) rfl (fun p e s m args below meth c C => ?_)
  unfold M_isRing at hf
  refine x_aload_n C d_M_isRing_0 0 rfl ?_
  refine xg_M_sizes C wF_M_16 mc_100 kc_100 d_M_isRing_1 ?_
  refine x_iload_n C d_M_isRing_4 1 rfl ?_
  obtain ⟨t1, ht1, hf⟩ := bs hf
  refine x_iald C ht1 mc_103 kc_103 d_M_isRing_5 ?_
  refine x_istore_n (lv' := [(2, .int t1), (0, .ref (ad 100)), (1, .int x1)]) C d_M_isRing_6 (by decide) rfl ?_
  refine x_iconst (v := 0) C d_M_isRing_7 rfl ?_
  refine x_istore_n (lv' := [(3, .int 0), (2, .int t1), (0, .ref (ad 100)), (1, .int x1)]) C d_M_isRing_8 (by decide) rfl ?_
  refine x_iload_n C d_M_isRing_9 1 rfl ?_
  refine x_iconst (v := 2) C d_M_isRing_10 rfl ?_
  obtain ⟨j2, hj2, hf⟩ := bs hf
  have Jj2 : X p l e 2 s m args below meth c 8 D ad cs A LM (some (.int R)) M M 25 [(0, .ref (ad 100)), (1, .int x1), (2, .int t1), (3, .int 0)] [.int j2] := by
    refine x_istore (lv' := [(4, .int j2), (0, .ref (ad 100)), (1, .int x1), (2, .int t1), (3, .int 0)]) C d_M_isRing_25 (by decide) rfl ?_
    refine x_iconst (v := 0) C d_M_isRing_27 rfl ?_
    refine x_istore (lv' := [(5, .int 0), (4, .int j2), (0, .ref (ad 100)), (1, .int x1), (2, .int t1), (3, .int 0)]) C d_M_isRing_28 (by decide) rfl ?_
    obtain ⟨u23, hu23, hf⟩ := bs hf
    refine x_sub [2, 3, 4, 5, 1, 0] rfl ?_
    refine lw_M_isRing_30 E C F _ _ _ _ _ _ _ _ hu23 ?_
    refine x_iload C d_M_isRing_166 0 rfl ?_
    obtain ⟨t24, ht24, hf⟩ := bs hf
    obtain ⟨hb, hq⟩ := gd ht24
    cases hf
    exact x_zret C d_M_isRing_168 hb (congrArg (fun z => some (Value.int z)) hq) rfl
  replace hf := hj2
  refine x_icmp_le C 24 d_M_isRing_11 (by decide) (fun g25 => ?_) (fun g25 => ?_)
  · replace hf := it g25 hf
    refine x_iconst (v := 0) C d_M_isRing_24 rfl ?_
    cases hf
    exact x_sub [2, 3, 1, 0] rfl Jj2
  · replace hf := ie g25 hf
    refine x_iload_n C d_M_isRing_14 1 rfl ?_
    refine x_bipush (v := 7) C d_M_isRing_15 rfl ?_
    refine x_icmp_ge C 24 d_M_isRing_17 (by decide) (fun g26 => ?_) (fun g26 => ?_)
    · replace hf := it g26 hf
      refine x_iconst (v := 0) C d_M_isRing_24 rfl ?_
      cases hf
      exact x_sub [2, 3, 1, 0] rfl Jj2
    · replace hf := ie g26 hf
      refine x_iconst (v := 1) C d_M_isRing_20 rfl ?_
      refine x_goto C 25 d_M_isRing_21 (by decide) ?_
      cases hf
      exact x_sub [2, 3, 1, 0] rfl Jj2
set_option maxHeartbeats 4000000 in
set_option maxRecDepth 100000 in
theorem ct_M_isFull {l : Launch} {D : va_G} {ad : Nat → Nat} {cs : Nat → ClassId} {A : Nat → Prop} (E : Ev ad cs A LM) (F : Nat) (M : Mem)  (R : Int32)  (hf : M_isFull F M = some R) : Met l y_M_isFull (Cond.code y_M_isFull b_M_isFull 1 (some .boolean) :: wl) (rmD 0) (PX D ad cs A LM [.ref (ad 100)] M) (QX D ad cs A LM (some (.int R)) M) 0 0 A := by
  refine x_enter (lv := [(0, .ref (ad 100))]) E mi_M_isFull.1 (Nat.le_of_ble_eq_true rfl) rfl (fun p e s m args below meth c C => ?_)
  unfold M_isFull at hf
  refine x_aload_n C d_M_isFull_0 0 rfl ?_
  refine xg_M_row C wF_M_7 mc_100 kc_100 d_M_isFull_1 ?_
  refine x_iconst (v := 0) C d_M_isFull_4 rfl ?_
  refine x_iald C (ac_101_0 M) mc_101 kc_101 d_M_isFull_5 ?_
  refine x_bipush (v := 40) C d_M_isFull_6 rfl ?_
  refine x_icmp_ne C 15 d_M_isFull_8 (by decide) (fun g1 => ?_) (fun g1 => ?_)
  · replace hf := ie g1 hf
    refine x_iconst (v := 0) C d_M_isFull_15 rfl ?_
    cases hf
    exact x_zret C d_M_isFull_16 (Or.inl rfl) rfl rfl
  · replace hf := it g1 hf
    refine x_iconst (v := 1) C d_M_isFull_11 rfl ?_
    refine x_goto C 16 d_M_isFull_12 (by decide) ?_
    cases hf
    exact x_zret C d_M_isFull_16 (Or.inr rfl) rfl rfl
set_option maxHeartbeats 4000000 in
set_option maxRecDepth 100000 in
theorem lw_M_keepPast_2 {p : Program} {l : Launch} {e : Env} {s : State} {m : MethodId} {args : Array Value} {below : List Frame} {meth : Method} {c : Code} {D : va_G} {ad : Nat → Nat} {cs : Nat → ClassId} {A : Nat → Prop} {V : Option Value} {N : Mem} (E : Ev ad cs A LM) (C : Cx p s m args meth c "KissClearingModel" b_M_keepPast 2 none D ad cs A LM) (F : Nat)  : ∀ (n : Nat) (M : Mem) (x1 : Int32) (u : Mem), L_M_keepPast_2 F n M x1 = some u → X p l e 0 s m args below meth c 2 D ad cs A LM V N u 41 [(0, .ref (ad 100))] [] → X p l e 0 s m args below meth c 2 D ad cs A LM V N M 2 [(0, .ref (ad 100)), (1, .int x1)] [] := by
  intro n
  induction n with
  | zero => intro M x1 u hf; cases hf
  | succ n ih =>
    intro M x1 u hf K
    replace hf : B_M_keepPast_2 F (L_M_keepPast_2 F n) M x1 = some u := hf
    unfold B_M_keepPast_2 at hf
    refine x_iload_n C d_M_keepPast_2 1 rfl ?_
    refine x_bipush (v := 73) C d_M_keepPast_3 rfl ?_
    refine x_icmp_ge C 41 d_M_keepPast_5 (by decide) (fun g1 => ?_) (fun g1 => ?_)
    · replace hf := it g1 hf
      cases hf
      exact x_sub [0] rfl K
    · replace hf := ie g1 hf
      refine x_aload_n C d_M_keepPast_8 0 rfl ?_
      refine xg_M_row C wF_M_7 mc_100 kc_100 d_M_keepPast_9 ?_
      refine x_bipush (v := 74) C d_M_keepPast_12 rfl ?_
      refine x_bipush (v := 73) C d_M_keepPast_14 rfl ?_
      refine x_aload_n C d_M_keepPast_16 0 rfl ?_
      refine xg_M_row C wF_M_7 mc_100 kc_100 d_M_keepPast_17 ?_
      refine x_iconst (v := 0) C d_M_keepPast_20 rfl ?_
      refine x_iald C (ac_101_0 M) mc_101 kc_101 d_M_keepPast_21 ?_
      refine x_imul C d_M_keepPast_22 ?_
      refine x_iadd C d_M_keepPast_23 ?_
      refine x_iload_n C d_M_keepPast_24 1 rfl ?_
      refine x_iadd C d_M_keepPast_25 ?_
      refine x_aload_n C d_M_keepPast_26 0 rfl ?_
      refine xg_M_row C wF_M_7 mc_100 kc_100 d_M_keepPast_27 ?_
      refine x_iconst (v := 1) C d_M_keepPast_30 rfl ?_
      refine x_iload_n C d_M_keepPast_31 1 rfl ?_
      refine x_iadd C d_M_keepPast_32 ?_
      obtain ⟨t2, ht2, hf⟩ := bs hf
      refine x_iald C ht2 mc_101 kc_101 d_M_keepPast_33 ?_
      obtain ⟨M3, hM3, hf⟩ := bs hf
      refine x_iast C hM3 mc_101 kc_101 d_M_keepPast_34 ?_
      refine x_iinc (v := (x1 + 1)) (lv' := [(1, .int (x1 + 1)), (0, .ref (ad 100))]) C d_M_keepPast_35 1 rfl rfl (by decide) rfl ?_
      refine x_goto C 2 d_M_keepPast_38 (by decide) ?_
      refine x_sub [1, 0] rfl ?_
      exact ih _ _ _ hf K
set_option maxHeartbeats 4000000 in
set_option maxRecDepth 100000 in
theorem ct_M_keepPast {l : Launch} {D : va_G} {ad : Nat → Nat} {cs : Nat → ClassId} {A : Nat → Prop} (E : Ev ad cs A LM) (F : Nat) (M : Mem)  (R : Mem)  (hf : M_keepPast F M = some R) : Met l y_M_keepPast (Cond.code y_M_keepPast b_M_keepPast 2 none :: wl) (rmD 0) (PX D ad cs A LM [.ref (ad 100)] M) (QX D ad cs A LM (none) R) 0 0 A := by
  refine x_enter (lv := [(0, .ref (ad 100))]) E mi_M_keepPast.1 (Nat.le_of_ble_eq_true rfl) rfl (fun p e s m args below meth c C => ?_)
  unfold M_keepPast at hf
  refine x_iconst (v := 0) C d_M_keepPast_0 rfl ?_
  refine x_istore_n (lv' := [(1, .int 0), (0, .ref (ad 100))]) C d_M_keepPast_1 (by decide) rfl ?_
  obtain ⟨u4, hu4, hf⟩ := bs hf
  refine x_sub [1, 0] rfl ?_
  refine lw_M_keepPast_2 E C F _ _ _ _ hu4 ?_
  refine x_aload_n C d_M_keepPast_41 0 rfl ?_
  refine xg_M_row C wF_M_7 mc_100 kc_100 d_M_keepPast_42 ?_
  refine x_iconst (v := 0) C d_M_keepPast_45 rfl ?_
  refine x_dup2 C d_M_keepPast_46 rfl rfl ?_
  refine x_iald C (ac_101_0 u4) mc_101 kc_101 d_M_keepPast_47 ?_
  refine x_iconst (v := 1) C d_M_keepPast_48 rfl ?_
  refine x_iadd C d_M_keepPast_49 ?_
  obtain ⟨M5, hM5, hf⟩ := bs hf
  refine x_iast C hM5 mc_101 kc_101 d_M_keepPast_50 ?_
  cases hf
  exact x_vret C d_M_keepPast_51 rfl rfl
