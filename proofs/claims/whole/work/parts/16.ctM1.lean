/-! contracts of the reference (by program: wip/whole/emit.py) -/
set_option maxHeartbeats 4000000 in
set_option maxRecDepth 100000 in
theorem ct_M_leave {l : Launch} {D : va_G} {ad : Nat → Nat} {cs : Nat → ClassId} {A : Nat → Prop} (E : Ev ad cs A LM) (F : Nat) (M : Mem) (x1 : Int32) (x2 : Int32) (R : Mem)  (hf : M_leave F M x1 x2 = some R) : Met l y_M_leave (Cond.code y_M_leave b_M_leave 3 none :: wl) (rmD 0) (PX D ad cs A LM [.ref (ad 100), .int x1, .int x2] M) (QX D ad cs A LM (none) R) 0 0 A := by
  refine x_enter (lv := [(0, .ref (ad 100)), (1, .int x1), (2, .int x2)]) E mi_M_leave.1 (Nat.le_of_ble_eq_true rfl) rfl (fun p e s m args below meth c C => ?_)
  unfold M_leave at hf
  refine x_aload_n C d_M_leave_0 0 rfl ?_
  refine xg_M_row C wF_M_7 mc_100 kc_100 d_M_leave_1 ?_
  refine x_iconst (v := 2) C d_M_leave_4 rfl ?_
  refine x_bipush (v := 6) C d_M_leave_5 rfl ?_
  refine x_iload_n C d_M_leave_7 1 rfl ?_
  refine x_imul C d_M_leave_8 ?_
  refine x_iadd C d_M_leave_9 ?_
  refine x_iconst (v := 3) C d_M_leave_10 rfl ?_
  refine x_iadd C d_M_leave_11 ?_
  refine x_iload_n C d_M_leave_12 2 rfl ?_
  obtain ⟨M1, hM1, hf⟩ := bs hf
  refine x_iast C hM1 mc_101 kc_101 d_M_leave_13 ?_
  cases hf
  exact x_vret C d_M_leave_14 rfl rfl
set_option maxHeartbeats 4000000 in
set_option maxRecDepth 100000 in
theorem lw_M_clear_68 {p : Program} {l : Launch} {e : Env} {s : State} {m : MethodId} {args : Array Value} {below : List Frame} {meth : Method} {c : Code} {D : va_G} {ad : Nat → Nat} {cs : Nat → ClassId} {A : Nat → Prop} {V : Option Value} {N : Mem} (E : Ev ad cs A LM) (C : Cx p s m args meth c "KissClearingModel" b_M_clear 5 (some .int) D ad cs A LM) (F : Nat) (M : Mem) (x1 : Int32) : ∀ (n : Nat) (x2 : Int32) (x3 : Int32) (u : Int32), L_M_clear_68 F M x1 n x2 x3 = some u → X p l e 3 s m args below meth c 5 D ad cs A LM V N M 115 [(0, .ref (ad 100)), (1, .int x1), (2, .int u)] [] → X p l e 3 s m args below meth c 5 D ad cs A LM V N M 68 [(0, .ref (ad 100)), (1, .int x1), (2, .int x2), (3, .int x3)] [] := by
  intro n
  induction n with
  | zero => intro x2 x3 u hf; cases hf
  | succ n ih =>
    intro x2 x3 u hf K
    replace hf : B_M_clear_68 F M x1 (L_M_clear_68 F M x1 n) x2 x3 = some u := hf
    unfold B_M_clear_68 at hf
    refine x_iload_n C d_M_clear_68 3 rfl ?_
    refine x_aload_n C d_M_clear_69 0 rfl ?_
    refine xg_M_sizes C wF_M_16 mc_100 kc_100 d_M_clear_70 ?_
    refine x_iload_n C d_M_clear_73 1 rfl ?_
    obtain ⟨t12, ht12, hf⟩ := bs hf
    refine x_iald C ht12 mc_103 kc_103 d_M_clear_74 ?_
    refine x_icmp_ge C 115 d_M_clear_75 (by decide) (fun g13 => ?_) (fun g13 => ?_)
    · replace hf := it g13 hf
      cases hf
      exact x_sub [0, 1, 2] rfl K
    · replace hf := ie g13 hf
      refine x_aload_n C d_M_clear_78 0 rfl ?_
      refine x_aload_n C d_M_clear_79 0 rfl ?_
      refine xg_M_items C wF_M_19 mc_100 kc_100 d_M_clear_80 ?_
      refine x_bipush (v := 40) C d_M_clear_83 rfl ?_
      refine x_iload_n C d_M_clear_85 1 rfl ?_
      refine x_imul C d_M_clear_86 ?_
      refine x_iload_n C d_M_clear_87 3 rfl ?_
      refine x_iadd C d_M_clear_88 ?_
      obtain ⟨t14, ht14, hf⟩ := bs hf
      refine x_iald C ht14 mc_104 kc_104 d_M_clear_89 ?_
      refine x_iconst (v := 3) C d_M_clear_90 rfl ?_
      obtain ⟨c15, hc15, hf⟩ := bs hf
      refine x_callV (rest := []) (n := 2) C (ct_M_of E F _ _ _ _  hc15) mi_M_of (by decide) mc_100 ⟨_, cel_M kc_100⟩ rfl rfl wL_M_146 d_M_clear_91 rfl rfl (Nat.le_of_ble_eq_true rfl) ?_
      show X _ _ _ _ _ _ _ _ _ _ _ _ _ _ _ _ _ _ _ _ _ [.int c15]
      refine x_istore (lv' := [(4, .int c15), (0, .ref (ad 100)), (1, .int x1), (2, .int x2), (3, .int x3)]) C d_M_clear_94 (by decide) rfl ?_
      refine x_iload C d_M_clear_96 0 rfl ?_
      refine x_iload_n C d_M_clear_98 3 rfl ?_
      refine x_icmp_ge C 107 d_M_clear_99 (by decide) (fun g16 => ?_) (fun g16 => ?_)
      · replace hf := it g16 hf
        refine x_iload_n C d_M_clear_107 3 rfl ?_
        refine x_istore_n (lv' := [(2, .int x2), (4, .int c15), (0, .ref (ad 100)), (1, .int x1), (3, .int x3)]) C d_M_clear_108 (by decide) rfl ?_
        refine x_iinc (v := (x3 + 1)) (lv' := [(3, .int (x3 + 1)), (2, .int x2), (4, .int c15), (0, .ref (ad 100)), (1, .int x1)]) C d_M_clear_109 4 rfl rfl (by decide) rfl ?_
        refine x_goto C 68 d_M_clear_112 (by decide) ?_
        refine x_sub [3, 4, 1, 0] rfl ?_
        exact ih _ _ _ hf K
      · replace hf := ie g16 hf
        refine x_iload C d_M_clear_102 0 rfl ?_
        refine x_goto C 108 d_M_clear_104 (by decide) ?_
        refine x_istore_n (lv' := [(2, .int c15), (4, .int c15), (0, .ref (ad 100)), (1, .int x1), (3, .int x3)]) C d_M_clear_108 (by decide) rfl ?_
        refine x_iinc (v := (x3 + 1)) (lv' := [(3, .int (x3 + 1)), (2, .int c15), (4, .int c15), (0, .ref (ad 100)), (1, .int x1)]) C d_M_clear_109 4 rfl rfl (by decide) rfl ?_
        refine x_goto C 68 d_M_clear_112 (by decide) ?_
        refine x_sub [3, 4, 1, 0] rfl ?_
        exact ih _ _ _ hf K
set_option maxHeartbeats 4000000 in
set_option maxRecDepth 100000 in
theorem lw_M_clear_117 {p : Program} {l : Launch} {e : Env} {s : State} {m : MethodId} {args : Array Value} {below : List Frame} {meth : Method} {c : Code} {D : va_G} {ad : Nat → Nat} {cs : Nat → ClassId} {A : Nat → Prop} {V : Option Value} {N : Mem} (E : Ev ad cs A LM) (C : Cx p s m args meth c "KissClearingModel" b_M_clear 5 (some .int) D ad cs A LM) (F : Nat) (x1 : Int32) (x2 : Int32) : ∀ (n : Nat) (M : Mem) (x3 : Int32) (u : Mem), L_M_clear_117 F x1 x2 n M x3 = some u → X p l e 3 s m args below meth c 5 D ad cs A LM V N u 166 [(2, .int x2)] [] → X p l e 3 s m args below meth c 5 D ad cs A LM V N M 117 [(0, .ref (ad 100)), (1, .int x1), (2, .int x2), (3, .int x3)] [] := by
  intro n
  induction n with
  | zero => intro M x3 u hf; cases hf
  | succ n ih =>
    intro M x3 u hf K
    replace hf : B_M_clear_117 F x1 x2 (L_M_clear_117 F x1 x2 n) M x3 = some u := hf
    unfold B_M_clear_117 at hf
    refine x_iload_n C d_M_clear_117 3 rfl ?_
    refine x_aload_n C d_M_clear_118 0 rfl ?_
    refine xg_M_sizes C wF_M_16 mc_100 kc_100 d_M_clear_119 ?_
    refine x_iload_n C d_M_clear_122 1 rfl ?_
    obtain ⟨t18, ht18, hf⟩ := bs hf
    refine x_iald C ht18 mc_103 kc_103 d_M_clear_123 ?_
    refine x_icmp_ge C 166 d_M_clear_124 (by decide) (fun g19 => ?_) (fun g19 => ?_)
    · replace hf := it g19 hf
      cases hf
      exact x_sub [2] rfl K
    · replace hf := ie g19 hf
      refine x_aload_n C d_M_clear_127 0 rfl ?_
      refine x_aload_n C d_M_clear_128 0 rfl ?_
      refine xg_M_items C wF_M_19 mc_100 kc_100 d_M_clear_129 ?_
      refine x_bipush (v := 40) C d_M_clear_132 rfl ?_
      refine x_iload_n C d_M_clear_134 1 rfl ?_
      refine x_imul C d_M_clear_135 ?_
      refine x_iload_n C d_M_clear_136 3 rfl ?_
      refine x_iadd C d_M_clear_137 ?_
      obtain ⟨t20, ht20, hf⟩ := bs hf
      refine x_iald C ht20 mc_104 kc_104 d_M_clear_138 ?_
      refine x_aload_n C d_M_clear_139 0 rfl ?_
      refine x_aload_n C d_M_clear_140 0 rfl ?_
      refine xg_M_items C wF_M_19 mc_100 kc_100 d_M_clear_141 ?_
      refine x_bipush (v := 40) C d_M_clear_144 rfl ?_
      refine x_iload_n C d_M_clear_146 1 rfl ?_
      refine x_imul C d_M_clear_147 ?_
      refine x_iload_n C d_M_clear_148 3 rfl ?_
      refine x_iadd C d_M_clear_149 ?_
      obtain ⟨t21, ht21, hf⟩ := bs hf
      refine x_iald C ht21 mc_104 kc_104 d_M_clear_150 ?_
      refine x_iconst (v := 3) C d_M_clear_151 rfl ?_
      obtain ⟨c22, hc22, hf⟩ := bs hf
      refine x_callV (rest := [.int t20, .ref (ad 100)]) (n := 2) C (ct_M_of E F _ _ _ _  hc22) mi_M_of (by decide) mc_100 ⟨_, cel_M kc_100⟩ rfl rfl wL_M_146 d_M_clear_152 rfl rfl (Nat.le_of_ble_eq_true rfl) ?_
      show X _ _ _ _ _ _ _ _ _ _ _ _ _ _ _ _ _ _ _ _ _ [.int c22, .int t20, .ref (ad 100)]
      refine x_iload_n C d_M_clear_155 2 rfl ?_
      refine x_isub C d_M_clear_156 ?_
      obtain ⟨c23, hc23, hf⟩ := bs hf
      refine x_callV (rest := []) (n := 2) C (ct_M_leave E F _ _ _ _  hc23) mi_M_leave (by decide) mc_100 ⟨_, cel_M kc_100⟩ rfl rfl wL_M_219 d_M_clear_157 rfl rfl (Nat.le_of_ble_eq_true rfl) ?_
      show X _ _ _ _ _ _ _ _ _ _ _ _ _ _ _ _ _ _ _ _ _ []
      refine x_iinc (v := (x3 + 1)) (lv' := [(3, .int (x3 + 1)), (0, .ref (ad 100)), (1, .int x1), (2, .int x2)]) C d_M_clear_160 3 rfl rfl (by decide) rfl ?_
      refine x_goto C 117 d_M_clear_163 (by decide) ?_
      refine x_sub [1, 2, 3, 0] rfl ?_
      exact ih _ _ _ hf K
set_option maxHeartbeats 4000000 in
set_option maxRecDepth 100000 in
theorem ct_M_clear {l : Launch} {D : va_G} {ad : Nat → Nat} {cs : Nat → ClassId} {A : Nat → Prop} (E : Ev ad cs A LM) (F : Nat) (M : Mem) (x1 : Int32) (R : (Int32 × Mem))  (hf : M_clear F M x1 = some R) : Met l y_M_clear (Cond.code y_M_clear b_M_clear 5 (some .int) :: wl) (rmD 3) (PX D ad cs A LM [.ref (ad 100), .int x1] M) (QX D ad cs A LM (some (.int R.1)) R.2) 0 0 A := by
  refine x_enter (lv := [(0, .ref (ad 100)), (1, .int x1)]) E mi_M_clear.1 (Nat.le_of_ble_eq_true rfl) rfl (fun p e s m args below meth c C => ?_)
  unfold M_clear at hf
  refine x_iload_n C d_M_clear_0 1 rfl ?_
  obtain ⟨c1, hc1, hf⟩ := bs hf
  refine x_callS (rest := []) (n := 1) C (ct_M_isRow E F _ _ _  hc1) mi_M_isRow (by decide) wL_M_71 d_M_clear_1 rfl rfl (Nat.le_of_ble_eq_true rfl) ?_
  show X _ _ _ _ _ _ _ _ _ _ _ _ _ _ _ _ _ _ _ _ _ [.int c1]
  refine x_if_ne C 9 d_M_clear_4 (by decide) (fun g2 => ?_) (fun g2 => ?_)
  · replace hf := ie g2 hf
    refine x_aload_n C d_M_clear_9 0 rfl ?_
    refine xg_M_sizes C wF_M_16 mc_100 kc_100 d_M_clear_10 ?_
    refine x_iload_n C d_M_clear_13 1 rfl ?_
    obtain ⟨t3, ht3, hf⟩ := bs hf
    refine x_iald C ht3 mc_103 kc_103 d_M_clear_14 ?_
    refine x_if_ge C 24 d_M_clear_15 (by decide) (fun g4 => ?_) (fun g4 => ?_)
    · replace hf := it g4 hf
      refine x_aload_n C d_M_clear_24 0 rfl ?_
      refine x_iload_n C d_M_clear_25 1 rfl ?_
      obtain ⟨c5, hc5, hf⟩ := bs hf
      refine x_callV (rest := []) (n := 1) C (ct_M_areDrafts E F _ _ _  hc5) mi_M_areDrafts (by decide) mc_100 ⟨_, cel_M kc_100⟩ rfl rfl wL_M_234 d_M_clear_26 rfl rfl (Nat.le_of_ble_eq_true rfl) ?_
      show X _ _ _ _ _ _ _ _ _ _ _ _ _ _ _ _ _ _ _ _ _ [.int c5]
      refine x_if_ne C 38 d_M_clear_29 (by decide) (fun g6 => ?_) (fun g6 => ?_)
      · replace hf := ie g6 hf
        refine x_aload_n C d_M_clear_38 0 rfl ?_
        refine x_iload_n C d_M_clear_39 1 rfl ?_
        obtain ⟨c7, hc7, hf⟩ := bs hf
        refine x_callV (rest := []) (n := 1) C (ct_M_isRing E F _ _ _  hc7) mi_M_isRing (by decide) mc_100 ⟨_, cel_M kc_100⟩ rfl rfl wL_M_237 d_M_clear_40 rfl rfl (Nat.le_of_ble_eq_true rfl) ?_
        show X _ _ _ _ _ _ _ _ _ _ _ _ _ _ _ _ _ _ _ _ _ [.int c7]
        refine x_if_ne C 49 d_M_clear_43 (by decide) (fun g8 => ?_) (fun g8 => ?_)
        · replace hf := ie g8 hf
          refine x_aload_n C d_M_clear_49 0 rfl ?_
          obtain ⟨c9, hc9, hf⟩ := bs hf
          refine x_callV (rest := []) (n := 0) C (ct_M_isFull E F _ _  hc9) mi_M_isFull (by decide) mc_100 ⟨_, cel_M kc_100⟩ rfl rfl wL_M_207 d_M_clear_50 rfl rfl (Nat.le_of_ble_eq_true rfl) ?_
          show X _ _ _ _ _ _ _ _ _ _ _ _ _ _ _ _ _ _ _ _ _ [.int c9]
          refine x_if_eq C 59 d_M_clear_53 (by decide) (fun g10 => ?_) (fun g10 => ?_)
          · replace hf := it g10 hf
            refine x_aload_n C d_M_clear_59 0 rfl ?_
            obtain ⟨c11, hc11, hf⟩ := bs hf
            refine x_callV (rest := []) (n := 0) C (ct_M_keepPast E F _ _  hc11) mi_M_keepPast (by decide) mc_100 ⟨_, cel_M kc_100⟩ rfl rfl wL_M_210 d_M_clear_60 rfl rfl (Nat.le_of_ble_eq_true rfl) ?_
            show X _ _ _ _ _ _ _ _ _ _ _ _ _ _ _ _ _ _ _ _ _ []
            refine x_bipush (v := 99) C d_M_clear_63 rfl ?_
            refine x_istore_n (lv' := [(2, .int 99), (0, .ref (ad 100)), (1, .int x1)]) C d_M_clear_65 (by decide) rfl ?_
            refine x_iconst (v := 0) C d_M_clear_66 rfl ?_
            refine x_istore_n (lv' := [(3, .int 0), (2, .int 99), (0, .ref (ad 100)), (1, .int x1)]) C d_M_clear_67 (by decide) rfl ?_
            obtain ⟨u17, hu17, hf⟩ := bs hf
            refine x_sub [2, 3, 1, 0] rfl ?_
            refine lw_M_clear_68 E C F _ _ _ _ _ _ hu17 ?_
            refine x_iconst (v := 0) C d_M_clear_115 rfl ?_
            refine x_istore_n (lv' := [(3, .int 0), (0, .ref (ad 100)), (1, .int x1), (2, .int u17)]) C d_M_clear_116 (by decide) rfl ?_
            obtain ⟨u24, hu24, hf⟩ := bs hf
            refine x_sub [1, 2, 3, 0] rfl ?_
            refine lw_M_clear_117 E C F _ _ _ _ _ _ hu24 ?_
            refine x_iload_n C d_M_clear_166 0 rfl ?_
            cases hf
            exact x_iret C d_M_clear_167 rfl rfl
          · replace hf := ie g10 hf
            refine x_bipush (v := (-2)) C d_M_clear_56 rfl ?_
            cases hf
            exact x_iret C d_M_clear_58 rfl rfl
        · replace hf := it g8 hf
          refine x_bipush (v := (-4)) C d_M_clear_46 rfl ?_
          cases hf
          exact x_iret C d_M_clear_48 rfl rfl
      · replace hf := it g6 hf
        refine x_aload_n C d_M_clear_32 0 rfl ?_
        refine x_iconst (v := 3) C d_M_clear_33 rfl ?_
        obtain ⟨c25, hc25, hf⟩ := bs hf
        refine x_callV (rest := []) (n := 1) C (ct_M_find E F _ _ _  hc25) mi_M_find (by decide) mc_100 ⟨_, cel_M kc_100⟩ rfl rfl wL_M_75 d_M_clear_34 rfl rfl (Nat.le_of_ble_eq_true rfl) ?_
        show X _ _ _ _ _ _ _ _ _ _ _ _ _ _ _ _ _ _ _ _ _ [.int c25.1]
        cases hf
        exact x_iret C d_M_clear_37 rfl rfl
    · replace hf := ie g4 hf
      refine x_aload_n C d_M_clear_18 0 rfl ?_
      refine x_iconst (v := 1) C d_M_clear_19 rfl ?_
      obtain ⟨c26, hc26, hf⟩ := bs hf
      refine x_callV (rest := []) (n := 1) C (ct_M_find E F _ _ _  hc26) mi_M_find (by decide) mc_100 ⟨_, cel_M kc_100⟩ rfl rfl wL_M_75 d_M_clear_20 rfl rfl (Nat.le_of_ble_eq_true rfl) ?_
      show X _ _ _ _ _ _ _ _ _ _ _ _ _ _ _ _ _ _ _ _ _ [.int c26.1]
      cases hf
      exact x_iret C d_M_clear_23 rfl rfl
  · replace hf := it g2 hf
    refine x_iconst (v := (-1)) C d_M_clear_7 rfl ?_
    cases hf
    exact x_iret C d_M_clear_8 rfl rfl
set_option maxHeartbeats 4000000 in
set_option maxRecDepth 100000 in
theorem ct_M_isSpan {l : Launch} {D : va_G} {ad : Nat → Nat} {cs : Nat → ClassId} {A : Nat → Prop} (E : Ev ad cs A LM) (F : Nat) (M : Mem) (x1 : Int32) (x2 : Int32) (x3 : Int32) (R : Int32)  (hf : M_isSpan F M x1 x2 x3 = some R) : Met l y_M_isSpan (Cond.code y_M_isSpan b_M_isSpan 4 (some .boolean) :: wl) (rmD 0) (PX D ad cs A LM [.ref (ad 100), .int x1, .int x2, .int x3] M) (QX D ad cs A LM (some (.int R)) M) 0 0 A := by
  refine x_enter (lv := [(0, .ref (ad 100)), (1, .int x1), (2, .int x2), (3, .int x3)]) E mi_M_isSpan.1 (Nat.le_of_ble_eq_true rfl) rfl (fun p e s m args below meth c C => ?_)
  unfold M_isSpan at hf
  refine x_iload_n C d_M_isSpan_0 2 rfl ?_
  refine x_if_lt C 24 d_M_isSpan_1 (by decide) (fun g1 => ?_) (fun g1 => ?_)
  · replace hf := it g1 hf
    refine x_iconst (v := 0) C d_M_isSpan_24 rfl ?_
    cases hf
    exact x_zret C d_M_isSpan_25 (Or.inl rfl) rfl rfl
  · replace hf := ie g1 hf
    refine x_iload_n C d_M_isSpan_4 2 rfl ?_
    refine x_i2l C d_M_isSpan_5 ?_
    refine x_iload_n C d_M_isSpan_6 3 rfl ?_
    refine x_i2l C d_M_isSpan_7 ?_
    refine x_ladd C d_M_isSpan_8 ?_
    refine x_aload_n C d_M_isSpan_9 0 rfl ?_
    refine xg_M_sizes C wF_M_16 mc_100 kc_100 d_M_isSpan_10 ?_
    refine x_iload_n C d_M_isSpan_13 1 rfl ?_
    obtain ⟨t2, ht2, hf⟩ := bs hf
    refine x_iald C ht2 mc_103 kc_103 d_M_isSpan_14 ?_
    refine x_i2l C d_M_isSpan_15 ?_
    refine x_lcmp C d_M_isSpan_16 ?_
    refine x_if_gt C 24 d_M_isSpan_17 (by decide) (fun g3 => ?_) (fun g3 => ?_)
    · replace hf := it g3 hf
      refine x_iconst (v := 0) C d_M_isSpan_24 rfl ?_
      cases hf
      exact x_zret C d_M_isSpan_25 (Or.inl rfl) rfl rfl
    · replace hf := ie g3 hf
      refine x_iconst (v := 1) C d_M_isSpan_20 rfl ?_
      refine x_goto C 25 d_M_isSpan_21 (by decide) ?_
      cases hf
      exact x_zret C d_M_isSpan_25 (Or.inr rfl) rfl rfl
set_option maxHeartbeats 4000000 in
set_option maxRecDepth 100000 in
theorem lw_M_copy_96 {p : Program} {l : Launch} {e : Env} {s : State} {m : MethodId} {args : Array Value} {below : List Frame} {meth : Method} {c : Code} {D : va_G} {ad : Nat → Nat} {cs : Nat → ClassId} {A : Nat → Prop} {V : Option Value} {N : Mem} (E : Ev ad cs A LM) (C : Cx p s m args meth c "KissClearingModel" b_M_copy 9 (some .int) D ad cs A LM) (F : Nat) (x1 : Int32) (x2 : Int32) (x3 : Int32) (x4 : Int32) (x5 : Int32) (x6 : Int32) : ∀ (n : Nat) (M : Mem) (x7 : Int32) (u : Mem), L_M_copy_96 F x1 x2 x3 x4 x5 x6 n M x7 = some u → X p l e 2 s m args below meth c 9 D ad cs A LM V N u 157 [] [] → X p l e 2 s m args below meth c 9 D ad cs A LM V N M 96 [(0, .ref (ad 100)), (1, .int x1), (2, .int x2), (3, .int x3), (4, .int x4), (5, .int x5), (6, .int x6), (7, .int x7)] [] := by
  intro n
  induction n with
  | zero => intro M x7 u hf; cases hf
  | succ n ih =>
    intro M x7 u hf K
    replace hf : B_M_copy_96 F x1 x2 x3 x4 x5 x6 (L_M_copy_96 F x1 x2 x3 x4 x5 x6 n) M x7 = some u := hf
    unfold B_M_copy_96 at hf
    refine x_iload C d_M_copy_96 7 rfl ?_
    refine x_iload C d_M_copy_98 5 rfl ?_
    refine x_icmp_ge C 157 d_M_copy_100 (by decide) (fun g17 => ?_) (fun g17 => ?_)
    · replace hf := it g17 hf
      cases hf
      exact x_sub [] rfl K
    · replace hf := ie g17 hf
      refine x_iload C d_M_copy_103 6 rfl ?_
      obtain ⟨j18, hj18, hf⟩ := bs hf
      have Jj18 : X p l e 2 s m args below meth c 9 D ad cs A LM V N M 120 [(0, .ref (ad 100)), (1, .int x1), (2, .int x2), (3, .int x3), (4, .int x4), (5, .int x5), (6, .int x6), (7, .int x7)] [.int j18] := by
        refine x_istore (lv' := [(8, .int j18), (0, .ref (ad 100)), (1, .int x1), (2, .int x2), (3, .int x3), (4, .int x4), (5, .int x5), (6, .int x6), (7, .int x7)]) C d_M_copy_120 (by decide) rfl ?_
        refine x_aload_n C d_M_copy_122 1 rfl ?_
        refine xg_M_items C wF_M_19 mc_100 kc_100 d_M_copy_123 ?_
        refine x_bipush (v := 40) C d_M_copy_126 rfl ?_
        refine x_iload_n C d_M_copy_128 4 rfl ?_
        refine x_imul C d_M_copy_129 ?_
        refine x_iload C d_M_copy_130 5 rfl ?_
        refine x_iadd C d_M_copy_132 ?_
        refine x_iload C d_M_copy_133 0 rfl ?_
        refine x_iadd C d_M_copy_135 ?_
        refine x_aload_n C d_M_copy_136 1 rfl ?_
        refine xg_M_items C wF_M_19 mc_100 kc_100 d_M_copy_137 ?_
        refine x_bipush (v := 40) C d_M_copy_140 rfl ?_
        refine x_iload_n C d_M_copy_142 2 rfl ?_
        refine x_imul C d_M_copy_143 ?_
        refine x_iload_n C d_M_copy_144 3 rfl ?_
        refine x_iadd C d_M_copy_145 ?_
        refine x_iload C d_M_copy_146 0 rfl ?_
        refine x_iadd C d_M_copy_148 ?_
        obtain ⟨t19, ht19, hf⟩ := bs hf
        refine x_iald C ht19 mc_104 kc_104 d_M_copy_149 ?_
        obtain ⟨M20, hM20, hf⟩ := bs hf
        refine x_iast C hM20 mc_104 kc_104 d_M_copy_150 ?_
        refine x_iinc (v := (x7 + 1)) (lv' := [(7, .int (x7 + 1)), (8, .int j18), (0, .ref (ad 100)), (1, .int x1), (2, .int x2), (3, .int x3), (4, .int x4), (5, .int x5), (6, .int x6)]) C d_M_copy_151 8 rfl rfl (by decide) rfl ?_
        refine x_goto C 96 d_M_copy_154 (by decide) ?_
        refine x_sub [2, 3, 4, 5, 6, 7, 8, 0] rfl ?_
        exact ih _ _ _ hf K
      replace hf := hj18
      refine x_if_eq C 118 d_M_copy_105 (by decide) (fun g21 => ?_) (fun g21 => ?_)
      · replace hf := it g21 hf
        refine x_iload C d_M_copy_118 7 rfl ?_
        cases hf
        exact x_sub [0, 1, 2, 3, 4, 5, 6, 7] rfl Jj18
      · replace hf := ie g21 hf
        refine x_iload C d_M_copy_108 5 rfl ?_
        refine x_iconst (v := 1) C d_M_copy_110 rfl ?_
        refine x_isub C d_M_copy_111 ?_
        refine x_iload C d_M_copy_112 7 rfl ?_
        refine x_isub C d_M_copy_114 ?_
        refine x_goto C 120 d_M_copy_115 (by decide) ?_
        cases hf
        exact x_sub [0, 1, 2, 3, 4, 5, 6, 7] rfl Jj18
set_option maxHeartbeats 4000000 in
set_option maxRecDepth 100000 in
theorem ct_M_copy {l : Launch} {D : va_G} {ad : Nat → Nat} {cs : Nat → ClassId} {A : Nat → Prop} (E : Ev ad cs A LM) (F : Nat) (M : Mem) (x1 : Int32) (x2 : Int32) (x3 : Int32) (x4 : Int32) (x5 : Int32) (R : (Int32 × Mem))  (hf : M_copy F M x1 x2 x3 x4 x5 = some R) : Met l y_M_copy (Cond.code y_M_copy b_M_copy 9 (some .int) :: wl) (rmD 2) (PX D ad cs A LM [.ref (ad 100), .int x1, .int x2, .int x3, .int x4, .int x5] M) (QX D ad cs A LM (some (.int R.1)) R.2) 0 0 A := by
  refine x_enter (lv := [(0, .ref (ad 100)), (1, .int x1), (2, .int x2), (3, .int x3), (4, .int x4), (5, .int x5)]) E mi_M_copy.1 (Nat.le_of_ble_eq_true rfl) rfl (fun p e s m args below meth c C => ?_)
  unfold M_copy at hf
  refine x_iload_n C d_M_copy_0 1 rfl ?_
  obtain ⟨c1, hc1, hf⟩ := bs hf
  refine x_callS (rest := []) (n := 1) C (ct_M_isRow E F _ _ _  hc1) mi_M_isRow (by decide) wL_M_71 d_M_copy_1 rfl rfl (Nat.le_of_ble_eq_true rfl) ?_
  show X _ _ _ _ _ _ _ _ _ _ _ _ _ _ _ _ _ _ _ _ _ [.int c1]
  refine x_if_eq C 14 d_M_copy_4 (by decide) (fun g2 => ?_) (fun g2 => ?_)
  · replace hf := it g2 hf
    refine x_iconst (v := (-1)) C d_M_copy_14 rfl ?_
    cases hf
    exact x_iret C d_M_copy_15 rfl rfl
  · replace hf := ie g2 hf
    refine x_iload_n C d_M_copy_7 3 rfl ?_
    obtain ⟨c3, hc3, hf⟩ := bs hf
    refine x_callS (rest := []) (n := 1) C (ct_M_isRow E F _ _ _  hc3) mi_M_isRow (by decide) wL_M_71 d_M_copy_8 rfl rfl (Nat.le_of_ble_eq_true rfl) ?_
    show X _ _ _ _ _ _ _ _ _ _ _ _ _ _ _ _ _ _ _ _ _ [.int c3]
    refine x_if_ne C 16 d_M_copy_11 (by decide) (fun g4 => ?_) (fun g4 => ?_)
    · replace hf := ie g4 hf
      refine x_iload C d_M_copy_16 5 rfl ?_
      refine x_if_ge C 27 d_M_copy_18 (by decide) (fun g5 => ?_) (fun g5 => ?_)
      · replace hf := it g5 hf
        refine x_aload_n C d_M_copy_27 0 rfl ?_
        refine xg_M_sizes C wF_M_16 mc_100 kc_100 d_M_copy_28 ?_
        refine x_iload_n C d_M_copy_31 1 rfl ?_
        obtain ⟨t6, ht6, hf⟩ := bs hf
        refine x_iald C ht6 mc_103 kc_103 d_M_copy_32 ?_
        refine x_if_lt C 45 d_M_copy_33 (by decide) (fun g7 => ?_) (fun g7 => ?_)
        · replace hf := it g7 hf
          refine x_aload_n C d_M_copy_45 0 rfl ?_
          refine x_iconst (v := 1) C d_M_copy_46 rfl ?_
          obtain ⟨c8, hc8, hf⟩ := bs hf
          refine x_callV (rest := []) (n := 1) C (ct_M_find E F _ _ _  hc8) mi_M_find (by decide) mc_100 ⟨_, cel_M kc_100⟩ rfl rfl wL_M_75 d_M_copy_47 rfl rfl (Nat.le_of_ble_eq_true rfl) ?_
          show X _ _ _ _ _ _ _ _ _ _ _ _ _ _ _ _ _ _ _ _ _ [.int c8.1]
          cases hf
          exact x_iret C d_M_copy_50 rfl rfl
        · replace hf := ie g7 hf
          refine x_aload_n C d_M_copy_36 0 rfl ?_
          refine xg_M_sizes C wF_M_16 mc_100 kc_100 d_M_copy_37 ?_
          refine x_iload_n C d_M_copy_40 3 rfl ?_
          obtain ⟨t9, ht9, hf⟩ := bs hf
          refine x_iald C ht9 mc_103 kc_103 d_M_copy_41 ?_
          refine x_if_ge C 51 d_M_copy_42 (by decide) (fun g10 => ?_) (fun g10 => ?_)
          · replace hf := it g10 hf
            refine x_aload_n C d_M_copy_51 0 rfl ?_
            refine x_iload_n C d_M_copy_52 1 rfl ?_
            refine x_iload_n C d_M_copy_53 2 rfl ?_
            refine x_iload C d_M_copy_54 5 rfl ?_
            obtain ⟨c11, hc11, hf⟩ := bs hf
            refine x_callV (rest := []) (n := 3) C (ct_M_isSpan E F _ _ _ _ _  hc11) mi_M_isSpan (by decide) mc_100 ⟨_, cel_M kc_100⟩ rfl rfl wL_M_90 d_M_copy_56 rfl rfl (Nat.le_of_ble_eq_true rfl) ?_
            show X _ _ _ _ _ _ _ _ _ _ _ _ _ _ _ _ _ _ _ _ _ [.int c11]
            refine x_if_eq C 74 d_M_copy_59 (by decide) (fun g12 => ?_) (fun g12 => ?_)
            · replace hf := it g12 hf
              refine x_aload_n C d_M_copy_74 0 rfl ?_
              refine x_iconst (v := 2) C d_M_copy_75 rfl ?_
              obtain ⟨c13, hc13, hf⟩ := bs hf
              refine x_callV (rest := []) (n := 1) C (ct_M_find E F _ _ _  hc13) mi_M_find (by decide) mc_100 ⟨_, cel_M kc_100⟩ rfl rfl wL_M_75 d_M_copy_76 rfl rfl (Nat.le_of_ble_eq_true rfl) ?_
              show X _ _ _ _ _ _ _ _ _ _ _ _ _ _ _ _ _ _ _ _ _ [.int c13.1]
              cases hf
              exact x_iret C d_M_copy_79 rfl rfl
            · replace hf := ie g12 hf
              refine x_aload_n C d_M_copy_62 0 rfl ?_
              refine x_iload_n C d_M_copy_63 3 rfl ?_
              refine x_iload C d_M_copy_64 4 rfl ?_
              refine x_iload C d_M_copy_66 5 rfl ?_
              obtain ⟨c14, hc14, hf⟩ := bs hf
              refine x_callV (rest := []) (n := 3) C (ct_M_isSpan E F _ _ _ _ _  hc14) mi_M_isSpan (by decide) mc_100 ⟨_, cel_M kc_100⟩ rfl rfl wL_M_90 d_M_copy_68 rfl rfl (Nat.le_of_ble_eq_true rfl) ?_
              show X _ _ _ _ _ _ _ _ _ _ _ _ _ _ _ _ _ _ _ _ _ [.int c14]
              refine x_if_ne C 80 d_M_copy_71 (by decide) (fun g15 => ?_) (fun g15 => ?_)
              · replace hf := ie g15 hf
                refine x_iload_n C d_M_copy_80 2 rfl ?_
                refine x_iload C d_M_copy_81 4 rfl ?_
                obtain ⟨j16, hj16, hf⟩ := bs hf
                have Jj16 : X p l e 2 s m args below meth c 9 D ad cs A LM (some (.int R.1)) R.2 M 91 [(0, .ref (ad 100)), (1, .int x1), (2, .int x2), (3, .int x3), (4, .int x4), (5, .int x5)] [.int j16] := by
                  refine x_istore (lv' := [(6, .int j16), (0, .ref (ad 100)), (1, .int x1), (2, .int x2), (3, .int x3), (4, .int x4), (5, .int x5)]) C d_M_copy_91 (by decide) rfl ?_
                  refine x_iconst (v := 0) C d_M_copy_93 rfl ?_
                  refine x_istore (lv' := [(7, .int 0), (6, .int j16), (0, .ref (ad 100)), (1, .int x1), (2, .int x2), (3, .int x3), (4, .int x4), (5, .int x5)]) C d_M_copy_94 (by decide) rfl ?_
                  obtain ⟨u22, hu22, hf⟩ := bs hf
                  refine x_sub [2, 3, 4, 5, 6, 7, 1, 0] rfl ?_
                  refine lw_M_copy_96 E C F _ _ _ _ _ _ _ _ _ _ hu22 ?_
                  refine x_iconst (v := 1) C d_M_copy_157 rfl ?_
                  cases hf
                  exact x_iret C d_M_copy_158 rfl rfl
                replace hf := hj16
                refine x_icmp_ge C 90 d_M_copy_83 (by decide) (fun g23 => ?_) (fun g23 => ?_)
                · replace hf := it g23 hf
                  refine x_iconst (v := 0) C d_M_copy_90 rfl ?_
                  cases hf
                  exact x_sub [0, 1, 2, 3, 4, 5] rfl Jj16
                · replace hf := ie g23 hf
                  refine x_iconst (v := 1) C d_M_copy_86 rfl ?_
                  refine x_goto C 91 d_M_copy_87 (by decide) ?_
                  cases hf
                  exact x_sub [0, 1, 2, 3, 4, 5] rfl Jj16
              · replace hf := it g15 hf
                refine x_aload_n C d_M_copy_74 0 rfl ?_
                refine x_iconst (v := 2) C d_M_copy_75 rfl ?_
                obtain ⟨c24, hc24, hf⟩ := bs hf
                refine x_callV (rest := []) (n := 1) C (ct_M_find E F _ _ _  hc24) mi_M_find (by decide) mc_100 ⟨_, cel_M kc_100⟩ rfl rfl wL_M_75 d_M_copy_76 rfl rfl (Nat.le_of_ble_eq_true rfl) ?_
                show X _ _ _ _ _ _ _ _ _ _ _ _ _ _ _ _ _ _ _ _ _ [.int c24.1]
                cases hf
                exact x_iret C d_M_copy_79 rfl rfl
          · replace hf := ie g10 hf
            refine x_aload_n C d_M_copy_45 0 rfl ?_
            refine x_iconst (v := 1) C d_M_copy_46 rfl ?_
            obtain ⟨c25, hc25, hf⟩ := bs hf
            refine x_callV (rest := []) (n := 1) C (ct_M_find E F _ _ _  hc25) mi_M_find (by decide) mc_100 ⟨_, cel_M kc_100⟩ rfl rfl wL_M_75 d_M_copy_47 rfl rfl (Nat.le_of_ble_eq_true rfl) ?_
            show X _ _ _ _ _ _ _ _ _ _ _ _ _ _ _ _ _ _ _ _ _ [.int c25.1]
            cases hf
            exact x_iret C d_M_copy_50 rfl rfl
      · replace hf := ie g5 hf
        refine x_aload_n C d_M_copy_21 0 rfl ?_
        refine x_iconst (v := 5) C d_M_copy_22 rfl ?_
        obtain ⟨c26, hc26, hf⟩ := bs hf
        refine x_callV (rest := []) (n := 1) C (ct_M_find E F _ _ _  hc26) mi_M_find (by decide) mc_100 ⟨_, cel_M kc_100⟩ rfl rfl wL_M_75 d_M_copy_23 rfl rfl (Nat.le_of_ble_eq_true rfl) ?_
        show X _ _ _ _ _ _ _ _ _ _ _ _ _ _ _ _ _ _ _ _ _ [.int c26.1]
        cases hf
        exact x_iret C d_M_copy_26 rfl rfl
    · replace hf := it g4 hf
      refine x_iconst (v := (-1)) C d_M_copy_14 rfl ?_
      cases hf
      exact x_iret C d_M_copy_15 rfl rfl
set_option maxHeartbeats 4000000 in
set_option maxRecDepth 100000 in
theorem lw_M_copyVillage_2 {p : Program} {l : Launch} {e : Env} {s : State} {m : MethodId} {args : Array Value} {below : List Frame} {meth : Method} {c : Code} {D : va_G} {ad : Nat → Nat} {cs : Nat → ClassId} {A : Nat → Prop} {V : Option Value} {N : Mem} (E : Ev ad cs A LM) (C : Cx p s m args meth c "KissClearingModel" b_M_copyVillage 4 none D ad cs A LM) (F : Nat) (x1 : Int32) (x2 : Int32) : ∀ (n : Nat) (M : Mem) (x3 : Int32) (u : Mem), L_M_copyVillage_2 F x1 x2 n M x3 = some u → X p l e 0 s m args below meth c 4 D ad cs A LM V N u 31 [] [] → X p l e 0 s m args below meth c 4 D ad cs A LM V N M 2 [(0, .ref (ad 100)), (1, .int x1), (2, .int x2), (3, .int x3)] [] := by
  intro n
  induction n with
  | zero => intro M x3 u hf; cases hf
  | succ n ih =>
    intro M x3 u hf K
    replace hf : B_M_copyVillage_2 F x1 x2 (L_M_copyVillage_2 F x1 x2 n) M x3 = some u := hf
    unfold B_M_copyVillage_2 at hf
    refine x_iload_n C d_M_copyVillage_2 3 rfl ?_
    refine x_sipush (v := 2994) C d_M_copyVillage_3 rfl ?_
    refine x_icmp_ge C 31 d_M_copyVillage_6 (by decide) (fun g1 => ?_) (fun g1 => ?_)
    · replace hf := it g1 hf
      cases hf
      exact x_sub [] rfl K
    · replace hf := ie g1 hf
      refine x_aload_n C d_M_copyVillage_9 0 rfl ?_
      refine xg_M_row C wF_M_7 mc_100 kc_100 d_M_copyVillage_10 ?_
      refine x_iload_n C d_M_copyVillage_13 2 rfl ?_
      refine x_iload_n C d_M_copyVillage_14 3 rfl ?_
      refine x_iadd C d_M_copyVillage_15 ?_
      refine x_aload_n C d_M_copyVillage_16 0 rfl ?_
      refine xg_M_row C wF_M_7 mc_100 kc_100 d_M_copyVillage_17 ?_
      refine x_iload_n C d_M_copyVillage_20 1 rfl ?_
      refine x_iload_n C d_M_copyVillage_21 3 rfl ?_
      refine x_iadd C d_M_copyVillage_22 ?_
      obtain ⟨t2, ht2, hf⟩ := bs hf
      refine x_iald C ht2 mc_101 kc_101 d_M_copyVillage_23 ?_
      obtain ⟨M3, hM3, hf⟩ := bs hf
      refine x_iast C hM3 mc_101 kc_101 d_M_copyVillage_24 ?_
      refine x_iinc (v := (x3 + 1)) (lv' := [(3, .int (x3 + 1)), (0, .ref (ad 100)), (1, .int x1), (2, .int x2)]) C d_M_copyVillage_25 3 rfl rfl (by decide) rfl ?_
      refine x_goto C 2 d_M_copyVillage_28 (by decide) ?_
      refine x_sub [1, 2, 3, 0] rfl ?_
      exact ih _ _ _ hf K
set_option maxHeartbeats 4000000 in
set_option maxRecDepth 100000 in
theorem ct_M_copyVillage {l : Launch} {D : va_G} {ad : Nat → Nat} {cs : Nat → ClassId} {A : Nat → Prop} (E : Ev ad cs A LM) (F : Nat) (M : Mem) (x1 : Int32) (x2 : Int32) (R : Mem)  (hf : M_copyVillage F M x1 x2 = some R) : Met l y_M_copyVillage (Cond.code y_M_copyVillage b_M_copyVillage 4 none :: wl) (rmD 0) (PX D ad cs A LM [.ref (ad 100), .int x1, .int x2] M) (QX D ad cs A LM (none) R) 0 0 A := by
  refine x_enter (lv := [(0, .ref (ad 100)), (1, .int x1), (2, .int x2)]) E mi_M_copyVillage.1 (Nat.le_of_ble_eq_true rfl) rfl (fun p e s m args below meth c C => ?_)
  unfold M_copyVillage at hf
  refine x_iconst (v := 0) C d_M_copyVillage_0 rfl ?_
  refine x_istore_n (lv' := [(3, .int 0), (0, .ref (ad 100)), (1, .int x1), (2, .int x2)]) C d_M_copyVillage_1 (by decide) rfl ?_
  obtain ⟨u4, hu4, hf⟩ := bs hf
  refine x_sub [1, 2, 3, 0] rfl ?_
  refine lw_M_copyVillage_2 E C F _ _ _ _ _ _ hu4 ?_
  cases hf
  exact x_vret C d_M_copyVillage_31 rfl rfl
set_option maxHeartbeats 4000000 in
set_option maxRecDepth 100000 in
theorem lw_M_openMany_4 {p : Program} {l : Launch} {e : Env} {s : State} {m : MethodId} {args : Array Value} {below : List Frame} {meth : Method} {c : Code} {D : va_G} {ad : Nat → Nat} {cs : Nat → ClassId} {A : Nat → Prop} {V : Option Value} {N : Mem} (E : Ev ad cs A LM) (C : Cx p s m args meth c "KissClearingModel" b_M_openMany 3 (some .int) D ad cs A LM) (F : Nat) (M : Mem)  : ∀ (n : Nat) (x1 : Int32) (x2 : Int32) (u : Int32), L_M_openMany_4 F M n x1 x2 = some u → X p l e 2 s m args below meth c 3 D ad cs A LM V N M 36 [(1, .int u)] [] → X p l e 2 s m args below meth c 3 D ad cs A LM V N M 4 [(0, .ref (ad 100)), (1, .int x1), (2, .int x2)] [] := by
  intro n
  induction n with
  | zero => intro x1 x2 u hf; cases hf
  | succ n ih =>
    intro x1 x2 u hf K
    replace hf : B_M_openMany_4 F M (L_M_openMany_4 F M n) x1 x2 = some u := hf
    unfold B_M_openMany_4 at hf
    refine x_iload_n C d_M_openMany_4 2 rfl ?_
    refine x_aload_n C d_M_openMany_5 0 rfl ?_
    refine xg_M_row C wF_M_7 mc_100 kc_100 d_M_openMany_6 ?_
    refine x_iconst (v := 1) C d_M_openMany_9 rfl ?_
    refine x_iald C (ac_101_1 M) mc_101 kc_101 d_M_openMany_10 ?_
    refine x_icmp_ge C 36 d_M_openMany_11 (by decide) (fun g1 => ?_) (fun g1 => ?_)
    · replace hf := it g1 hf
      cases hf
      exact x_sub [1] rfl K
    · replace hf := ie g1 hf
      refine x_iload_n C d_M_openMany_14 1 rfl ?_
      refine x_aload_n C d_M_openMany_15 0 rfl ?_
      refine x_iload_n C d_M_openMany_16 2 rfl ?_
      obtain ⟨c2, hc2, hf⟩ := bs hf
      refine x_callV (rest := [.int x1]) (n := 1) C (ct_M_isOpen E F _ _ _  hc2) mi_M_isOpen (by decide) mc_100 ⟨_, cel_M kc_100⟩ rfl rfl wL_M_156 d_M_openMany_17 rfl rfl (Nat.le_of_ble_eq_true rfl) ?_
      show X _ _ _ _ _ _ _ _ _ _ _ _ _ _ _ _ _ _ _ _ _ [.int c2, .int x1]
      refine x_if_eq C 27 d_M_openMany_20 (by decide) (fun g3 => ?_) (fun g3 => ?_)
      · replace hf := it g3 hf
        refine x_iconst (v := 0) C d_M_openMany_27 rfl ?_
        refine x_iadd C d_M_openMany_28 ?_
        refine x_istore_n (lv' := [(1, .int (x1 + 0)), (0, .ref (ad 100)), (2, .int x2)]) C d_M_openMany_29 (by decide) rfl ?_
        refine x_iinc (v := (x2 + 1)) (lv' := [(2, .int (x2 + 1)), (1, .int (x1 + 0)), (0, .ref (ad 100))]) C d_M_openMany_30 2 rfl rfl (by decide) rfl ?_
        refine x_goto C 4 d_M_openMany_33 (by decide) ?_
        refine x_sub [2, 1, 0] rfl ?_
        exact ih _ _ _ hf K
      · replace hf := ie g3 hf
        refine x_iconst (v := 1) C d_M_openMany_23 rfl ?_
        refine x_goto C 28 d_M_openMany_24 (by decide) ?_
        refine x_iadd C d_M_openMany_28 ?_
        refine x_istore_n (lv' := [(1, .int (x1 + 1)), (0, .ref (ad 100)), (2, .int x2)]) C d_M_openMany_29 (by decide) rfl ?_
        refine x_iinc (v := (x2 + 1)) (lv' := [(2, .int (x2 + 1)), (1, .int (x1 + 1)), (0, .ref (ad 100))]) C d_M_openMany_30 2 rfl rfl (by decide) rfl ?_
        refine x_goto C 4 d_M_openMany_33 (by decide) ?_
        refine x_sub [2, 1, 0] rfl ?_
        exact ih _ _ _ hf K
set_option maxHeartbeats 4000000 in
set_option maxRecDepth 100000 in
theorem ct_M_openMany {l : Launch} {D : va_G} {ad : Nat → Nat} {cs : Nat → ClassId} {A : Nat → Prop} (E : Ev ad cs A LM) (F : Nat) (M : Mem)  (R : Int32)  (hf : M_openMany F M = some R) : Met l y_M_openMany (Cond.code y_M_openMany b_M_openMany 3 (some .int) :: wl) (rmD 2) (PX D ad cs A LM [.ref (ad 100)] M) (QX D ad cs A LM (some (.int R)) M) 0 0 A := by
  refine x_enter (lv := [(0, .ref (ad 100))]) E mi_M_openMany.1 (Nat.le_of_ble_eq_true rfl) rfl (fun p e s m args below meth c C => ?_)
  unfold M_openMany at hf
  refine x_iconst (v := 0) C d_M_openMany_0 rfl ?_
  refine x_istore_n (lv' := [(1, .int 0), (0, .ref (ad 100))]) C d_M_openMany_1 (by decide) rfl ?_
  refine x_iconst (v := 0) C d_M_openMany_2 rfl ?_
  refine x_istore_n (lv' := [(2, .int 0), (1, .int 0), (0, .ref (ad 100))]) C d_M_openMany_3 (by decide) rfl ?_
  obtain ⟨u4, hu4, hf⟩ := bs hf
  refine x_sub [2, 1, 0] rfl ?_
  refine lw_M_openMany_4 E C F _ _ _ _ _ hu4 ?_
  refine x_iload_n C d_M_openMany_36 0 rfl ?_
  cases hf
  exact x_iret C d_M_openMany_37 rfl rfl
set_option maxHeartbeats 4000000 in
set_option maxRecDepth 100000 in
theorem lw_M_openKisses_4 {p : Program} {l : Launch} {e : Env} {s : State} {m : MethodId} {args : Array Value} {below : List Frame} {meth : Method} {c : Code} {D : va_G} {ad : Nat → Nat} {cs : Nat → ClassId} {A : Nat → Prop} {V : Option Value} {N : Mem} (E : Ev ad cs A LM) (C : Cx p s m args meth c "KissClearingModel" b_M_openKisses 3 (some .int) D ad cs A LM) (F : Nat) (M : Mem)  : ∀ (n : Nat) (x1 : Int32) (x2 : Int32) (u : Int32), L_M_openKisses_4 F M n x1 x2 = some u → X p l e 1 s m args below meth c 3 D ad cs A LM V N M 29 [(1, .int u)] [] → X p l e 1 s m args below meth c 3 D ad cs A LM V N M 4 [(0, .ref (ad 100)), (1, .int x1), (2, .int x2)] [] := by
  intro n
  induction n with
  | zero => intro x1 x2 u hf; cases hf
  | succ n ih =>
    intro x1 x2 u hf K
    replace hf : B_M_openKisses_4 F M (L_M_openKisses_4 F M n) x1 x2 = some u := hf
    unfold B_M_openKisses_4 at hf
    refine x_iload_n C d_M_openKisses_4 2 rfl ?_
    refine x_aload_n C d_M_openKisses_5 0 rfl ?_
    refine xg_M_row C wF_M_7 mc_100 kc_100 d_M_openKisses_6 ?_
    refine x_iconst (v := 1) C d_M_openKisses_9 rfl ?_
    refine x_iald C (ac_101_1 M) mc_101 kc_101 d_M_openKisses_10 ?_
    refine x_icmp_ge C 29 d_M_openKisses_11 (by decide) (fun g1 => ?_) (fun g1 => ?_)
    · replace hf := it g1 hf
      cases hf
      exact x_sub [1] rfl K
    · replace hf := ie g1 hf
      refine x_iload_n C d_M_openKisses_14 1 rfl ?_
      refine x_aload_n C d_M_openKisses_15 0 rfl ?_
      refine x_iload_n C d_M_openKisses_16 2 rfl ?_
      refine x_iconst (v := 3) C d_M_openKisses_17 rfl ?_
      obtain ⟨c2, hc2, hf⟩ := bs hf
      refine x_callV (rest := [.int x1]) (n := 2) C (ct_M_of E F _ _ _ _  hc2) mi_M_of (by decide) mc_100 ⟨_, cel_M kc_100⟩ rfl rfl wL_M_146 d_M_openKisses_18 rfl rfl (Nat.le_of_ble_eq_true rfl) ?_
      show X _ _ _ _ _ _ _ _ _ _ _ _ _ _ _ _ _ _ _ _ _ [.int c2, .int x1]
      refine x_iadd C d_M_openKisses_21 ?_
      refine x_istore_n (lv' := [(1, .int (x1 + c2)), (0, .ref (ad 100)), (2, .int x2)]) C d_M_openKisses_22 (by decide) rfl ?_
      refine x_iinc (v := (x2 + 1)) (lv' := [(2, .int (x2 + 1)), (1, .int (x1 + c2)), (0, .ref (ad 100))]) C d_M_openKisses_23 2 rfl rfl (by decide) rfl ?_
      refine x_goto C 4 d_M_openKisses_26 (by decide) ?_
      refine x_sub [2, 1, 0] rfl ?_
      exact ih _ _ _ hf K
set_option maxHeartbeats 4000000 in
set_option maxRecDepth 100000 in
theorem ct_M_openKisses {l : Launch} {D : va_G} {ad : Nat → Nat} {cs : Nat → ClassId} {A : Nat → Prop} (E : Ev ad cs A LM) (F : Nat) (M : Mem)  (R : Int32)  (hf : M_openKisses F M = some R) : Met l y_M_openKisses (Cond.code y_M_openKisses b_M_openKisses 3 (some .int) :: wl) (rmD 1) (PX D ad cs A LM [.ref (ad 100)] M) (QX D ad cs A LM (some (.int R)) M) 0 0 A := by
  refine x_enter (lv := [(0, .ref (ad 100))]) E mi_M_openKisses.1 (Nat.le_of_ble_eq_true rfl) rfl (fun p e s m args below meth c C => ?_)
  unfold M_openKisses at hf
  refine x_iconst (v := 0) C d_M_openKisses_0 rfl ?_
  refine x_istore_n (lv' := [(1, .int 0), (0, .ref (ad 100))]) C d_M_openKisses_1 (by decide) rfl ?_
  refine x_iconst (v := 0) C d_M_openKisses_2 rfl ?_
  refine x_istore_n (lv' := [(2, .int 0), (1, .int 0), (0, .ref (ad 100))]) C d_M_openKisses_3 (by decide) rfl ?_
  obtain ⟨u3, hu3, hf⟩ := bs hf
  refine x_sub [2, 1, 0] rfl ?_
  refine lw_M_openKisses_4 E C F _ _ _ _ _ hu3 ?_
  refine x_iload_n C d_M_openKisses_29 0 rfl ?_
  cases hf
  exact x_iret C d_M_openKisses_30 rfl rfl
set_option maxHeartbeats 4000000 in
set_option maxRecDepth 100000 in
theorem lw_M_thereOf_4 {p : Program} {l : Launch} {e : Env} {s : State} {m : MethodId} {args : Array Value} {below : List Frame} {meth : Method} {c : Code} {D : va_G} {ad : Nat → Nat} {cs : Nat → ClassId} {A : Nat → Prop} {V : Option Value} {N : Mem} (E : Ev ad cs A LM) (C : Cx p s m args meth c "KissClearingModel" b_M_thereOf 4 (some .int) D ad cs A LM) (F : Nat) (M : Mem) (x1 : Int32) : ∀ (n : Nat) (x2 : Int32) (x3 : Int32) (u : Int32), L_M_thereOf_4 F M x1 n x2 x3 = some u → X p l e 0 s m args below meth c 4 D ad cs A LM V N M 97 [(2, .int u)] [] → X p l e 0 s m args below meth c 4 D ad cs A LM V N M 4 [(0, .ref (ad 100)), (1, .int x1), (2, .int x2), (3, .int x3)] [] := by
  intro n
  induction n with
  | zero => intro x2 x3 u hf; cases hf
  | succ n ih =>
    intro x2 x3 u hf K
    replace hf : B_M_thereOf_4 F M x1 (L_M_thereOf_4 F M x1 n) x2 x3 = some u := hf
    unfold B_M_thereOf_4 at hf
    refine x_iload_n C d_M_thereOf_4 3 rfl ?_
    refine x_bipush (v := 6) C d_M_thereOf_5 rfl ?_
    refine x_icmp_ge C 97 d_M_thereOf_7 (by decide) (fun g1 => ?_) (fun g1 => ?_)
    · replace hf := it g1 hf
      cases hf
      exact x_sub [2] rfl K
    · replace hf := ie g1 hf
      refine x_iload_n C d_M_thereOf_10 2 rfl ?_
      refine x_iload_n C d_M_thereOf_11 1 rfl ?_
      refine x_bipush (v := 6) C d_M_thereOf_12 rfl ?_
      refine x_icmp_ne C 34 d_M_thereOf_14 (by decide) (fun g2 => ?_) (fun g2 => ?_)
      · replace hf := ie g2 hf
        refine x_iload_n C d_M_thereOf_34 1 rfl ?_
        refine x_bipush (v := 7) C d_M_thereOf_35 rfl ?_
        refine x_icmp_ne C 62 d_M_thereOf_37 (by decide) (fun g3 => ?_) (fun g3 => ?_)
        · replace hf := ie g3 hf
          refine x_iload_n C d_M_thereOf_62 3 rfl ?_
          refine x_iconst (v := 3) C d_M_thereOf_63 rfl ?_
          refine x_icmp_ge C 88 d_M_thereOf_64 (by decide) (fun g4 => ?_) (fun g4 => ?_)
          · replace hf := it g4 hf
            refine x_iconst (v := 0) C d_M_thereOf_88 rfl ?_
            refine x_iadd C d_M_thereOf_89 ?_
            refine x_istore_n (lv' := [(2, .int (x2 + 0)), (0, .ref (ad 100)), (1, .int x1), (3, .int x3)]) C d_M_thereOf_90 (by decide) rfl ?_
            refine x_iinc (v := (x3 + 1)) (lv' := [(3, .int (x3 + 1)), (2, .int (x2 + 0)), (0, .ref (ad 100)), (1, .int x1)]) C d_M_thereOf_91 3 rfl rfl (by decide) rfl ?_
            refine x_goto C 4 d_M_thereOf_94 (by decide) ?_
            refine x_sub [2, 3, 1, 0] rfl ?_
            exact ih _ _ _ hf K
          · replace hf := ie g4 hf
            refine x_aload_n C d_M_thereOf_67 0 rfl ?_
            refine xg_M_row C wF_M_7 mc_100 kc_100 d_M_thereOf_68 ?_
            refine x_sipush (v := 2994) C d_M_thereOf_71 rfl ?_
            refine x_iconst (v := 1) C d_M_thereOf_74 rfl ?_
            refine x_iload_n C d_M_thereOf_75 3 rfl ?_
            refine x_iadd C d_M_thereOf_76 ?_
            refine x_imul C d_M_thereOf_77 ?_
            refine x_iconst (v := 0) C d_M_thereOf_78 rfl ?_
            refine x_iadd C d_M_thereOf_79 ?_
            obtain ⟨t5, ht5, hf⟩ := bs hf
            refine x_iald C ht5 mc_101 kc_101 d_M_thereOf_80 ?_
            refine x_if_lt C 88 d_M_thereOf_81 (by decide) (fun g6 => ?_) (fun g6 => ?_)
            · replace hf := it g6 hf
              refine x_iconst (v := 0) C d_M_thereOf_88 rfl ?_
              refine x_iadd C d_M_thereOf_89 ?_
              refine x_istore_n (lv' := [(2, .int (x2 + 0)), (0, .ref (ad 100)), (1, .int x1), (3, .int x3)]) C d_M_thereOf_90 (by decide) rfl ?_
              refine x_iinc (v := (x3 + 1)) (lv' := [(3, .int (x3 + 1)), (2, .int (x2 + 0)), (0, .ref (ad 100)), (1, .int x1)]) C d_M_thereOf_91 3 rfl rfl (by decide) rfl ?_
              refine x_goto C 4 d_M_thereOf_94 (by decide) ?_
              refine x_sub [2, 3, 1, 0] rfl ?_
              exact ih _ _ _ hf K
            · replace hf := ie g6 hf
              refine x_iconst (v := 1) C d_M_thereOf_84 rfl ?_
              refine x_goto C 89 d_M_thereOf_85 (by decide) ?_
              refine x_iadd C d_M_thereOf_89 ?_
              refine x_istore_n (lv' := [(2, .int (x2 + 1)), (0, .ref (ad 100)), (1, .int x1), (3, .int x3)]) C d_M_thereOf_90 (by decide) rfl ?_
              refine x_iinc (v := (x3 + 1)) (lv' := [(3, .int (x3 + 1)), (2, .int (x2 + 1)), (0, .ref (ad 100)), (1, .int x1)]) C d_M_thereOf_91 3 rfl rfl (by decide) rfl ?_
              refine x_goto C 4 d_M_thereOf_94 (by decide) ?_
              refine x_sub [2, 3, 1, 0] rfl ?_
              exact ih _ _ _ hf K
        · replace hf := it g3 hf
          refine x_iload_n C d_M_thereOf_40 3 rfl ?_
          refine x_iconst (v := 4) C d_M_thereOf_41 rfl ?_
          refine x_icmp_ge C 58 d_M_thereOf_42 (by decide) (fun g7 => ?_) (fun g7 => ?_)
          · replace hf := it g7 hf
            refine x_iconst (v := 0) C d_M_thereOf_58 rfl ?_
            refine x_goto C 89 d_M_thereOf_59 (by decide) ?_
            refine x_iadd C d_M_thereOf_89 ?_
            refine x_istore_n (lv' := [(2, .int (x2 + 0)), (0, .ref (ad 100)), (1, .int x1), (3, .int x3)]) C d_M_thereOf_90 (by decide) rfl ?_
            refine x_iinc (v := (x3 + 1)) (lv' := [(3, .int (x3 + 1)), (2, .int (x2 + 0)), (0, .ref (ad 100)), (1, .int x1)]) C d_M_thereOf_91 3 rfl rfl (by decide) rfl ?_
            refine x_goto C 4 d_M_thereOf_94 (by decide) ?_
            refine x_sub [2, 3, 1, 0] rfl ?_
            exact ih _ _ _ hf K
          · replace hf := ie g7 hf
            refine x_aload_n C d_M_thereOf_45 0 rfl ?_
            refine xg_M_lengths C wF_M_22 mc_100 kc_100 d_M_thereOf_46 ?_
            refine x_iload_n C d_M_thereOf_49 3 rfl ?_
            obtain ⟨t8, ht8, hf⟩ := bs hf
            refine x_iald C ht8 mc_105 kc_105 d_M_thereOf_50 ?_
            refine x_if_lt C 58 d_M_thereOf_51 (by decide) (fun g9 => ?_) (fun g9 => ?_)
            · replace hf := it g9 hf
              refine x_iconst (v := 0) C d_M_thereOf_58 rfl ?_
              refine x_goto C 89 d_M_thereOf_59 (by decide) ?_
              refine x_iadd C d_M_thereOf_89 ?_
              refine x_istore_n (lv' := [(2, .int (x2 + 0)), (0, .ref (ad 100)), (1, .int x1), (3, .int x3)]) C d_M_thereOf_90 (by decide) rfl ?_
              refine x_iinc (v := (x3 + 1)) (lv' := [(3, .int (x3 + 1)), (2, .int (x2 + 0)), (0, .ref (ad 100)), (1, .int x1)]) C d_M_thereOf_91 3 rfl rfl (by decide) rfl ?_
              refine x_goto C 4 d_M_thereOf_94 (by decide) ?_
              refine x_sub [2, 3, 1, 0] rfl ?_
              exact ih _ _ _ hf K
            · replace hf := ie g9 hf
              refine x_iconst (v := 1) C d_M_thereOf_54 rfl ?_
              refine x_goto C 89 d_M_thereOf_55 (by decide) ?_
              refine x_iadd C d_M_thereOf_89 ?_
              refine x_istore_n (lv' := [(2, .int (x2 + 1)), (0, .ref (ad 100)), (1, .int x1), (3, .int x3)]) C d_M_thereOf_90 (by decide) rfl ?_
              refine x_iinc (v := (x3 + 1)) (lv' := [(3, .int (x3 + 1)), (2, .int (x2 + 1)), (0, .ref (ad 100)), (1, .int x1)]) C d_M_thereOf_91 3 rfl rfl (by decide) rfl ?_
              refine x_goto C 4 d_M_thereOf_94 (by decide) ?_
              refine x_sub [2, 3, 1, 0] rfl ?_
              exact ih _ _ _ hf K
      · replace hf := it g2 hf
        refine x_aload_n C d_M_thereOf_17 0 rfl ?_
        refine xg_M_sizes C wF_M_16 mc_100 kc_100 d_M_thereOf_18 ?_
        refine x_iload_n C d_M_thereOf_21 3 rfl ?_
        obtain ⟨t10, ht10, hf⟩ := bs hf
        refine x_iald C ht10 mc_103 kc_103 d_M_thereOf_22 ?_
        refine x_if_ge C 30 d_M_thereOf_23 (by decide) (fun g11 => ?_) (fun g11 => ?_)
        · replace hf := it g11 hf
          refine x_iconst (v := 1) C d_M_thereOf_30 rfl ?_
          refine x_goto C 89 d_M_thereOf_31 (by decide) ?_
          refine x_iadd C d_M_thereOf_89 ?_
          refine x_istore_n (lv' := [(2, .int (x2 + 1)), (0, .ref (ad 100)), (1, .int x1), (3, .int x3)]) C d_M_thereOf_90 (by decide) rfl ?_
          refine x_iinc (v := (x3 + 1)) (lv' := [(3, .int (x3 + 1)), (2, .int (x2 + 1)), (0, .ref (ad 100)), (1, .int x1)]) C d_M_thereOf_91 3 rfl rfl (by decide) rfl ?_
          refine x_goto C 4 d_M_thereOf_94 (by decide) ?_
          refine x_sub [2, 3, 1, 0] rfl ?_
          exact ih _ _ _ hf K
        · replace hf := ie g11 hf
          refine x_iconst (v := 0) C d_M_thereOf_26 rfl ?_
          refine x_goto C 89 d_M_thereOf_27 (by decide) ?_
          refine x_iadd C d_M_thereOf_89 ?_
          refine x_istore_n (lv' := [(2, .int (x2 + 0)), (0, .ref (ad 100)), (1, .int x1), (3, .int x3)]) C d_M_thereOf_90 (by decide) rfl ?_
          refine x_iinc (v := (x3 + 1)) (lv' := [(3, .int (x3 + 1)), (2, .int (x2 + 0)), (0, .ref (ad 100)), (1, .int x1)]) C d_M_thereOf_91 3 rfl rfl (by decide) rfl ?_
          refine x_goto C 4 d_M_thereOf_94 (by decide) ?_
          refine x_sub [2, 3, 1, 0] rfl ?_
          exact ih _ _ _ hf K
set_option maxHeartbeats 4000000 in
set_option maxRecDepth 100000 in
theorem ct_M_thereOf {l : Launch} {D : va_G} {ad : Nat → Nat} {cs : Nat → ClassId} {A : Nat → Prop} (E : Ev ad cs A LM) (F : Nat) (M : Mem) (x1 : Int32) (R : Int32)  (hf : M_thereOf F M x1 = some R) : Met l y_M_thereOf (Cond.code y_M_thereOf b_M_thereOf 4 (some .int) :: wl) (rmD 0) (PX D ad cs A LM [.ref (ad 100), .int x1] M) (QX D ad cs A LM (some (.int R)) M) 0 0 A := by
  refine x_enter (lv := [(0, .ref (ad 100)), (1, .int x1)]) E mi_M_thereOf.1 (Nat.le_of_ble_eq_true rfl) rfl (fun p e s m args below meth c C => ?_)
  unfold M_thereOf at hf
  refine x_iconst (v := 0) C d_M_thereOf_0 rfl ?_
  refine x_istore_n (lv' := [(2, .int 0), (0, .ref (ad 100)), (1, .int x1)]) C d_M_thereOf_1 (by decide) rfl ?_
  refine x_iconst (v := 0) C d_M_thereOf_2 rfl ?_
  refine x_istore_n (lv' := [(3, .int 0), (2, .int 0), (0, .ref (ad 100)), (1, .int x1)]) C d_M_thereOf_3 (by decide) rfl ?_
  obtain ⟨u12, hu12, hf⟩ := bs hf
  refine x_sub [2, 3, 1, 0] rfl ?_
  refine lw_M_thereOf_4 E C F _ _ _ _ _ _ hu12 ?_
  refine x_iload_n C d_M_thereOf_97 0 rfl ?_
  cases hf
  exact x_iret C d_M_thereOf_98 rfl rfl
set_option maxHeartbeats 4000000 in
set_option maxRecDepth 100000 in
theorem ct_M_countOf {l : Launch} {D : va_G} {ad : Nat → Nat} {cs : Nat → ClassId} {A : Nat → Prop} (E : Ev ad cs A LM) (F : Nat) (M : Mem) (x1 : Int32) (R : Int32)  (hf : M_countOf F M x1 = some R) : Met l y_M_countOf (Cond.code y_M_countOf b_M_countOf 2 (some .int) :: wl) (rmD 3) (PX D ad cs A LM [.ref (ad 100), .int x1] M) (QX D ad cs A LM (some (.int R)) M) 0 0 A := by
  refine x_enter (lv := [(0, .ref (ad 100)), (1, .int x1)]) E mi_M_countOf.1 (Nat.le_of_ble_eq_true rfl) rfl (fun p e s m args below meth c C => ?_)
  unfold M_countOf at hf
  refine x_iload_n C d_M_countOf_0 1 rfl ?_
  rcases Classical.em (x1 = 0) with g1 | g1
  · replace hf := it g1 hf
    refine x_tswIn C 40 g1 d_M_countOf_1 (by decide) (by decide) rfl (by decide) ?_
    refine x_aload_n C d_M_countOf_40 0 rfl ?_
    refine xg_M_persons C wF_M_136 mc_100 kc_100 d_M_countOf_41 ?_
    cases hf
    exact x_iret C d_M_countOf_44 rfl rfl
  · replace hf := ie g1 hf
    rcases Classical.em (x1 = 1) with g2 | g2
    · replace hf := it g2 hf
      refine x_tswIn C 45 g2 d_M_countOf_1 (by decide) (by decide) rfl (by decide) ?_
      refine x_aload_n C d_M_countOf_45 0 rfl ?_
      refine xg_M_row C wF_M_7 mc_100 kc_100 d_M_countOf_46 ?_
      refine x_iconst (v := 1) C d_M_countOf_49 rfl ?_
      refine x_iald C (ac_101_1 M) mc_101 kc_101 d_M_countOf_50 ?_
      cases hf
      exact x_iret C d_M_countOf_51 rfl rfl
    · replace hf := ie g2 hf
      rcases Classical.em (x1 = 2) with g3 | g3
      · replace hf := it g3 hf
        refine x_tswIn C 52 g3 d_M_countOf_1 (by decide) (by decide) rfl (by decide) ?_
        refine x_aload_n C d_M_countOf_52 0 rfl ?_
        refine xg_M_row C wF_M_7 mc_100 kc_100 d_M_countOf_53 ?_
        refine x_iconst (v := 0) C d_M_countOf_56 rfl ?_
        refine x_iald C (ac_101_0 M) mc_101 kc_101 d_M_countOf_57 ?_
        cases hf
        exact x_iret C d_M_countOf_58 rfl rfl
      · replace hf := ie g3 hf
        rcases Classical.em (x1 = 3) with g4 | g4
        · replace hf := it g4 hf
          refine x_tswIn C 59 g4 d_M_countOf_1 (by decide) (by decide) rfl (by decide) ?_
          refine x_aload_n C d_M_countOf_59 0 rfl ?_
          obtain ⟨c5, hc5, hf⟩ := bs hf
          refine x_callV (rest := []) (n := 0) C (ct_M_openMany E F _ _  hc5) mi_M_openMany (by decide) mc_100 ⟨_, cel_M kc_100⟩ rfl rfl wL_M_342 d_M_countOf_60 rfl rfl (Nat.le_of_ble_eq_true rfl) ?_
          show X _ _ _ _ _ _ _ _ _ _ _ _ _ _ _ _ _ _ _ _ _ [.int c5]
          cases hf
          exact x_iret C d_M_countOf_63 rfl rfl
        · replace hf := ie g4 hf
          rcases Classical.em (x1 = 4) with g6 | g6
          · replace hf := it g6 hf
            refine x_tswIn C 64 g6 d_M_countOf_1 (by decide) (by decide) rfl (by decide) ?_
            refine x_aload_n C d_M_countOf_64 0 rfl ?_
            obtain ⟨c7, hc7, hf⟩ := bs hf
            refine x_callV (rest := []) (n := 0) C (ct_M_openKisses E F _ _  hc7) mi_M_openKisses (by decide) mc_100 ⟨_, cel_M kc_100⟩ rfl rfl wL_M_345 d_M_countOf_65 rfl rfl (Nat.le_of_ble_eq_true rfl) ?_
            show X _ _ _ _ _ _ _ _ _ _ _ _ _ _ _ _ _ _ _ _ _ [.int c7]
            cases hf
            exact x_iret C d_M_countOf_68 rfl rfl
          · replace hf := ie g6 hf
            rcases Classical.em (x1 = 5) with g8 | g8
            · replace hf := it g8 hf
              refine x_tswIn C 69 g8 d_M_countOf_1 (by decide) (by decide) rfl (by decide) ?_
              refine x_aload_n C d_M_countOf_69 0 rfl ?_
              obtain ⟨c9, hc9, hf⟩ := bs hf
              refine x_callV (rest := []) (n := 0) C (ct_M_aunts E F _ _  hc9) mi_M_aunts (by decide) mc_100 ⟨_, cel_M kc_100⟩ rfl rfl wL_M_348 d_M_countOf_70 rfl rfl (Nat.le_of_ble_eq_true rfl) ?_
              show X _ _ _ _ _ _ _ _ _ _ _ _ _ _ _ _ _ _ _ _ _ [.int c9]
              cases hf
              exact x_iret C d_M_countOf_73 rfl rfl
            · replace hf := ie g8 hf
              have hsw : (x1).toInt < 0 ∨ 5 < (x1).toInt := by
                have qg1 := lv_neT g1 (a := 0) rfl
                have qg2 := lv_neT g2 (a := 1) rfl
                have qg3 := lv_neT g3 (a := 2) rfl
                have qg4 := lv_neT g4 (a := 3) rfl
                have qg6 := lv_neT g6 (a := 4) rfl
                have qg8 := lv_neT g8 (a := 5) rfl
                omega
              refine x_tswOut C 74 d_M_countOf_1 hsw (by decide) ?_
              refine x_aload_n C d_M_countOf_74 0 rfl ?_
              refine x_iload_n C d_M_countOf_75 1 rfl ?_
              obtain ⟨c10, hc10, hf⟩ := bs hf
              refine x_callV (rest := []) (n := 1) C (ct_M_thereOf E F _ _ _  hc10) mi_M_thereOf (by decide) mc_100 ⟨_, cel_M kc_100⟩ rfl rfl wL_M_351 d_M_countOf_76 rfl rfl (Nat.le_of_ble_eq_true rfl) ?_
              show X _ _ _ _ _ _ _ _ _ _ _ _ _ _ _ _ _ _ _ _ _ [.int c10]
              cases hf
              exact x_iret C d_M_countOf_79 rfl rfl
set_option maxHeartbeats 4000000 in
set_option maxRecDepth 100000 in
theorem ct_M_count {l : Launch} {D : va_G} {ad : Nat → Nat} {cs : Nat → ClassId} {A : Nat → Prop} (E : Ev ad cs A LM) (F : Nat) (M : Mem) (x1 : Int32) (R : Int32)  (hf : M_count F M x1 = some R) : Met l y_M_count (Cond.code y_M_count b_M_count 2 (some .int) :: wl) (rmD 4) (PX D ad cs A LM [.ref (ad 100), .int x1] M) (QX D ad cs A LM (some (.int R)) M) 0 0 A := by
  refine x_enter (lv := [(0, .ref (ad 100)), (1, .int x1)]) E mi_M_count.1 (Nat.le_of_ble_eq_true rfl) rfl (fun p e s m args below meth c C => ?_)
  unfold M_count at hf
  refine x_iload_n C d_M_count_0 1 rfl ?_
  refine x_i2l C d_M_count_1 ?_
  refine x_lconst (v := 0) C d_M_count_2 rfl ?_
  refine x_ldc2 C wJ_M_354 d_M_count_3 ?_
  obtain ⟨c1, hc1, hf⟩ := bs hf
  refine x_callS (rest := []) (n := 3) C (ct_M_in E F _ _ _ _ _  hc1) mi_M_in (by decide) wL_M_65 d_M_count_6 rfl rfl (Nat.le_of_ble_eq_true rfl) ?_
  show X _ _ _ _ _ _ _ _ _ _ _ _ _ _ _ _ _ _ _ _ _ [.int c1]
  refine x_if_eq C 20 d_M_count_9 (by decide) (fun g2 => ?_) (fun g2 => ?_)
  · replace hf := it g2 hf
    refine x_iconst (v := (-1)) C d_M_count_20 rfl ?_
    cases hf
    exact x_iret C d_M_count_21 rfl rfl
  · replace hf := ie g2 hf
    refine x_aload_n C d_M_count_12 0 rfl ?_
    refine x_iload_n C d_M_count_13 1 rfl ?_
    obtain ⟨c3, hc3, hf⟩ := bs hf
    refine x_callV (rest := []) (n := 1) C (ct_M_countOf E F _ _ _  hc3) mi_M_countOf (by decide) mc_100 ⟨_, cel_M kc_100⟩ rfl rfl wL_M_356 d_M_count_14 rfl rfl (Nat.le_of_ble_eq_true rfl) ?_
    show X _ _ _ _ _ _ _ _ _ _ _ _ _ _ _ _ _ _ _ _ _ [.int c3]
    refine x_goto C 21 d_M_count_17 (by decide) ?_
    cases hf
    exact x_iret C d_M_count_21 rfl rfl
set_option maxHeartbeats 4000000 in
set_option maxRecDepth 100000 in
theorem ct_M_worth {l : Launch} {D : va_G} {ad : Nat → Nat} {cs : Nat → ClassId} {A : Nat → Prop} (E : Ev ad cs A LM) (F : Nat) (M : Mem) (x1 : Int32) (R : Int32)  (hf : M_worth F M x1 = some R) : Met l y_M_worth (Cond.code y_M_worth b_M_worth 2 (some .int) :: wl) (rmD 1) (PX D ad cs A LM [.ref (ad 100), .int x1] M) (QX D ad cs A LM (some (.int R)) M) 0 0 A := by
  refine x_enter (lv := [(0, .ref (ad 100)), (1, .int x1)]) E mi_M_worth.1 (Nat.le_of_ble_eq_true rfl) rfl (fun p e s m args below meth c C => ?_)
  unfold M_worth at hf
  refine x_aload_n C d_M_worth_0 0 rfl ?_
  refine x_iload_n C d_M_worth_1 1 rfl ?_
  refine x_iconst (v := 3) C d_M_worth_2 rfl ?_
  obtain ⟨c1, hc1, hf⟩ := bs hf
  refine x_callV (rest := []) (n := 2) C (ct_M_of E F _ _ _ _  hc1) mi_M_of (by decide) mc_100 ⟨_, cel_M kc_100⟩ rfl rfl wL_M_146 d_M_worth_3 rfl rfl (Nat.le_of_ble_eq_true rfl) ?_
  show X _ _ _ _ _ _ _ _ _ _ _ _ _ _ _ _ _ _ _ _ _ [.int c1]
  refine x_aload_n C d_M_worth_6 0 rfl ?_
  refine x_iload_n C d_M_worth_7 1 rfl ?_
  refine x_iconst (v := 2) C d_M_worth_8 rfl ?_
  obtain ⟨c2, hc2, hf⟩ := bs hf
  refine x_callV (rest := [.int c1]) (n := 2) C (ct_M_of E F _ _ _ _  hc2) mi_M_of (by decide) mc_100 ⟨_, cel_M kc_100⟩ rfl rfl wL_M_146 d_M_worth_9 rfl rfl (Nat.le_of_ble_eq_true rfl) ?_
  show X _ _ _ _ _ _ _ _ _ _ _ _ _ _ _ _ _ _ _ _ _ [.int c2, .int c1]
  refine x_iconst (v := 1) C d_M_worth_12 rfl ?_
  refine x_iadd C d_M_worth_13 ?_
  refine x_imul C d_M_worth_14 ?_
  cases hf
  exact x_iret C d_M_worth_15 rfl rfl
set_option maxHeartbeats 4000000 in
set_option maxRecDepth 100000 in
theorem lw_M_owing_4 {p : Program} {l : Launch} {e : Env} {s : State} {m : MethodId} {args : Array Value} {below : List Frame} {meth : Method} {c : Code} {D : va_G} {ad : Nat → Nat} {cs : Nat → ClassId} {A : Nat → Prop} {V : Option Value} {N : Mem} (E : Ev ad cs A LM) (C : Cx p s m args meth c "KissClearingModel" b_M_owing 4 (some .int) D ad cs A LM) (F : Nat) (M : Mem) (x1 : Int32) : ∀ (n : Nat) (x2 : Int32) (x3 : Int32) (u : Int32), L_M_owing_4 F M x1 n x2 x3 = some u → X p l e 2 s m args below meth c 4 D ad cs A LM V N M 42 [(2, .int u)] [] → X p l e 2 s m args below meth c 4 D ad cs A LM V N M 4 [(0, .ref (ad 100)), (1, .int x1), (2, .int x2), (3, .int x3)] [] := by
  intro n
  induction n with
  | zero => intro x2 x3 u hf; cases hf
  | succ n ih =>
    intro x2 x3 u hf K
    replace hf : B_M_owing_4 F M x1 (L_M_owing_4 F M x1 n) x2 x3 = some u := hf
    unfold B_M_owing_4 at hf
    refine x_iload_n C d_M_owing_4 3 rfl ?_
    refine x_aload_n C d_M_owing_5 0 rfl ?_
    refine xg_M_row C wF_M_7 mc_100 kc_100 d_M_owing_6 ?_
    refine x_iconst (v := 1) C d_M_owing_9 rfl ?_
    refine x_iald C (ac_101_1 M) mc_101 kc_101 d_M_owing_10 ?_
    refine x_icmp_ge C 42 d_M_owing_11 (by decide) (fun g1 => ?_) (fun g1 => ?_)
    · replace hf := it g1 hf
      cases hf
      exact x_sub [2] rfl K
    · replace hf := ie g1 hf
      refine x_iload_n C d_M_owing_14 2 rfl ?_
      refine x_aload_n C d_M_owing_15 0 rfl ?_
      refine x_iload_n C d_M_owing_16 3 rfl ?_
      refine x_iconst (v := 0) C d_M_owing_17 rfl ?_
      obtain ⟨c2, hc2, hf⟩ := bs hf
      refine x_callV (rest := [.int x2]) (n := 2) C (ct_M_of E F _ _ _ _  hc2) mi_M_of (by decide) mc_100 ⟨_, cel_M kc_100⟩ rfl rfl wL_M_146 d_M_owing_18 rfl rfl (Nat.le_of_ble_eq_true rfl) ?_
      show X _ _ _ _ _ _ _ _ _ _ _ _ _ _ _ _ _ _ _ _ _ [.int c2, .int x2]
      refine x_iload_n C d_M_owing_21 1 rfl ?_
      refine x_icmp_ne C 33 d_M_owing_22 (by decide) (fun g3 => ?_) (fun g3 => ?_)
      · replace hf := ie g3 hf
        refine x_iconst (v := 0) C d_M_owing_33 rfl ?_
        refine x_iadd C d_M_owing_34 ?_
        refine x_istore_n (lv' := [(2, .int (x2 + 0)), (0, .ref (ad 100)), (1, .int x1), (3, .int x3)]) C d_M_owing_35 (by decide) rfl ?_
        refine x_iinc (v := (x3 + 1)) (lv' := [(3, .int (x3 + 1)), (2, .int (x2 + 0)), (0, .ref (ad 100)), (1, .int x1)]) C d_M_owing_36 3 rfl rfl (by decide) rfl ?_
        refine x_goto C 4 d_M_owing_39 (by decide) ?_
        refine x_sub [2, 3, 1, 0] rfl ?_
        exact ih _ _ _ hf K
      · replace hf := it g3 hf
        refine x_aload_n C d_M_owing_25 0 rfl ?_
        refine x_iload_n C d_M_owing_26 3 rfl ?_
        obtain ⟨c4, hc4, hf⟩ := bs hf
        refine x_callV (rest := [.int x2]) (n := 1) C (ct_M_worth E F _ _ _  hc4) mi_M_worth (by decide) mc_100 ⟨_, cel_M kc_100⟩ rfl rfl wL_M_149 d_M_owing_27 rfl rfl (Nat.le_of_ble_eq_true rfl) ?_
        show X _ _ _ _ _ _ _ _ _ _ _ _ _ _ _ _ _ _ _ _ _ [.int c4, .int x2]
        refine x_goto C 34 d_M_owing_30 (by decide) ?_
        refine x_iadd C d_M_owing_34 ?_
        refine x_istore_n (lv' := [(2, .int (x2 + c4)), (0, .ref (ad 100)), (1, .int x1), (3, .int x3)]) C d_M_owing_35 (by decide) rfl ?_
        refine x_iinc (v := (x3 + 1)) (lv' := [(3, .int (x3 + 1)), (2, .int (x2 + c4)), (0, .ref (ad 100)), (1, .int x1)]) C d_M_owing_36 3 rfl rfl (by decide) rfl ?_
        refine x_goto C 4 d_M_owing_39 (by decide) ?_
        refine x_sub [2, 3, 1, 0] rfl ?_
        exact ih _ _ _ hf K
set_option maxHeartbeats 4000000 in
set_option maxRecDepth 100000 in
theorem ct_M_owing {l : Launch} {D : va_G} {ad : Nat → Nat} {cs : Nat → ClassId} {A : Nat → Prop} (E : Ev ad cs A LM) (F : Nat) (M : Mem) (x1 : Int32) (R : Int32)  (hf : M_owing F M x1 = some R) : Met l y_M_owing (Cond.code y_M_owing b_M_owing 4 (some .int) :: wl) (rmD 2) (PX D ad cs A LM [.ref (ad 100), .int x1] M) (QX D ad cs A LM (some (.int R)) M) 0 0 A := by
  refine x_enter (lv := [(0, .ref (ad 100)), (1, .int x1)]) E mi_M_owing.1 (Nat.le_of_ble_eq_true rfl) rfl (fun p e s m args below meth c C => ?_)
  unfold M_owing at hf
  refine x_iconst (v := 0) C d_M_owing_0 rfl ?_
  refine x_istore_n (lv' := [(2, .int 0), (0, .ref (ad 100)), (1, .int x1)]) C d_M_owing_1 (by decide) rfl ?_
  refine x_iconst (v := 0) C d_M_owing_2 rfl ?_
  refine x_istore_n (lv' := [(3, .int 0), (2, .int 0), (0, .ref (ad 100)), (1, .int x1)]) C d_M_owing_3 (by decide) rfl ?_
  obtain ⟨u5, hu5, hf⟩ := bs hf
  refine x_sub [2, 3, 1, 0] rfl ?_
  refine lw_M_owing_4 E C F _ _ _ _ _ _ hu5 ?_
  refine x_iload_n C d_M_owing_42 0 rfl ?_
  cases hf
  exact x_iret C d_M_owing_43 rfl rfl
set_option maxHeartbeats 4000000 in
set_option maxRecDepth 100000 in
theorem lw_M_owed_5 {p : Program} {l : Launch} {e : Env} {s : State} {m : MethodId} {args : Array Value} {below : List Frame} {meth : Method} {c : Code} {D : va_G} {ad : Nat → Nat} {cs : Nat → ClassId} {A : Nat → Prop} {V : Option Value} {N : Mem} (E : Ev ad cs A LM) (C : Cx p s m args meth c "KissClearingModel" b_M_owed 5 (some .int) D ad cs A LM) (F : Nat) (M : Mem) (x1 : Int32) (x2 : Int32) : ∀ (n : Nat) (x3 : Int32) (x4 : Int32) (u : Int32), L_M_owed_5 F M x1 x2 n x3 x4 = some u → X p l e 2 s m args below meth c 5 D ad cs A LM V N M 60 [(3, .int u)] [] → X p l e 2 s m args below meth c 5 D ad cs A LM V N M 5 [(0, .ref (ad 100)), (1, .int x1), (2, .int x2), (3, .int x3), (4, .int x4)] [] := by
  intro n
  induction n with
  | zero => intro x3 x4 u hf; cases hf
  | succ n ih =>
    intro x3 x4 u hf K
    replace hf : B_M_owed_5 F M x1 x2 (L_M_owed_5 F M x1 x2 n) x3 x4 = some u := hf
    unfold B_M_owed_5 at hf
    refine x_iload C d_M_owed_5 4 rfl ?_
    refine x_aload_n C d_M_owed_7 0 rfl ?_
    refine xg_M_row C wF_M_7 mc_100 kc_100 d_M_owed_8 ?_
    refine x_iconst (v := 1) C d_M_owed_11 rfl ?_
    refine x_iald C (ac_101_1 M) mc_101 kc_101 d_M_owed_12 ?_
    refine x_icmp_ge C 60 d_M_owed_13 (by decide) (fun g1 => ?_) (fun g1 => ?_)
    · replace hf := it g1 hf
      cases hf
      exact x_sub [3] rfl K
    · replace hf := ie g1 hf
      refine x_iload_n C d_M_owed_16 3 rfl ?_
      refine x_aload_n C d_M_owed_17 0 rfl ?_
      refine x_iload C d_M_owed_18 4 rfl ?_
      refine x_iconst (v := 1) C d_M_owed_20 rfl ?_
      obtain ⟨c2, hc2, hf⟩ := bs hf
      refine x_callV (rest := [.int x3]) (n := 2) C (ct_M_of E F _ _ _ _  hc2) mi_M_of (by decide) mc_100 ⟨_, cel_M kc_100⟩ rfl rfl wL_M_146 d_M_owed_21 rfl rfl (Nat.le_of_ble_eq_true rfl) ?_
      show X _ _ _ _ _ _ _ _ _ _ _ _ _ _ _ _ _ _ _ _ _ [.int c2, .int x3]
      refine x_iload_n C d_M_owed_24 1 rfl ?_
      refine x_icmp_ne C 51 d_M_owed_25 (by decide) (fun g3 => ?_) (fun g3 => ?_)
      · replace hf := ie g3 hf
        refine x_iconst (v := 0) C d_M_owed_51 rfl ?_
        refine x_iadd C d_M_owed_52 ?_
        refine x_istore_n (lv' := [(3, .int (x3 + 0)), (0, .ref (ad 100)), (1, .int x1), (2, .int x2), (4, .int x4)]) C d_M_owed_53 (by decide) rfl ?_
        refine x_iinc (v := (x4 + 1)) (lv' := [(4, .int (x4 + 1)), (3, .int (x3 + 0)), (0, .ref (ad 100)), (1, .int x1), (2, .int x2)]) C d_M_owed_54 4 rfl rfl (by decide) rfl ?_
        refine x_goto C 5 d_M_owed_57 (by decide) ?_
        refine x_sub [2, 3, 4, 1, 0] rfl ?_
        exact ih _ _ _ hf K
      · replace hf := it g3 hf
        refine x_iload_n C d_M_owed_28 2 rfl ?_
        refine x_aload_n C d_M_owed_29 0 rfl ?_
        refine x_iload C d_M_owed_30 4 rfl ?_
        refine x_iconst (v := 0) C d_M_owed_32 rfl ?_
        obtain ⟨c4, hc4, hf⟩ := bs hf
        refine x_callV (rest := [.int x2, .int x3]) (n := 2) C (ct_M_of E F _ _ _ _  hc4) mi_M_of (by decide) mc_100 ⟨_, cel_M kc_100⟩ rfl rfl wL_M_146 d_M_owed_33 rfl rfl (Nat.le_of_ble_eq_true rfl) ?_
        show X _ _ _ _ _ _ _ _ _ _ _ _ _ _ _ _ _ _ _ _ _ [.int c4, .int x2, .int x3]
        obtain ⟨c5, hc5, hf⟩ := bs hf
        refine x_callS (rest := [.int x3]) (n := 2) C (ct_M_has E F _ _ _ _  hc5) mi_M_has (by decide) wL_M_152 d_M_owed_36 rfl rfl (Nat.le_of_ble_eq_true rfl) ?_
        show X _ _ _ _ _ _ _ _ _ _ _ _ _ _ _ _ _ _ _ _ _ [.int c5, .int x3]
        refine x_if_ne C 51 d_M_owed_39 (by decide) (fun g6 => ?_) (fun g6 => ?_)
        · replace hf := ie g6 hf
          refine x_iconst (v := 0) C d_M_owed_51 rfl ?_
          refine x_iadd C d_M_owed_52 ?_
          refine x_istore_n (lv' := [(3, .int (x3 + 0)), (0, .ref (ad 100)), (1, .int x1), (2, .int x2), (4, .int x4)]) C d_M_owed_53 (by decide) rfl ?_
          refine x_iinc (v := (x4 + 1)) (lv' := [(4, .int (x4 + 1)), (3, .int (x3 + 0)), (0, .ref (ad 100)), (1, .int x1), (2, .int x2)]) C d_M_owed_54 4 rfl rfl (by decide) rfl ?_
          refine x_goto C 5 d_M_owed_57 (by decide) ?_
          refine x_sub [2, 3, 4, 1, 0] rfl ?_
          exact ih _ _ _ hf K
        · replace hf := it g6 hf
          refine x_aload_n C d_M_owed_42 0 rfl ?_
          refine x_iload C d_M_owed_43 4 rfl ?_
          obtain ⟨c7, hc7, hf⟩ := bs hf
          refine x_callV (rest := [.int x3]) (n := 1) C (ct_M_worth E F _ _ _  hc7) mi_M_worth (by decide) mc_100 ⟨_, cel_M kc_100⟩ rfl rfl wL_M_149 d_M_owed_45 rfl rfl (Nat.le_of_ble_eq_true rfl) ?_
          show X _ _ _ _ _ _ _ _ _ _ _ _ _ _ _ _ _ _ _ _ _ [.int c7, .int x3]
          refine x_goto C 52 d_M_owed_48 (by decide) ?_
          refine x_iadd C d_M_owed_52 ?_
          refine x_istore_n (lv' := [(3, .int (x3 + c7)), (0, .ref (ad 100)), (1, .int x1), (2, .int x2), (4, .int x4)]) C d_M_owed_53 (by decide) rfl ?_
          refine x_iinc (v := (x4 + 1)) (lv' := [(4, .int (x4 + 1)), (3, .int (x3 + c7)), (0, .ref (ad 100)), (1, .int x1), (2, .int x2)]) C d_M_owed_54 4 rfl rfl (by decide) rfl ?_
          refine x_goto C 5 d_M_owed_57 (by decide) ?_
          refine x_sub [2, 3, 4, 1, 0] rfl ?_
          exact ih _ _ _ hf K
set_option maxHeartbeats 4000000 in
set_option maxRecDepth 100000 in
theorem ct_M_owed {l : Launch} {D : va_G} {ad : Nat → Nat} {cs : Nat → ClassId} {A : Nat → Prop} (E : Ev ad cs A LM) (F : Nat) (M : Mem) (x1 : Int32) (x2 : Int32) (R : Int32)  (hf : M_owed F M x1 x2 = some R) : Met l y_M_owed (Cond.code y_M_owed b_M_owed 5 (some .int) :: wl) (rmD 2) (PX D ad cs A LM [.ref (ad 100), .int x1, .int x2] M) (QX D ad cs A LM (some (.int R)) M) 0 0 A := by
  refine x_enter (lv := [(0, .ref (ad 100)), (1, .int x1), (2, .int x2)]) E mi_M_owed.1 (Nat.le_of_ble_eq_true rfl) rfl (fun p e s m args below meth c C => ?_)
  unfold M_owed at hf
  refine x_iconst (v := 0) C d_M_owed_0 rfl ?_
  refine x_istore_n (lv' := [(3, .int 0), (0, .ref (ad 100)), (1, .int x1), (2, .int x2)]) C d_M_owed_1 (by decide) rfl ?_
  refine x_iconst (v := 0) C d_M_owed_2 rfl ?_
  refine x_istore (lv' := [(4, .int 0), (3, .int 0), (0, .ref (ad 100)), (1, .int x1), (2, .int x2)]) C d_M_owed_3 (by decide) rfl ?_
  obtain ⟨u8, hu8, hf⟩ := bs hf
  refine x_sub [2, 3, 4, 1, 0] rfl ?_
  refine lw_M_owed_5 E C F _ _ _ _ _ _ _ hu8 ?_
  refine x_iload_n C d_M_owed_60 0 rfl ?_
  cases hf
  exact x_iret C d_M_owed_61 rfl rfl
set_option maxHeartbeats 4000000 in
set_option maxRecDepth 100000 in
theorem ct_M_reserve {l : Launch} {D : va_G} {ad : Nat → Nat} {cs : Nat → ClassId} {A : Nat → Prop} (E : Ev ad cs A LM) (F : Nat) (M : Mem) (x1 : Int32) (R : Int32)  (hf : M_reserve F M x1 = some R) : Met l y_M_reserve (Cond.code y_M_reserve b_M_reserve 2 (some .int) :: wl) (rmD 0) (PX D ad cs A LM [.ref (ad 100), .int x1] M) (QX D ad cs A LM (some (.int R)) M) 0 0 A := by
  refine x_enter (lv := [(0, .ref (ad 100)), (1, .int x1)]) E mi_M_reserve.1 (Nat.le_of_ble_eq_true rfl) rfl (fun p e s m args below meth c C => ?_)
  unfold M_reserve at hf
  refine x_aload_n C d_M_reserve_0 0 rfl ?_
  refine xg_M_kinds C wF_M_13 mc_100 kc_100 d_M_reserve_1 ?_
  refine x_iload_n C d_M_reserve_4 1 rfl ?_
  obtain ⟨t1, ht1, hf⟩ := bs hf
  refine x_iald C ht1 mc_102 kc_102 d_M_reserve_5 ?_
  refine x_iconst (v := 2) C d_M_reserve_6 rfl ?_
  refine x_icmp_ne C 14 d_M_reserve_7 (by decide) (fun g2 => ?_) (fun g2 => ?_)
  · replace hf := ie g2 hf
    refine x_aload_n C d_M_reserve_14 0 rfl ?_
    refine xg_M_kinds C wF_M_13 mc_100 kc_100 d_M_reserve_15 ?_
    refine x_iload_n C d_M_reserve_18 1 rfl ?_
    obtain ⟨t3, ht3, hf⟩ := bs hf
    refine x_iald C ht3 mc_102 kc_102 d_M_reserve_19 ?_
    refine x_iconst (v := 3) C d_M_reserve_20 rfl ?_
    refine x_icmp_ne C 29 d_M_reserve_21 (by decide) (fun g4 => ?_) (fun g4 => ?_)
    · replace hf := ie g4 hf
      refine x_aload_n C d_M_reserve_29 0 rfl ?_
      refine xg_M_kinds C wF_M_13 mc_100 kc_100 d_M_reserve_30 ?_
      refine x_iload_n C d_M_reserve_33 1 rfl ?_
      obtain ⟨t5, ht5, hf⟩ := bs hf
      refine x_iald C ht5 mc_102 kc_102 d_M_reserve_34 ?_
      refine x_iconst (v := 5) C d_M_reserve_35 rfl ?_
      refine x_icmp_ne C 44 d_M_reserve_36 (by decide) (fun g6 => ?_) (fun g6 => ?_)
      · replace hf := ie g6 hf
        refine x_iconst (v := 1) C d_M_reserve_44 rfl ?_
        cases hf
        exact x_iret C d_M_reserve_45 rfl rfl
      · replace hf := it g6 hf
        refine x_bipush (v := 12) C d_M_reserve_39 rfl ?_
        refine x_goto C 45 d_M_reserve_41 (by decide) ?_
        cases hf
        exact x_iret C d_M_reserve_45 rfl rfl
    · replace hf := it g4 hf
      refine x_bipush (v := 6) C d_M_reserve_24 rfl ?_
      refine x_goto C 45 d_M_reserve_26 (by decide) ?_
      cases hf
      exact x_iret C d_M_reserve_45 rfl rfl
  · replace hf := it g2 hf
    refine x_iconst (v := 0) C d_M_reserve_10 rfl ?_
    refine x_goto C 45 d_M_reserve_11 (by decide) ?_
    cases hf
    exact x_iret C d_M_reserve_45 rfl rfl
set_option maxHeartbeats 4000000 in
set_option maxRecDepth 100000 in
theorem lw_M_owesTo_4 {p : Program} {l : Launch} {e : Env} {s : State} {m : MethodId} {args : Array Value} {below : List Frame} {meth : Method} {c : Code} {D : va_G} {ad : Nat → Nat} {cs : Nat → ClassId} {A : Nat → Prop} {V : Option Value} {N : Mem} (E : Ev ad cs A LM) (C : Cx p s m args meth c "KissClearingModel" b_M_owesTo 4 (some .int) D ad cs A LM) (F : Nat) (M : Mem) (x1 : Int32) : ∀ (n : Nat) (x2 : Int32) (x3 : Int32) (u : Int32), L_M_owesTo_4 F M x1 n x2 x3 = some u → X p l e 2 s m args below meth c 4 D ad cs A LM V N M 53 [(2, .int u)] [] → X p l e 2 s m args below meth c 4 D ad cs A LM V N M 4 [(0, .ref (ad 100)), (1, .int x1), (2, .int x2), (3, .int x3)] [] := by
  intro n
  induction n with
  | zero => intro x2 x3 u hf; cases hf
  | succ n ih =>
    intro x2 x3 u hf K
    replace hf : B_M_owesTo_4 F M x1 (L_M_owesTo_4 F M x1 n) x2 x3 = some u := hf
    unfold B_M_owesTo_4 at hf
    refine x_iload_n C d_M_owesTo_4 3 rfl ?_
    refine x_aload_n C d_M_owesTo_5 0 rfl ?_
    refine xg_M_row C wF_M_7 mc_100 kc_100 d_M_owesTo_6 ?_
    refine x_iconst (v := 1) C d_M_owesTo_9 rfl ?_
    refine x_iald C (ac_101_1 M) mc_101 kc_101 d_M_owesTo_10 ?_
    refine x_icmp_ge C 53 d_M_owesTo_11 (by decide) (fun g1 => ?_) (fun g1 => ?_)
    · replace hf := it g1 hf
      cases hf
      exact x_sub [2] rfl K
    · replace hf := ie g1 hf
      refine x_iload_n C d_M_owesTo_14 2 rfl ?_
      refine x_aload_n C d_M_owesTo_15 0 rfl ?_
      refine x_iload_n C d_M_owesTo_16 3 rfl ?_
      refine x_iconst (v := 0) C d_M_owesTo_17 rfl ?_
      obtain ⟨c2, hc2, hf⟩ := bs hf
      refine x_callV (rest := [.int x2]) (n := 2) C (ct_M_of E F _ _ _ _  hc2) mi_M_of (by decide) mc_100 ⟨_, cel_M kc_100⟩ rfl rfl wL_M_146 d_M_owesTo_18 rfl rfl (Nat.le_of_ble_eq_true rfl) ?_
      show X _ _ _ _ _ _ _ _ _ _ _ _ _ _ _ _ _ _ _ _ _ [.int c2, .int x2]
      refine x_iload_n C d_M_owesTo_21 1 rfl ?_
      refine x_icmp_ne C 44 d_M_owesTo_22 (by decide) (fun g3 => ?_) (fun g3 => ?_)
      · replace hf := ie g3 hf
        refine x_iconst (v := 0) C d_M_owesTo_44 rfl ?_
        refine x_ior C d_M_owesTo_45 ?_
        refine x_istore_n (lv' := [(2, .int (x2 ||| 0)), (0, .ref (ad 100)), (1, .int x1), (3, .int x3)]) C d_M_owesTo_46 (by decide) rfl ?_
        refine x_iinc (v := (x3 + 1)) (lv' := [(3, .int (x3 + 1)), (2, .int (x2 ||| 0)), (0, .ref (ad 100)), (1, .int x1)]) C d_M_owesTo_47 3 rfl rfl (by decide) rfl ?_
        refine x_goto C 4 d_M_owesTo_50 (by decide) ?_
        refine x_sub [2, 3, 1, 0] rfl ?_
        exact ih _ _ _ hf K
      · replace hf := it g3 hf
        refine x_aload_n C d_M_owesTo_25 0 rfl ?_
        refine x_iload_n C d_M_owesTo_26 3 rfl ?_
        obtain ⟨c4, hc4, hf⟩ := bs hf
        refine x_callV (rest := [.int x2]) (n := 1) C (ct_M_isOpen E F _ _ _  hc4) mi_M_isOpen (by decide) mc_100 ⟨_, cel_M kc_100⟩ rfl rfl wL_M_156 d_M_owesTo_27 rfl rfl (Nat.le_of_ble_eq_true rfl) ?_
        show X _ _ _ _ _ _ _ _ _ _ _ _ _ _ _ _ _ _ _ _ _ [.int c4, .int x2]
        refine x_if_eq C 44 d_M_owesTo_30 (by decide) (fun g5 => ?_) (fun g5 => ?_)
        · replace hf := it g5 hf
          refine x_iconst (v := 0) C d_M_owesTo_44 rfl ?_
          refine x_ior C d_M_owesTo_45 ?_
          refine x_istore_n (lv' := [(2, .int (x2 ||| 0)), (0, .ref (ad 100)), (1, .int x1), (3, .int x3)]) C d_M_owesTo_46 (by decide) rfl ?_
          refine x_iinc (v := (x3 + 1)) (lv' := [(3, .int (x3 + 1)), (2, .int (x2 ||| 0)), (0, .ref (ad 100)), (1, .int x1)]) C d_M_owesTo_47 3 rfl rfl (by decide) rfl ?_
          refine x_goto C 4 d_M_owesTo_50 (by decide) ?_
          refine x_sub [2, 3, 1, 0] rfl ?_
          exact ih _ _ _ hf K
        · replace hf := ie g5 hf
          refine x_iconst (v := 1) C d_M_owesTo_33 rfl ?_
          refine x_aload_n C d_M_owesTo_34 0 rfl ?_
          refine x_iload_n C d_M_owesTo_35 3 rfl ?_
          refine x_iconst (v := 1) C d_M_owesTo_36 rfl ?_
          obtain ⟨c6, hc6, hf⟩ := bs hf
          refine x_callV (rest := [.int 1, .int x2]) (n := 2) C (ct_M_of E F _ _ _ _  hc6) mi_M_of (by decide) mc_100 ⟨_, cel_M kc_100⟩ rfl rfl wL_M_146 d_M_owesTo_37 rfl rfl (Nat.le_of_ble_eq_true rfl) ?_
          show X _ _ _ _ _ _ _ _ _ _ _ _ _ _ _ _ _ _ _ _ _ [.int c6, .int 1, .int x2]
          refine x_ishl C d_M_owesTo_40 ?_
          refine x_goto C 45 d_M_owesTo_41 (by decide) ?_
          refine x_ior C d_M_owesTo_45 ?_
          refine x_istore_n (lv' := [(2, .int (x2 ||| (1 <<< (c6 &&& 31)))), (0, .ref (ad 100)), (1, .int x1), (3, .int x3)]) C d_M_owesTo_46 (by decide) rfl ?_
          refine x_iinc (v := (x3 + 1)) (lv' := [(3, .int (x3 + 1)), (2, .int (x2 ||| (1 <<< (c6 &&& 31)))), (0, .ref (ad 100)), (1, .int x1)]) C d_M_owesTo_47 3 rfl rfl (by decide) rfl ?_
          refine x_goto C 4 d_M_owesTo_50 (by decide) ?_
          refine x_sub [2, 3, 1, 0] rfl ?_
          exact ih _ _ _ hf K
set_option maxHeartbeats 4000000 in
set_option maxRecDepth 100000 in
theorem ct_M_owesTo {l : Launch} {D : va_G} {ad : Nat → Nat} {cs : Nat → ClassId} {A : Nat → Prop} (E : Ev ad cs A LM) (F : Nat) (M : Mem) (x1 : Int32) (R : Int32)  (hf : M_owesTo F M x1 = some R) : Met l y_M_owesTo (Cond.code y_M_owesTo b_M_owesTo 4 (some .int) :: wl) (rmD 2) (PX D ad cs A LM [.ref (ad 100), .int x1] M) (QX D ad cs A LM (some (.int R)) M) 0 0 A := by
  refine x_enter (lv := [(0, .ref (ad 100)), (1, .int x1)]) E mi_M_owesTo.1 (Nat.le_of_ble_eq_true rfl) rfl (fun p e s m args below meth c C => ?_)
  unfold M_owesTo at hf
  refine x_iconst (v := 0) C d_M_owesTo_0 rfl ?_
  refine x_istore_n (lv' := [(2, .int 0), (0, .ref (ad 100)), (1, .int x1)]) C d_M_owesTo_1 (by decide) rfl ?_
  refine x_iconst (v := 0) C d_M_owesTo_2 rfl ?_
  refine x_istore_n (lv' := [(3, .int 0), (2, .int 0), (0, .ref (ad 100)), (1, .int x1)]) C d_M_owesTo_3 (by decide) rfl ?_
  obtain ⟨u7, hu7, hf⟩ := bs hf
  refine x_sub [2, 3, 1, 0] rfl ?_
  refine lw_M_owesTo_4 E C F _ _ _ _ _ _ hu7 ?_
  refine x_iload_n C d_M_owesTo_53 0 rfl ?_
  obtain ⟨c8, hc8, hf⟩ := bs hf
  refine x_callS (rest := []) (n := 1) C (ct_M_bits E F _ _ _  hc8) mi_M_bits (by decide) wL_M_159 d_M_owesTo_54 rfl rfl (Nat.le_of_ble_eq_true rfl) ?_
  show X _ _ _ _ _ _ _ _ _ _ _ _ _ _ _ _ _ _ _ _ _ [.int c8]
  cases hf
  exact x_iret C d_M_owesTo_57 rfl rfl
set_option maxHeartbeats 4000000 in
set_option maxRecDepth 100000 in
theorem ct_M_toldOf {l : Launch} {D : va_G} {ad : Nat → Nat} {cs : Nat → ClassId} {A : Nat → Prop} (E : Ev ad cs A LM) (F : Nat) (M : Mem) (x1 : Int32) (x2 : Int32) (R : Int32)  (hf : M_toldOf F M x1 x2 = some R) : Met l y_M_toldOf (Cond.code y_M_toldOf b_M_toldOf 3 (some .int) :: wl) (rmD 3) (PX D ad cs A LM [.ref (ad 100), .int x1, .int x2] M) (QX D ad cs A LM (some (.int R)) M) 0 0 A := by
  refine x_enter (lv := [(0, .ref (ad 100)), (1, .int x1), (2, .int x2)]) E mi_M_toldOf.1 (Nat.le_of_ble_eq_true rfl) rfl (fun p e s m args below meth c C => ?_)
  unfold M_toldOf at hf
  refine x_iload_n C d_M_toldOf_0 2 rfl ?_
  rcases Classical.em (x2 = 0) with g1 | g1
  · replace hf := it g1 hf
    refine x_tswIn C 32 g1 d_M_toldOf_1 (by decide) (by decide) rfl (by decide) ?_
    refine x_aload_n C d_M_toldOf_32 0 rfl ?_
    refine xg_M_kinds C wF_M_13 mc_100 kc_100 d_M_toldOf_33 ?_
    refine x_iload_n C d_M_toldOf_36 1 rfl ?_
    obtain ⟨t2, ht2, hf⟩ := bs hf
    refine x_iald C ht2 mc_102 kc_102 d_M_toldOf_37 ?_
    cases hf
    exact x_iret C d_M_toldOf_38 rfl rfl
  · replace hf := ie g1 hf
    rcases Classical.em (x2 = 1) with g3 | g3
    · replace hf := it g3 hf
      refine x_tswIn C 39 g3 d_M_toldOf_1 (by decide) (by decide) rfl (by decide) ?_
      refine x_aload_n C d_M_toldOf_39 0 rfl ?_
      refine x_iload_n C d_M_toldOf_40 1 rfl ?_
      obtain ⟨c4, hc4, hf⟩ := bs hf
      refine x_callV (rest := []) (n := 1) C (ct_M_owing E F _ _ _  hc4) mi_M_owing (by decide) mc_100 ⟨_, cel_M kc_100⟩ rfl rfl wL_M_162 d_M_toldOf_41 rfl rfl (Nat.le_of_ble_eq_true rfl) ?_
      show X _ _ _ _ _ _ _ _ _ _ _ _ _ _ _ _ _ _ _ _ _ [.int c4]
      cases hf
      exact x_iret C d_M_toldOf_44 rfl rfl
    · replace hf := ie g3 hf
      rcases Classical.em (x2 = 2) with g5 | g5
      · replace hf := it g5 hf
        refine x_tswIn C 45 g5 d_M_toldOf_1 (by decide) (by decide) rfl (by decide) ?_
        refine x_aload_n C d_M_toldOf_45 0 rfl ?_
        refine x_iload_n C d_M_toldOf_46 1 rfl ?_
        refine x_iconst (v := 0) C d_M_toldOf_47 rfl ?_
        obtain ⟨c6, hc6, hf⟩ := bs hf
        refine x_callV (rest := []) (n := 2) C (ct_M_owed E F _ _ _ _  hc6) mi_M_owed (by decide) mc_100 ⟨_, cel_M kc_100⟩ rfl rfl wL_M_165 d_M_toldOf_48 rfl rfl (Nat.le_of_ble_eq_true rfl) ?_
        show X _ _ _ _ _ _ _ _ _ _ _ _ _ _ _ _ _ _ _ _ _ [.int c6]
        cases hf
        exact x_iret C d_M_toldOf_51 rfl rfl
      · replace hf := ie g5 hf
        rcases Classical.em (x2 = 3) with g7 | g7
        · replace hf := it g7 hf
          refine x_tswIn C 52 g7 d_M_toldOf_1 (by decide) (by decide) rfl (by decide) ?_
          refine x_aload_n C d_M_toldOf_52 0 rfl ?_
          refine x_iload_n C d_M_toldOf_53 1 rfl ?_
          obtain ⟨c8, hc8, hf⟩ := bs hf
          refine x_callV (rest := []) (n := 1) C (ct_M_reserve E F _ _ _  hc8) mi_M_reserve (by decide) mc_100 ⟨_, cel_M kc_100⟩ rfl rfl wL_M_168 d_M_toldOf_54 rfl rfl (Nat.le_of_ble_eq_true rfl) ?_
          show X _ _ _ _ _ _ _ _ _ _ _ _ _ _ _ _ _ _ _ _ _ [.int c8]
          cases hf
          exact x_iret C d_M_toldOf_57 rfl rfl
        · replace hf := ie g7 hf
          have hsw : (x2).toInt < 0 ∨ 3 < (x2).toInt := by
            have qg1 := lv_neT g1 (a := 0) rfl
            have qg3 := lv_neT g3 (a := 1) rfl
            have qg5 := lv_neT g5 (a := 2) rfl
            have qg7 := lv_neT g7 (a := 3) rfl
            omega
          refine x_tswOut C 58 d_M_toldOf_1 hsw (by decide) ?_
          refine x_aload_n C d_M_toldOf_58 0 rfl ?_
          refine x_iload_n C d_M_toldOf_59 1 rfl ?_
          obtain ⟨c9, hc9, hf⟩ := bs hf
          refine x_callV (rest := []) (n := 1) C (ct_M_owesTo E F _ _ _  hc9) mi_M_owesTo (by decide) mc_100 ⟨_, cel_M kc_100⟩ rfl rfl wL_M_171 d_M_toldOf_60 rfl rfl (Nat.le_of_ble_eq_true rfl) ?_
          show X _ _ _ _ _ _ _ _ _ _ _ _ _ _ _ _ _ _ _ _ _ [.int c9]
          cases hf
          exact x_iret C d_M_toldOf_63 rfl rfl
set_option maxHeartbeats 4000000 in
set_option maxRecDepth 100000 in
theorem lw_M_digest_6 {p : Program} {l : Launch} {e : Env} {s : State} {m : MethodId} {args : Array Value} {below : List Frame} {meth : Method} {c : Code} {D : va_G} {ad : Nat → Nat} {cs : Nat → ClassId} {A : Nat → Prop} {V : Option Value} {N : Mem} (E : Ev ad cs A LM) (C : Cx p s m args meth c "KissClearingModel" b_M_digest 5 (some .long) D ad cs A LM) (F : Nat) (M : Mem)  : ∀ (n : Nat) (x1 : Int64) (x3 : Int32) (u : Int64), L_M_digest_6 F M n x1 x3 = some u → X p l e 4 s m args below meth c 5 D ad cs A LM V N M 31 [(0, .ref (ad 100)), (1, .long u)] [] → X p l e 4 s m args below meth c 5 D ad cs A LM V N M 6 [(0, .ref (ad 100)), (1, .long x1), (3, .int x3)] [] := by
  intro n
  induction n with
  | zero => intro x1 x3 u hf; cases hf
  | succ n ih =>
    intro x1 x3 u hf K
    replace hf : B_M_digest_6 F M (L_M_digest_6 F M n) x1 x3 = some u := hf
    unfold B_M_digest_6 at hf
    refine x_iload_n C d_M_digest_6 2 rfl ?_
    refine x_bipush (v := 9) C d_M_digest_7 rfl ?_
    refine x_icmp_ge C 31 d_M_digest_9 (by decide) (fun g1 => ?_) (fun g1 => ?_)
    · replace hf := it g1 hf
      cases hf
      exact x_sub [0, 1] rfl K
    · replace hf := ie g1 hf
      refine x_ldc2 C wJ_M_361 d_M_digest_12 ?_
      refine x_lload_n C d_M_digest_15 1 rfl ?_
      refine x_lmul C d_M_digest_16 ?_
      refine x_aload_n C d_M_digest_17 0 rfl ?_
      refine x_iload_n C d_M_digest_18 2 rfl ?_
      obtain ⟨c2, hc2, hf⟩ := bs hf
      refine x_callV (rest := [.long (31 * x1)]) (n := 1) C (ct_M_countOf E F _ _ _  hc2) mi_M_countOf (by decide) mc_100 ⟨_, cel_M kc_100⟩ rfl rfl wL_M_356 d_M_digest_19 rfl rfl (Nat.le_of_ble_eq_true rfl) ?_
      show X _ _ _ _ _ _ _ _ _ _ _ _ _ _ _ _ _ _ _ _ _ [.int c2, .long (31 * x1)]
      refine x_i2l C d_M_digest_22 ?_
      refine x_ladd C d_M_digest_23 ?_
      refine x_lstore_n (lv' := [(1, .long ((31 * x1) + ((c2).toInt64))), (0, .ref (ad 100)), (3, .int x3)]) C d_M_digest_24 (by decide) rfl ?_
      refine x_iinc (v := (x3 + 1)) (lv' := [(3, .int (x3 + 1)), (1, .long ((31 * x1) + ((c2).toInt64))), (0, .ref (ad 100))]) C d_M_digest_25 2 rfl rfl (by decide) rfl ?_
      refine x_goto C 6 d_M_digest_28 (by decide) ?_
      refine x_sub [2, 1, 0] rfl ?_
      exact ih _ _ _ hf K
set_option maxHeartbeats 4000000 in
set_option maxRecDepth 100000 in
theorem lw_M_digest_33 {p : Program} {l : Launch} {e : Env} {s : State} {m : MethodId} {args : Array Value} {below : List Frame} {meth : Method} {c : Code} {D : va_G} {ad : Nat → Nat} {cs : Nat → ClassId} {A : Nat → Prop} {V : Option Value} {N : Mem} (E : Ev ad cs A LM) (C : Cx p s m args meth c "KissClearingModel" b_M_digest 5 (some .long) D ad cs A LM) (F : Nat) (M : Mem)  : ∀ (n : Nat) (x1 : Int64) (x3 : Int32) (u : Int64), L_M_digest_33 F M n x1 x3 = some u → X p l e 4 s m args below meth c 5 D ad cs A LM V N M 67 [(0, .ref (ad 100)), (1, .long u)] [] → X p l e 4 s m args below meth c 5 D ad cs A LM V N M 33 [(0, .ref (ad 100)), (1, .long x1), (3, .int x3)] [] := by
  intro n
  induction n with
  | zero => intro x1 x3 u hf; cases hf
  | succ n ih =>
    intro x1 x3 u hf K
    replace hf : B_M_digest_33 F M (L_M_digest_33 F M n) x1 x3 = some u := hf
    unfold B_M_digest_33 at hf
    refine x_iload_n C d_M_digest_33 2 rfl ?_
    refine x_iconst (v := 5) C d_M_digest_34 rfl ?_
    refine x_aload_n C d_M_digest_35 0 rfl ?_
    refine xg_M_persons C wF_M_136 mc_100 kc_100 d_M_digest_36 ?_
    refine x_imul C d_M_digest_39 ?_
    refine x_icmp_ge C 67 d_M_digest_40 (by decide) (fun g4 => ?_) (fun g4 => ?_)
    · replace hf := it g4 hf
      cases hf
      exact x_sub [0, 1] rfl K
    · replace hf := ie g4 hf
      refine x_ldc2 C wJ_M_361 d_M_digest_43 ?_
      refine x_lload_n C d_M_digest_46 1 rfl ?_
      refine x_lmul C d_M_digest_47 ?_
      refine x_aload_n C d_M_digest_48 0 rfl ?_
      refine x_iload_n C d_M_digest_49 2 rfl ?_
      refine x_iconst (v := 5) C d_M_digest_50 rfl ?_
      obtain ⟨t5, ht5, hf⟩ := bs hf
      refine x_idiv C ht5 d_M_digest_51 ?_
      refine x_iload_n C d_M_digest_52 2 rfl ?_
      refine x_iconst (v := 5) C d_M_digest_53 rfl ?_
      obtain ⟨t6, ht6, hf⟩ := bs hf
      refine x_irem C ht6 d_M_digest_54 ?_
      obtain ⟨c7, hc7, hf⟩ := bs hf
      refine x_callV (rest := [.long (31 * x1)]) (n := 2) C (ct_M_toldOf E F _ _ _ _  hc7) mi_M_toldOf (by decide) mc_100 ⟨_, cel_M kc_100⟩ rfl rfl wL_M_176 d_M_digest_55 rfl rfl (Nat.le_of_ble_eq_true rfl) ?_
      show X _ _ _ _ _ _ _ _ _ _ _ _ _ _ _ _ _ _ _ _ _ [.int c7, .long (31 * x1)]
      refine x_i2l C d_M_digest_58 ?_
      refine x_ladd C d_M_digest_59 ?_
      refine x_lstore_n (lv' := [(1, .long ((31 * x1) + ((c7).toInt64))), (0, .ref (ad 100)), (3, .int x3)]) C d_M_digest_60 (by decide) rfl ?_
      refine x_iinc (v := (x3 + 1)) (lv' := [(3, .int (x3 + 1)), (1, .long ((31 * x1) + ((c7).toInt64))), (0, .ref (ad 100))]) C d_M_digest_61 2 rfl rfl (by decide) rfl ?_
      refine x_goto C 33 d_M_digest_64 (by decide) ?_
      refine x_sub [2, 1, 0] rfl ?_
      exact ih _ _ _ hf K
set_option maxHeartbeats 4000000 in
set_option maxRecDepth 100000 in
theorem lw_M_digest_69 {p : Program} {l : Launch} {e : Env} {s : State} {m : MethodId} {args : Array Value} {below : List Frame} {meth : Method} {c : Code} {D : va_G} {ad : Nat → Nat} {cs : Nat → ClassId} {A : Nat → Prop} {V : Option Value} {N : Mem} (E : Ev ad cs A LM) (C : Cx p s m args meth c "KissClearingModel" b_M_digest 5 (some .long) D ad cs A LM) (F : Nat) (M : Mem)  : ∀ (n : Nat) (x1 : Int64) (x3 : Int32) (u : Int64), L_M_digest_69 F M n x1 x3 = some u → X p l e 4 s m args below meth c 5 D ad cs A LM V N M 104 [(0, .ref (ad 100)), (1, .long u)] [] → X p l e 4 s m args below meth c 5 D ad cs A LM V N M 69 [(0, .ref (ad 100)), (1, .long x1), (3, .int x3)] [] := by
  intro n
  induction n with
  | zero => intro x1 x3 u hf; cases hf
  | succ n ih =>
    intro x1 x3 u hf K
    replace hf : B_M_digest_69 F M (L_M_digest_69 F M n) x1 x3 = some u := hf
    unfold B_M_digest_69 at hf
    refine x_iload_n C d_M_digest_69 2 rfl ?_
    refine x_bipush (v := 6) C d_M_digest_70 rfl ?_
    refine x_aload_n C d_M_digest_72 0 rfl ?_
    refine xg_M_row C wF_M_7 mc_100 kc_100 d_M_digest_73 ?_
    refine x_iconst (v := 1) C d_M_digest_76 rfl ?_
    refine x_iald C (ac_101_1 M) mc_101 kc_101 d_M_digest_77 ?_
    refine x_imul C d_M_digest_78 ?_
    refine x_icmp_ge C 104 d_M_digest_79 (by decide) (fun g9 => ?_) (fun g9 => ?_)
    · replace hf := it g9 hf
      cases hf
      exact x_sub [0, 1] rfl K
    · replace hf := ie g9 hf
      refine x_ldc2 C wJ_M_361 d_M_digest_82 ?_
      refine x_lload_n C d_M_digest_85 1 rfl ?_
      refine x_lmul C d_M_digest_86 ?_
      refine x_aload_n C d_M_digest_87 0 rfl ?_
      refine xg_M_row C wF_M_7 mc_100 kc_100 d_M_digest_88 ?_
      refine x_iconst (v := 2) C d_M_digest_91 rfl ?_
      refine x_iload_n C d_M_digest_92 2 rfl ?_
      refine x_iadd C d_M_digest_93 ?_
      obtain ⟨t10, ht10, hf⟩ := bs hf
      refine x_iald C ht10 mc_101 kc_101 d_M_digest_94 ?_
      refine x_i2l C d_M_digest_95 ?_
      refine x_ladd C d_M_digest_96 ?_
      refine x_lstore_n (lv' := [(1, .long ((31 * x1) + ((t10).toInt64))), (0, .ref (ad 100)), (3, .int x3)]) C d_M_digest_97 (by decide) rfl ?_
      refine x_iinc (v := (x3 + 1)) (lv' := [(3, .int (x3 + 1)), (1, .long ((31 * x1) + ((t10).toInt64))), (0, .ref (ad 100))]) C d_M_digest_98 2 rfl rfl (by decide) rfl ?_
      refine x_goto C 69 d_M_digest_101 (by decide) ?_
      refine x_sub [2, 1, 0] rfl ?_
      exact ih _ _ _ hf K
set_option maxHeartbeats 4000000 in
set_option maxRecDepth 100000 in
theorem lw_M_digest_106 {p : Program} {l : Launch} {e : Env} {s : State} {m : MethodId} {args : Array Value} {below : List Frame} {meth : Method} {c : Code} {D : va_G} {ad : Nat → Nat} {cs : Nat → ClassId} {A : Nat → Prop} {V : Option Value} {N : Mem} (E : Ev ad cs A LM) (C : Cx p s m args meth c "KissClearingModel" b_M_digest 5 (some .long) D ad cs A LM) (F : Nat) (M : Mem)  : ∀ (n : Nat) (x1 : Int64) (x3 : Int32) (u : Int64), L_M_digest_106 F M n x1 x3 = some u → X p l e 4 s m args below meth c 5 D ad cs A LM V N M 137 [(0, .ref (ad 100)), (1, .long u)] [] → X p l e 4 s m args below meth c 5 D ad cs A LM V N M 106 [(0, .ref (ad 100)), (1, .long x1), (3, .int x3)] [] := by
  intro n
  induction n with
  | zero => intro x1 x3 u hf; cases hf
  | succ n ih =>
    intro x1 x3 u hf K
    replace hf : B_M_digest_106 F M (L_M_digest_106 F M n) x1 x3 = some u := hf
    unfold B_M_digest_106 at hf
    refine x_iload_n C d_M_digest_106 2 rfl ?_
    refine x_iconst (v := 4) C d_M_digest_107 rfl ?_
    refine x_icmp_ge C 137 d_M_digest_108 (by decide) (fun g12 => ?_) (fun g12 => ?_)
    · replace hf := it g12 hf
      cases hf
      exact x_sub [0, 1] rfl K
    · replace hf := ie g12 hf
      refine x_ldc2 C wJ_M_361 d_M_digest_111 ?_
      refine x_lload_n C d_M_digest_114 1 rfl ?_
      refine x_lmul C d_M_digest_115 ?_
      refine x_aload_n C d_M_digest_116 0 rfl ?_
      refine xg_M_row C wF_M_7 mc_100 kc_100 d_M_digest_117 ?_
      refine x_sipush (v := 2994) C d_M_digest_120 rfl ?_
      refine x_iload_n C d_M_digest_123 2 rfl ?_
      refine x_imul C d_M_digest_124 ?_
      refine x_iconst (v := 0) C d_M_digest_125 rfl ?_
      refine x_iadd C d_M_digest_126 ?_
      obtain ⟨t13, ht13, hf⟩ := bs hf
      refine x_iald C ht13 mc_101 kc_101 d_M_digest_127 ?_
      refine x_i2l C d_M_digest_128 ?_
      refine x_ladd C d_M_digest_129 ?_
      refine x_lstore_n (lv' := [(1, .long ((31 * x1) + ((t13).toInt64))), (0, .ref (ad 100)), (3, .int x3)]) C d_M_digest_130 (by decide) rfl ?_
      refine x_iinc (v := (x3 + 1)) (lv' := [(3, .int (x3 + 1)), (1, .long ((31 * x1) + ((t13).toInt64))), (0, .ref (ad 100))]) C d_M_digest_131 2 rfl rfl (by decide) rfl ?_
      refine x_goto C 106 d_M_digest_134 (by decide) ?_
      refine x_sub [2, 1, 0] rfl ?_
      exact ih _ _ _ hf K
set_option maxHeartbeats 4000000 in
set_option maxRecDepth 100000 in
theorem lw_M_digest_162 {p : Program} {l : Launch} {e : Env} {s : State} {m : MethodId} {args : Array Value} {below : List Frame} {meth : Method} {c : Code} {D : va_G} {ad : Nat → Nat} {cs : Nat → ClassId} {A : Nat → Prop} {V : Option Value} {N : Mem} (E : Ev ad cs A LM) (C : Cx p s m args meth c "KissClearingModel" b_M_digest 5 (some .long) D ad cs A LM) (F : Nat) (M : Mem) (x3 : Int32) : ∀ (n : Nat) (x1 : Int64) (x4 : Int32) (u : Int64), L_M_digest_162 F M x3 n x1 x4 = some u → X p l e 4 s m args below meth c 5 D ad cs A LM V N M 199 [(0, .ref (ad 100)), (1, .long u), (3, .int x3)] [] → X p l e 4 s m args below meth c 5 D ad cs A LM V N M 162 [(0, .ref (ad 100)), (1, .long x1), (3, .int x3), (4, .int x4)] [] := by
  intro n
  induction n with
  | zero => intro x1 x4 u hf; cases hf
  | succ n ih =>
    intro x1 x4 u hf K
    replace hf : B_M_digest_162 F M x3 (L_M_digest_162 F M x3 n) x1 x4 = some u := hf
    unfold B_M_digest_162 at hf
    refine x_iload C d_M_digest_162 3 rfl ?_
    refine x_aload_n C d_M_digest_164 0 rfl ?_
    refine xg_M_sizes C wF_M_16 mc_100 kc_100 d_M_digest_165 ?_
    refine x_iload_n C d_M_digest_168 2 rfl ?_
    obtain ⟨t17, ht17, hf⟩ := bs hf
    refine x_iald C ht17 mc_103 kc_103 d_M_digest_169 ?_
    refine x_icmp_ge C 199 d_M_digest_170 (by decide) (fun g18 => ?_) (fun g18 => ?_)
    · replace hf := it g18 hf
      cases hf
      exact x_sub [0, 1, 2] rfl K
    · replace hf := ie g18 hf
      refine x_ldc2 C wJ_M_361 d_M_digest_173 ?_
      refine x_lload_n C d_M_digest_176 1 rfl ?_
      refine x_lmul C d_M_digest_177 ?_
      refine x_aload_n C d_M_digest_178 0 rfl ?_
      refine xg_M_items C wF_M_19 mc_100 kc_100 d_M_digest_179 ?_
      refine x_bipush (v := 40) C d_M_digest_182 rfl ?_
      refine x_iload_n C d_M_digest_184 2 rfl ?_
      refine x_imul C d_M_digest_185 ?_
      refine x_iload C d_M_digest_186 3 rfl ?_
      refine x_iadd C d_M_digest_188 ?_
      obtain ⟨t19, ht19, hf⟩ := bs hf
      refine x_iald C ht19 mc_104 kc_104 d_M_digest_189 ?_
      refine x_i2l C d_M_digest_190 ?_
      refine x_ladd C d_M_digest_191 ?_
      refine x_lstore_n (lv' := [(1, .long ((31 * x1) + ((t19).toInt64))), (0, .ref (ad 100)), (3, .int x3), (4, .int x4)]) C d_M_digest_192 (by decide) rfl ?_
      refine x_iinc (v := (x4 + 1)) (lv' := [(4, .int (x4 + 1)), (1, .long ((31 * x1) + ((t19).toInt64))), (0, .ref (ad 100)), (3, .int x3)]) C d_M_digest_193 3 rfl rfl (by decide) rfl ?_
      refine x_goto C 162 d_M_digest_196 (by decide) ?_
      refine x_sub [2, 1, 3, 0] rfl ?_
      exact ih _ _ _ hf K
set_option maxHeartbeats 4000000 in
set_option maxRecDepth 100000 in
theorem lw_M_digest_139 {p : Program} {l : Launch} {e : Env} {s : State} {m : MethodId} {args : Array Value} {below : List Frame} {meth : Method} {c : Code} {D : va_G} {ad : Nat → Nat} {cs : Nat → ClassId} {A : Nat → Prop} {V : Option Value} {N : Mem} (E : Ev ad cs A LM) (C : Cx p s m args meth c "KissClearingModel" b_M_digest 5 (some .long) D ad cs A LM) (F : Nat) (M : Mem)  : ∀ (n : Nat) (x1 : Int64) (x3 : Int32) (u : Int64), L_M_digest_139 F M n x1 x3 = some u → X p l e 4 s m args below meth c 5 D ad cs A LM V N M 205 [(0, .ref (ad 100)), (1, .long u)] [] → X p l e 4 s m args below meth c 5 D ad cs A LM V N M 139 [(0, .ref (ad 100)), (1, .long x1), (3, .int x3)] [] := by
  intro n
  induction n with
  | zero => intro x1 x3 u hf; cases hf
  | succ n ih =>
    intro x1 x3 u hf K
    replace hf : B_M_digest_139 F M (L_M_digest_139 F M n) x1 x3 = some u := hf
    unfold B_M_digest_139 at hf
    refine x_iload_n C d_M_digest_139 2 rfl ?_
    refine x_bipush (v := 6) C d_M_digest_140 rfl ?_
    refine x_icmp_ge C 205 d_M_digest_142 (by decide) (fun g15 => ?_) (fun g15 => ?_)
    · replace hf := it g15 hf
      cases hf
      exact x_sub [0, 1] rfl K
    · replace hf := ie g15 hf
      refine x_ldc2 C wJ_M_361 d_M_digest_145 ?_
      refine x_lload_n C d_M_digest_148 1 rfl ?_
      refine x_lmul C d_M_digest_149 ?_
      refine x_aload_n C d_M_digest_150 0 rfl ?_
      refine xg_M_sizes C wF_M_16 mc_100 kc_100 d_M_digest_151 ?_
      refine x_iload_n C d_M_digest_154 2 rfl ?_
      obtain ⟨t16, ht16, hf⟩ := bs hf
      refine x_iald C ht16 mc_103 kc_103 d_M_digest_155 ?_
      refine x_i2l C d_M_digest_156 ?_
      refine x_ladd C d_M_digest_157 ?_
      refine x_lstore_n (lv' := [(1, .long ((31 * x1) + ((t16).toInt64))), (0, .ref (ad 100)), (3, .int x3)]) C d_M_digest_158 (by decide) rfl ?_
      refine x_iconst (v := 0) C d_M_digest_159 rfl ?_
      refine x_istore (lv' := [(4, .int 0), (1, .long ((31 * x1) + ((t16).toInt64))), (0, .ref (ad 100)), (3, .int x3)]) C d_M_digest_160 (by decide) rfl ?_
      obtain ⟨u20, hu20, hf⟩ := bs hf
      refine x_sub [2, 1, 3, 0] rfl ?_
      refine lw_M_digest_162 E C F _ _ _ _ _ _ hu20 ?_
      refine x_iinc (v := (x3 + 1)) (lv' := [(3, .int (x3 + 1)), (0, .ref (ad 100)), (1, .long u20)]) C d_M_digest_199 2 rfl rfl (by decide) rfl ?_
      refine x_goto C 139 d_M_digest_202 (by decide) ?_
      refine x_sub [1, 2, 0] rfl ?_
      exact ih _ _ _ hf K
set_option maxHeartbeats 4000000 in
set_option maxRecDepth 100000 in
theorem lw_M_digest_229 {p : Program} {l : Launch} {e : Env} {s : State} {m : MethodId} {args : Array Value} {below : List Frame} {meth : Method} {c : Code} {D : va_G} {ad : Nat → Nat} {cs : Nat → ClassId} {A : Nat → Prop} {V : Option Value} {N : Mem} (E : Ev ad cs A LM) (C : Cx p s m args meth c "KissClearingModel" b_M_digest 5 (some .long) D ad cs A LM) (F : Nat) (M : Mem) (x3 : Int32) : ∀ (n : Nat) (x1 : Int64) (x4 : Int32) (u : Int64), L_M_digest_229 F M x3 n x1 x4 = some u → X p l e 4 s m args below meth c 5 D ad cs A LM V N M 266 [(0, .ref (ad 100)), (1, .long u), (3, .int x3)] [] → X p l e 4 s m args below meth c 5 D ad cs A LM V N M 229 [(0, .ref (ad 100)), (1, .long x1), (3, .int x3), (4, .int x4)] [] := by
  intro n
  induction n with
  | zero => intro x1 x4 u hf; cases hf
  | succ n ih =>
    intro x1 x4 u hf K
    replace hf : B_M_digest_229 F M x3 (L_M_digest_229 F M x3 n) x1 x4 = some u := hf
    unfold B_M_digest_229 at hf
    refine x_iload C d_M_digest_229 3 rfl ?_
    refine x_aload_n C d_M_digest_231 0 rfl ?_
    refine xg_M_lengths C wF_M_22 mc_100 kc_100 d_M_digest_232 ?_
    refine x_iload_n C d_M_digest_235 2 rfl ?_
    obtain ⟨t24, ht24, hf⟩ := bs hf
    refine x_iald C ht24 mc_105 kc_105 d_M_digest_236 ?_
    refine x_icmp_ge C 266 d_M_digest_237 (by decide) (fun g25 => ?_) (fun g25 => ?_)
    · replace hf := it g25 hf
      cases hf
      exact x_sub [0, 1, 2] rfl K
    · replace hf := ie g25 hf
      refine x_ldc2 C wJ_M_361 d_M_digest_240 ?_
      refine x_lload_n C d_M_digest_243 1 rfl ?_
      refine x_lmul C d_M_digest_244 ?_
      refine x_aload_n C d_M_digest_245 0 rfl ?_
      refine xg_M_bytes C wF_M_25 mc_100 kc_100 d_M_digest_246 ?_
      refine x_bipush (v := 80) C d_M_digest_249 rfl ?_
      refine x_iload_n C d_M_digest_251 2 rfl ?_
      refine x_imul C d_M_digest_252 ?_
      refine x_iload C d_M_digest_253 3 rfl ?_
      refine x_iadd C d_M_digest_255 ?_
      obtain ⟨t26, ht26, hf⟩ := bs hf
      refine x_iald C ht26 mc_106 kc_106 d_M_digest_256 ?_
      refine x_i2l C d_M_digest_257 ?_
      refine x_ladd C d_M_digest_258 ?_
      refine x_lstore_n (lv' := [(1, .long ((31 * x1) + ((t26).toInt64))), (0, .ref (ad 100)), (3, .int x3), (4, .int x4)]) C d_M_digest_259 (by decide) rfl ?_
      refine x_iinc (v := (x4 + 1)) (lv' := [(4, .int (x4 + 1)), (1, .long ((31 * x1) + ((t26).toInt64))), (0, .ref (ad 100)), (3, .int x3)]) C d_M_digest_260 3 rfl rfl (by decide) rfl ?_
      refine x_goto C 229 d_M_digest_263 (by decide) ?_
      refine x_sub [2, 1, 3, 0] rfl ?_
      exact ih _ _ _ hf K
set_option maxHeartbeats 4000000 in
set_option maxRecDepth 100000 in
theorem lw_M_digest_207 {p : Program} {l : Launch} {e : Env} {s : State} {m : MethodId} {args : Array Value} {below : List Frame} {meth : Method} {c : Code} {D : va_G} {ad : Nat → Nat} {cs : Nat → ClassId} {A : Nat → Prop} {V : Option Value} {N : Mem} (E : Ev ad cs A LM) (C : Cx p s m args meth c "KissClearingModel" b_M_digest 5 (some .long) D ad cs A LM) (F : Nat) (M : Mem)  : ∀ (n : Nat) (x1 : Int64) (x3 : Int32) (u : Int64), L_M_digest_207 F M n x1 x3 = some u → X p l e 4 s m args below meth c 5 D ad cs A LM V N M 272 [(1, .long u)] [] → X p l e 4 s m args below meth c 5 D ad cs A LM V N M 207 [(0, .ref (ad 100)), (1, .long x1), (3, .int x3)] [] := by
  intro n
  induction n with
  | zero => intro x1 x3 u hf; cases hf
  | succ n ih =>
    intro x1 x3 u hf K
    replace hf : B_M_digest_207 F M (L_M_digest_207 F M n) x1 x3 = some u := hf
    unfold B_M_digest_207 at hf
    refine x_iload_n C d_M_digest_207 2 rfl ?_
    refine x_iconst (v := 4) C d_M_digest_208 rfl ?_
    refine x_icmp_ge C 272 d_M_digest_209 (by decide) (fun g22 => ?_) (fun g22 => ?_)
    · replace hf := it g22 hf
      cases hf
      exact x_sub [1] rfl K
    · replace hf := ie g22 hf
      refine x_ldc2 C wJ_M_361 d_M_digest_212 ?_
      refine x_lload_n C d_M_digest_215 1 rfl ?_
      refine x_lmul C d_M_digest_216 ?_
      refine x_aload_n C d_M_digest_217 0 rfl ?_
      refine xg_M_lengths C wF_M_22 mc_100 kc_100 d_M_digest_218 ?_
      refine x_iload_n C d_M_digest_221 2 rfl ?_
      obtain ⟨t23, ht23, hf⟩ := bs hf
      refine x_iald C ht23 mc_105 kc_105 d_M_digest_222 ?_
      refine x_i2l C d_M_digest_223 ?_
      refine x_ladd C d_M_digest_224 ?_
      refine x_lstore_n (lv' := [(1, .long ((31 * x1) + ((t23).toInt64))), (0, .ref (ad 100)), (3, .int x3)]) C d_M_digest_225 (by decide) rfl ?_
      refine x_iconst (v := 0) C d_M_digest_226 rfl ?_
      refine x_istore (lv' := [(4, .int 0), (1, .long ((31 * x1) + ((t23).toInt64))), (0, .ref (ad 100)), (3, .int x3)]) C d_M_digest_227 (by decide) rfl ?_
      obtain ⟨u27, hu27, hf⟩ := bs hf
      refine x_sub [2, 1, 3, 0] rfl ?_
      refine lw_M_digest_229 E C F _ _ _ _ _ _ hu27 ?_
      refine x_iinc (v := (x3 + 1)) (lv' := [(3, .int (x3 + 1)), (0, .ref (ad 100)), (1, .long u27)]) C d_M_digest_266 2 rfl rfl (by decide) rfl ?_
      refine x_goto C 207 d_M_digest_269 (by decide) ?_
      refine x_sub [1, 2, 0] rfl ?_
      exact ih _ _ _ hf K
set_option maxHeartbeats 4000000 in
set_option maxRecDepth 100000 in
theorem ct_M_digest {l : Launch} {D : va_G} {ad : Nat → Nat} {cs : Nat → ClassId} {A : Nat → Prop} (E : Ev ad cs A LM) (F : Nat) (M : Mem)  (R : Int64)  (hf : M_digest F M = some R) : Met l y_M_digest (Cond.code y_M_digest b_M_digest 5 (some .long) :: wl) (rmD 4) (PX D ad cs A LM [.ref (ad 100)] M) (QX D ad cs A LM (some (.long R)) M) 0 0 A := by
  refine x_enter (lv := [(0, .ref (ad 100))]) E mi_M_digest.1 (Nat.le_of_ble_eq_true rfl) rfl (fun p e s m args below meth c C => ?_)
  unfold M_digest at hf
  refine x_ldc2 C wJ_M_359 d_M_digest_0 ?_
  refine x_lstore_n (lv' := [(1, .long 17), (0, .ref (ad 100))]) C d_M_digest_3 (by decide) rfl ?_
  refine x_iconst (v := 0) C d_M_digest_4 rfl ?_
  refine x_istore_n (lv' := [(3, .int 0), (1, .long 17), (0, .ref (ad 100))]) C d_M_digest_5 (by decide) rfl ?_
  obtain ⟨u3, hu3, hf⟩ := bs hf
  refine x_sub [2, 1, 0] rfl ?_
  refine lw_M_digest_6 E C F _ _ _ _ _ hu3 ?_
  refine x_iconst (v := 0) C d_M_digest_31 rfl ?_
  refine x_istore_n (lv' := [(3, .int 0), (0, .ref (ad 100)), (1, .long u3)]) C d_M_digest_32 (by decide) rfl ?_
  obtain ⟨u8, hu8, hf⟩ := bs hf
  refine x_sub [1, 2, 0] rfl ?_
  refine lw_M_digest_33 E C F _ _ _ _ _ hu8 ?_
  refine x_iconst (v := 0) C d_M_digest_67 rfl ?_
  refine x_istore_n (lv' := [(3, .int 0), (0, .ref (ad 100)), (1, .long u8)]) C d_M_digest_68 (by decide) rfl ?_
  obtain ⟨u11, hu11, hf⟩ := bs hf
  refine x_sub [1, 2, 0] rfl ?_
  refine lw_M_digest_69 E C F _ _ _ _ _ hu11 ?_
  refine x_iconst (v := 1) C d_M_digest_104 rfl ?_
  refine x_istore_n (lv' := [(3, .int 1), (0, .ref (ad 100)), (1, .long u11)]) C d_M_digest_105 (by decide) rfl ?_
  obtain ⟨u14, hu14, hf⟩ := bs hf
  refine x_sub [1, 2, 0] rfl ?_
  refine lw_M_digest_106 E C F _ _ _ _ _ hu14 ?_
  refine x_iconst (v := 0) C d_M_digest_137 rfl ?_
  refine x_istore_n (lv' := [(3, .int 0), (0, .ref (ad 100)), (1, .long u14)]) C d_M_digest_138 (by decide) rfl ?_
  obtain ⟨u21, hu21, hf⟩ := bs hf
  refine x_sub [1, 2, 0] rfl ?_
  refine lw_M_digest_139 E C F _ _ _ _ _ hu21 ?_
  refine x_iconst (v := 0) C d_M_digest_205 rfl ?_
  refine x_istore_n (lv' := [(3, .int 0), (0, .ref (ad 100)), (1, .long u21)]) C d_M_digest_206 (by decide) rfl ?_
  obtain ⟨u28, hu28, hf⟩ := bs hf
  refine x_sub [1, 2, 0] rfl ?_
  refine lw_M_digest_207 E C F _ _ _ _ _ hu28 ?_
  refine x_lload_n C d_M_digest_272 0 rfl ?_
  cases hf
  exact x_lret C d_M_digest_273 rfl rfl
set_option maxHeartbeats 4000000 in
set_option maxRecDepth 100000 in
theorem lw_M_divisor_4 {p : Program} {l : Launch} {e : Env} {s : State} {m : MethodId} {args : Array Value} {below : List Frame} {meth : Method} {c : Code} {D : va_G} {ad : Nat → Nat} {cs : Nat → ClassId} {A : Nat → Prop} {V : Option Value} {N : Mem} (E : Ev ad cs A LM) (C : Cx p s m args meth c "KissClearingModel" b_M_divisor 5 (some .int) D ad cs A LM) (F : Nat) (M : Mem)  : ∀ (n : Nat) (x2 : Int32) (x3 : Int32) (u : Int32), L_M_divisor_4 F M n x2 x3 = some u → X p l e 0 s m args below meth c 5 D ad cs A LM V N M 21 [(2, .int u)] [] → X p l e 0 s m args below meth c 5 D ad cs A LM V N M 4 [(2, .int x2), (3, .int x3)] [] := by
  intro n
  induction n with
  | zero => intro x2 x3 u hf; cases hf
  | succ n ih =>
    intro x2 x3 u hf K
    replace hf : B_M_divisor_4 F M (L_M_divisor_4 F M n) x2 x3 = some u := hf
    unfold B_M_divisor_4 at hf
    refine x_iload_n C d_M_divisor_4 1 rfl ?_
    refine x_if_eq C 21 d_M_divisor_5 (by decide) (fun g1 => ?_) (fun g1 => ?_)
    · replace hf := it g1 hf
      cases hf
      exact x_sub [0] rfl K
    · replace hf := ie g1 hf
      refine x_iload_n C d_M_divisor_8 0 rfl ?_
      refine x_iload_n C d_M_divisor_9 1 rfl ?_
      obtain ⟨t2, ht2, hf⟩ := bs hf
      refine x_irem C ht2 d_M_divisor_10 ?_
      refine x_istore (lv' := [(4, .int t2), (2, .int x2), (3, .int x3)]) C d_M_divisor_11 (by decide) rfl ?_
      refine x_iload_n C d_M_divisor_13 2 rfl ?_
      refine x_istore_n (lv' := [(2, .int x3), (4, .int t2), (3, .int x3)]) C d_M_divisor_14 (by decide) rfl ?_
      refine x_iload C d_M_divisor_15 1 rfl ?_
      refine x_istore_n (lv' := [(3, .int t2), (2, .int x3), (4, .int t2)]) C d_M_divisor_17 (by decide) rfl ?_
      refine x_goto C 4 d_M_divisor_18 (by decide) ?_
      refine x_sub [1, 0] rfl ?_
      exact ih _ _ _ hf K
set_option maxHeartbeats 4000000 in
set_option maxRecDepth 100000 in
theorem ct_M_divisor {l : Launch} {D : va_G} {ad : Nat → Nat} {cs : Nat → ClassId} {A : Nat → Prop} (E : Ev ad cs A LM) (F : Nat) (M : Mem) (x0 : Int32) (x1 : Int32) (R : Int32)  (hf : M_divisor F M x0 x1 = some R) : Met l y_M_divisor (Cond.code y_M_divisor b_M_divisor 5 (some .int) :: wl) (rmD 0) (PX D ad cs A LM [.int x0, .int x1] M) (QX D ad cs A LM (some (.int R)) M) 0 0 A := by
  refine x_enter (lv := [(0, .int x0), (1, .int x1)]) E mi_M_divisor.1 (Nat.le_of_ble_eq_true rfl) rfl (fun p e s m args below meth c C => ?_)
  unfold M_divisor at hf
  refine x_iload_n C d_M_divisor_0 0 rfl ?_
  refine x_istore_n (lv' := [(2, .int x0), (0, .int x0), (1, .int x1)]) C d_M_divisor_1 (by decide) rfl ?_
  refine x_iload_n C d_M_divisor_2 2 rfl ?_
  refine x_istore_n (lv' := [(3, .int x1), (2, .int x0), (0, .int x0), (1, .int x1)]) C d_M_divisor_3 (by decide) rfl ?_
  obtain ⟨u3, hu3, hf⟩ := bs hf
  refine x_sub [1, 0] rfl ?_
  refine lw_M_divisor_4 E C F _ _ _ _ _ hu3 ?_
  refine x_iload_n C d_M_divisor_21 0 rfl ?_
  cases hf
  exact x_iret C d_M_divisor_22 rfl rfl
set_option maxHeartbeats 4000000 in
set_option maxRecDepth 100000 in
theorem ct_M_netted {l : Launch} {D : va_G} {ad : Nat → Nat} {cs : Nat → ClassId} {A : Nat → Prop} (E : Ev ad cs A LM) (F : Nat) (M : Mem) (x1 : Int32) (x2 : Int32) (x3 : Int32) (R : Int32)  (hf : M_netted F M x1 x2 x3 = some R) : Met l y_M_netted (Cond.code y_M_netted b_M_netted 6 (some .int) :: wl) (rmD 3) (PX D ad cs A LM [.ref (ad 100), .int x1, .int x2, .int x3] M) (QX D ad cs A LM (some (.int R)) M) 0 0 A := by
  refine x_enter (lv := [(0, .ref (ad 100)), (1, .int x1), (2, .int x2), (3, .int x3)]) E mi_M_netted.1 (Nat.le_of_ble_eq_true rfl) rfl (fun p e s m args below meth c C => ?_)
  unfold M_netted at hf
  refine x_aload_n C d_M_netted_0 0 rfl ?_
  refine x_iload_n C d_M_netted_1 1 rfl ?_
  refine x_iload_n C d_M_netted_2 2 rfl ?_
  refine x_iload_n C d_M_netted_3 3 rfl ?_
  obtain ⟨c1, hc1, hf⟩ := bs hf
  refine x_callV (rest := []) (n := 3) C (ct_M_sumOf E F _ _ _ _ _  hc1) mi_M_sumOf (by decide) mc_100 ⟨_, cel_M kc_100⟩ rfl rfl wL_M_216 d_M_netted_4 rfl rfl (Nat.le_of_ble_eq_true rfl) ?_
  show X _ _ _ _ _ _ _ _ _ _ _ _ _ _ _ _ _ _ _ _ _ [.int c1]
  refine x_istore (lv' := [(4, .int c1), (0, .ref (ad 100)), (1, .int x1), (2, .int x2), (3, .int x3)]) C d_M_netted_7 (by decide) rfl ?_
  refine x_aload_n C d_M_netted_9 1 rfl ?_
  refine x_iload_n C d_M_netted_10 3 rfl ?_
  refine x_iload_n C d_M_netted_11 2 rfl ?_
  refine x_iload_n C d_M_netted_12 4 rfl ?_
  obtain ⟨c2, hc2, hf⟩ := bs hf
  refine x_callV (rest := []) (n := 3) C (ct_M_sumOf E F _ _ _ _ _  hc2) mi_M_sumOf (by decide) mc_100 ⟨_, cel_M kc_100⟩ rfl rfl wL_M_216 d_M_netted_13 rfl rfl (Nat.le_of_ble_eq_true rfl) ?_
  show X _ _ _ _ _ _ _ _ _ _ _ _ _ _ _ _ _ _ _ _ _ [.int c2]
  refine x_istore (lv' := [(5, .int c2), (4, .int c1), (0, .ref (ad 100)), (1, .int x1), (2, .int x2), (3, .int x3)]) C d_M_netted_16 (by decide) rfl ?_
  refine x_iload C d_M_netted_18 1 rfl ?_
  refine x_iload C d_M_netted_20 0 rfl ?_
  refine x_icmp_ge C 30 d_M_netted_22 (by decide) (fun g3 => ?_) (fun g3 => ?_)
  · replace hf := it g3 hf
    refine x_iload C d_M_netted_30 0 rfl ?_
    cases hf
    exact x_iret C d_M_netted_32 rfl rfl
  · replace hf := ie g3 hf
    refine x_iload C d_M_netted_25 1 rfl ?_
    refine x_goto C 32 d_M_netted_27 (by decide) ?_
    cases hf
    exact x_iret C d_M_netted_32 rfl rfl
set_option maxHeartbeats 4000000 in
set_option maxRecDepth 100000 in
theorem lw_M_given_5 {p : Program} {l : Launch} {e : Env} {s : State} {m : MethodId} {args : Array Value} {below : List Frame} {meth : Method} {c : Code} {D : va_G} {ad : Nat → Nat} {cs : Nat → ClassId} {A : Nat → Prop} {V : Option Value} {N : Mem} (E : Ev ad cs A LM) (C : Cx p s m args meth c "KissClearingModel" b_M_given 6 (some .int) D ad cs A LM) (F : Nat) (M : Mem) (x1 : Int32) (x2 : Int32) : ∀ (n : Nat) (x3 : Int32) (x4 : Int32) (u : Int32), L_M_given_5 F M x1 x2 n x3 x4 = some u → X p l e 4 s m args below meth c 6 D ad cs A LM V N M 93 [(3, .int u)] [] → X p l e 4 s m args below meth c 6 D ad cs A LM V N M 5 [(0, .ref (ad 100)), (1, .int x1), (2, .int x2), (3, .int x3), (4, .int x4)] [] := by
  intro n
  induction n with
  | zero => intro x3 x4 u hf; cases hf
  | succ n ih =>
    intro x3 x4 u hf K
    replace hf : B_M_given_5 F M x1 x2 (L_M_given_5 F M x1 x2 n) x3 x4 = some u := hf
    unfold B_M_given_5 at hf
    refine x_iload C d_M_given_5 4 rfl ?_
    refine x_iconst (v := 3) C d_M_given_7 rfl ?_
    refine x_icmp_ge C 93 d_M_given_8 (by decide) (fun g1 => ?_) (fun g1 => ?_)
    · replace hf := it g1 hf
      cases hf
      exact x_sub [3] rfl K
    · replace hf := ie g1 hf
      refine x_iload C d_M_given_11 4 rfl ?_
      refine x_iconst (v := 2) C d_M_given_13 rfl ?_
      obtain ⟨j2, hj2, hf⟩ := bs hf
      have Jj2 : X p l e 4 s m args below meth c 6 D ad cs A LM V N M 29 [(0, .ref (ad 100)), (1, .int x1), (2, .int x2), (3, .int x3), (4, .int x4)] [.int j2] := by
        refine x_istore (lv' := [(5, .int j2), (0, .ref (ad 100)), (1, .int x1), (2, .int x2), (3, .int x3), (4, .int x4)]) C d_M_given_29 (by decide) rfl ?_
        refine x_iload_n C d_M_given_31 4 rfl ?_
        refine x_aload_n C d_M_given_32 1 rfl ?_
        refine xg_M_kinds C wF_M_13 mc_100 kc_100 d_M_given_33 ?_
        refine x_iload_n C d_M_given_36 2 rfl ?_
        obtain ⟨t3, ht3, hf⟩ := bs hf
        refine x_iald C ht3 mc_102 kc_102 d_M_given_37 ?_
        refine x_iconst (v := 2) C d_M_given_38 rfl ?_
        obtain ⟨j4, hj4, hf⟩ := bs hf
        have Jj4 : X p l e 4 s m args below meth c 6 D ad cs A LM V N M 57 [(0, .ref (ad 100)), (1, .int x1), (2, .int x2), (4, .int x4), (5, .int j2)] [.int j4, .int x3] := by
          refine x_iadd C d_M_given_57 ?_
          refine x_istore_n (lv' := [(3, .int (x3 + j4)), (0, .ref (ad 100)), (1, .int x1), (2, .int x2), (4, .int x4), (5, .int j2)]) C d_M_given_58 (by decide) rfl ?_
          refine x_iload_n C d_M_given_59 0 rfl ?_
          refine x_aload_n C d_M_given_60 1 rfl ?_
          refine xg_M_kinds C wF_M_13 mc_100 kc_100 d_M_given_61 ?_
          refine x_iload_n C d_M_given_64 3 rfl ?_
          obtain ⟨t5, ht5, hf⟩ := bs hf
          refine x_iald C ht5 mc_102 kc_102 d_M_given_65 ?_
          refine x_iconst (v := 2) C d_M_given_66 rfl ?_
          refine x_icmp_ne C 74 d_M_given_67 (by decide) (fun g6 => ?_) (fun g6 => ?_)
          · replace hf := ie g6 hf
            refine x_aload_n C d_M_given_74 1 rfl ?_
            refine x_iload_n C d_M_given_75 3 rfl ?_
            refine x_iload_n C d_M_given_76 2 rfl ?_
            refine x_iload C d_M_given_77 4 rfl ?_
            obtain ⟨c7, hc7, hf⟩ := bs hf
            refine x_callV (rest := [.int (x3 + j4)]) (n := 3) C (ct_M_sumOf E F _ _ _ _ _  hc7) mi_M_sumOf (by decide) mc_100 ⟨_, cel_M kc_100⟩ rfl rfl wL_M_216 d_M_given_79 rfl rfl (Nat.le_of_ble_eq_true rfl) ?_
            show X _ _ _ _ _ _ _ _ _ _ _ _ _ _ _ _ _ _ _ _ _ [.int c7, .int (x3 + j4)]
            refine x_iload C d_M_given_82 5 rfl ?_
            refine x_isub C d_M_given_84 ?_
            refine x_iadd C d_M_given_85 ?_
            refine x_istore_n (lv' := [(3, .int ((x3 + j4) + (c7 - j2))), (0, .ref (ad 100)), (1, .int x1), (2, .int x2), (4, .int x4), (5, .int j2)]) C d_M_given_86 (by decide) rfl ?_
            refine x_iinc (v := (x4 + 1)) (lv' := [(4, .int (x4 + 1)), (3, .int ((x3 + j4) + (c7 - j2))), (0, .ref (ad 100)), (1, .int x1), (2, .int x2), (5, .int j2)]) C d_M_given_87 4 rfl rfl (by decide) rfl ?_
            refine x_goto C 5 d_M_given_90 (by decide) ?_
            refine x_sub [2, 3, 4, 1, 0] rfl ?_
            exact ih _ _ _ hf K
          · replace hf := it g6 hf
            refine x_iconst (v := 0) C d_M_given_70 rfl ?_
            refine x_goto C 85 d_M_given_71 (by decide) ?_
            refine x_iadd C d_M_given_85 ?_
            refine x_istore_n (lv' := [(3, .int ((x3 + j4) + 0)), (0, .ref (ad 100)), (1, .int x1), (2, .int x2), (4, .int x4), (5, .int j2)]) C d_M_given_86 (by decide) rfl ?_
            refine x_iinc (v := (x4 + 1)) (lv' := [(4, .int (x4 + 1)), (3, .int ((x3 + j4) + 0)), (0, .ref (ad 100)), (1, .int x1), (2, .int x2), (5, .int j2)]) C d_M_given_87 4 rfl rfl (by decide) rfl ?_
            refine x_goto C 5 d_M_given_90 (by decide) ?_
            refine x_sub [2, 3, 4, 1, 0] rfl ?_
            exact ih _ _ _ hf K
        replace hf := hj4
        refine x_icmp_ne C 46 d_M_given_39 (by decide) (fun g8 => ?_) (fun g8 => ?_)
        · replace hf := ie g8 hf
          refine x_aload_n C d_M_given_46 1 rfl ?_
          refine x_iload_n C d_M_given_47 2 rfl ?_
          refine x_iload_n C d_M_given_48 3 rfl ?_
          refine x_iload C d_M_given_49 5 rfl ?_
          obtain ⟨c9, hc9, hf⟩ := bs hf
          refine x_callV (rest := [.int x3]) (n := 3) C (ct_M_sumOf E F _ _ _ _ _  hc9) mi_M_sumOf (by decide) mc_100 ⟨_, cel_M kc_100⟩ rfl rfl wL_M_216 d_M_given_51 rfl rfl (Nat.le_of_ble_eq_true rfl) ?_
          show X _ _ _ _ _ _ _ _ _ _ _ _ _ _ _ _ _ _ _ _ _ [.int c9, .int x3]
          refine x_iload C d_M_given_54 0 rfl ?_
          refine x_isub C d_M_given_56 ?_
          cases hf
          exact x_sub [1, 2, 3, 5, 0] rfl Jj4
        · replace hf := it g8 hf
          refine x_iconst (v := 0) C d_M_given_42 rfl ?_
          refine x_goto C 57 d_M_given_43 (by decide) ?_
          cases hf
          exact x_sub [1, 2, 3, 5, 0] rfl Jj4
      replace hf := hj2
      refine x_icmp_ne C 21 d_M_given_14 (by decide) (fun g10 => ?_) (fun g10 => ?_)
      · replace hf := ie g10 hf
        refine x_aload_n C d_M_given_21 0 rfl ?_
        refine x_iload_n C d_M_given_22 1 rfl ?_
        refine x_iload_n C d_M_given_23 2 rfl ?_
        refine x_iload C d_M_given_24 4 rfl ?_
        obtain ⟨c11, hc11, hf⟩ := bs hf
        refine x_callV (rest := []) (n := 3) C (ct_M_netted E F _ _ _ _ _  hc11) mi_M_netted (by decide) mc_100 ⟨_, cel_M kc_100⟩ rfl rfl wL_M_222 d_M_given_26 rfl rfl (Nat.le_of_ble_eq_true rfl) ?_
        show X _ _ _ _ _ _ _ _ _ _ _ _ _ _ _ _ _ _ _ _ _ [.int c11]
        cases hf
        exact x_sub [0, 1, 2, 3, 4] rfl Jj2
      · replace hf := it g10 hf
        refine x_iconst (v := 0) C d_M_given_17 rfl ?_
        refine x_goto C 29 d_M_given_18 (by decide) ?_
        cases hf
        exact x_sub [0, 1, 2, 3, 4] rfl Jj2
set_option maxHeartbeats 4000000 in
set_option maxRecDepth 100000 in
theorem ct_M_given {l : Launch} {D : va_G} {ad : Nat → Nat} {cs : Nat → ClassId} {A : Nat → Prop} (E : Ev ad cs A LM) (F : Nat) (M : Mem) (x1 : Int32) (x2 : Int32) (R : Int32)  (hf : M_given F M x1 x2 = some R) : Met l y_M_given (Cond.code y_M_given b_M_given 6 (some .int) :: wl) (rmD 4) (PX D ad cs A LM [.ref (ad 100), .int x1, .int x2] M) (QX D ad cs A LM (some (.int R)) M) 0 0 A := by
  refine x_enter (lv := [(0, .ref (ad 100)), (1, .int x1), (2, .int x2)]) E mi_M_given.1 (Nat.le_of_ble_eq_true rfl) rfl (fun p e s m args below meth c C => ?_)
  unfold M_given at hf
  refine x_iconst (v := 0) C d_M_given_0 rfl ?_
  refine x_istore_n (lv' := [(3, .int 0), (0, .ref (ad 100)), (1, .int x1), (2, .int x2)]) C d_M_given_1 (by decide) rfl ?_
  refine x_iconst (v := 0) C d_M_given_2 rfl ?_
  refine x_istore (lv' := [(4, .int 0), (3, .int 0), (0, .ref (ad 100)), (1, .int x1), (2, .int x2)]) C d_M_given_3 (by decide) rfl ?_
  obtain ⟨u12, hu12, hf⟩ := bs hf
  refine x_sub [2, 3, 4, 1, 0] rfl ?_
  refine lw_M_given_5 E C F _ _ _ _ _ _ _ hu12 ?_
  refine x_iload_n C d_M_given_93 0 rfl ?_
  cases hf
  exact x_iret C d_M_given_94 rfl rfl
set_option maxHeartbeats 4000000 in
set_option maxRecDepth 100000 in
theorem lw_M_lessen_7 {p : Program} {l : Launch} {e : Env} {s : State} {m : MethodId} {args : Array Value} {below : List Frame} {meth : Method} {c : Code} {D : va_G} {ad : Nat → Nat} {cs : Nat → ClassId} {A : Nat → Prop} {V : Option Value} {N : Mem} (E : Ev ad cs A LM) (C : Cx p s m args meth c "KissClearingModel" b_M_lessen 8 none D ad cs A LM) (F : Nat) (x1 : Int32) (x2 : Int32) (x3 : Int32) : ∀ (n : Nat) (M : Mem) (x5 : Int32) (x6 : Int32) (u : Mem), L_M_lessen_7 F x1 x2 x3 n M x5 x6 = some u → X p l e 2 s m args below meth c 8 D ad cs A LM V N u 95 [] [] → X p l e 2 s m args below meth c 8 D ad cs A LM V N M 7 [(0, .ref (ad 100)), (1, .int x1), (2, .int x2), (3, .int x3), (5, .int x5), (6, .int x6)] [] := by
  intro n
  induction n with
  | zero => intro M x5 x6 u hf; cases hf
  | succ n ih =>
    intro M x5 x6 u hf K
    replace hf : B_M_lessen_7 F x1 x2 x3 (L_M_lessen_7 F x1 x2 x3 n) M x5 x6 = some u := hf
    unfold B_M_lessen_7 at hf
    refine x_iload C d_M_lessen_7 5 rfl ?_
    refine x_aload_n C d_M_lessen_9 0 rfl ?_
    refine xg_M_row C wF_M_7 mc_100 kc_100 d_M_lessen_10 ?_
    refine x_iconst (v := 1) C d_M_lessen_13 rfl ?_
    refine x_iald C (ac_101_1 M) mc_101 kc_101 d_M_lessen_14 ?_
    refine x_icmp_ge C 95 d_M_lessen_15 (by decide) (fun g1 => ?_) (fun g1 => ?_)
    · replace hf := it g1 hf
      cases hf
      exact x_sub [] rfl K
    · replace hf := ie g1 hf
      refine x_aload_n C d_M_lessen_18 0 rfl ?_
      refine x_iload C d_M_lessen_19 5 rfl ?_
      refine x_iload_n C d_M_lessen_21 1 rfl ?_
      refine x_iload_n C d_M_lessen_22 2 rfl ?_
      obtain ⟨c2, hc2, hf⟩ := bs hf
      refine x_callV (rest := []) (n := 3) C (ct_M_isOn E F _ _ _ _ _  hc2) mi_M_isOn (by decide) mc_100 ⟨_, cel_M kc_100⟩ rfl rfl wL_M_213 d_M_lessen_23 rfl rfl (Nat.le_of_ble_eq_true rfl) ?_
      show X _ _ _ _ _ _ _ _ _ _ _ _ _ _ _ _ _ _ _ _ _ [.int c2]
      refine x_if_eq C 89 d_M_lessen_26 (by decide) (fun g3 => ?_) (fun g3 => ?_)
      · replace hf := it g3 hf
        refine x_iinc (v := (x6 + 1)) (lv' := [(6, .int (x6 + 1)), (0, .ref (ad 100)), (1, .int x1), (2, .int x2), (3, .int x3), (5, .int x5)]) C d_M_lessen_89 5 rfl rfl (by decide) rfl ?_
        refine x_goto C 7 d_M_lessen_92 (by decide) ?_
        refine x_sub [1, 2, 3, 4, 5, 0] rfl ?_
        exact ih _ _ _ _ hf K
      · replace hf := ie g3 hf
        refine x_aload_n C d_M_lessen_29 0 rfl ?_
        refine x_iload C d_M_lessen_30 5 rfl ?_
        refine x_iconst (v := 2) C d_M_lessen_32 rfl ?_
        obtain ⟨c4, hc4, hf⟩ := bs hf
        refine x_callV (rest := []) (n := 2) C (ct_M_of E F _ _ _ _  hc4) mi_M_of (by decide) mc_100 ⟨_, cel_M kc_100⟩ rfl rfl wL_M_146 d_M_lessen_33 rfl rfl (Nat.le_of_ble_eq_true rfl) ?_
        show X _ _ _ _ _ _ _ _ _ _ _ _ _ _ _ _ _ _ _ _ _ [.int c4]
        refine x_iload_n C d_M_lessen_36 3 rfl ?_
        refine x_icmp_ne C 89 d_M_lessen_37 (by decide) (fun g5 => ?_) (fun g5 => ?_)
        · replace hf := ie g5 hf
          refine x_iinc (v := (x6 + 1)) (lv' := [(6, .int (x6 + 1)), (0, .ref (ad 100)), (1, .int x1), (2, .int x2), (3, .int x3), (5, .int x5)]) C d_M_lessen_89 5 rfl rfl (by decide) rfl ?_
          refine x_goto C 7 d_M_lessen_92 (by decide) ?_
          refine x_sub [1, 2, 3, 4, 5, 0] rfl ?_
          exact ih _ _ _ _ hf K
        · replace hf := it g5 hf
          refine x_aload_n C d_M_lessen_40 0 rfl ?_
          refine x_iload C d_M_lessen_41 5 rfl ?_
          refine x_iconst (v := 3) C d_M_lessen_43 rfl ?_
          obtain ⟨c6, hc6, hf⟩ := bs hf
          refine x_callV (rest := []) (n := 2) C (ct_M_of E F _ _ _ _  hc6) mi_M_of (by decide) mc_100 ⟨_, cel_M kc_100⟩ rfl rfl wL_M_146 d_M_lessen_44 rfl rfl (Nat.le_of_ble_eq_true rfl) ?_
          show X _ _ _ _ _ _ _ _ _ _ _ _ _ _ _ _ _ _ _ _ _ [.int c6]
          refine x_iload C d_M_lessen_47 4 rfl ?_
          obtain ⟨j7, hj7, hf⟩ := bs hf
          have Jj7 : X p l e 2 s m args below meth c 8 D ad cs A LM V N M 64 [(0, .ref (ad 100)), (1, .int x1), (2, .int x2), (3, .int x3), (5, .int x5), (6, .int x6)] [.int j7] := by
            refine x_istore (lv' := [(7, .int j7), (0, .ref (ad 100)), (1, .int x1), (2, .int x2), (3, .int x3), (5, .int x5), (6, .int x6)]) C d_M_lessen_64 (by decide) rfl ?_
            refine x_aload_n C d_M_lessen_66 1 rfl ?_
            refine x_iload C d_M_lessen_67 6 rfl ?_
            refine x_aload_n C d_M_lessen_69 1 rfl ?_
            refine x_iload C d_M_lessen_70 6 rfl ?_
            refine x_iconst (v := 3) C d_M_lessen_72 rfl ?_
            obtain ⟨c8, hc8, hf⟩ := bs hf
            refine x_callV (rest := [.int x6, .ref (ad 100)]) (n := 2) C (ct_M_of E F _ _ _ _  hc8) mi_M_of (by decide) mc_100 ⟨_, cel_M kc_100⟩ rfl rfl wL_M_146 d_M_lessen_73 rfl rfl (Nat.le_of_ble_eq_true rfl) ?_
            show X _ _ _ _ _ _ _ _ _ _ _ _ _ _ _ _ _ _ _ _ _ [.int c8, .int x6, .ref (ad 100)]
            refine x_iload C d_M_lessen_76 0 rfl ?_
            refine x_isub C d_M_lessen_78 ?_
            obtain ⟨c9, hc9, hf⟩ := bs hf
            refine x_callV (rest := []) (n := 2) C (ct_M_leave E F _ _ _ _  hc9) mi_M_leave (by decide) mc_100 ⟨_, cel_M kc_100⟩ rfl rfl wL_M_219 d_M_lessen_79 rfl rfl (Nat.le_of_ble_eq_true rfl) ?_
            show X _ _ _ _ _ _ _ _ _ _ _ _ _ _ _ _ _ _ _ _ _ []
            refine x_iload C d_M_lessen_82 5 rfl ?_
            refine x_iload C d_M_lessen_84 0 rfl ?_
            refine x_isub C d_M_lessen_86 ?_
            refine x_istore (lv' := [(5, .int (x5 - j7)), (7, .int j7), (0, .ref (ad 100)), (1, .int x1), (2, .int x2), (3, .int x3), (6, .int x6)]) C d_M_lessen_87 (by decide) rfl ?_
            refine x_iinc (v := (x6 + 1)) (lv' := [(6, .int (x6 + 1)), (5, .int (x5 - j7)), (7, .int j7), (0, .ref (ad 100)), (1, .int x1), (2, .int x2), (3, .int x3)]) C d_M_lessen_89 6 rfl rfl (by decide) rfl ?_
            refine x_goto C 7 d_M_lessen_92 (by decide) ?_
            refine x_sub [3, 4, 5, 6, 1, 0] rfl ?_
            exact ih _ _ _ _ hf K
          replace hf := hj7
          refine x_icmp_ge C 62 d_M_lessen_49 (by decide) (fun g10 => ?_) (fun g10 => ?_)
          · replace hf := it g10 hf
            refine x_iload C d_M_lessen_62 4 rfl ?_
            cases hf
            exact x_sub [0, 1, 2, 3, 4, 5] rfl Jj7
          · replace hf := ie g10 hf
            refine x_aload_n C d_M_lessen_52 0 rfl ?_
            refine x_iload C d_M_lessen_53 5 rfl ?_
            refine x_iconst (v := 3) C d_M_lessen_55 rfl ?_
            obtain ⟨c11, hc11, hf⟩ := bs hf
            refine x_callV (rest := []) (n := 2) C (ct_M_of E F _ _ _ _  hc11) mi_M_of (by decide) mc_100 ⟨_, cel_M kc_100⟩ rfl rfl wL_M_146 d_M_lessen_56 rfl rfl (Nat.le_of_ble_eq_true rfl) ?_
            show X _ _ _ _ _ _ _ _ _ _ _ _ _ _ _ _ _ _ _ _ _ [.int c11]
            refine x_goto C 64 d_M_lessen_59 (by decide) ?_
            cases hf
            exact x_sub [0, 1, 2, 3, 4, 5] rfl Jj7
set_option maxHeartbeats 4000000 in
set_option maxRecDepth 100000 in
theorem ct_M_lessen {l : Launch} {D : va_G} {ad : Nat → Nat} {cs : Nat → ClassId} {A : Nat → Prop} (E : Ev ad cs A LM) (F : Nat) (M : Mem) (x1 : Int32) (x2 : Int32) (x3 : Int32) (x4 : Int32) (R : Mem)  (hf : M_lessen F M x1 x2 x3 x4 = some R) : Met l y_M_lessen (Cond.code y_M_lessen b_M_lessen 8 none :: wl) (rmD 2) (PX D ad cs A LM [.ref (ad 100), .int x1, .int x2, .int x3, .int x4] M) (QX D ad cs A LM (none) R) 0 0 A := by
  refine x_enter (lv := [(0, .ref (ad 100)), (1, .int x1), (2, .int x2), (3, .int x3), (4, .int x4)]) E mi_M_lessen.1 (Nat.le_of_ble_eq_true rfl) rfl (fun p e s m args below meth c C => ?_)
  unfold M_lessen at hf
  refine x_iload C d_M_lessen_0 4 rfl ?_
  refine x_istore (lv' := [(5, .int x4), (0, .ref (ad 100)), (1, .int x1), (2, .int x2), (3, .int x3), (4, .int x4)]) C d_M_lessen_2 (by decide) rfl ?_
  refine x_iconst (v := 0) C d_M_lessen_4 rfl ?_
  refine x_istore (lv' := [(6, .int 0), (5, .int x4), (0, .ref (ad 100)), (1, .int x1), (2, .int x2), (3, .int x3), (4, .int x4)]) C d_M_lessen_5 (by decide) rfl ?_
  obtain ⟨u12, hu12, hf⟩ := bs hf
  refine x_sub [2, 3, 4, 5, 1, 0] rfl ?_
  refine lw_M_lessen_7 E C F _ _ _ _ _ _ _ _ hu12 ?_
  cases hf
  exact x_vret C d_M_lessen_95 rfl rfl
set_option maxHeartbeats 4000000 in
set_option maxRecDepth 100000 in
theorem lw_M_doMeet_14 {p : Program} {l : Launch} {e : Env} {s : State} {m : MethodId} {args : Array Value} {below : List Frame} {meth : Method} {c : Code} {D : va_G} {ad : Nat → Nat} {cs : Nat → ClassId} {A : Nat → Prop} {V : Option Value} {N : Mem} (E : Ev ad cs A LM) (C : Cx p s m args meth c "KissClearingModel" b_M_doMeet 6 (some .int) D ad cs A LM) (F : Nat) (x1 : Int32) (x2 : Int32) (x3 : Int32) : ∀ (n : Nat) (M : Mem) (x4 : Int32) (u : Mem), L_M_doMeet_14 F x1 x2 x3 n M x4 = some u → X p l e 5 s m args below meth c 6 D ad cs A LM V N u 56 [(0, .ref (ad 100)), (1, .int x1), (2, .int x2), (3, .int x3)] [] → X p l e 5 s m args below meth c 6 D ad cs A LM V N M 14 [(0, .ref (ad 100)), (1, .int x1), (2, .int x2), (3, .int x3), (4, .int x4)] [] := by
  intro n
  induction n with
  | zero => intro M x4 u hf; cases hf
  | succ n ih =>
    intro M x4 u hf K
    replace hf : B_M_doMeet_14 F x1 x2 x3 (L_M_doMeet_14 F x1 x2 x3 n) M x4 = some u := hf
    unfold B_M_doMeet_14 at hf
    refine x_iload C d_M_doMeet_14 4 rfl ?_
    refine x_iconst (v := 2) C d_M_doMeet_16 rfl ?_
    refine x_icmp_ge C 56 d_M_doMeet_17 (by decide) (fun g3 => ?_) (fun g3 => ?_)
    · replace hf := it g3 hf
      cases hf
      exact x_sub [0, 1, 2, 3] rfl K
    · replace hf := ie g3 hf
      refine x_aload_n C d_M_doMeet_20 0 rfl ?_
      refine x_iload_n C d_M_doMeet_21 1 rfl ?_
      refine x_iload_n C d_M_doMeet_22 2 rfl ?_
      refine x_iload C d_M_doMeet_23 4 rfl ?_
      obtain ⟨c4, hc4, hf⟩ := bs hf
      refine x_callV (rest := []) (n := 3) C (ct_M_netted E F _ _ _ _ _  hc4) mi_M_netted (by decide) mc_100 ⟨_, cel_M kc_100⟩ rfl rfl wL_M_222 d_M_doMeet_25 rfl rfl (Nat.le_of_ble_eq_true rfl) ?_
      show X _ _ _ _ _ _ _ _ _ _ _ _ _ _ _ _ _ _ _ _ _ [.int c4]
      refine x_istore (lv' := [(5, .int c4), (0, .ref (ad 100)), (1, .int x1), (2, .int x2), (3, .int x3), (4, .int x4)]) C d_M_doMeet_28 (by decide) rfl ?_
      refine x_aload_n C d_M_doMeet_30 1 rfl ?_
      refine x_iload_n C d_M_doMeet_31 2 rfl ?_
      refine x_iload_n C d_M_doMeet_32 3 rfl ?_
      refine x_iload C d_M_doMeet_33 5 rfl ?_
      refine x_iload C d_M_doMeet_35 0 rfl ?_
      obtain ⟨c5, hc5, hf⟩ := bs hf
      refine x_callV (rest := []) (n := 4) C (ct_M_lessen E F _ _ _ _ _ _  hc5) mi_M_lessen (by decide) mc_100 ⟨_, cel_M kc_100⟩ rfl rfl wL_M_228 d_M_doMeet_37 rfl rfl (Nat.le_of_ble_eq_true rfl) ?_
      show X _ _ _ _ _ _ _ _ _ _ _ _ _ _ _ _ _ _ _ _ _ []
      refine x_aload_n C d_M_doMeet_40 1 rfl ?_
      refine x_iload_n C d_M_doMeet_41 3 rfl ?_
      refine x_iload_n C d_M_doMeet_42 2 rfl ?_
      refine x_iload C d_M_doMeet_43 5 rfl ?_
      refine x_iload C d_M_doMeet_45 0 rfl ?_
      obtain ⟨c6, hc6, hf⟩ := bs hf
      refine x_callV (rest := []) (n := 4) C (ct_M_lessen E F _ _ _ _ _ _  hc6) mi_M_lessen (by decide) mc_100 ⟨_, cel_M kc_100⟩ rfl rfl wL_M_228 d_M_doMeet_47 rfl rfl (Nat.le_of_ble_eq_true rfl) ?_
      show X _ _ _ _ _ _ _ _ _ _ _ _ _ _ _ _ _ _ _ _ _ []
      refine x_iinc (v := (x4 + 1)) (lv' := [(4, .int (x4 + 1)), (5, .int c4), (0, .ref (ad 100)), (1, .int x1), (2, .int x2), (3, .int x3)]) C d_M_doMeet_50 5 rfl rfl (by decide) rfl ?_
      refine x_goto C 14 d_M_doMeet_53 (by decide) ?_
      refine x_sub [2, 3, 4, 5, 0] rfl ?_
      exact ih _ _ _ hf K
set_option maxHeartbeats 4000000 in
set_option maxRecDepth 100000 in
theorem lw_M_doMeet_59 {p : Program} {l : Launch} {e : Env} {s : State} {m : MethodId} {args : Array Value} {below : List Frame} {meth : Method} {c : Code} {D : va_G} {ad : Nat → Nat} {cs : Nat → ClassId} {A : Nat → Prop} {V : Option Value} {N : Mem} (E : Ev ad cs A LM) (C : Cx p s m args meth c "KissClearingModel" b_M_doMeet 6 (some .int) D ad cs A LM) (F : Nat) (x1 : Int32) (x2 : Int32) (x3 : Int32) : ∀ (n : Nat) (M : Mem) (x4 : Int32) (u : Mem), L_M_doMeet_59 F x1 x2 x3 n M x4 = some u → X p l e 5 s m args below meth c 6 D ad cs A LM V N u 121 [(3, .int x3)] [] → X p l e 5 s m args below meth c 6 D ad cs A LM V N M 59 [(0, .ref (ad 100)), (1, .int x1), (2, .int x2), (3, .int x3), (4, .int x4)] [] := by
  intro n
  induction n with
  | zero => intro M x4 u hf; cases hf
  | succ n ih =>
    intro M x4 u hf K
    replace hf : B_M_doMeet_59 F x1 x2 x3 (L_M_doMeet_59 F x1 x2 x3 n) M x4 = some u := hf
    unfold B_M_doMeet_59 at hf
    refine x_iload C d_M_doMeet_59 4 rfl ?_
    refine x_aload_n C d_M_doMeet_61 0 rfl ?_
    refine xg_M_row C wF_M_7 mc_100 kc_100 d_M_doMeet_62 ?_
    refine x_iconst (v := 1) C d_M_doMeet_65 rfl ?_
    refine x_iald C (ac_101_1 M) mc_101 kc_101 d_M_doMeet_66 ?_
    refine x_icmp_ge C 121 d_M_doMeet_67 (by decide) (fun g8 => ?_) (fun g8 => ?_)
    · replace hf := it g8 hf
      cases hf
      exact x_sub [3] rfl K
    · replace hf := ie g8 hf
      refine x_aload_n C d_M_doMeet_70 0 rfl ?_
      refine x_iload C d_M_doMeet_71 4 rfl ?_
      refine x_iload_n C d_M_doMeet_73 1 rfl ?_
      refine x_iload_n C d_M_doMeet_74 2 rfl ?_
      obtain ⟨c9, hc9, hf⟩ := bs hf
      refine x_callV (rest := []) (n := 3) C (ct_M_isOn E F _ _ _ _ _  hc9) mi_M_isOn (by decide) mc_100 ⟨_, cel_M kc_100⟩ rfl rfl wL_M_213 d_M_doMeet_75 rfl rfl (Nat.le_of_ble_eq_true rfl) ?_
      show X _ _ _ _ _ _ _ _ _ _ _ _ _ _ _ _ _ _ _ _ _ [.int c9]
      refine x_if_ne C 92 d_M_doMeet_78 (by decide) (fun g10 => ?_) (fun g10 => ?_)
      · replace hf := ie g10 hf
        refine x_aload_n C d_M_doMeet_92 0 rfl ?_
        refine xg_M_kinds C wF_M_13 mc_100 kc_100 d_M_doMeet_93 ?_
        refine x_aload_n C d_M_doMeet_96 0 rfl ?_
        refine x_iload C d_M_doMeet_97 4 rfl ?_
        refine x_iconst (v := 0) C d_M_doMeet_99 rfl ?_
        obtain ⟨c11, hc11, hf⟩ := bs hf
        refine x_callV (rest := [.ref (ad 102)]) (n := 2) C (ct_M_of E F _ _ _ _  hc11) mi_M_of (by decide) mc_100 ⟨_, cel_M kc_100⟩ rfl rfl wL_M_146 d_M_doMeet_100 rfl rfl (Nat.le_of_ble_eq_true rfl) ?_
        show X _ _ _ _ _ _ _ _ _ _ _ _ _ _ _ _ _ _ _ _ _ [.int c11, .ref (ad 102)]
        obtain ⟨t12, ht12, hf⟩ := bs hf
        refine x_iald C ht12 mc_102 kc_102 d_M_doMeet_103 ?_
        refine x_iconst (v := 2) C d_M_doMeet_104 rfl ?_
        refine x_icmp_eq C 115 d_M_doMeet_105 (by decide) (fun g13 => ?_) (fun g13 => ?_)
        · replace hf := it g13 hf
          refine x_iinc (v := (x4 + 1)) (lv' := [(4, .int (x4 + 1)), (0, .ref (ad 100)), (1, .int x1), (2, .int x2), (3, .int x3)]) C d_M_doMeet_115 4 rfl rfl (by decide) rfl ?_
          refine x_goto C 59 d_M_doMeet_118 (by decide) ?_
          refine x_sub [1, 2, 3, 4, 0] rfl ?_
          exact ih _ _ _ hf K
        · replace hf := ie g13 hf
          refine x_aload_n C d_M_doMeet_108 0 rfl ?_
          refine x_iload C d_M_doMeet_109 4 rfl ?_
          refine x_iconst (v := 0) C d_M_doMeet_111 rfl ?_
          obtain ⟨c14, hc14, hf⟩ := bs hf
          refine x_callV (rest := []) (n := 2) C (ct_M_leave E F _ _ _ _  hc14) mi_M_leave (by decide) mc_100 ⟨_, cel_M kc_100⟩ rfl rfl wL_M_219 d_M_doMeet_112 rfl rfl (Nat.le_of_ble_eq_true rfl) ?_
          show X _ _ _ _ _ _ _ _ _ _ _ _ _ _ _ _ _ _ _ _ _ []
          refine x_iinc (v := (x4 + 1)) (lv' := [(4, .int (x4 + 1)), (0, .ref (ad 100)), (1, .int x1), (2, .int x2), (3, .int x3)]) C d_M_doMeet_115 4 rfl rfl (by decide) rfl ?_
          refine x_goto C 59 d_M_doMeet_118 (by decide) ?_
          refine x_sub [1, 2, 3, 4, 0] rfl ?_
          exact ih _ _ _ hf K
      · replace hf := it g10 hf
        refine x_aload_n C d_M_doMeet_81 0 rfl ?_
        refine x_iload C d_M_doMeet_82 4 rfl ?_
        refine x_iload_n C d_M_doMeet_84 2 rfl ?_
        refine x_iload_n C d_M_doMeet_85 1 rfl ?_
        obtain ⟨c15, hc15, hf⟩ := bs hf
        refine x_callV (rest := []) (n := 3) C (ct_M_isOn E F _ _ _ _ _  hc15) mi_M_isOn (by decide) mc_100 ⟨_, cel_M kc_100⟩ rfl rfl wL_M_213 d_M_doMeet_86 rfl rfl (Nat.le_of_ble_eq_true rfl) ?_
        show X _ _ _ _ _ _ _ _ _ _ _ _ _ _ _ _ _ _ _ _ _ [.int c15]
        refine x_if_eq C 115 d_M_doMeet_89 (by decide) (fun g16 => ?_) (fun g16 => ?_)
        · replace hf := it g16 hf
          refine x_iinc (v := (x4 + 1)) (lv' := [(4, .int (x4 + 1)), (0, .ref (ad 100)), (1, .int x1), (2, .int x2), (3, .int x3)]) C d_M_doMeet_115 4 rfl rfl (by decide) rfl ?_
          refine x_goto C 59 d_M_doMeet_118 (by decide) ?_
          refine x_sub [1, 2, 3, 4, 0] rfl ?_
          exact ih _ _ _ hf K
        · replace hf := ie g16 hf
          refine x_aload_n C d_M_doMeet_92 0 rfl ?_
          refine xg_M_kinds C wF_M_13 mc_100 kc_100 d_M_doMeet_93 ?_
          refine x_aload_n C d_M_doMeet_96 0 rfl ?_
          refine x_iload C d_M_doMeet_97 4 rfl ?_
          refine x_iconst (v := 0) C d_M_doMeet_99 rfl ?_
          obtain ⟨c17, hc17, hf⟩ := bs hf
          refine x_callV (rest := [.ref (ad 102)]) (n := 2) C (ct_M_of E F _ _ _ _  hc17) mi_M_of (by decide) mc_100 ⟨_, cel_M kc_100⟩ rfl rfl wL_M_146 d_M_doMeet_100 rfl rfl (Nat.le_of_ble_eq_true rfl) ?_
          show X _ _ _ _ _ _ _ _ _ _ _ _ _ _ _ _ _ _ _ _ _ [.int c17, .ref (ad 102)]
          obtain ⟨t18, ht18, hf⟩ := bs hf
          refine x_iald C ht18 mc_102 kc_102 d_M_doMeet_103 ?_
          refine x_iconst (v := 2) C d_M_doMeet_104 rfl ?_
          refine x_icmp_eq C 115 d_M_doMeet_105 (by decide) (fun g19 => ?_) (fun g19 => ?_)
          · replace hf := it g19 hf
            refine x_iinc (v := (x4 + 1)) (lv' := [(4, .int (x4 + 1)), (0, .ref (ad 100)), (1, .int x1), (2, .int x2), (3, .int x3)]) C d_M_doMeet_115 4 rfl rfl (by decide) rfl ?_
            refine x_goto C 59 d_M_doMeet_118 (by decide) ?_
            refine x_sub [1, 2, 3, 4, 0] rfl ?_
            exact ih _ _ _ hf K
          · replace hf := ie g19 hf
            refine x_aload_n C d_M_doMeet_108 0 rfl ?_
            refine x_iload C d_M_doMeet_109 4 rfl ?_
            refine x_iconst (v := 0) C d_M_doMeet_111 rfl ?_
            obtain ⟨c20, hc20, hf⟩ := bs hf
            refine x_callV (rest := []) (n := 2) C (ct_M_leave E F _ _ _ _  hc20) mi_M_leave (by decide) mc_100 ⟨_, cel_M kc_100⟩ rfl rfl wL_M_219 d_M_doMeet_112 rfl rfl (Nat.le_of_ble_eq_true rfl) ?_
            show X _ _ _ _ _ _ _ _ _ _ _ _ _ _ _ _ _ _ _ _ _ []
            refine x_iinc (v := (x4 + 1)) (lv' := [(4, .int (x4 + 1)), (0, .ref (ad 100)), (1, .int x1), (2, .int x2), (3, .int x3)]) C d_M_doMeet_115 4 rfl rfl (by decide) rfl ?_
            refine x_goto C 59 d_M_doMeet_118 (by decide) ?_
            refine x_sub [1, 2, 3, 4, 0] rfl ?_
            exact ih _ _ _ hf K
set_option maxHeartbeats 4000000 in
set_option maxRecDepth 100000 in
theorem ct_M_doMeet {l : Launch} {D : va_G} {ad : Nat → Nat} {cs : Nat → ClassId} {A : Nat → Prop} (E : Ev ad cs A LM) (F : Nat) (M : Mem) (x1 : Int32) (x2 : Int32) (R : (Int32 × Mem))  (hf : M_doMeet F M x1 x2 = some R) : Met l y_M_doMeet (Cond.code y_M_doMeet b_M_doMeet 6 (some .int) :: wl) (rmD 5) (PX D ad cs A LM [.ref (ad 100), .int x1, .int x2] M) (QX D ad cs A LM (some (.int R.1)) R.2) 0 0 A := by
  refine x_enter (lv := [(0, .ref (ad 100)), (1, .int x1), (2, .int x2)]) E mi_M_doMeet.1 (Nat.le_of_ble_eq_true rfl) rfl (fun p e s m args below meth c C => ?_)
  unfold M_doMeet at hf
  refine x_aload_n C d_M_doMeet_0 0 rfl ?_
  obtain ⟨c1, hc1, hf⟩ := bs hf
  refine x_callV (rest := []) (n := 0) C (ct_M_keepPast E F _ _  hc1) mi_M_keepPast (by decide) mc_100 ⟨_, cel_M kc_100⟩ rfl rfl wL_M_210 d_M_doMeet_1 rfl rfl (Nat.le_of_ble_eq_true rfl) ?_
  show X _ _ _ _ _ _ _ _ _ _ _ _ _ _ _ _ _ _ _ _ _ []
  refine x_aload_n C d_M_doMeet_4 0 rfl ?_
  refine x_iload_n C d_M_doMeet_5 1 rfl ?_
  refine x_iload_n C d_M_doMeet_6 2 rfl ?_
  obtain ⟨c2, hc2, hf⟩ := bs hf
  refine x_callV (rest := []) (n := 2) C (ct_M_given E F _ _ _ _  hc2) mi_M_given (by decide) mc_100 ⟨_, cel_M kc_100⟩ rfl rfl wL_M_225 d_M_doMeet_7 rfl rfl (Nat.le_of_ble_eq_true rfl) ?_
  show X _ _ _ _ _ _ _ _ _ _ _ _ _ _ _ _ _ _ _ _ _ [.int c2]
  refine x_istore_n (lv' := [(3, .int c2), (0, .ref (ad 100)), (1, .int x1), (2, .int x2)]) C d_M_doMeet_10 (by decide) rfl ?_
  refine x_iconst (v := 0) C d_M_doMeet_11 rfl ?_
  refine x_istore (lv' := [(4, .int 0), (3, .int c2), (0, .ref (ad 100)), (1, .int x1), (2, .int x2)]) C d_M_doMeet_12 (by decide) rfl ?_
  obtain ⟨u7, hu7, hf⟩ := bs hf
  refine x_sub [2, 3, 4, 1, 0] rfl ?_
  refine lw_M_doMeet_14 E C F _ _ _ _ _ _ _ hu7 ?_
  refine x_iconst (v := 0) C d_M_doMeet_56 rfl ?_
  refine x_istore (lv' := [(4, .int 0), (0, .ref (ad 100)), (1, .int x1), (2, .int x2), (3, .int c2)]) C d_M_doMeet_57 (by decide) rfl ?_
  obtain ⟨u21, hu21, hf⟩ := bs hf
  refine x_sub [1, 2, 3, 4, 0] rfl ?_
  refine lw_M_doMeet_59 E C F _ _ _ _ _ _ _ hu21 ?_
  refine x_iload_n C d_M_doMeet_121 0 rfl ?_
  cases hf
  exact x_iret C d_M_doMeet_122 rfl rfl
set_option maxHeartbeats 4000000 in
set_option maxRecDepth 100000 in
theorem ct_M_draft {l : Launch} {D : va_G} {ad : Nat → Nat} {cs : Nat → ClassId} {A : Nat → Prop} (E : Ev ad cs A LM) (F : Nat) (M : Mem) (x1 : Int32) (x2 : Int32) (R : (Int32 × Mem))  (hf : M_draft F M x1 x2 = some R) : Met l y_M_draft (Cond.code y_M_draft b_M_draft 3 (some .int) :: wl) (rmD 2) (PX D ad cs A LM [.ref (ad 100), .int x1, .int x2] M) (QX D ad cs A LM (some (.int R.1)) R.2) 0 0 A := by
  refine x_enter (lv := [(0, .ref (ad 100)), (1, .int x1), (2, .int x2)]) E mi_M_draft.1 (Nat.le_of_ble_eq_true rfl) rfl (fun p e s m args below meth c C => ?_)
  unfold M_draft at hf
  refine x_aload_n C d_M_draft_0 0 rfl ?_
  refine x_iload_n C d_M_draft_1 1 rfl ?_
  obtain ⟨c1, hc1, hf⟩ := bs hf
  refine x_callV (rest := []) (n := 1) C (ct_M_isDraft E F _ _ _  hc1) mi_M_isDraft (by decide) mc_100 ⟨_, cel_M kc_100⟩ rfl rfl wL_M_179 d_M_draft_2 rfl rfl (Nat.le_of_ble_eq_true rfl) ?_
  show X _ _ _ _ _ _ _ _ _ _ _ _ _ _ _ _ _ _ _ _ _ [.int c1]
  refine x_if_eq C 33 d_M_draft_5 (by decide) (fun g2 => ?_) (fun g2 => ?_)
  · replace hf := it g2 hf
    refine x_iconst (v := (-1)) C d_M_draft_33 rfl ?_
    cases hf
    exact x_iret C d_M_draft_34 rfl rfl
  · replace hf := ie g2 hf
    refine x_iload_n C d_M_draft_8 2 rfl ?_
    refine x_i2l C d_M_draft_9 ?_
    refine x_lconst (v := 0) C d_M_draft_10 rfl ?_
    refine x_ldc2 C wJ_M_63 d_M_draft_11 ?_
    obtain ⟨c3, hc3, hf⟩ := bs hf
    refine x_callS (rest := []) (n := 3) C (ct_M_in E F _ _ _ _ _  hc3) mi_M_in (by decide) wL_M_65 d_M_draft_14 rfl rfl (Nat.le_of_ble_eq_true rfl) ?_
    show X _ _ _ _ _ _ _ _ _ _ _ _ _ _ _ _ _ _ _ _ _ [.int c3]
    refine x_if_eq C 33 d_M_draft_17 (by decide) (fun g4 => ?_) (fun g4 => ?_)
    · replace hf := it g4 hf
      refine x_iconst (v := (-1)) C d_M_draft_33 rfl ?_
      cases hf
      exact x_iret C d_M_draft_34 rfl rfl
    · replace hf := ie g4 hf
      refine x_aload_n C d_M_draft_20 0 rfl ?_
      refine x_aload_n C d_M_draft_21 0 rfl ?_
      refine x_iload_n C d_M_draft_22 1 rfl ?_
      refine x_iload_n C d_M_draft_23 2 rfl ?_
      obtain ⟨c5, hc5, hf⟩ := bs hf
      refine x_callV (rest := [.ref (ad 100)]) (n := 2) C (ct_M_of E F _ _ _ _  hc5) mi_M_of (by decide) mc_100 ⟨_, cel_M kc_100⟩ rfl rfl wL_M_146 d_M_draft_24 rfl rfl (Nat.le_of_ble_eq_true rfl) ?_
      show X _ _ _ _ _ _ _ _ _ _ _ _ _ _ _ _ _ _ _ _ _ [.int c5, .ref (ad 100)]
      obtain ⟨c6, hc6, hf⟩ := bs hf
      refine x_callV (rest := []) (n := 1) C (ct_M_tell E F _ _ _  hc6) mi_M_tell (by decide) mc_100 ⟨_, cel_M kc_100⟩ rfl rfl wL_M_87 d_M_draft_27 rfl rfl (Nat.le_of_ble_eq_true rfl) ?_
      show X _ _ _ _ _ _ _ _ _ _ _ _ _ _ _ _ _ _ _ _ _ [.int c6.1]
      refine x_goto C 34 d_M_draft_30 (by decide) ?_
      cases hf
      exact x_iret C d_M_draft_34 rfl rfl
set_option maxHeartbeats 4000000 in
set_option maxRecDepth 100000 in
theorem ct_M_endorse {l : Launch} {D : va_G} {ad : Nat → Nat} {cs : Nat → ClassId} {A : Nat → Prop} (E : Ev ad cs A LM) (F : Nat) (M : Mem) (x1 : Int32) (x2 : Int32) (R : (Int32 × Mem))  (hf : M_endorse F M x1 x2 = some R) : Met l y_M_endorse (Cond.code y_M_endorse b_M_endorse 3 (some .int) :: wl) (rmD 2) (PX D ad cs A LM [.ref (ad 100), .int x1, .int x2] M) (QX D ad cs A LM (some (.int R.1)) R.2) 0 0 A := by
  refine x_enter (lv := [(0, .ref (ad 100)), (1, .int x1), (2, .int x2)]) E mi_M_endorse.1 (Nat.le_of_ble_eq_true rfl) rfl (fun p e s m args below meth c C => ?_)
  unfold M_endorse at hf
  refine x_aload_n C d_M_endorse_0 0 rfl ?_
  refine x_iload_n C d_M_endorse_1 1 rfl ?_
  obtain ⟨c1, hc1, hf⟩ := bs hf
  refine x_callV (rest := []) (n := 1) C (ct_M_isDraft E F _ _ _  hc1) mi_M_isDraft (by decide) mc_100 ⟨_, cel_M kc_100⟩ rfl rfl wL_M_179 d_M_endorse_2 rfl rfl (Nat.le_of_ble_eq_true rfl) ?_
  show X _ _ _ _ _ _ _ _ _ _ _ _ _ _ _ _ _ _ _ _ _ [.int c1]
  refine x_if_eq C 26 d_M_endorse_5 (by decide) (fun g2 => ?_) (fun g2 => ?_)
  · replace hf := it g2 hf
    refine x_iconst (v := (-1)) C d_M_endorse_26 rfl ?_
    cases hf
    exact x_iret C d_M_endorse_27 rfl rfl
  · replace hf := ie g2 hf
    refine x_aload_n C d_M_endorse_8 0 rfl ?_
    refine x_iload_n C d_M_endorse_9 2 rfl ?_
    obtain ⟨c3, hc3, hf⟩ := bs hf
    refine x_callV (rest := []) (n := 1) C (ct_M_isPerson E F _ _ _  hc3) mi_M_isPerson (by decide) mc_100 ⟨_, cel_M kc_100⟩ rfl rfl wL_M_143 d_M_endorse_10 rfl rfl (Nat.le_of_ble_eq_true rfl) ?_
    show X _ _ _ _ _ _ _ _ _ _ _ _ _ _ _ _ _ _ _ _ _ [.int c3]
    refine x_if_eq C 26 d_M_endorse_13 (by decide) (fun g4 => ?_) (fun g4 => ?_)
    · replace hf := it g4 hf
      refine x_iconst (v := (-1)) C d_M_endorse_26 rfl ?_
      cases hf
      exact x_iret C d_M_endorse_27 rfl rfl
    · replace hf := ie g4 hf
      refine x_aload_n C d_M_endorse_16 0 rfl ?_
      refine x_iload_n C d_M_endorse_17 1 rfl ?_
      refine x_iconst (v := 0) C d_M_endorse_18 rfl ?_
      obtain ⟨c5, hc5, hf⟩ := bs hf
      refine x_callV (rest := []) (n := 2) C (ct_M_of E F _ _ _ _  hc5) mi_M_of (by decide) mc_100 ⟨_, cel_M kc_100⟩ rfl rfl wL_M_146 d_M_endorse_19 rfl rfl (Nat.le_of_ble_eq_true rfl) ?_
      show X _ _ _ _ _ _ _ _ _ _ _ _ _ _ _ _ _ _ _ _ _ [.int c5]
      refine x_iload_n C d_M_endorse_22 2 rfl ?_
      refine x_icmp_ne C 28 d_M_endorse_23 (by decide) (fun g6 => ?_) (fun g6 => ?_)
      · replace hf := ie g6 hf
        refine x_aload_n C d_M_endorse_28 0 rfl ?_
        refine x_iload_n C d_M_endorse_29 1 rfl ?_
        obtain ⟨c7, hc7, hf⟩ := bs hf
        refine x_callV (rest := []) (n := 1) C (ct_M_isOpen E F _ _ _  hc7) mi_M_isOpen (by decide) mc_100 ⟨_, cel_M kc_100⟩ rfl rfl wL_M_156 d_M_endorse_30 rfl rfl (Nat.le_of_ble_eq_true rfl) ?_
        show X _ _ _ _ _ _ _ _ _ _ _ _ _ _ _ _ _ _ _ _ _ [.int c7]
        refine x_if_eq C 56 d_M_endorse_33 (by decide) (fun g8 => ?_) (fun g8 => ?_)
        · replace hf := it g8 hf
          refine x_bipush (v := (-4)) C d_M_endorse_56 rfl ?_
          cases hf
          exact x_iret C d_M_endorse_58 rfl rfl
        · replace hf := ie g8 hf
          refine x_aload_n C d_M_endorse_36 0 rfl ?_
          refine x_iload_n C d_M_endorse_37 1 rfl ?_
          refine x_iconst (v := 5) C d_M_endorse_38 rfl ?_
          obtain ⟨c9, hc9, hf⟩ := bs hf
          refine x_callV (rest := []) (n := 2) C (ct_M_of E F _ _ _ _  hc9) mi_M_of (by decide) mc_100 ⟨_, cel_M kc_100⟩ rfl rfl wL_M_146 d_M_endorse_39 rfl rfl (Nat.le_of_ble_eq_true rfl) ?_
          show X _ _ _ _ _ _ _ _ _ _ _ _ _ _ _ _ _ _ _ _ _ [.int c9]
          refine x_iconst (v := 2) C d_M_endorse_42 rfl ?_
          refine x_icmp_eq C 56 d_M_endorse_43 (by decide) (fun g10 => ?_) (fun g10 => ?_)
          · replace hf := it g10 hf
            refine x_bipush (v := (-4)) C d_M_endorse_56 rfl ?_
            cases hf
            exact x_iret C d_M_endorse_58 rfl rfl
          · replace hf := ie g10 hf
            refine x_aload_n C d_M_endorse_46 0 rfl ?_
            refine x_iload_n C d_M_endorse_47 1 rfl ?_
            refine x_iconst (v := 1) C d_M_endorse_48 rfl ?_
            obtain ⟨c11, hc11, hf⟩ := bs hf
            refine x_callV (rest := []) (n := 2) C (ct_M_of E F _ _ _ _  hc11) mi_M_of (by decide) mc_100 ⟨_, cel_M kc_100⟩ rfl rfl wL_M_146 d_M_endorse_49 rfl rfl (Nat.le_of_ble_eq_true rfl) ?_
            show X _ _ _ _ _ _ _ _ _ _ _ _ _ _ _ _ _ _ _ _ _ [.int c11]
            refine x_iload_n C d_M_endorse_52 2 rfl ?_
            refine x_icmp_ne C 59 d_M_endorse_53 (by decide) (fun g12 => ?_) (fun g12 => ?_)
            · replace hf := ie g12 hf
              refine x_aload_n C d_M_endorse_59 0 rfl ?_
              obtain ⟨c13, hc13, hf⟩ := bs hf
              refine x_callV (rest := []) (n := 0) C (ct_M_isFull E F _ _  hc13) mi_M_isFull (by decide) mc_100 ⟨_, cel_M kc_100⟩ rfl rfl wL_M_207 d_M_endorse_60 rfl rfl (Nat.le_of_ble_eq_true rfl) ?_
              show X _ _ _ _ _ _ _ _ _ _ _ _ _ _ _ _ _ _ _ _ _ [.int c13]
              refine x_if_eq C 69 d_M_endorse_63 (by decide) (fun g14 => ?_) (fun g14 => ?_)
              · replace hf := it g14 hf
                refine x_aload_n C d_M_endorse_69 0 rfl ?_
                obtain ⟨c15, hc15, hf⟩ := bs hf
                refine x_callV (rest := []) (n := 0) C (ct_M_keepPast E F _ _  hc15) mi_M_keepPast (by decide) mc_100 ⟨_, cel_M kc_100⟩ rfl rfl wL_M_210 d_M_endorse_70 rfl rfl (Nat.le_of_ble_eq_true rfl) ?_
                show X _ _ _ _ _ _ _ _ _ _ _ _ _ _ _ _ _ _ _ _ _ []
                refine x_aload_n C d_M_endorse_73 0 rfl ?_
                refine xg_M_row C wF_M_7 mc_100 kc_100 d_M_endorse_74 ?_
                refine x_iconst (v := 2) C d_M_endorse_77 rfl ?_
                refine x_bipush (v := 6) C d_M_endorse_78 rfl ?_
                refine x_iload_n C d_M_endorse_80 1 rfl ?_
                refine x_imul C d_M_endorse_81 ?_
                refine x_iadd C d_M_endorse_82 ?_
                refine x_iconst (v := 1) C d_M_endorse_83 rfl ?_
                refine x_iadd C d_M_endorse_84 ?_
                refine x_iload_n C d_M_endorse_85 2 rfl ?_
                obtain ⟨M16, hM16, hf⟩ := bs hf
                refine x_iast C hM16 mc_101 kc_101 d_M_endorse_86 ?_
                refine x_aload_n C d_M_endorse_87 0 rfl ?_
                refine xg_M_row C wF_M_7 mc_100 kc_100 d_M_endorse_88 ?_
                refine x_iconst (v := 2) C d_M_endorse_91 rfl ?_
                refine x_bipush (v := 6) C d_M_endorse_92 rfl ?_
                refine x_iload_n C d_M_endorse_94 1 rfl ?_
                refine x_imul C d_M_endorse_95 ?_
                refine x_iadd C d_M_endorse_96 ?_
                refine x_iconst (v := 5) C d_M_endorse_97 rfl ?_
                refine x_iadd C d_M_endorse_98 ?_
                refine x_dup2 C d_M_endorse_99 rfl rfl ?_
                obtain ⟨t17, ht17, hf⟩ := bs hf
                refine x_iald C ht17 mc_101 kc_101 d_M_endorse_100 ?_
                refine x_iconst (v := 1) C d_M_endorse_101 rfl ?_
                refine x_iadd C d_M_endorse_102 ?_
                obtain ⟨M18, hM18, hf⟩ := bs hf
                refine x_iast C hM18 mc_101 kc_101 d_M_endorse_103 ?_
                refine x_aload_n C d_M_endorse_104 0 rfl ?_
                refine x_iload_n C d_M_endorse_105 1 rfl ?_
                refine x_iconst (v := 5) C d_M_endorse_106 rfl ?_
                obtain ⟨c19, hc19, hf⟩ := bs hf
                refine x_callV (rest := []) (n := 2) C (ct_M_of E F _ _ _ _  hc19) mi_M_of (by decide) mc_100 ⟨_, cel_M kc_100⟩ rfl rfl wL_M_146 d_M_endorse_107 rfl rfl (Nat.le_of_ble_eq_true rfl) ?_
                show X _ _ _ _ _ _ _ _ _ _ _ _ _ _ _ _ _ _ _ _ _ [.int c19]
                cases hf
                exact x_iret C d_M_endorse_110 rfl rfl
              · replace hf := ie g14 hf
                refine x_bipush (v := (-2)) C d_M_endorse_66 rfl ?_
                cases hf
                exact x_iret C d_M_endorse_68 rfl rfl
            · replace hf := it g12 hf
              refine x_bipush (v := (-4)) C d_M_endorse_56 rfl ?_
              cases hf
              exact x_iret C d_M_endorse_58 rfl rfl
      · replace hf := it g6 hf
        refine x_iconst (v := (-1)) C d_M_endorse_26 rfl ?_
        cases hf
        exact x_iret C d_M_endorse_27 rfl rfl
set_option maxHeartbeats 4000000 in
set_option maxRecDepth 100000 in
theorem lw_M_fallen_22 {p : Program} {l : Launch} {e : Env} {s : State} {m : MethodId} {args : Array Value} {below : List Frame} {meth : Method} {c : Code} {D : va_G} {ad : Nat → Nat} {cs : Nat → ClassId} {A : Nat → Prop} {V : Option Value} {N : Mem} (E : Ev ad cs A LM) (C : Cx p s m args meth c "KissClearingModel" b_M_fallen 8 (some .int) D ad cs A LM) (F : Nat) (M : Mem) (x1 : Int32) (x2 : Int32) (x3 : Int32) (x5 : Int32) : ∀ (n : Nat) (x4 : Int32) (x6 : Int32) (u : Int32), L_M_fallen_22 F M x1 x2 x3 x5 n x4 x6 = some u → X p l e 3 s m args below meth c 8 D ad cs A LM V N M 90 [(0, .ref (ad 100)), (1, .int x1), (2, .int x2), (3, .int x3), (4, .int u), (5, .int x5)] [] → X p l e 3 s m args below meth c 8 D ad cs A LM V N M 22 [(0, .ref (ad 100)), (1, .int x1), (2, .int x2), (3, .int x3), (4, .int x4), (5, .int x5), (6, .int x6)] [] := by
  intro n
  induction n with
  | zero => intro x4 x6 u hf; cases hf
  | succ n ih =>
    intro x4 x6 u hf K
    replace hf : B_M_fallen_22 F M x1 x2 x3 x5 (L_M_fallen_22 F M x1 x2 x3 x5 n) x4 x6 = some u := hf
    unfold B_M_fallen_22 at hf
    refine x_iload C d_M_fallen_22 6 rfl ?_
    refine x_aload_n C d_M_fallen_24 0 rfl ?_
    refine xg_M_persons C wF_M_136 mc_100 kc_100 d_M_fallen_25 ?_
    refine x_icmp_ge C 90 d_M_fallen_28 (by decide) (fun g2 => ?_) (fun g2 => ?_)
    · replace hf := it g2 hf
      cases hf
      exact x_sub [0, 1, 2, 3, 4, 5] rfl K
    · replace hf := ie g2 hf
      refine x_aload_n C d_M_fallen_31 0 rfl ?_
      refine x_iload C d_M_fallen_32 6 rfl ?_
      refine x_iload C d_M_fallen_34 5 rfl ?_
      obtain ⟨c3, hc3, hf⟩ := bs hf
      refine x_callV (rest := []) (n := 2) C (ct_M_owed E F _ _ _ _  hc3) mi_M_owed (by decide) mc_100 ⟨_, cel_M kc_100⟩ rfl rfl wL_M_165 d_M_fallen_36 rfl rfl (Nat.le_of_ble_eq_true rfl) ?_
      show X _ _ _ _ _ _ _ _ _ _ _ _ _ _ _ _ _ _ _ _ _ [.int c3]
      refine x_aload_n C d_M_fallen_39 0 rfl ?_
      refine x_iload C d_M_fallen_40 6 rfl ?_
      obtain ⟨c4, hc4, hf⟩ := bs hf
      refine x_callV (rest := [.int c3]) (n := 1) C (ct_M_reserve E F _ _ _  hc4) mi_M_reserve (by decide) mc_100 ⟨_, cel_M kc_100⟩ rfl rfl wL_M_168 d_M_fallen_42 rfl rfl (Nat.le_of_ble_eq_true rfl) ?_
      show X _ _ _ _ _ _ _ _ _ _ _ _ _ _ _ _ _ _ _ _ _ [.int c4, .int c3]
      refine x_iadd C d_M_fallen_45 ?_
      refine x_iload C d_M_fallen_46 6 rfl ?_
      refine x_iload_n C d_M_fallen_48 2 rfl ?_
      obtain ⟨j5, hj5, hf⟩ := bs hf
      have Jj5 : X p l e 3 s m args below meth c 8 D ad cs A LM V N M 57 [(0, .ref (ad 100)), (1, .int x1), (2, .int x2), (3, .int x3), (4, .int x4), (5, .int x5), (6, .int x6)] [.int j5, .int (c3 + c4)] := by
        refine x_iadd C d_M_fallen_57 ?_
        refine x_istore (lv' := [(7, .int ((c3 + c4) + j5)), (0, .ref (ad 100)), (1, .int x1), (2, .int x2), (3, .int x3), (4, .int x4), (5, .int x5), (6, .int x6)]) C d_M_fallen_58 (by decide) rfl ?_
        refine x_iload C d_M_fallen_60 5 rfl ?_
        refine x_aload_n C d_M_fallen_62 1 rfl ?_
        refine x_iload C d_M_fallen_63 7 rfl ?_
        obtain ⟨c6, hc6, hf⟩ := bs hf
        refine x_callV (rest := [.int x4]) (n := 1) C (ct_M_owing E F _ _ _  hc6) mi_M_owing (by decide) mc_100 ⟨_, cel_M kc_100⟩ rfl rfl wL_M_162 d_M_fallen_65 rfl rfl (Nat.le_of_ble_eq_true rfl) ?_
        show X _ _ _ _ _ _ _ _ _ _ _ _ _ _ _ _ _ _ _ _ _ [.int c6, .int x4]
        refine x_iload C d_M_fallen_68 0 rfl ?_
        refine x_icmp_le C 80 d_M_fallen_70 (by decide) (fun g7 => ?_) (fun g7 => ?_)
        · replace hf := it g7 hf
          refine x_iconst (v := 0) C d_M_fallen_80 rfl ?_
          refine x_ior C d_M_fallen_81 ?_
          refine x_istore (lv' := [(4, .int (x4 ||| 0)), (7, .int ((c3 + c4) + j5)), (0, .ref (ad 100)), (1, .int x1), (2, .int x2), (3, .int x3), (5, .int x5), (6, .int x6)]) C d_M_fallen_82 (by decide) rfl ?_
          refine x_iinc (v := (x6 + 1)) (lv' := [(6, .int (x6 + 1)), (4, .int (x4 ||| 0)), (7, .int ((c3 + c4) + j5)), (0, .ref (ad 100)), (1, .int x1), (2, .int x2), (3, .int x3), (5, .int x5)]) C d_M_fallen_84 7 rfl rfl (by decide) rfl ?_
          refine x_goto C 22 d_M_fallen_87 (by decide) ?_
          refine x_sub [3, 4, 5, 6, 1, 7, 0] rfl ?_
          exact ih _ _ _ hf K
        · replace hf := ie g7 hf
          refine x_iconst (v := 1) C d_M_fallen_73 rfl ?_
          refine x_iload C d_M_fallen_74 7 rfl ?_
          refine x_ishl C d_M_fallen_76 ?_
          refine x_goto C 81 d_M_fallen_77 (by decide) ?_
          refine x_ior C d_M_fallen_81 ?_
          refine x_istore (lv' := [(4, .int (x4 ||| (1 <<< (x6 &&& 31)))), (7, .int ((c3 + c4) + j5)), (0, .ref (ad 100)), (1, .int x1), (2, .int x2), (3, .int x3), (5, .int x5), (6, .int x6)]) C d_M_fallen_82 (by decide) rfl ?_
          refine x_iinc (v := (x6 + 1)) (lv' := [(6, .int (x6 + 1)), (4, .int (x4 ||| (1 <<< (x6 &&& 31)))), (7, .int ((c3 + c4) + j5)), (0, .ref (ad 100)), (1, .int x1), (2, .int x2), (3, .int x3), (5, .int x5)]) C d_M_fallen_84 7 rfl rfl (by decide) rfl ?_
          refine x_goto C 22 d_M_fallen_87 (by decide) ?_
          refine x_sub [3, 4, 5, 6, 1, 7, 0] rfl ?_
          exact ih _ _ _ hf K
      replace hf := hj5
      refine x_icmp_ne C 56 d_M_fallen_49 (by decide) (fun g8 => ?_) (fun g8 => ?_)
      · replace hf := ie g8 hf
        refine x_iconst (v := 0) C d_M_fallen_56 rfl ?_
        cases hf
        exact x_sub [0, 1, 2, 3, 4, 5, 6] rfl Jj5
      · replace hf := it g8 hf
        refine x_iload_n C d_M_fallen_52 3 rfl ?_
        refine x_goto C 57 d_M_fallen_53 (by decide) ?_
        cases hf
        exact x_sub [0, 1, 2, 3, 4, 5, 6] rfl Jj5
set_option maxHeartbeats 4000000 in
set_option maxRecDepth 100000 in
theorem lw_M_fallen_8 {p : Program} {l : Launch} {e : Env} {s : State} {m : MethodId} {args : Array Value} {below : List Frame} {meth : Method} {c : Code} {D : va_G} {ad : Nat → Nat} {cs : Nat → ClassId} {A : Nat → Prop} {V : Option Value} {N : Mem} (E : Ev ad cs A LM) (C : Cx p s m args meth c "KissClearingModel" b_M_fallen 8 (some .int) D ad cs A LM) (F : Nat) (M : Mem) (x1 : Int32) (x2 : Int32) (x3 : Int32) : ∀ (n : Nat) (x4 : Int32) (x5 : Int32) (u : Int32), L_M_fallen_8 F M x1 x2 x3 n x4 x5 = some u → X p l e 3 s m args below meth c 8 D ad cs A LM V N M 93 [(1, .int x1), (4, .int u)] [] → X p l e 3 s m args below meth c 8 D ad cs A LM V N M 8 [(0, .ref (ad 100)), (1, .int x1), (2, .int x2), (3, .int x3), (4, .int x4), (5, .int x5)] [] := by
  intro n
  induction n with
  | zero => intro x4 x5 u hf; cases hf
  | succ n ih =>
    intro x4 x5 u hf K
    replace hf : B_M_fallen_8 F M x1 x2 x3 (L_M_fallen_8 F M x1 x2 x3 n) x4 x5 = some u := hf
    unfold B_M_fallen_8 at hf
    refine x_iload C d_M_fallen_8 4 rfl ?_
    refine x_iload C d_M_fallen_10 5 rfl ?_
    refine x_icmp_eq C 93 d_M_fallen_12 (by decide) (fun g1 => ?_) (fun g1 => ?_)
    · replace hf := it g1 hf
      cases hf
      exact x_sub [1, 4] rfl K
    · replace hf := ie g1 hf
      refine x_iload C d_M_fallen_15 4 rfl ?_
      refine x_istore (lv' := [(5, .int x4), (0, .ref (ad 100)), (1, .int x1), (2, .int x2), (3, .int x3), (4, .int x4)]) C d_M_fallen_17 (by decide) rfl ?_
      refine x_iconst (v := 0) C d_M_fallen_19 rfl ?_
      refine x_istore (lv' := [(6, .int 0), (5, .int x4), (0, .ref (ad 100)), (1, .int x1), (2, .int x2), (3, .int x3), (4, .int x4)]) C d_M_fallen_20 (by decide) rfl ?_
      obtain ⟨u9, hu9, hf⟩ := bs hf
      refine x_sub [2, 3, 4, 5, 6, 1, 0] rfl ?_
      refine lw_M_fallen_22 E C F _ _ _ _ _ _ _ _ _ hu9 ?_
      refine x_goto C 8 d_M_fallen_90 (by decide) ?_
      refine x_sub [0, 1, 2, 3, 4, 5] rfl ?_
      exact ih _ _ _ hf K
set_option maxHeartbeats 4000000 in
set_option maxRecDepth 100000 in
theorem ct_M_fallen {l : Launch} {D : va_G} {ad : Nat → Nat} {cs : Nat → ClassId} {A : Nat → Prop} (E : Ev ad cs A LM) (F : Nat) (M : Mem) (x1 : Int32) (x2 : Int32) (x3 : Int32) (R : Int32)  (hf : M_fallen F M x1 x2 x3 = some R) : Met l y_M_fallen (Cond.code y_M_fallen b_M_fallen 8 (some .int) :: wl) (rmD 3) (PX D ad cs A LM [.ref (ad 100), .int x1, .int x2, .int x3] M) (QX D ad cs A LM (some (.int R)) M) 0 0 A := by
  refine x_enter (lv := [(0, .ref (ad 100)), (1, .int x1), (2, .int x2), (3, .int x3)]) E mi_M_fallen.1 (Nat.le_of_ble_eq_true rfl) rfl (fun p e s m args below meth c C => ?_)
  unfold M_fallen at hf
  refine x_iconst (v := 1) C d_M_fallen_0 rfl ?_
  refine x_iload_n C d_M_fallen_1 1 rfl ?_
  refine x_ishl C d_M_fallen_2 ?_
  refine x_istore (lv' := [(4, .int (1 <<< (x1 &&& 31))), (0, .ref (ad 100)), (1, .int x1), (2, .int x2), (3, .int x3)]) C d_M_fallen_3 (by decide) rfl ?_
  refine x_iconst (v := 0) C d_M_fallen_5 rfl ?_
  refine x_istore (lv' := [(5, .int 0), (4, .int (1 <<< (x1 &&& 31))), (0, .ref (ad 100)), (1, .int x1), (2, .int x2), (3, .int x3)]) C d_M_fallen_6 (by decide) rfl ?_
  obtain ⟨u10, hu10, hf⟩ := bs hf
  refine x_sub [2, 3, 4, 5, 1, 0] rfl ?_
  refine lw_M_fallen_8 E C F _ _ _ _ _ _ _ _ hu10 ?_
  refine x_iload C d_M_fallen_93 1 rfl ?_
  refine x_iconst (v := 1) C d_M_fallen_95 rfl ?_
  refine x_iload_n C d_M_fallen_96 0 rfl ?_
  refine x_ishl C d_M_fallen_97 ?_
  refine x_iconst (v := (-1)) C d_M_fallen_98 rfl ?_
  refine x_ixor C d_M_fallen_99 ?_
  refine x_iand C d_M_fallen_100 ?_
  cases hf
  exact x_iret C d_M_fallen_101 rfl rfl
set_option maxHeartbeats 4000000 in
set_option maxRecDepth 100000 in
theorem ct_M_falls {l : Launch} {D : va_G} {ad : Nat → Nat} {cs : Nat → ClassId} {A : Nat → Prop} (E : Ev ad cs A LM) (F : Nat) (M : Mem) (x1 : Int32) (R : Int32)  (hf : M_falls F M x1 = some R) : Met l y_M_falls (Cond.code y_M_falls b_M_falls 2 (some .int) :: wl) (rmD 4) (PX D ad cs A LM [.ref (ad 100), .int x1] M) (QX D ad cs A LM (some (.int R)) M) 0 0 A := by
  refine x_enter (lv := [(0, .ref (ad 100)), (1, .int x1)]) E mi_M_falls.1 (Nat.le_of_ble_eq_true rfl) rfl (fun p e s m args below meth c C => ?_)
  unfold M_falls at hf
  refine x_aload_n C d_M_falls_0 0 rfl ?_
  refine x_iload_n C d_M_falls_1 1 rfl ?_
  obtain ⟨c1, hc1, hf⟩ := bs hf
  refine x_callV (rest := []) (n := 1) C (ct_M_isPerson E F _ _ _  hc1) mi_M_isPerson (by decide) mc_100 ⟨_, cel_M kc_100⟩ rfl rfl wL_M_143 d_M_falls_2 rfl rfl (Nat.le_of_ble_eq_true rfl) ?_
  show X _ _ _ _ _ _ _ _ _ _ _ _ _ _ _ _ _ _ _ _ _ [.int c1]
  refine x_if_eq C 19 d_M_falls_5 (by decide) (fun g2 => ?_) (fun g2 => ?_)
  · replace hf := it g2 hf
    refine x_iconst (v := (-1)) C d_M_falls_19 rfl ?_
    cases hf
    exact x_iret C d_M_falls_20 rfl rfl
  · replace hf := ie g2 hf
    refine x_aload_n C d_M_falls_8 0 rfl ?_
    refine x_iload_n C d_M_falls_9 1 rfl ?_
    refine x_bipush (v := (-9)) C d_M_falls_10 rfl ?_
    refine x_iconst (v := 0) C d_M_falls_12 rfl ?_
    obtain ⟨c3, hc3, hf⟩ := bs hf
    refine x_callV (rest := []) (n := 3) C (ct_M_fallen E F _ _ _ _ _  hc3) mi_M_fallen (by decide) mc_100 ⟨_, cel_M kc_100⟩ rfl rfl wL_M_274 d_M_falls_13 rfl rfl (Nat.le_of_ble_eq_true rfl) ?_
    show X _ _ _ _ _ _ _ _ _ _ _ _ _ _ _ _ _ _ _ _ _ [.int c3]
    refine x_goto C 20 d_M_falls_16 (by decide) ?_
    cases hf
    exact x_iret C d_M_falls_20 rfl rfl
set_option maxHeartbeats 4000000 in
set_option maxRecDepth 100000 in
theorem ct_M_isText {l : Launch} {D : va_G} {ad : Nat → Nat} {cs : Nat → ClassId} {A : Nat → Prop} (E : Ev ad cs A LM) (F : Nat) (M : Mem) (x0 : Int32) (R : Int32)  (hf : M_isText F M x0 = some R) : Met l y_M_isText (Cond.code y_M_isText b_M_isText 1 (some .boolean) :: wl) (rmD 1) (PX D ad cs A LM [.int x0] M) (QX D ad cs A LM (some (.int R)) M) 0 0 A := by
  refine x_enter (lv := [(0, .int x0)]) E mi_M_isText.1 (Nat.le_of_ble_eq_true rfl) rfl (fun p e s m args below meth c C => ?_)
  unfold M_isText at hf
  refine x_iload_n C d_M_isText_0 0 rfl ?_
  refine x_i2l C d_M_isText_1 ?_
  refine x_lconst (v := 0) C d_M_isText_2 rfl ?_
  refine x_ldc2 C wJ_M_69 d_M_isText_3 ?_
  obtain ⟨c1, hc1, hf⟩ := bs hf
  refine x_callS (rest := []) (n := 3) C (ct_M_in E F _ _ _ _ _  hc1) mi_M_in (by decide) wL_M_65 d_M_isText_6 rfl rfl (Nat.le_of_ble_eq_true rfl) ?_
  show X _ _ _ _ _ _ _ _ _ _ _ _ _ _ _ _ _ _ _ _ _ [.int c1]
  obtain ⟨t2, ht2, hf⟩ := bs hf
  obtain ⟨hb, hq⟩ := gd ht2
  cases hf
  exact x_zret C d_M_isText_9 hb (congrArg (fun z => some (Value.int z)) hq) rfl
set_option maxHeartbeats 4000000 in
set_option maxRecDepth 100000 in
theorem ct_M_here {l : Launch} {D : va_G} {ad : Nat → Nat} {cs : Nat → ClassId} {A : Nat → Prop} (E : Ev ad cs A LM) (F : Nat) (M : Mem)  (R : Int32)  (hf : M_here F M = some R) : Met l y_M_here (Cond.code y_M_here b_M_here 1 (some .int) :: wl) (rmD 0) (PX D ad cs A LM [.ref (ad 100)] M) (QX D ad cs A LM (some (.int R)) M) 0 0 A := by
  refine x_enter (lv := [(0, .ref (ad 100))]) E mi_M_here.1 (Nat.le_of_ble_eq_true rfl) rfl (fun p e s m args below meth c C => ?_)
  unfold M_here at hf
  refine x_aload_n C d_M_here_0 0 rfl ?_
  refine xg_M_bytes C wF_M_25 mc_100 kc_100 d_M_here_1 ?_
  refine x_aload_n C d_M_here_4 0 rfl ?_
  refine xg_M_from C wF_M_97 mc_100 kc_100 d_M_here_5 ?_
  refine x_aload_n C d_M_here_8 0 rfl ?_
  refine xg_M_place C wF_M_100 mc_100 kc_100 d_M_here_9 ?_
  refine x_iadd C d_M_here_12 ?_
  obtain ⟨t1, ht1, hf⟩ := bs hf
  refine x_iald C ht1 mc_106 kc_106 d_M_here_13 ?_
  cases hf
  exact x_iret C d_M_here_14 rfl rfl
set_option maxHeartbeats 4000000 in
set_option maxRecDepth 100000 in
theorem lw_M_skip_0 {p : Program} {l : Launch} {e : Env} {s : State} {m : MethodId} {args : Array Value} {below : List Frame} {meth : Method} {c : Code} {D : va_G} {ad : Nat → Nat} {cs : Nat → ClassId} {A : Nat → Prop} {V : Option Value} {N : Mem} (E : Ev ad cs A LM) (C : Cx p s m args meth c "KissClearingModel" b_M_skip 1 none D ad cs A LM) (F : Nat)  : ∀ (n : Nat) (M : Mem) (u : Mem), L_M_skip_0 F n M = some u → X p l e 1 s m args below meth c 1 D ad cs A LM V N u 33 [] [] → X p l e 1 s m args below meth c 1 D ad cs A LM V N M 0 [(0, .ref (ad 100))] [] := by
  intro n
  induction n with
  | zero => intro M u hf; cases hf
  | succ n ih =>
    intro M u hf K
    replace hf : B_M_skip_0 F (L_M_skip_0 F n) M = some u := hf
    unfold B_M_skip_0 at hf
    refine x_aload_n C d_M_skip_0 0 rfl ?_
    refine xg_M_place C wF_M_100 mc_100 kc_100 d_M_skip_1 ?_
    refine x_aload_n C d_M_skip_4 0 rfl ?_
    refine xg_M_end C wF_M_103 mc_100 kc_100 d_M_skip_5 ?_
    refine x_icmp_ge C 33 d_M_skip_8 (by decide) (fun g1 => ?_) (fun g1 => ?_)
    · replace hf := it g1 hf
      cases hf
      exact x_sub [] rfl K
    · replace hf := ie g1 hf
      refine x_aload_n C d_M_skip_11 0 rfl ?_
      obtain ⟨c2, hc2, hf⟩ := bs hf
      refine x_callV (rest := []) (n := 0) C (ct_M_here E F _ _  hc2) mi_M_here (by decide) mc_100 ⟨_, cel_M kc_100⟩ rfl rfl wL_M_106 d_M_skip_12 rfl rfl (Nat.le_of_ble_eq_true rfl) ?_
      show X _ _ _ _ _ _ _ _ _ _ _ _ _ _ _ _ _ _ _ _ _ [.int c2]
      refine x_bipush (v := 32) C d_M_skip_15 rfl ?_
      refine x_icmp_ne C 33 d_M_skip_17 (by decide) (fun g3 => ?_) (fun g3 => ?_)
      · replace hf := ie g3 hf
        cases hf
        exact x_sub [] rfl K
      · replace hf := it g3 hf
        refine x_aload_n C d_M_skip_20 0 rfl ?_
        refine x_dup C d_M_skip_21 rfl ?_
        refine xg_M_place C wF_M_100 mc_100 kc_100 d_M_skip_22 ?_
        refine x_iconst (v := 1) C d_M_skip_25 rfl ?_
        refine x_iadd C d_M_skip_26 ?_
        refine xp_M_place (x := ((M 100 13) + 1)) C wF_M_100 mc_100 kc_100 d_M_skip_27 ?_
        refine x_goto C 0 d_M_skip_30 (by decide) ?_
        refine x_sub [0] rfl ?_
        exact ih _ _ hf K
set_option maxHeartbeats 4000000 in
set_option maxRecDepth 100000 in
theorem ct_M_skip {l : Launch} {D : va_G} {ad : Nat → Nat} {cs : Nat → ClassId} {A : Nat → Prop} (E : Ev ad cs A LM) (F : Nat) (M : Mem)  (R : Mem)  (hf : M_skip F M = some R) : Met l y_M_skip (Cond.code y_M_skip b_M_skip 1 none :: wl) (rmD 1) (PX D ad cs A LM [.ref (ad 100)] M) (QX D ad cs A LM (none) R) 0 0 A := by
  refine x_enter (lv := [(0, .ref (ad 100))]) E mi_M_skip.1 (Nat.le_of_ble_eq_true rfl) rfl (fun p e s m args below meth c C => ?_)
  unfold M_skip at hf
  obtain ⟨u4, hu4, hf⟩ := bs hf
  refine x_sub [0] rfl ?_
  refine lw_M_skip_0 E C F _ _ _ hu4 ?_
  cases hf
  exact x_vret C d_M_skip_33 rfl rfl
set_option maxHeartbeats 4000000 in
set_option maxRecDepth 100000 in
theorem ct_M_figure {l : Launch} {D : va_G} {ad : Nat → Nat} {cs : Nat → ClassId} {A : Nat → Prop} (E : Ev ad cs A LM) (F : Nat) (M : Mem) (x1 : Int32) (x2 : Int32) (x3 : Int32) (R : (Int32 × Mem))  (hf : M_figure F M x1 x2 x3 = some R) : Met l y_M_figure (Cond.code y_M_figure b_M_figure 4 (some .int) :: wl) (rmD 1) (PX D ad cs A LM [.ref (ad 100), .int x1, .int x2, .int x3] M) (QX D ad cs A LM (some (.int R.1)) R.2) 0 0 A := by
  refine x_enter (lv := [(0, .ref (ad 100)), (1, .int x1), (2, .int x2), (3, .int x3)]) E mi_M_figure.1 (Nat.le_of_ble_eq_true rfl) rfl (fun p e s m args below meth c C => ?_)
  unfold M_figure at hf
  refine x_aload_n C d_M_figure_0 0 rfl ?_
  refine xg_M_place C wF_M_100 mc_100 kc_100 d_M_figure_1 ?_
  refine x_aload_n C d_M_figure_4 0 rfl ?_
  refine xg_M_end C wF_M_103 mc_100 kc_100 d_M_figure_5 ?_
  refine x_icmp_eq C 43 d_M_figure_8 (by decide) (fun g1 => ?_) (fun g1 => ?_)
  · replace hf := it g1 hf
    refine x_bipush (v := (-9)) C d_M_figure_43 rfl ?_
    cases hf
    exact x_iret C d_M_figure_45 rfl rfl
  · replace hf := ie g1 hf
    refine x_aload_n C d_M_figure_11 0 rfl ?_
    obtain ⟨c2, hc2, hf⟩ := bs hf
    refine x_callV (rest := []) (n := 0) C (ct_M_here E F _ _  hc2) mi_M_here (by decide) mc_100 ⟨_, cel_M kc_100⟩ rfl rfl wL_M_106 d_M_figure_12 rfl rfl (Nat.le_of_ble_eq_true rfl) ?_
    show X _ _ _ _ _ _ _ _ _ _ _ _ _ _ _ _ _ _ _ _ _ [.int c2]
    refine x_i2l C d_M_figure_15 ?_
    refine x_bipush (v := 48) C d_M_figure_16 rfl ?_
    refine x_iload_n C d_M_figure_18 1 rfl ?_
    refine x_iadd C d_M_figure_19 ?_
    refine x_i2l C d_M_figure_20 ?_
    refine x_bipush (v := 48) C d_M_figure_21 rfl ?_
    refine x_iload_n C d_M_figure_23 2 rfl ?_
    refine x_iadd C d_M_figure_24 ?_
    refine x_i2l C d_M_figure_25 ?_
    obtain ⟨c3, hc3, hf⟩ := bs hf
    refine x_callS (rest := []) (n := 3) C (ct_M_in E F _ _ _ _ _  hc3) mi_M_in (by decide) wL_M_65 d_M_figure_26 rfl rfl (Nat.le_of_ble_eq_true rfl) ?_
    show X _ _ _ _ _ _ _ _ _ _ _ _ _ _ _ _ _ _ _ _ _ [.int c3]
    refine x_if_eq C 43 d_M_figure_29 (by decide) (fun g4 => ?_) (fun g4 => ?_)
    · replace hf := it g4 hf
      refine x_bipush (v := (-9)) C d_M_figure_43 rfl ?_
      cases hf
      exact x_iret C d_M_figure_45 rfl rfl
    · replace hf := ie g4 hf
      refine x_aload_n C d_M_figure_32 0 rfl ?_
      obtain ⟨c5, hc5, hf⟩ := bs hf
      refine x_callV (rest := []) (n := 0) C (ct_M_here E F _ _  hc5) mi_M_here (by decide) mc_100 ⟨_, cel_M kc_100⟩ rfl rfl wL_M_106 d_M_figure_33 rfl rfl (Nat.le_of_ble_eq_true rfl) ?_
      show X _ _ _ _ _ _ _ _ _ _ _ _ _ _ _ _ _ _ _ _ _ [.int c5]
      refine x_bipush (v := 48) C d_M_figure_36 rfl ?_
      refine x_isub C d_M_figure_38 ?_
      refine x_iload_n C d_M_figure_39 3 rfl ?_
      refine x_icmp_ne C 46 d_M_figure_40 (by decide) (fun g6 => ?_) (fun g6 => ?_)
      · replace hf := ie g6 hf
        refine x_aload_n C d_M_figure_46 0 rfl ?_
        refine x_dup C d_M_figure_47 rfl ?_
        refine xg_M_place C wF_M_100 mc_100 kc_100 d_M_figure_48 ?_
        refine x_iconst (v := 1) C d_M_figure_51 rfl ?_
        refine x_iadd C d_M_figure_52 ?_
        refine xp_M_place (x := ((M 100 13) + 1)) C wF_M_100 mc_100 kc_100 d_M_figure_53 ?_
        refine x_aload_n C d_M_figure_56 0 rfl ?_
        refine xg_M_bytes C wF_M_25 mc_100 kc_100 d_M_figure_57 ?_
        refine x_aload_n C d_M_figure_60 0 rfl ?_
        refine xg_M_from C wF_M_97 mc_100 kc_100 d_M_figure_61 ?_
        refine x_aload_n C d_M_figure_64 0 rfl ?_
        refine xg_M_place C wF_M_100 mc_100 kc_100 d_M_figure_65 ?_
        refine x_iadd C d_M_figure_68 ?_
        refine x_iconst (v := 1) C d_M_figure_69 rfl ?_
        refine x_isub C d_M_figure_70 ?_
        obtain ⟨t7, ht7, hf⟩ := bs hf
        refine x_iald C ht7 mc_106 kc_106 d_M_figure_71 ?_
        refine x_bipush (v := 48) C d_M_figure_72 rfl ?_
        refine x_isub C d_M_figure_74 ?_
        cases hf
        exact x_iret C d_M_figure_75 rfl rfl
      · replace hf := it g6 hf
        refine x_bipush (v := (-9)) C d_M_figure_43 rfl ?_
        cases hf
        exact x_iret C d_M_figure_45 rfl rfl
set_option maxHeartbeats 4000000 in
set_option maxRecDepth 100000 in
theorem ct_M_readsDraft {l : Launch} {D : va_G} {ad : Nat → Nat} {cs : Nat → ClassId} {A : Nat → Prop} (E : Ev ad cs A LM) (F : Nat) (M : Mem)  (R : (Int32 × Mem))  (hf : M_readsDraft F M = some R) : Met l y_M_readsDraft (Cond.code y_M_readsDraft b_M_readsDraft 3 (some .boolean) :: wl) (rmD 2) (PX D ad cs A LM [.ref (ad 100)] M) (QX D ad cs A LM (some (.int R.1)) R.2) 0 0 A := by
  refine x_enter (lv := [(0, .ref (ad 100))]) E mi_M_readsDraft.1 (Nat.le_of_ble_eq_true rfl) rfl (fun p e s m args below meth c C => ?_)
  unfold M_readsDraft at hf
  refine x_aload_n C d_M_readsDraft_0 0 rfl ?_
  refine xg_M_readPersons C wF_M_113 mc_100 kc_100 d_M_readsDraft_1 ?_
  refine x_iconst (v := 2) C d_M_readsDraft_4 rfl ?_
  refine x_icmp_lt C 17 d_M_readsDraft_5 (by decide) (fun g1 => ?_) (fun g1 => ?_)
  · replace hf := it g1 hf
    refine x_iconst (v := 0) C d_M_readsDraft_17 rfl ?_
    cases hf
    exact x_zret C d_M_readsDraft_18 (Or.inl rfl) rfl rfl
  · replace hf := ie g1 hf
    refine x_aload_n C d_M_readsDraft_8 0 rfl ?_
    refine xg_M_readMany C wF_M_116 mc_100 kc_100 d_M_readsDraft_9 ?_
    refine x_bipush (v := 12) C d_M_readsDraft_12 rfl ?_
    refine x_icmp_ne C 19 d_M_readsDraft_14 (by decide) (fun g2 => ?_) (fun g2 => ?_)
    · replace hf := ie g2 hf
      refine x_aload_n C d_M_readsDraft_19 0 rfl ?_
      refine x_dup C d_M_readsDraft_20 rfl ?_
      refine xg_M_place C wF_M_100 mc_100 kc_100 d_M_readsDraft_21 ?_
      refine x_iconst (v := 1) C d_M_readsDraft_24 rfl ?_
      refine x_iadd C d_M_readsDraft_25 ?_
      refine xp_M_place (x := ((M 100 13) + 1)) C wF_M_100 mc_100 kc_100 d_M_readsDraft_26 ?_
      refine x_iconst (v := 4) C d_M_readsDraft_29 rfl ?_
      refine x_aload_n C d_M_readsDraft_30 0 rfl ?_
      refine xg_M_readMany C wF_M_116 mc_100 kc_100 d_M_readsDraft_31 ?_
      refine x_imul C d_M_readsDraft_34 ?_
      refine x_istore_n (lv' := [(1, .int (4 * ((up M 100 13 ((M 100 13) + 1)) 100 18))), (0, .ref (ad 100))]) C d_M_readsDraft_35 (by decide) rfl ?_
      refine x_aload_n C d_M_readsDraft_36 1 rfl ?_
      refine xg_M_readDrafts C wF_M_38 mc_100 kc_100 d_M_readsDraft_37 ?_
      refine x_iload_n C d_M_readsDraft_40 0 rfl ?_
      refine x_aload_n C d_M_readsDraft_41 1 rfl ?_
      refine x_iconst (v := 0) C d_M_readsDraft_42 rfl ?_
      refine x_aload_n C d_M_readsDraft_43 1 rfl ?_
      refine xg_M_readPersons C wF_M_113 mc_100 kc_100 d_M_readsDraft_44 ?_
      refine x_iconst (v := 1) C d_M_readsDraft_47 rfl ?_
      refine x_isub C d_M_readsDraft_48 ?_
      refine x_bipush (v := (-9)) C d_M_readsDraft_49 rfl ?_
      obtain ⟨c3, hc3, hf⟩ := bs hf
      refine x_callV (rest := [.int (4 * ((up M 100 13 ((M 100 13) + 1)) 100 18)), .ref (ad 109)]) (n := 3) C (ct_M_figure E F _ _ _ _ _  hc3) mi_M_figure (by decide) mc_100 ⟨_, cel_M kc_100⟩ rfl rfl wL_M_119 d_M_readsDraft_51 rfl rfl (Nat.le_of_ble_eq_true rfl) ?_
      show X _ _ _ _ _ _ _ _ _ _ _ _ _ _ _ _ _ _ _ _ _ [.int c3.1, .int (4 * ((up M 100 13 ((M 100 13) + 1)) 100 18)), .ref (ad 109)]
      obtain ⟨M4, hM4, hf⟩ := bs hf
      refine x_iast C hM4 mc_109 kc_109 d_M_readsDraft_54 ?_
      refine x_aload_n C d_M_readsDraft_55 1 rfl ?_
      refine xg_M_readDrafts C wF_M_38 mc_100 kc_100 d_M_readsDraft_56 ?_
      refine x_iload_n C d_M_readsDraft_59 0 rfl ?_
      obtain ⟨t5, ht5, hf⟩ := bs hf
      refine x_iald C ht5 mc_109 kc_109 d_M_readsDraft_60 ?_
      refine x_bipush (v := (-9)) C d_M_readsDraft_61 rfl ?_
      refine x_icmp_ne C 68 d_M_readsDraft_63 (by decide) (fun g6 => ?_) (fun g6 => ?_)
      · replace hf := ie g6 hf
        refine x_aload_n C d_M_readsDraft_68 1 rfl ?_
        refine xg_M_readDrafts C wF_M_38 mc_100 kc_100 d_M_readsDraft_69 ?_
        refine x_iload_n C d_M_readsDraft_72 0 rfl ?_
        refine x_iconst (v := 1) C d_M_readsDraft_73 rfl ?_
        refine x_iadd C d_M_readsDraft_74 ?_
        refine x_aload_n C d_M_readsDraft_75 1 rfl ?_
        refine x_iconst (v := 0) C d_M_readsDraft_76 rfl ?_
        refine x_aload_n C d_M_readsDraft_77 1 rfl ?_
        refine xg_M_readPersons C wF_M_113 mc_100 kc_100 d_M_readsDraft_78 ?_
        refine x_iconst (v := 1) C d_M_readsDraft_81 rfl ?_
        refine x_isub C d_M_readsDraft_82 ?_
        refine x_aload_n C d_M_readsDraft_83 1 rfl ?_
        refine xg_M_readDrafts C wF_M_38 mc_100 kc_100 d_M_readsDraft_84 ?_
        refine x_iload_n C d_M_readsDraft_87 0 rfl ?_
        obtain ⟨t7, ht7, hf⟩ := bs hf
        refine x_iald C ht7 mc_109 kc_109 d_M_readsDraft_88 ?_
        obtain ⟨c8, hc8, hf⟩ := bs hf
        refine x_callV (rest := [.int ((4 * ((up M 100 13 ((M 100 13) + 1)) 100 18)) + 1), .ref (ad 109)]) (n := 3) C (ct_M_figure E F _ _ _ _ _  hc8) mi_M_figure (by decide) mc_100 ⟨_, cel_M kc_100⟩ rfl rfl wL_M_119 d_M_readsDraft_89 rfl rfl (Nat.le_of_ble_eq_true rfl) ?_
        show X _ _ _ _ _ _ _ _ _ _ _ _ _ _ _ _ _ _ _ _ _ [.int c8.1, .int ((4 * ((up M 100 13 ((M 100 13) + 1)) 100 18)) + 1), .ref (ad 109)]
        obtain ⟨M9, hM9, hf⟩ := bs hf
        refine x_iast C hM9 mc_109 kc_109 d_M_readsDraft_92 ?_
        refine x_aload_n C d_M_readsDraft_93 1 rfl ?_
        refine xg_M_readDrafts C wF_M_38 mc_100 kc_100 d_M_readsDraft_94 ?_
        refine x_iload_n C d_M_readsDraft_97 0 rfl ?_
        refine x_iconst (v := 1) C d_M_readsDraft_98 rfl ?_
        refine x_iadd C d_M_readsDraft_99 ?_
        obtain ⟨t10, ht10, hf⟩ := bs hf
        refine x_iald C ht10 mc_109 kc_109 d_M_readsDraft_100 ?_
        refine x_bipush (v := (-9)) C d_M_readsDraft_101 rfl ?_
        refine x_icmp_eq C 117 d_M_readsDraft_103 (by decide) (fun g11 => ?_) (fun g11 => ?_)
        · replace hf := it g11 hf
          refine x_iconst (v := 0) C d_M_readsDraft_117 rfl ?_
          cases hf
          exact x_zret C d_M_readsDraft_118 (Or.inl rfl) rfl rfl
        · replace hf := ie g11 hf
          refine x_aload_n C d_M_readsDraft_106 1 rfl ?_
          refine xg_M_place C wF_M_100 mc_100 kc_100 d_M_readsDraft_107 ?_
          refine x_aload_n C d_M_readsDraft_110 1 rfl ?_
          refine xg_M_end C wF_M_103 mc_100 kc_100 d_M_readsDraft_111 ?_
          refine x_icmp_ne C 119 d_M_readsDraft_114 (by decide) (fun g12 => ?_) (fun g12 => ?_)
          · replace hf := ie g12 hf
            refine x_aload_n C d_M_readsDraft_119 1 rfl ?_
            obtain ⟨c13, hc13, hf⟩ := bs hf
            refine x_callV (rest := []) (n := 0) C (ct_M_here E F _ _  hc13) mi_M_here (by decide) mc_100 ⟨_, cel_M kc_100⟩ rfl rfl wL_M_106 d_M_readsDraft_120 rfl rfl (Nat.le_of_ble_eq_true rfl) ?_
            show X _ _ _ _ _ _ _ _ _ _ _ _ _ _ _ _ _ _ _ _ _ [.int c13]
            refine x_istore_n (lv' := [(2, .int c13), (1, .int (4 * ((up M 100 13 ((M 100 13) + 1)) 100 18))), (0, .ref (ad 100))]) C d_M_readsDraft_123 (by decide) rfl ?_
            refine x_iload_n C d_M_readsDraft_124 0 rfl ?_
            refine x_bipush (v := 104) C d_M_readsDraft_125 rfl ?_
            refine x_icmp_eq C 144 d_M_readsDraft_127 (by decide) (fun g14 => ?_) (fun g14 => ?_)
            · replace hf := it g14 hf
              refine x_aload_n C d_M_readsDraft_144 2 rfl ?_
              refine xg_M_readDrafts C wF_M_38 mc_100 kc_100 d_M_readsDraft_145 ?_
              refine x_iload_n C d_M_readsDraft_148 1 rfl ?_
              refine x_iconst (v := 2) C d_M_readsDraft_149 rfl ?_
              refine x_iadd C d_M_readsDraft_150 ?_
              refine x_iload_n C d_M_readsDraft_151 0 rfl ?_
              refine x_bipush (v := 104) C d_M_readsDraft_152 rfl ?_
              obtain ⟨j15, hj15, hf⟩ := bs hf
              have Jj15 : X p l e 2 s m args below meth c 3 D ad cs A LM (some (.int R.1)) R.2 M9 172 [(0, .ref (ad 100)), (1, .int (4 * ((up M 100 13 ((M 100 13) + 1)) 100 18)))] [.int j15, .int ((4 * ((up M 100 13 ((M 100 13) + 1)) 100 18)) + 2), .ref (ad 109)] := by
                obtain ⟨M16, hM16, hf⟩ := bs hf
                refine x_iast C hM16 mc_109 kc_109 d_M_readsDraft_172 ?_
                refine x_aload_n C d_M_readsDraft_173 0 rfl ?_
                refine x_dup C d_M_readsDraft_174 rfl ?_
                refine xg_M_place C wF_M_100 mc_100 kc_100 d_M_readsDraft_175 ?_
                refine x_iconst (v := 1) C d_M_readsDraft_178 rfl ?_
                refine x_iadd C d_M_readsDraft_179 ?_
                refine xp_M_place (x := ((M16 100 13) + 1)) C wF_M_100 mc_100 kc_100 d_M_readsDraft_180 ?_
                refine x_aload_n C d_M_readsDraft_183 0 rfl ?_
                refine xg_M_readDrafts C wF_M_38 mc_100 kc_100 d_M_readsDraft_184 ?_
                refine x_iload_n C d_M_readsDraft_187 1 rfl ?_
                refine x_iconst (v := 3) C d_M_readsDraft_188 rfl ?_
                refine x_iadd C d_M_readsDraft_189 ?_
                refine x_aload_n C d_M_readsDraft_190 0 rfl ?_
                refine x_iconst (v := 1) C d_M_readsDraft_191 rfl ?_
                refine x_bipush (v := 9) C d_M_readsDraft_192 rfl ?_
                refine x_bipush (v := (-9)) C d_M_readsDraft_194 rfl ?_
                obtain ⟨c17, hc17, hf⟩ := bs hf
                refine x_callV (rest := [.int ((4 * ((up M 100 13 ((M 100 13) + 1)) 100 18)) + 3), .ref (ad 109)]) (n := 3) C (ct_M_figure E F _ _ _ _ _  hc17) mi_M_figure (by decide) mc_100 ⟨_, cel_M kc_100⟩ rfl rfl wL_M_119 d_M_readsDraft_196 rfl rfl (Nat.le_of_ble_eq_true rfl) ?_
                show X _ _ _ _ _ _ _ _ _ _ _ _ _ _ _ _ _ _ _ _ _ [.int c17.1, .int ((4 * ((up M 100 13 ((M 100 13) + 1)) 100 18)) + 3), .ref (ad 109)]
                obtain ⟨M18, hM18, hf⟩ := bs hf
                refine x_iast C hM18 mc_109 kc_109 d_M_readsDraft_199 ?_
                refine x_aload_n C d_M_readsDraft_200 0 rfl ?_
                refine xg_M_readDrafts C wF_M_38 mc_100 kc_100 d_M_readsDraft_201 ?_
                refine x_iload_n C d_M_readsDraft_204 1 rfl ?_
                refine x_iconst (v := 3) C d_M_readsDraft_205 rfl ?_
                refine x_iadd C d_M_readsDraft_206 ?_
                obtain ⟨t19, ht19, hf⟩ := bs hf
                refine x_iald C ht19 mc_109 kc_109 d_M_readsDraft_207 ?_
                refine x_bipush (v := (-9)) C d_M_readsDraft_208 rfl ?_
                refine x_icmp_ne C 215 d_M_readsDraft_210 (by decide) (fun g20 => ?_) (fun g20 => ?_)
                · replace hf := ie g20 hf
                  refine x_aload_n C d_M_readsDraft_215 0 rfl ?_
                  refine x_dup C d_M_readsDraft_216 rfl ?_
                  refine xg_M_readMany C wF_M_116 mc_100 kc_100 d_M_readsDraft_217 ?_
                  refine x_iconst (v := 1) C d_M_readsDraft_220 rfl ?_
                  refine x_iadd C d_M_readsDraft_221 ?_
                  refine xp_M_readMany (x := ((M18 100 18) + 1)) C wF_M_116 mc_100 kc_100 d_M_readsDraft_222 ?_
                  refine x_iconst (v := 1) C d_M_readsDraft_225 rfl ?_
                  cases hf
                  exact x_zret C d_M_readsDraft_226 (Or.inr rfl) rfl rfl
                · replace hf := it g20 hf
                  refine x_iconst (v := 0) C d_M_readsDraft_213 rfl ?_
                  cases hf
                  exact x_zret C d_M_readsDraft_214 (Or.inl rfl) rfl rfl
              replace hf := hj15
              refine x_icmp_ne C 161 d_M_readsDraft_154 (by decide) (fun g21 => ?_) (fun g21 => ?_)
              · replace hf := ie g21 hf
                refine x_iload_n C d_M_readsDraft_161 0 rfl ?_
                refine x_bipush (v := 99) C d_M_readsDraft_162 rfl ?_
                refine x_icmp_ne C 171 d_M_readsDraft_164 (by decide) (fun g22 => ?_) (fun g22 => ?_)
                · replace hf := ie g22 hf
                  refine x_iconst (v := 2) C d_M_readsDraft_171 rfl ?_
                  cases hf
                  exact x_sub [2, 1] rfl Jj15
                · replace hf := it g22 hf
                  refine x_iconst (v := 1) C d_M_readsDraft_167 rfl ?_
                  refine x_goto C 172 d_M_readsDraft_168 (by decide) ?_
                  cases hf
                  exact x_sub [2, 1] rfl Jj15
              · replace hf := it g21 hf
                refine x_iconst (v := 0) C d_M_readsDraft_157 rfl ?_
                refine x_goto C 172 d_M_readsDraft_158 (by decide) ?_
                cases hf
                exact x_sub [2, 1] rfl Jj15
            · replace hf := ie g14 hf
              refine x_iload_n C d_M_readsDraft_130 0 rfl ?_
              refine x_bipush (v := 99) C d_M_readsDraft_131 rfl ?_
              refine x_icmp_eq C 144 d_M_readsDraft_133 (by decide) (fun g23 => ?_) (fun g23 => ?_)
              · replace hf := it g23 hf
                refine x_aload_n C d_M_readsDraft_144 2 rfl ?_
                refine xg_M_readDrafts C wF_M_38 mc_100 kc_100 d_M_readsDraft_145 ?_
                refine x_iload_n C d_M_readsDraft_148 1 rfl ?_
                refine x_iconst (v := 2) C d_M_readsDraft_149 rfl ?_
                refine x_iadd C d_M_readsDraft_150 ?_
                refine x_iload_n C d_M_readsDraft_151 0 rfl ?_
                refine x_bipush (v := 104) C d_M_readsDraft_152 rfl ?_
                obtain ⟨j24, hj24, hf⟩ := bs hf
                have Jj24 : X p l e 2 s m args below meth c 3 D ad cs A LM (some (.int R.1)) R.2 M9 172 [(0, .ref (ad 100)), (1, .int (4 * ((up M 100 13 ((M 100 13) + 1)) 100 18)))] [.int j24, .int ((4 * ((up M 100 13 ((M 100 13) + 1)) 100 18)) + 2), .ref (ad 109)] := by
                  obtain ⟨M25, hM25, hf⟩ := bs hf
                  refine x_iast C hM25 mc_109 kc_109 d_M_readsDraft_172 ?_
                  refine x_aload_n C d_M_readsDraft_173 0 rfl ?_
                  refine x_dup C d_M_readsDraft_174 rfl ?_
                  refine xg_M_place C wF_M_100 mc_100 kc_100 d_M_readsDraft_175 ?_
                  refine x_iconst (v := 1) C d_M_readsDraft_178 rfl ?_
                  refine x_iadd C d_M_readsDraft_179 ?_
                  refine xp_M_place (x := ((M25 100 13) + 1)) C wF_M_100 mc_100 kc_100 d_M_readsDraft_180 ?_
                  refine x_aload_n C d_M_readsDraft_183 0 rfl ?_
                  refine xg_M_readDrafts C wF_M_38 mc_100 kc_100 d_M_readsDraft_184 ?_
                  refine x_iload_n C d_M_readsDraft_187 1 rfl ?_
                  refine x_iconst (v := 3) C d_M_readsDraft_188 rfl ?_
                  refine x_iadd C d_M_readsDraft_189 ?_
                  refine x_aload_n C d_M_readsDraft_190 0 rfl ?_
                  refine x_iconst (v := 1) C d_M_readsDraft_191 rfl ?_
                  refine x_bipush (v := 9) C d_M_readsDraft_192 rfl ?_
                  refine x_bipush (v := (-9)) C d_M_readsDraft_194 rfl ?_
                  obtain ⟨c26, hc26, hf⟩ := bs hf
                  refine x_callV (rest := [.int ((4 * ((up M 100 13 ((M 100 13) + 1)) 100 18)) + 3), .ref (ad 109)]) (n := 3) C (ct_M_figure E F _ _ _ _ _  hc26) mi_M_figure (by decide) mc_100 ⟨_, cel_M kc_100⟩ rfl rfl wL_M_119 d_M_readsDraft_196 rfl rfl (Nat.le_of_ble_eq_true rfl) ?_
                  show X _ _ _ _ _ _ _ _ _ _ _ _ _ _ _ _ _ _ _ _ _ [.int c26.1, .int ((4 * ((up M 100 13 ((M 100 13) + 1)) 100 18)) + 3), .ref (ad 109)]
                  obtain ⟨M27, hM27, hf⟩ := bs hf
                  refine x_iast C hM27 mc_109 kc_109 d_M_readsDraft_199 ?_
                  refine x_aload_n C d_M_readsDraft_200 0 rfl ?_
                  refine xg_M_readDrafts C wF_M_38 mc_100 kc_100 d_M_readsDraft_201 ?_
                  refine x_iload_n C d_M_readsDraft_204 1 rfl ?_
                  refine x_iconst (v := 3) C d_M_readsDraft_205 rfl ?_
                  refine x_iadd C d_M_readsDraft_206 ?_
                  obtain ⟨t28, ht28, hf⟩ := bs hf
                  refine x_iald C ht28 mc_109 kc_109 d_M_readsDraft_207 ?_
                  refine x_bipush (v := (-9)) C d_M_readsDraft_208 rfl ?_
                  refine x_icmp_ne C 215 d_M_readsDraft_210 (by decide) (fun g29 => ?_) (fun g29 => ?_)
                  · replace hf := ie g29 hf
                    refine x_aload_n C d_M_readsDraft_215 0 rfl ?_
                    refine x_dup C d_M_readsDraft_216 rfl ?_
                    refine xg_M_readMany C wF_M_116 mc_100 kc_100 d_M_readsDraft_217 ?_
                    refine x_iconst (v := 1) C d_M_readsDraft_220 rfl ?_
                    refine x_iadd C d_M_readsDraft_221 ?_
                    refine xp_M_readMany (x := ((M27 100 18) + 1)) C wF_M_116 mc_100 kc_100 d_M_readsDraft_222 ?_
                    refine x_iconst (v := 1) C d_M_readsDraft_225 rfl ?_
                    cases hf
                    exact x_zret C d_M_readsDraft_226 (Or.inr rfl) rfl rfl
                  · replace hf := it g29 hf
                    refine x_iconst (v := 0) C d_M_readsDraft_213 rfl ?_
                    cases hf
                    exact x_zret C d_M_readsDraft_214 (Or.inl rfl) rfl rfl
                replace hf := hj24
                refine x_icmp_ne C 161 d_M_readsDraft_154 (by decide) (fun g30 => ?_) (fun g30 => ?_)
                · replace hf := ie g30 hf
                  refine x_iload_n C d_M_readsDraft_161 0 rfl ?_
                  refine x_bipush (v := 99) C d_M_readsDraft_162 rfl ?_
                  refine x_icmp_ne C 171 d_M_readsDraft_164 (by decide) (fun g31 => ?_) (fun g31 => ?_)
                  · replace hf := ie g31 hf
                    refine x_iconst (v := 2) C d_M_readsDraft_171 rfl ?_
                    cases hf
                    exact x_sub [2, 1] rfl Jj24
                  · replace hf := it g31 hf
                    refine x_iconst (v := 1) C d_M_readsDraft_167 rfl ?_
                    refine x_goto C 172 d_M_readsDraft_168 (by decide) ?_
                    cases hf
                    exact x_sub [2, 1] rfl Jj24
                · replace hf := it g30 hf
                  refine x_iconst (v := 0) C d_M_readsDraft_157 rfl ?_
                  refine x_goto C 172 d_M_readsDraft_158 (by decide) ?_
                  cases hf
                  exact x_sub [2, 1] rfl Jj24
              · replace hf := ie g23 hf
                refine x_iload_n C d_M_readsDraft_136 0 rfl ?_
                refine x_bipush (v := 116) C d_M_readsDraft_137 rfl ?_
                refine x_icmp_eq C 144 d_M_readsDraft_139 (by decide) (fun g32 => ?_) (fun g32 => ?_)
                · replace hf := it g32 hf
                  refine x_aload_n C d_M_readsDraft_144 2 rfl ?_
                  refine xg_M_readDrafts C wF_M_38 mc_100 kc_100 d_M_readsDraft_145 ?_
                  refine x_iload_n C d_M_readsDraft_148 1 rfl ?_
                  refine x_iconst (v := 2) C d_M_readsDraft_149 rfl ?_
                  refine x_iadd C d_M_readsDraft_150 ?_
                  refine x_iload_n C d_M_readsDraft_151 0 rfl ?_
                  refine x_bipush (v := 104) C d_M_readsDraft_152 rfl ?_
                  obtain ⟨j33, hj33, hf⟩ := bs hf
                  have Jj33 : X p l e 2 s m args below meth c 3 D ad cs A LM (some (.int R.1)) R.2 M9 172 [(0, .ref (ad 100)), (1, .int (4 * ((up M 100 13 ((M 100 13) + 1)) 100 18)))] [.int j33, .int ((4 * ((up M 100 13 ((M 100 13) + 1)) 100 18)) + 2), .ref (ad 109)] := by
                    obtain ⟨M34, hM34, hf⟩ := bs hf
                    refine x_iast C hM34 mc_109 kc_109 d_M_readsDraft_172 ?_
                    refine x_aload_n C d_M_readsDraft_173 0 rfl ?_
                    refine x_dup C d_M_readsDraft_174 rfl ?_
                    refine xg_M_place C wF_M_100 mc_100 kc_100 d_M_readsDraft_175 ?_
                    refine x_iconst (v := 1) C d_M_readsDraft_178 rfl ?_
                    refine x_iadd C d_M_readsDraft_179 ?_
                    refine xp_M_place (x := ((M34 100 13) + 1)) C wF_M_100 mc_100 kc_100 d_M_readsDraft_180 ?_
                    refine x_aload_n C d_M_readsDraft_183 0 rfl ?_
                    refine xg_M_readDrafts C wF_M_38 mc_100 kc_100 d_M_readsDraft_184 ?_
                    refine x_iload_n C d_M_readsDraft_187 1 rfl ?_
                    refine x_iconst (v := 3) C d_M_readsDraft_188 rfl ?_
                    refine x_iadd C d_M_readsDraft_189 ?_
                    refine x_aload_n C d_M_readsDraft_190 0 rfl ?_
                    refine x_iconst (v := 1) C d_M_readsDraft_191 rfl ?_
                    refine x_bipush (v := 9) C d_M_readsDraft_192 rfl ?_
                    refine x_bipush (v := (-9)) C d_M_readsDraft_194 rfl ?_
                    obtain ⟨c35, hc35, hf⟩ := bs hf
                    refine x_callV (rest := [.int ((4 * ((up M 100 13 ((M 100 13) + 1)) 100 18)) + 3), .ref (ad 109)]) (n := 3) C (ct_M_figure E F _ _ _ _ _  hc35) mi_M_figure (by decide) mc_100 ⟨_, cel_M kc_100⟩ rfl rfl wL_M_119 d_M_readsDraft_196 rfl rfl (Nat.le_of_ble_eq_true rfl) ?_
                    show X _ _ _ _ _ _ _ _ _ _ _ _ _ _ _ _ _ _ _ _ _ [.int c35.1, .int ((4 * ((up M 100 13 ((M 100 13) + 1)) 100 18)) + 3), .ref (ad 109)]
                    obtain ⟨M36, hM36, hf⟩ := bs hf
                    refine x_iast C hM36 mc_109 kc_109 d_M_readsDraft_199 ?_
                    refine x_aload_n C d_M_readsDraft_200 0 rfl ?_
                    refine xg_M_readDrafts C wF_M_38 mc_100 kc_100 d_M_readsDraft_201 ?_
                    refine x_iload_n C d_M_readsDraft_204 1 rfl ?_
                    refine x_iconst (v := 3) C d_M_readsDraft_205 rfl ?_
                    refine x_iadd C d_M_readsDraft_206 ?_
                    obtain ⟨t37, ht37, hf⟩ := bs hf
                    refine x_iald C ht37 mc_109 kc_109 d_M_readsDraft_207 ?_
                    refine x_bipush (v := (-9)) C d_M_readsDraft_208 rfl ?_
                    refine x_icmp_ne C 215 d_M_readsDraft_210 (by decide) (fun g38 => ?_) (fun g38 => ?_)
                    · replace hf := ie g38 hf
                      refine x_aload_n C d_M_readsDraft_215 0 rfl ?_
                      refine x_dup C d_M_readsDraft_216 rfl ?_
                      refine xg_M_readMany C wF_M_116 mc_100 kc_100 d_M_readsDraft_217 ?_
                      refine x_iconst (v := 1) C d_M_readsDraft_220 rfl ?_
                      refine x_iadd C d_M_readsDraft_221 ?_
                      refine xp_M_readMany (x := ((M36 100 18) + 1)) C wF_M_116 mc_100 kc_100 d_M_readsDraft_222 ?_
                      refine x_iconst (v := 1) C d_M_readsDraft_225 rfl ?_
                      cases hf
                      exact x_zret C d_M_readsDraft_226 (Or.inr rfl) rfl rfl
                    · replace hf := it g38 hf
                      refine x_iconst (v := 0) C d_M_readsDraft_213 rfl ?_
                      cases hf
                      exact x_zret C d_M_readsDraft_214 (Or.inl rfl) rfl rfl
                  replace hf := hj33
                  refine x_icmp_ne C 161 d_M_readsDraft_154 (by decide) (fun g39 => ?_) (fun g39 => ?_)
                  · replace hf := ie g39 hf
                    refine x_iload_n C d_M_readsDraft_161 0 rfl ?_
                    refine x_bipush (v := 99) C d_M_readsDraft_162 rfl ?_
                    refine x_icmp_ne C 171 d_M_readsDraft_164 (by decide) (fun g40 => ?_) (fun g40 => ?_)
                    · replace hf := ie g40 hf
                      refine x_iconst (v := 2) C d_M_readsDraft_171 rfl ?_
                      cases hf
                      exact x_sub [2, 1] rfl Jj33
                    · replace hf := it g40 hf
                      refine x_iconst (v := 1) C d_M_readsDraft_167 rfl ?_
                      refine x_goto C 172 d_M_readsDraft_168 (by decide) ?_
                      cases hf
                      exact x_sub [2, 1] rfl Jj33
                  · replace hf := it g39 hf
                    refine x_iconst (v := 0) C d_M_readsDraft_157 rfl ?_
                    refine x_goto C 172 d_M_readsDraft_158 (by decide) ?_
                    cases hf
                    exact x_sub [2, 1] rfl Jj33
                · replace hf := ie g32 hf
                  refine x_iconst (v := 0) C d_M_readsDraft_142 rfl ?_
                  cases hf
                  exact x_zret C d_M_readsDraft_143 (Or.inl rfl) rfl rfl
          · replace hf := it g12 hf
            refine x_iconst (v := 0) C d_M_readsDraft_117 rfl ?_
            cases hf
            exact x_zret C d_M_readsDraft_118 (Or.inl rfl) rfl rfl
      · replace hf := it g6 hf
        refine x_iconst (v := 0) C d_M_readsDraft_66 rfl ?_
        cases hf
        exact x_zret C d_M_readsDraft_67 (Or.inl rfl) rfl rfl
    · replace hf := it g2 hf
      refine x_iconst (v := 0) C d_M_readsDraft_17 rfl ?_
      cases hf
      exact x_zret C d_M_readsDraft_18 (Or.inl rfl) rfl rfl
set_option maxHeartbeats 4000000 in
set_option maxRecDepth 100000 in
theorem ct_M_kindOfLetter {l : Launch} {D : va_G} {ad : Nat → Nat} {cs : Nat → ClassId} {A : Nat → Prop} (E : Ev ad cs A LM) (F : Nat) (M : Mem) (x0 : Int32) (R : Int32)  (hf : M_kindOfLetter F M x0 = some R) : Met l y_M_kindOfLetter (Cond.code y_M_kindOfLetter b_M_kindOfLetter 1 (some .int) :: wl) (rmD 0) (PX D ad cs A LM [.int x0] M) (QX D ad cs A LM (some (.int R)) M) 0 0 A := by
  refine x_enter (lv := [(0, .int x0)]) E mi_M_kindOfLetter.1 (Nat.le_of_ble_eq_true rfl) rfl (fun p e s m args below meth c C => ?_)
  unfold M_kindOfLetter at hf
  refine x_iload_n C d_M_kindOfLetter_0 0 rfl ?_
  refine x_bipush (v := 112) C d_M_kindOfLetter_1 rfl ?_
  refine x_icmp_ne C 10 d_M_kindOfLetter_3 (by decide) (fun g1 => ?_) (fun g1 => ?_)
  · replace hf := ie g1 hf
    refine x_iload_n C d_M_kindOfLetter_10 0 rfl ?_
    refine x_bipush (v := 97) C d_M_kindOfLetter_11 rfl ?_
    refine x_icmp_ne C 20 d_M_kindOfLetter_13 (by decide) (fun g2 => ?_) (fun g2 => ?_)
    · replace hf := ie g2 hf
      refine x_iload_n C d_M_kindOfLetter_20 0 rfl ?_
      refine x_bipush (v := 115) C d_M_kindOfLetter_21 rfl ?_
      refine x_icmp_ne C 30 d_M_kindOfLetter_23 (by decide) (fun g3 => ?_) (fun g3 => ?_)
      · replace hf := ie g3 hf
        refine x_iload_n C d_M_kindOfLetter_30 0 rfl ?_
        refine x_bipush (v := 98) C d_M_kindOfLetter_31 rfl ?_
        refine x_icmp_ne C 40 d_M_kindOfLetter_33 (by decide) (fun g4 => ?_) (fun g4 => ?_)
        · replace hf := ie g4 hf
          refine x_iload_n C d_M_kindOfLetter_40 0 rfl ?_
          refine x_bipush (v := 103) C d_M_kindOfLetter_41 rfl ?_
          refine x_icmp_ne C 50 d_M_kindOfLetter_43 (by decide) (fun g5 => ?_) (fun g5 => ?_)
          · replace hf := ie g5 hf
            refine x_iload_n C d_M_kindOfLetter_50 0 rfl ?_
            refine x_bipush (v := 105) C d_M_kindOfLetter_51 rfl ?_
            refine x_icmp_ne C 60 d_M_kindOfLetter_53 (by decide) (fun g6 => ?_) (fun g6 => ?_)
            · replace hf := ie g6 hf
              refine x_bipush (v := (-9)) C d_M_kindOfLetter_60 rfl ?_
              cases hf
              exact x_iret C d_M_kindOfLetter_62 rfl rfl
            · replace hf := it g6 hf
              refine x_iconst (v := 5) C d_M_kindOfLetter_56 rfl ?_
              refine x_goto C 62 d_M_kindOfLetter_57 (by decide) ?_
              cases hf
              exact x_iret C d_M_kindOfLetter_62 rfl rfl
          · replace hf := it g5 hf
            refine x_iconst (v := 4) C d_M_kindOfLetter_46 rfl ?_
            refine x_goto C 62 d_M_kindOfLetter_47 (by decide) ?_
            cases hf
            exact x_iret C d_M_kindOfLetter_62 rfl rfl
        · replace hf := it g4 hf
          refine x_iconst (v := 3) C d_M_kindOfLetter_36 rfl ?_
          refine x_goto C 62 d_M_kindOfLetter_37 (by decide) ?_
          cases hf
          exact x_iret C d_M_kindOfLetter_62 rfl rfl
      · replace hf := it g3 hf
        refine x_iconst (v := 2) C d_M_kindOfLetter_26 rfl ?_
        refine x_goto C 62 d_M_kindOfLetter_27 (by decide) ?_
        cases hf
        exact x_iret C d_M_kindOfLetter_62 rfl rfl
    · replace hf := it g2 hf
      refine x_iconst (v := 1) C d_M_kindOfLetter_16 rfl ?_
      refine x_goto C 62 d_M_kindOfLetter_17 (by decide) ?_
      cases hf
      exact x_iret C d_M_kindOfLetter_62 rfl rfl
  · replace hf := it g1 hf
    refine x_iconst (v := 0) C d_M_kindOfLetter_6 rfl ?_
    refine x_goto C 62 d_M_kindOfLetter_7 (by decide) ?_
    cases hf
    exact x_iret C d_M_kindOfLetter_62 rfl rfl
set_option maxHeartbeats 4000000 in
set_option maxRecDepth 100000 in
theorem ct_M_readsPerson {l : Launch} {D : va_G} {ad : Nat → Nat} {cs : Nat → ClassId} {A : Nat → Prop} (E : Ev ad cs A LM) (F : Nat) (M : Mem)  (R : (Int32 × Mem))  (hf : M_readsPerson F M = some R) : Met l y_M_readsPerson (Cond.code y_M_readsPerson b_M_readsPerson 2 (some .boolean) :: wl) (rmD 1) (PX D ad cs A LM [.ref (ad 100)] M) (QX D ad cs A LM (some (.int R.1)) R.2) 0 0 A := by
  refine x_enter (lv := [(0, .ref (ad 100))]) E mi_M_readsPerson.1 (Nat.le_of_ble_eq_true rfl) rfl (fun p e s m args below meth c C => ?_)
  unfold M_readsPerson at hf
  refine x_aload_n C d_M_readsPerson_0 0 rfl ?_
  obtain ⟨c1, hc1, hf⟩ := bs hf
  refine x_callV (rest := []) (n := 0) C (ct_M_here E F _ _  hc1) mi_M_here (by decide) mc_100 ⟨_, cel_M kc_100⟩ rfl rfl wL_M_106 d_M_readsPerson_1 rfl rfl (Nat.le_of_ble_eq_true rfl) ?_
  show X _ _ _ _ _ _ _ _ _ _ _ _ _ _ _ _ _ _ _ _ _ [.int c1]
  obtain ⟨c2, hc2, hf⟩ := bs hf
  refine x_callS (rest := []) (n := 1) C (ct_M_kindOfLetter E F _ _ _  hc2) mi_M_kindOfLetter (by decide) wL_M_110 d_M_readsPerson_4 rfl rfl (Nat.le_of_ble_eq_true rfl) ?_
  show X _ _ _ _ _ _ _ _ _ _ _ _ _ _ _ _ _ _ _ _ _ [.int c2]
  refine x_istore_n (lv' := [(1, .int c2), (0, .ref (ad 100))]) C d_M_readsPerson_7 (by decide) rfl ?_
  refine x_iload_n C d_M_readsPerson_8 0 rfl ?_
  refine x_bipush (v := (-9)) C d_M_readsPerson_9 rfl ?_
  refine x_icmp_eq C 30 d_M_readsPerson_11 (by decide) (fun g3 => ?_) (fun g3 => ?_)
  · replace hf := it g3 hf
    refine x_iconst (v := 0) C d_M_readsPerson_30 rfl ?_
    cases hf
    exact x_zret C d_M_readsPerson_31 (Or.inl rfl) rfl rfl
  · replace hf := ie g3 hf
    refine x_aload_n C d_M_readsPerson_14 1 rfl ?_
    refine xg_M_readPersons C wF_M_113 mc_100 kc_100 d_M_readsPerson_15 ?_
    refine x_bipush (v := 6) C d_M_readsPerson_18 rfl ?_
    refine x_icmp_eq C 30 d_M_readsPerson_20 (by decide) (fun g4 => ?_) (fun g4 => ?_)
    · replace hf := it g4 hf
      refine x_iconst (v := 0) C d_M_readsPerson_30 rfl ?_
      cases hf
      exact x_zret C d_M_readsPerson_31 (Or.inl rfl) rfl rfl
    · replace hf := ie g4 hf
      refine x_aload_n C d_M_readsPerson_23 1 rfl ?_
      refine xg_M_readMany C wF_M_116 mc_100 kc_100 d_M_readsPerson_24 ?_
      refine x_if_le C 32 d_M_readsPerson_27 (by decide) (fun g5 => ?_) (fun g5 => ?_)
      · replace hf := it g5 hf
        refine x_aload_n C d_M_readsPerson_32 1 rfl ?_
        refine xg_M_readKinds C wF_M_35 mc_100 kc_100 d_M_readsPerson_33 ?_
        refine x_aload_n C d_M_readsPerson_36 1 rfl ?_
        refine xg_M_readPersons C wF_M_113 mc_100 kc_100 d_M_readsPerson_37 ?_
        refine x_iload_n C d_M_readsPerson_40 0 rfl ?_
        obtain ⟨M6, hM6, hf⟩ := bs hf
        refine x_iast C hM6 mc_108 kc_108 d_M_readsPerson_41 ?_
        refine x_aload_n C d_M_readsPerson_42 1 rfl ?_
        refine x_dup C d_M_readsPerson_43 rfl ?_
        refine xg_M_readPersons C wF_M_113 mc_100 kc_100 d_M_readsPerson_44 ?_
        refine x_iconst (v := 1) C d_M_readsPerson_47 rfl ?_
        refine x_iadd C d_M_readsPerson_48 ?_
        refine xp_M_readPersons (x := ((M6 100 16) + 1)) C wF_M_113 mc_100 kc_100 d_M_readsPerson_49 ?_
        refine x_aload_n C d_M_readsPerson_52 1 rfl ?_
        refine x_dup C d_M_readsPerson_53 rfl ?_
        refine xg_M_place C wF_M_100 mc_100 kc_100 d_M_readsPerson_54 ?_
        refine x_iconst (v := 1) C d_M_readsPerson_57 rfl ?_
        refine x_iadd C d_M_readsPerson_58 ?_
        refine xp_M_place (x := (((up M6 100 16 ((M6 100 16) + 1)) 100 13) + 1)) C wF_M_100 mc_100 kc_100 d_M_readsPerson_59 ?_
        refine x_iconst (v := 1) C d_M_readsPerson_62 rfl ?_
        cases hf
        exact x_zret C d_M_readsPerson_63 (Or.inr rfl) rfl rfl
      · replace hf := ie g5 hf
        refine x_iconst (v := 0) C d_M_readsPerson_30 rfl ?_
        cases hf
        exact x_zret C d_M_readsPerson_31 (Or.inl rfl) rfl rfl
set_option maxHeartbeats 4000000 in
set_option maxRecDepth 100000 in
theorem lw_M_faultOf_39 {p : Program} {l : Launch} {e : Env} {s : State} {m : MethodId} {args : Array Value} {below : List Frame} {meth : Method} {c : Code} {D : va_G} {ad : Nat → Nat} {cs : Nat → ClassId} {A : Nat → Prop} {V : Option Value} {N : Mem} (E : Ev ad cs A LM) (C : Cx p s m args meth c "KissClearingModel" b_M_faultOf 3 (some .int) D ad cs A LM) (F : Nat)  : ∀ (n : Nat) (M : Mem) (x2 : Int32) (u : (Int32 × Mem)), L_M_faultOf_39 F n M x2 = some u → X p l e 3 s m args below meth c 3 D ad cs A LM V N u.2 86 [(0, .ref (ad 100)), (2, .int u.1)] [] → X p l e 3 s m args below meth c 3 D ad cs A LM V N M 39 [(0, .ref (ad 100)), (2, .int x2)] [] := by
  intro n
  induction n with
  | zero => intro M x2 u hf; cases hf
  | succ n ih =>
    intro M x2 u hf K
    replace hf : B_M_faultOf_39 F (L_M_faultOf_39 F n) M x2 = some u := hf
    unfold B_M_faultOf_39 at hf
    refine x_iload_n C d_M_faultOf_39 1 rfl ?_
    refine x_if_eq C 86 d_M_faultOf_40 (by decide) (fun g3 => ?_) (fun g3 => ?_)
    · replace hf := it g3 hf
      cases hf
      exact x_sub [0, 1] rfl K
    · replace hf := ie g3 hf
      refine x_aload_n C d_M_faultOf_43 0 rfl ?_
      refine xg_M_place C wF_M_100 mc_100 kc_100 d_M_faultOf_44 ?_
      refine x_aload_n C d_M_faultOf_47 0 rfl ?_
      refine xg_M_end C wF_M_103 mc_100 kc_100 d_M_faultOf_48 ?_
      refine x_icmp_ge C 86 d_M_faultOf_51 (by decide) (fun g4 => ?_) (fun g4 => ?_)
      · replace hf := it g4 hf
        cases hf
        exact x_sub [0, 1] rfl K
      · replace hf := ie g4 hf
        refine x_aload_n C d_M_faultOf_54 0 rfl ?_
        obtain ⟨c5, hc5, hf⟩ := bs hf
        refine x_callV (rest := []) (n := 0) C (ct_M_here E F _ _  hc5) mi_M_here (by decide) mc_100 ⟨_, cel_M kc_100⟩ rfl rfl wL_M_106 d_M_faultOf_55 rfl rfl (Nat.le_of_ble_eq_true rfl) ?_
        show X _ _ _ _ _ _ _ _ _ _ _ _ _ _ _ _ _ _ _ _ _ [.int c5]
        refine x_bipush (v := 120) C d_M_faultOf_58 rfl ?_
        obtain ⟨j6, hj6, hf⟩ := bs hf
        have Jj6 : X p l e 3 s m args below meth c 3 D ad cs A LM V N j6.2 74 [(0, .ref (ad 100))] [.int j6.1] := by
          refine x_istore_n (lv' := [(2, .int j6.1), (0, .ref (ad 100))]) C d_M_faultOf_74 (by decide) rfl ?_
          refine x_iload_n C d_M_faultOf_75 0 rfl ?_
          refine x_if_eq C 39 d_M_faultOf_76 (by decide) (fun g7 => ?_) (fun g7 => ?_)
          · replace hf := it g7 hf
            refine x_sub [1, 0] rfl ?_
            exact ih _ _ _ hf K
          · replace hf := ie g7 hf
            refine x_aload_n C d_M_faultOf_79 1 rfl ?_
            obtain ⟨c8, hc8, hf⟩ := bs hf
            refine x_callV (rest := []) (n := 0) C (ct_M_skip E F _ _  hc8) mi_M_skip (by decide) mc_100 ⟨_, cel_M kc_100⟩ rfl rfl wL_M_123 d_M_faultOf_80 rfl rfl (Nat.le_of_ble_eq_true rfl) ?_
            show X _ _ _ _ _ _ _ _ _ _ _ _ _ _ _ _ _ _ _ _ _ []
            refine x_goto C 39 d_M_faultOf_83 (by decide) ?_
            refine x_sub [1, 0] rfl ?_
            exact ih _ _ _ hf K
        replace hf := hj6
        refine x_icmp_ne C 70 d_M_faultOf_60 (by decide) (fun g9 => ?_) (fun g9 => ?_)
        · replace hf := ie g9 hf
          refine x_aload_n C d_M_faultOf_70 0 rfl ?_
          obtain ⟨c10, hc10, hf⟩ := bs hf
          refine x_callV (rest := []) (n := 0) C (ct_M_readsPerson E F _ _  hc10) mi_M_readsPerson (by decide) mc_100 ⟨_, cel_M kc_100⟩ rfl rfl wL_M_130 d_M_faultOf_71 rfl rfl (Nat.le_of_ble_eq_true rfl) ?_
          show X _ _ _ _ _ _ _ _ _ _ _ _ _ _ _ _ _ _ _ _ _ [.int c10.1]
          cases hf
          exact x_sub [0] rfl Jj6
        · replace hf := it g9 hf
          refine x_aload_n C d_M_faultOf_63 0 rfl ?_
          obtain ⟨c11, hc11, hf⟩ := bs hf
          refine x_callV (rest := []) (n := 0) C (ct_M_readsDraft E F _ _  hc11) mi_M_readsDraft (by decide) mc_100 ⟨_, cel_M kc_100⟩ rfl rfl wL_M_126 d_M_faultOf_64 rfl rfl (Nat.le_of_ble_eq_true rfl) ?_
          show X _ _ _ _ _ _ _ _ _ _ _ _ _ _ _ _ _ _ _ _ _ [.int c11.1]
          refine x_goto C 74 d_M_faultOf_67 (by decide) ?_
          cases hf
          exact x_sub [0] rfl Jj6
set_option maxHeartbeats 4000000 in
set_option maxRecDepth 100000 in
theorem ct_M_faultOf {l : Launch} {D : va_G} {ad : Nat → Nat} {cs : Nat → ClassId} {A : Nat → Prop} (E : Ev ad cs A LM) (F : Nat) (M : Mem) (x1 : Int32) (R : (Int32 × Mem))  (hf : M_faultOf F M x1 = some R) : Met l y_M_faultOf (Cond.code y_M_faultOf b_M_faultOf 3 (some .int) :: wl) (rmD 3) (PX D ad cs A LM [.ref (ad 100), .int x1] M) (QX D ad cs A LM (some (.int R.1)) R.2) 0 0 A := by
  refine x_enter (lv := [(0, .ref (ad 100)), (1, .int x1)]) E mi_M_faultOf.1 (Nat.le_of_ble_eq_true rfl) rfl (fun p e s m args below meth c C => ?_)
  unfold M_faultOf at hf
  refine x_aload_n C d_M_faultOf_0 0 rfl ?_
  refine x_bipush (v := 80) C d_M_faultOf_1 rfl ?_
  refine x_iload_n C d_M_faultOf_3 1 rfl ?_
  refine x_imul C d_M_faultOf_4 ?_
  refine xp_M_from (x := (80 * x1)) C wF_M_97 mc_100 kc_100 d_M_faultOf_5 ?_
  refine x_aload_n C d_M_faultOf_8 0 rfl ?_
  refine x_iconst (v := 0) C d_M_faultOf_9 rfl ?_
  refine xp_M_place (x := 0) C wF_M_100 mc_100 kc_100 d_M_faultOf_10 ?_
  refine x_aload_n C d_M_faultOf_13 0 rfl ?_
  refine x_aload_n C d_M_faultOf_14 0 rfl ?_
  refine xg_M_lengths C wF_M_22 mc_100 kc_100 d_M_faultOf_15 ?_
  refine x_iload_n C d_M_faultOf_18 1 rfl ?_
  obtain ⟨t1, ht1, hf⟩ := bs hf
  refine x_iald C ht1 mc_105 kc_105 d_M_faultOf_19 ?_
  refine xp_M_end (x := t1) C wF_M_103 mc_100 kc_100 d_M_faultOf_20 ?_
  refine x_aload_n C d_M_faultOf_23 0 rfl ?_
  refine x_iconst (v := 0) C d_M_faultOf_24 rfl ?_
  refine xp_M_readPersons (x := 0) C wF_M_113 mc_100 kc_100 d_M_faultOf_25 ?_
  refine x_aload_n C d_M_faultOf_28 0 rfl ?_
  refine x_iconst (v := 0) C d_M_faultOf_29 rfl ?_
  refine xp_M_readMany (x := 0) C wF_M_116 mc_100 kc_100 d_M_faultOf_30 ?_
  refine x_aload_n C d_M_faultOf_33 0 rfl ?_
  obtain ⟨c2, hc2, hf⟩ := bs hf
  refine x_callV (rest := []) (n := 0) C (ct_M_skip E F _ _  hc2) mi_M_skip (by decide) mc_100 ⟨_, cel_M kc_100⟩ rfl rfl wL_M_123 d_M_faultOf_34 rfl rfl (Nat.le_of_ble_eq_true rfl) ?_
  show X _ _ _ _ _ _ _ _ _ _ _ _ _ _ _ _ _ _ _ _ _ []
  refine x_iconst (v := 1) C d_M_faultOf_37 rfl ?_
  refine x_istore_n (lv' := [(2, .int 1), (0, .ref (ad 100)), (1, .int x1)]) C d_M_faultOf_38 (by decide) rfl ?_
  obtain ⟨u12, hu12, hf⟩ := bs hf
  refine x_sub [1, 0] rfl ?_
  refine lw_M_faultOf_39 E C F _ _ _ _ hu12 ?_
  refine x_iload_n C d_M_faultOf_86 1 rfl ?_
  refine x_if_eq C 103 d_M_faultOf_87 (by decide) (fun g13 => ?_) (fun g13 => ?_)
  · replace hf := it g13 hf
    refine x_aload_n C d_M_faultOf_103 0 rfl ?_
    refine xg_M_place C wF_M_100 mc_100 kc_100 d_M_faultOf_104 ?_
    cases hf
    exact x_iret C d_M_faultOf_107 rfl rfl
  · replace hf := ie g13 hf
    refine x_aload_n C d_M_faultOf_90 0 rfl ?_
    refine xg_M_readPersons C wF_M_113 mc_100 kc_100 d_M_faultOf_91 ?_
    refine x_iconst (v := 1) C d_M_faultOf_94 rfl ?_
    refine x_icmp_le C 103 d_M_faultOf_95 (by decide) (fun g14 => ?_) (fun g14 => ?_)
    · replace hf := it g14 hf
      refine x_aload_n C d_M_faultOf_103 0 rfl ?_
      refine xg_M_place C wF_M_100 mc_100 kc_100 d_M_faultOf_104 ?_
      cases hf
      exact x_iret C d_M_faultOf_107 rfl rfl
    · replace hf := ie g14 hf
      refine x_bipush (v := (-9)) C d_M_faultOf_98 rfl ?_
      refine x_goto C 107 d_M_faultOf_100 (by decide) ?_
      cases hf
      exact x_iret C d_M_faultOf_107 rfl rfl
set_option maxHeartbeats 4000000 in
set_option maxRecDepth 100000 in
theorem ct_M_fault {l : Launch} {D : va_G} {ad : Nat → Nat} {cs : Nat → ClassId} {A : Nat → Prop} (E : Ev ad cs A LM) (F : Nat) (M : Mem) (x1 : Int32) (R : (Int32 × Mem))  (hf : M_fault F M x1 = some R) : Met l y_M_fault (Cond.code y_M_fault b_M_fault 2 (some .int) :: wl) (rmD 4) (PX D ad cs A LM [.ref (ad 100), .int x1] M) (QX D ad cs A LM (some (.int R.1)) R.2) 0 0 A := by
  refine x_enter (lv := [(0, .ref (ad 100)), (1, .int x1)]) E mi_M_fault.1 (Nat.le_of_ble_eq_true rfl) rfl (fun p e s m args below meth c C => ?_)
  unfold M_fault at hf
  refine x_iload_n C d_M_fault_0 1 rfl ?_
  obtain ⟨c1, hc1, hf⟩ := bs hf
  refine x_callS (rest := []) (n := 1) C (ct_M_isText E F _ _ _  hc1) mi_M_isText (by decide) wL_M_94 d_M_fault_1 rfl rfl (Nat.le_of_ble_eq_true rfl) ?_
  show X _ _ _ _ _ _ _ _ _ _ _ _ _ _ _ _ _ _ _ _ _ [.int c1]
  refine x_if_ne C 9 d_M_fault_4 (by decide) (fun g2 => ?_) (fun g2 => ?_)
  · replace hf := ie g2 hf
    refine x_aload_n C d_M_fault_9 0 rfl ?_
    refine xg_M_lengths C wF_M_22 mc_100 kc_100 d_M_fault_10 ?_
    refine x_iload_n C d_M_fault_13 1 rfl ?_
    obtain ⟨t3, ht3, hf⟩ := bs hf
    refine x_iald C ht3 mc_105 kc_105 d_M_fault_14 ?_
    refine x_if_ge C 26 d_M_fault_15 (by decide) (fun g4 => ?_) (fun g4 => ?_)
    · replace hf := it g4 hf
      refine x_aload_n C d_M_fault_26 0 rfl ?_
      refine x_iload_n C d_M_fault_27 1 rfl ?_
      obtain ⟨c5, hc5, hf⟩ := bs hf
      refine x_callV (rest := []) (n := 1) C (ct_M_faultOf E F _ _ _  hc5) mi_M_faultOf (by decide) mc_100 ⟨_, cel_M kc_100⟩ rfl rfl wL_M_133 d_M_fault_28 rfl rfl (Nat.le_of_ble_eq_true rfl) ?_
      show X _ _ _ _ _ _ _ _ _ _ _ _ _ _ _ _ _ _ _ _ _ [.int c5.1]
      cases hf
      exact x_iret C d_M_fault_31 rfl rfl
    · replace hf := ie g4 hf
      refine x_aload_n C d_M_fault_18 0 rfl ?_
      refine x_iconst (v := 1) C d_M_fault_19 rfl ?_
      obtain ⟨c6, hc6, hf⟩ := bs hf
      refine x_callV (rest := []) (n := 1) C (ct_M_find E F _ _ _  hc6) mi_M_find (by decide) mc_100 ⟨_, cel_M kc_100⟩ rfl rfl wL_M_75 d_M_fault_20 rfl rfl (Nat.le_of_ble_eq_true rfl) ?_
      show X _ _ _ _ _ _ _ _ _ _ _ _ _ _ _ _ _ _ _ _ _ [.int c6.1]
      refine x_goto C 31 d_M_fault_23 (by decide) ?_
      cases hf
      exact x_iret C d_M_fault_31 rfl rfl
  · replace hf := it g2 hf
    refine x_iconst (v := (-1)) C d_M_fault_7 rfl ?_
    cases hf
    exact x_iret C d_M_fault_8 rfl rfl
set_option maxHeartbeats 4000000 in
set_option maxRecDepth 100000 in
theorem ct_M_finding {l : Launch} {D : va_G} {ad : Nat → Nat} {cs : Nat → ClassId} {A : Nat → Prop} (E : Ev ad cs A LM) (F : Nat) (M : Mem)  (R : Int32)  (hf : M_finding F M = some R) : Met l y_M_finding (Cond.code y_M_finding b_M_finding 1 (some .int) :: wl) (rmD 0) (PX D ad cs A LM [.ref (ad 100)] M) (QX D ad cs A LM (some (.int R)) M) 0 0 A := by
  refine x_enter (lv := [(0, .ref (ad 100))]) E mi_M_finding.1 (Nat.le_of_ble_eq_true rfl) rfl (fun p e s m args below meth c C => ?_)
  unfold M_finding at hf
  refine x_aload_n C d_M_finding_0 0 rfl ?_
  refine xg_M_finding C wF_M_56 mc_100 kc_100 d_M_finding_1 ?_
  cases hf
  exact x_iret C d_M_finding_4 rfl rfl
set_option maxHeartbeats 4000000 in
set_option maxRecDepth 100000 in
theorem ct_M_findings {l : Launch} {D : va_G} {ad : Nat → Nat} {cs : Nat → ClassId} {A : Nat → Prop} (E : Ev ad cs A LM) (F : Nat) (M : Mem) (x1 : Int32) (R : Int32)  (hf : M_findings F M x1 = some R) : Met l y_M_findings (Cond.code y_M_findings b_M_findings 2 (some .int) :: wl) (rmD 1) (PX D ad cs A LM [.ref (ad 100), .int x1] M) (QX D ad cs A LM (some (.int R)) M) 0 0 A := by
  refine x_enter (lv := [(0, .ref (ad 100)), (1, .int x1)]) E mi_M_findings.1 (Nat.le_of_ble_eq_true rfl) rfl (fun p e s m args below meth c C => ?_)
  unfold M_findings at hf
  refine x_iload_n C d_M_findings_0 1 rfl ?_
  refine x_i2l C d_M_findings_1 ?_
  refine x_lconst (v := 1) C d_M_findings_2 rfl ?_
  refine x_ldc2 C wJ_M_63 d_M_findings_3 ?_
  obtain ⟨c1, hc1, hf⟩ := bs hf
  refine x_callS (rest := []) (n := 3) C (ct_M_in E F _ _ _ _ _  hc1) mi_M_in (by decide) wL_M_65 d_M_findings_6 rfl rfl (Nat.le_of_ble_eq_true rfl) ?_
  show X _ _ _ _ _ _ _ _ _ _ _ _ _ _ _ _ _ _ _ _ _ [.int c1]
  refine x_if_eq C 21 d_M_findings_9 (by decide) (fun g2 => ?_) (fun g2 => ?_)
  · replace hf := it g2 hf
    refine x_iconst (v := (-1)) C d_M_findings_21 rfl ?_
    cases hf
    exact x_iret C d_M_findings_22 rfl rfl
  · replace hf := ie g2 hf
    refine x_aload_n C d_M_findings_12 0 rfl ?_
    refine xg_M_findings C wF_M_32 mc_100 kc_100 d_M_findings_13 ?_
    refine x_iload_n C d_M_findings_16 1 rfl ?_
    obtain ⟨t3, ht3, hf⟩ := bs hf
    refine x_iald C ht3 mc_107 kc_107 d_M_findings_17 ?_
    refine x_goto C 22 d_M_findings_18 (by decide) ?_
    cases hf
    exact x_iret C d_M_findings_22 rfl rfl
set_option maxHeartbeats 4000000 in
set_option maxRecDepth 100000 in
theorem ct_M_rate {l : Launch} {D : va_G} {ad : Nat → Nat} {cs : Nat → ClassId} {A : Nat → Prop} (E : Ev ad cs A LM) (F : Nat) (M : Mem) (x1 : Int32) (x2 : Int32) (R : Int64)  (hf : M_rate F M x1 x2 = some R) : Met l y_M_rate (Cond.code y_M_rate b_M_rate 3 (some .long) :: wl) (rmD 0) (PX D ad cs A LM [.ref (ad 100), .int x1, .int x2] M) (QX D ad cs A LM (some (.long R)) M) 0 0 A := by
  refine x_enter (lv := [(0, .ref (ad 100)), (1, .int x1), (2, .int x2)]) E mi_M_rate.1 (Nat.le_of_ble_eq_true rfl) rfl (fun p e s m args below meth c C => ?_)
  unfold M_rate at hf
  refine x_aload_n C d_M_rate_0 0 rfl ?_
  refine xg_M_items C wF_M_19 mc_100 kc_100 d_M_rate_1 ?_
  refine x_bipush (v := 40) C d_M_rate_4 rfl ?_
  refine x_iload_n C d_M_rate_6 1 rfl ?_
  refine x_imul C d_M_rate_7 ?_
  refine x_iload_n C d_M_rate_8 2 rfl ?_
  refine x_iadd C d_M_rate_9 ?_
  obtain ⟨t1, ht1, hf⟩ := bs hf
  refine x_iald C ht1 mc_104 kc_104 d_M_rate_10 ?_
  refine x_i2l C d_M_rate_11 ?_
  cases hf
  exact x_lret C d_M_rate_12 rfl rfl
set_option maxHeartbeats 4000000 in
set_option maxRecDepth 100000 in
theorem ct_M_gain {l : Launch} {D : va_G} {ad : Nat → Nat} {cs : Nat → ClassId} {A : Nat → Prop} (E : Ev ad cs A LM) (F : Nat) (M : Mem) (x1 : Int32) (R : (Int32 × Mem))  (hf : M_gain F M x1 = some R) : Met l y_M_gain (Cond.code y_M_gain b_M_gain 7 (some .int) :: wl) (rmD 2) (PX D ad cs A LM [.ref (ad 100), .int x1] M) (QX D ad cs A LM (some (.int R.1)) R.2) 0 0 A := by
  refine x_enter (lv := [(0, .ref (ad 100)), (1, .int x1)]) E mi_M_gain.1 (Nat.le_of_ble_eq_true rfl) rfl (fun p e s m args below meth c C => ?_)
  unfold M_gain at hf
  refine x_iload_n C d_M_gain_0 1 rfl ?_
  obtain ⟨c1, hc1, hf⟩ := bs hf
  refine x_callS (rest := []) (n := 1) C (ct_M_isRow E F _ _ _  hc1) mi_M_isRow (by decide) wL_M_71 d_M_gain_1 rfl rfl (Nat.le_of_ble_eq_true rfl) ?_
  show X _ _ _ _ _ _ _ _ _ _ _ _ _ _ _ _ _ _ _ _ _ [.int c1]
  refine x_if_ne C 9 d_M_gain_4 (by decide) (fun g2 => ?_) (fun g2 => ?_)
  · replace hf := ie g2 hf
    refine x_aload_n C d_M_gain_9 0 rfl ?_
    refine xg_M_sizes C wF_M_16 mc_100 kc_100 d_M_gain_10 ?_
    refine x_iload_n C d_M_gain_13 1 rfl ?_
    obtain ⟨t3, ht3, hf⟩ := bs hf
    refine x_iald C ht3 mc_103 kc_103 d_M_gain_14 ?_
    refine x_if_ge C 24 d_M_gain_15 (by decide) (fun g4 => ?_) (fun g4 => ?_)
    · replace hf := it g4 hf
      refine x_aload_n C d_M_gain_24 0 rfl ?_
      refine xg_M_sizes C wF_M_16 mc_100 kc_100 d_M_gain_25 ?_
      refine x_iload_n C d_M_gain_28 1 rfl ?_
      obtain ⟨t5, ht5, hf⟩ := bs hf
      refine x_iald C ht5 mc_103 kc_103 d_M_gain_29 ?_
      refine x_bipush (v := 6) C d_M_gain_30 rfl ?_
      refine x_icmp_eq C 41 d_M_gain_32 (by decide) (fun g6 => ?_) (fun g6 => ?_)
      · replace hf := it g6 hf
        refine x_aload_n C d_M_gain_41 0 rfl ?_
        refine x_iload_n C d_M_gain_42 1 rfl ?_
        obtain ⟨c7, hc7, hf⟩ := bs hf
        refine x_callV (rest := []) (n := 1) C (ct_M_areRates E F _ _ _  hc7) mi_M_areRates (by decide) mc_100 ⟨_, cel_M kc_100⟩ rfl rfl wL_M_294 d_M_gain_43 rfl rfl (Nat.le_of_ble_eq_true rfl) ?_
        show X _ _ _ _ _ _ _ _ _ _ _ _ _ _ _ _ _ _ _ _ _ [.int c7]
        refine x_if_ne C 55 d_M_gain_46 (by decide) (fun g8 => ?_) (fun g8 => ?_)
        · replace hf := ie g8 hf
          refine x_aload_n C d_M_gain_55 0 rfl ?_
          refine x_iload_n C d_M_gain_56 1 rfl ?_
          refine x_iconst (v := 0) C d_M_gain_57 rfl ?_
          obtain ⟨c9, hc9, hf⟩ := bs hf
          refine x_callV (rest := []) (n := 2) C (ct_M_rate E F _ _ _ _  hc9) mi_M_rate (by decide) mc_100 ⟨_, cel_M kc_100⟩ rfl rfl wL_M_297 d_M_gain_58 rfl rfl (Nat.le_of_ble_eq_true rfl) ?_
          show X _ _ _ _ _ _ _ _ _ _ _ _ _ _ _ _ _ _ _ _ _ [.long c9]
          refine x_aload_n C d_M_gain_61 0 rfl ?_
          refine x_iload_n C d_M_gain_62 1 rfl ?_
          refine x_iconst (v := 2) C d_M_gain_63 rfl ?_
          obtain ⟨c10, hc10, hf⟩ := bs hf
          refine x_callV (rest := [.long c9]) (n := 2) C (ct_M_rate E F _ _ _ _  hc10) mi_M_rate (by decide) mc_100 ⟨_, cel_M kc_100⟩ rfl rfl wL_M_297 d_M_gain_64 rfl rfl (Nat.le_of_ble_eq_true rfl) ?_
          show X _ _ _ _ _ _ _ _ _ _ _ _ _ _ _ _ _ _ _ _ _ [.long c10, .long c9]
          refine x_lmul C d_M_gain_67 ?_
          refine x_ldc2 C wJ_M_301 d_M_gain_68 ?_
          refine x_lcmp C d_M_gain_71 ?_
          obtain ⟨j11, hj11, hf⟩ := bs hf
          have Jj11 : X p l e 2 s m args below meth c 7 D ad cs A LM (some (.int R.1)) R.2 M 80 [(0, .ref (ad 100)), (1, .int x1)] [.int j11] := by
            refine x_istore_n (lv' := [(2, .int j11), (0, .ref (ad 100)), (1, .int x1)]) C d_M_gain_80 (by decide) rfl ?_
            refine x_aload_n C d_M_gain_81 1 rfl ?_
            refine x_iload_n C d_M_gain_82 2 rfl ?_
            refine x_iconst (v := 1) C d_M_gain_83 rfl ?_
            obtain ⟨c12, hc12, hf⟩ := bs hf
            refine x_callV (rest := []) (n := 2) C (ct_M_rate E F _ _ _ _  hc12) mi_M_rate (by decide) mc_100 ⟨_, cel_M kc_100⟩ rfl rfl wL_M_297 d_M_gain_84 rfl rfl (Nat.le_of_ble_eq_true rfl) ?_
            show X _ _ _ _ _ _ _ _ _ _ _ _ _ _ _ _ _ _ _ _ _ [.long c12]
            refine x_aload_n C d_M_gain_87 1 rfl ?_
            refine x_iload_n C d_M_gain_88 2 rfl ?_
            refine x_iconst (v := 4) C d_M_gain_89 rfl ?_
            obtain ⟨c13, hc13, hf⟩ := bs hf
            refine x_callV (rest := [.long c12]) (n := 2) C (ct_M_rate E F _ _ _ _  hc13) mi_M_rate (by decide) mc_100 ⟨_, cel_M kc_100⟩ rfl rfl wL_M_297 d_M_gain_90 rfl rfl (Nat.le_of_ble_eq_true rfl) ?_
            show X _ _ _ _ _ _ _ _ _ _ _ _ _ _ _ _ _ _ _ _ _ [.long c13, .long c12]
            refine x_lmul C d_M_gain_93 ?_
            refine x_ldc2 C wJ_M_301 d_M_gain_94 ?_
            refine x_lcmp C d_M_gain_97 ?_
            obtain ⟨j14, hj14, hf⟩ := bs hf
            have Jj14 : X p l e 2 s m args below meth c 7 D ad cs A LM (some (.int R.1)) R.2 M 106 [(0, .ref (ad 100)), (1, .int x1), (2, .int j11)] [.int j14] := by
              refine x_istore_n (lv' := [(3, .int j14), (0, .ref (ad 100)), (1, .int x1), (2, .int j11)]) C d_M_gain_106 (by decide) rfl ?_
              refine x_aload_n C d_M_gain_107 1 rfl ?_
              refine x_iload_n C d_M_gain_108 2 rfl ?_
              refine x_iconst (v := 3) C d_M_gain_109 rfl ?_
              obtain ⟨c15, hc15, hf⟩ := bs hf
              refine x_callV (rest := []) (n := 2) C (ct_M_rate E F _ _ _ _  hc15) mi_M_rate (by decide) mc_100 ⟨_, cel_M kc_100⟩ rfl rfl wL_M_297 d_M_gain_110 rfl rfl (Nat.le_of_ble_eq_true rfl) ?_
              show X _ _ _ _ _ _ _ _ _ _ _ _ _ _ _ _ _ _ _ _ _ [.long c15]
              refine x_aload_n C d_M_gain_113 1 rfl ?_
              refine x_iload_n C d_M_gain_114 2 rfl ?_
              refine x_iconst (v := 5) C d_M_gain_115 rfl ?_
              obtain ⟨c16, hc16, hf⟩ := bs hf
              refine x_callV (rest := [.long c15]) (n := 2) C (ct_M_rate E F _ _ _ _  hc16) mi_M_rate (by decide) mc_100 ⟨_, cel_M kc_100⟩ rfl rfl wL_M_297 d_M_gain_116 rfl rfl (Nat.le_of_ble_eq_true rfl) ?_
              show X _ _ _ _ _ _ _ _ _ _ _ _ _ _ _ _ _ _ _ _ _ [.long c16, .long c15]
              refine x_lmul C d_M_gain_119 ?_
              refine x_ldc2 C wJ_M_301 d_M_gain_120 ?_
              refine x_lcmp C d_M_gain_123 ?_
              obtain ⟨j17, hj17, hf⟩ := bs hf
              have Jj17 : X p l e 2 s m args below meth c 7 D ad cs A LM (some (.int R.1)) R.2 M 132 [(0, .ref (ad 100)), (1, .int x1), (2, .int j11), (3, .int j14)] [.int j17] := by
                refine x_istore (lv' := [(4, .int j17), (0, .ref (ad 100)), (1, .int x1), (2, .int j11), (3, .int j14)]) C d_M_gain_132 (by decide) rfl ?_
                refine x_aload_n C d_M_gain_134 1 rfl ?_
                refine x_iload_n C d_M_gain_135 2 rfl ?_
                refine x_iconst (v := 0) C d_M_gain_136 rfl ?_
                obtain ⟨c18, hc18, hf⟩ := bs hf
                refine x_callV (rest := []) (n := 2) C (ct_M_rate E F _ _ _ _  hc18) mi_M_rate (by decide) mc_100 ⟨_, cel_M kc_100⟩ rfl rfl wL_M_297 d_M_gain_137 rfl rfl (Nat.le_of_ble_eq_true rfl) ?_
                show X _ _ _ _ _ _ _ _ _ _ _ _ _ _ _ _ _ _ _ _ _ [.long c18]
                refine x_aload_n C d_M_gain_140 1 rfl ?_
                refine x_iload_n C d_M_gain_141 2 rfl ?_
                refine x_iconst (v := 3) C d_M_gain_142 rfl ?_
                obtain ⟨c19, hc19, hf⟩ := bs hf
                refine x_callV (rest := [.long c18]) (n := 2) C (ct_M_rate E F _ _ _ _  hc19) mi_M_rate (by decide) mc_100 ⟨_, cel_M kc_100⟩ rfl rfl wL_M_297 d_M_gain_143 rfl rfl (Nat.le_of_ble_eq_true rfl) ?_
                show X _ _ _ _ _ _ _ _ _ _ _ _ _ _ _ _ _ _ _ _ _ [.long c19, .long c18]
                refine x_lmul C d_M_gain_146 ?_
                refine x_aload_n C d_M_gain_147 1 rfl ?_
                refine x_iload_n C d_M_gain_148 2 rfl ?_
                refine x_iconst (v := 4) C d_M_gain_149 rfl ?_
                obtain ⟨c20, hc20, hf⟩ := bs hf
                refine x_callV (rest := [.long (c18 * c19)]) (n := 2) C (ct_M_rate E F _ _ _ _  hc20) mi_M_rate (by decide) mc_100 ⟨_, cel_M kc_100⟩ rfl rfl wL_M_297 d_M_gain_150 rfl rfl (Nat.le_of_ble_eq_true rfl) ?_
                show X _ _ _ _ _ _ _ _ _ _ _ _ _ _ _ _ _ _ _ _ _ [.long c20, .long (c18 * c19)]
                refine x_lmul C d_M_gain_153 ?_
                refine x_ldc2 C wJ_M_303 d_M_gain_154 ?_
                refine x_lcmp C d_M_gain_157 ?_
                obtain ⟨j21, hj21, hf⟩ := bs hf
                have Jj21 : X p l e 2 s m args below meth c 7 D ad cs A LM (some (.int R.1)) R.2 M 166 [(0, .ref (ad 100)), (1, .int x1), (2, .int j11), (3, .int j14), (4, .int j17)] [.int j21] := by
                  refine x_istore (lv' := [(5, .int j21), (0, .ref (ad 100)), (1, .int x1), (2, .int j11), (3, .int j14), (4, .int j17)]) C d_M_gain_166 (by decide) rfl ?_
                  refine x_aload_n C d_M_gain_168 1 rfl ?_
                  refine x_iload_n C d_M_gain_169 2 rfl ?_
                  refine x_iconst (v := 1) C d_M_gain_170 rfl ?_
                  obtain ⟨c22, hc22, hf⟩ := bs hf
                  refine x_callV (rest := []) (n := 2) C (ct_M_rate E F _ _ _ _  hc22) mi_M_rate (by decide) mc_100 ⟨_, cel_M kc_100⟩ rfl rfl wL_M_297 d_M_gain_171 rfl rfl (Nat.le_of_ble_eq_true rfl) ?_
                  show X _ _ _ _ _ _ _ _ _ _ _ _ _ _ _ _ _ _ _ _ _ [.long c22]
                  refine x_aload_n C d_M_gain_174 1 rfl ?_
                  refine x_iload_n C d_M_gain_175 2 rfl ?_
                  refine x_iconst (v := 5) C d_M_gain_176 rfl ?_
                  obtain ⟨c23, hc23, hf⟩ := bs hf
                  refine x_callV (rest := [.long c22]) (n := 2) C (ct_M_rate E F _ _ _ _  hc23) mi_M_rate (by decide) mc_100 ⟨_, cel_M kc_100⟩ rfl rfl wL_M_297 d_M_gain_177 rfl rfl (Nat.le_of_ble_eq_true rfl) ?_
                  show X _ _ _ _ _ _ _ _ _ _ _ _ _ _ _ _ _ _ _ _ _ [.long c23, .long c22]
                  refine x_lmul C d_M_gain_180 ?_
                  refine x_aload_n C d_M_gain_181 1 rfl ?_
                  refine x_iload_n C d_M_gain_182 2 rfl ?_
                  refine x_iconst (v := 2) C d_M_gain_183 rfl ?_
                  obtain ⟨c24, hc24, hf⟩ := bs hf
                  refine x_callV (rest := [.long (c22 * c23)]) (n := 2) C (ct_M_rate E F _ _ _ _  hc24) mi_M_rate (by decide) mc_100 ⟨_, cel_M kc_100⟩ rfl rfl wL_M_297 d_M_gain_184 rfl rfl (Nat.le_of_ble_eq_true rfl) ?_
                  show X _ _ _ _ _ _ _ _ _ _ _ _ _ _ _ _ _ _ _ _ _ [.long c24, .long (c22 * c23)]
                  refine x_lmul C d_M_gain_187 ?_
                  refine x_ldc2 C wJ_M_303 d_M_gain_188 ?_
                  refine x_lcmp C d_M_gain_191 ?_
                  obtain ⟨j25, hj25, hf⟩ := bs hf
                  have Jj25 : X p l e 2 s m args below meth c 7 D ad cs A LM (some (.int R.1)) R.2 M 200 [(2, .int j11), (3, .int j14), (4, .int j17), (5, .int j21)] [.int j25] := by
                    refine x_istore (lv' := [(6, .int j25), (2, .int j11), (3, .int j14), (4, .int j17), (5, .int j21)]) C d_M_gain_200 (by decide) rfl ?_
                    refine x_iload_n C d_M_gain_202 1 rfl ?_
                    refine x_if_eq C 210 d_M_gain_203 (by decide) (fun g26 => ?_) (fun g26 => ?_)
                    · replace hf := it g26 hf
                      refine x_iload_n C d_M_gain_210 2 rfl ?_
                      refine x_if_eq C 218 d_M_gain_211 (by decide) (fun g27 => ?_) (fun g27 => ?_)
                      · replace hf := it g27 hf
                        refine x_iload C d_M_gain_218 3 rfl ?_
                        refine x_if_eq C 227 d_M_gain_220 (by decide) (fun g28 => ?_) (fun g28 => ?_)
                        · replace hf := it g28 hf
                          refine x_iload C d_M_gain_227 4 rfl ?_
                          refine x_if_eq C 236 d_M_gain_229 (by decide) (fun g29 => ?_) (fun g29 => ?_)
                          · replace hf := it g29 hf
                            refine x_iload C d_M_gain_236 0 rfl ?_
                            refine x_if_eq C 245 d_M_gain_238 (by decide) (fun g30 => ?_) (fun g30 => ?_)
                            · replace hf := it g30 hf
                              refine x_bipush (v := (-9)) C d_M_gain_245 rfl ?_
                              cases hf
                              exact x_iret C d_M_gain_247 rfl rfl
                            · replace hf := ie g30 hf
                              refine x_iconst (v := 4) C d_M_gain_241 rfl ?_
                              refine x_goto C 247 d_M_gain_242 (by decide) ?_
                              cases hf
                              exact x_iret C d_M_gain_247 rfl rfl
                          · replace hf := ie g29 hf
                            refine x_iconst (v := 3) C d_M_gain_232 rfl ?_
                            refine x_goto C 247 d_M_gain_233 (by decide) ?_
                            cases hf
                            exact x_iret C d_M_gain_247 rfl rfl
                        · replace hf := ie g28 hf
                          refine x_iconst (v := 2) C d_M_gain_223 rfl ?_
                          refine x_goto C 247 d_M_gain_224 (by decide) ?_
                          cases hf
                          exact x_iret C d_M_gain_247 rfl rfl
                      · replace hf := ie g27 hf
                        refine x_iconst (v := 1) C d_M_gain_214 rfl ?_
                        refine x_goto C 247 d_M_gain_215 (by decide) ?_
                        cases hf
                        exact x_iret C d_M_gain_247 rfl rfl
                    · replace hf := ie g26 hf
                      refine x_iconst (v := 0) C d_M_gain_206 rfl ?_
                      refine x_goto C 247 d_M_gain_207 (by decide) ?_
                      cases hf
                      exact x_iret C d_M_gain_247 rfl rfl
                  replace hf := hj25
                  refine x_if_le C 199 d_M_gain_192 (by decide) (fun g31 => ?_) (fun g31 => ?_)
                  · replace hf := it g31 hf
                    refine x_iconst (v := 0) C d_M_gain_199 rfl ?_
                    cases hf
                    exact x_sub [3, 4, 5, 0] rfl Jj25
                  · replace hf := ie g31 hf
                    refine x_iconst (v := 1) C d_M_gain_195 rfl ?_
                    refine x_goto C 200 d_M_gain_196 (by decide) ?_
                    cases hf
                    exact x_sub [3, 4, 5, 0] rfl Jj25
                replace hf := hj21
                refine x_if_le C 165 d_M_gain_158 (by decide) (fun g32 => ?_) (fun g32 => ?_)
                · replace hf := it g32 hf
                  refine x_iconst (v := 0) C d_M_gain_165 rfl ?_
                  cases hf
                  exact x_sub [1, 2, 3, 4, 0] rfl Jj21
                · replace hf := ie g32 hf
                  refine x_iconst (v := 1) C d_M_gain_161 rfl ?_
                  refine x_goto C 166 d_M_gain_162 (by decide) ?_
                  cases hf
                  exact x_sub [1, 2, 3, 4, 0] rfl Jj21
              replace hf := hj17
              refine x_if_le C 131 d_M_gain_124 (by decide) (fun g33 => ?_) (fun g33 => ?_)
              · replace hf := it g33 hf
                refine x_iconst (v := 0) C d_M_gain_131 rfl ?_
                cases hf
                exact x_sub [1, 2, 3, 0] rfl Jj17
              · replace hf := ie g33 hf
                refine x_iconst (v := 1) C d_M_gain_127 rfl ?_
                refine x_goto C 132 d_M_gain_128 (by decide) ?_
                cases hf
                exact x_sub [1, 2, 3, 0] rfl Jj17
            replace hf := hj14
            refine x_if_le C 105 d_M_gain_98 (by decide) (fun g34 => ?_) (fun g34 => ?_)
            · replace hf := it g34 hf
              refine x_iconst (v := 0) C d_M_gain_105 rfl ?_
              cases hf
              exact x_sub [1, 2, 0] rfl Jj14
            · replace hf := ie g34 hf
              refine x_iconst (v := 1) C d_M_gain_101 rfl ?_
              refine x_goto C 106 d_M_gain_102 (by decide) ?_
              cases hf
              exact x_sub [1, 2, 0] rfl Jj14
          replace hf := hj11
          refine x_if_le C 79 d_M_gain_72 (by decide) (fun g35 => ?_) (fun g35 => ?_)
          · replace hf := it g35 hf
            refine x_iconst (v := 0) C d_M_gain_79 rfl ?_
            cases hf
            exact x_sub [0, 1] rfl Jj11
          · replace hf := ie g35 hf
            refine x_iconst (v := 1) C d_M_gain_75 rfl ?_
            refine x_goto C 80 d_M_gain_76 (by decide) ?_
            cases hf
            exact x_sub [0, 1] rfl Jj11
        · replace hf := it g8 hf
          refine x_aload_n C d_M_gain_49 0 rfl ?_
          refine x_iconst (v := 3) C d_M_gain_50 rfl ?_
          obtain ⟨c36, hc36, hf⟩ := bs hf
          refine x_callV (rest := []) (n := 1) C (ct_M_find E F _ _ _  hc36) mi_M_find (by decide) mc_100 ⟨_, cel_M kc_100⟩ rfl rfl wL_M_75 d_M_gain_51 rfl rfl (Nat.le_of_ble_eq_true rfl) ?_
          show X _ _ _ _ _ _ _ _ _ _ _ _ _ _ _ _ _ _ _ _ _ [.int c36.1]
          cases hf
          exact x_iret C d_M_gain_54 rfl rfl
      · replace hf := ie g6 hf
        refine x_aload_n C d_M_gain_35 0 rfl ?_
        refine x_iconst (v := 5) C d_M_gain_36 rfl ?_
        obtain ⟨c37, hc37, hf⟩ := bs hf
        refine x_callV (rest := []) (n := 1) C (ct_M_find E F _ _ _  hc37) mi_M_find (by decide) mc_100 ⟨_, cel_M kc_100⟩ rfl rfl wL_M_75 d_M_gain_37 rfl rfl (Nat.le_of_ble_eq_true rfl) ?_
        show X _ _ _ _ _ _ _ _ _ _ _ _ _ _ _ _ _ _ _ _ _ [.int c37.1]
        cases hf
        exact x_iret C d_M_gain_40 rfl rfl
    · replace hf := ie g4 hf
      refine x_aload_n C d_M_gain_18 0 rfl ?_
      refine x_iconst (v := 1) C d_M_gain_19 rfl ?_
      obtain ⟨c38, hc38, hf⟩ := bs hf
      refine x_callV (rest := []) (n := 1) C (ct_M_find E F _ _ _  hc38) mi_M_find (by decide) mc_100 ⟨_, cel_M kc_100⟩ rfl rfl wL_M_75 d_M_gain_20 rfl rfl (Nat.le_of_ble_eq_true rfl) ?_
      show X _ _ _ _ _ _ _ _ _ _ _ _ _ _ _ _ _ _ _ _ _ [.int c38.1]
      cases hf
      exact x_iret C d_M_gain_23 rfl rfl
  · replace hf := it g2 hf
    refine x_iconst (v := (-1)) C d_M_gain_7 rfl ?_
    cases hf
    exact x_iret C d_M_gain_8 rfl rfl
