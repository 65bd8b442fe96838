/-! contracts (by program: wip/whole/emit.py) -/
set_option maxHeartbeats 4000000 in
set_option maxRecDepth 100000 in
theorem lw_B_takeIfFitting_2 {p : Program} {l : Launch} {e : Env} {s : State} {m : MethodId} {args : Array Value} {below : List Frame} {meth : Method} {c : Code} {D : va_G} {ad : Nat → Nat} {cs : Nat → ClassId} {A : Nat → Prop} {V : Option Value} {N : Mem} (E : Ev ad cs A LX) (C : Cx p s m args meth c "KissClearing$Blushes" b_B_takeIfFitting 4 none D ad cs A LX) (F : Nat) (M : Mem) (k1 : Nat) (x2 : Int32) (hm1 : k1 ∈ LX) (hk1 : kd k1 = 12) : ∀ (n : Nat) (x3 : Int32) (u0 : (Sum Mem Unit)), L_B_takeIfFitting_2 F M k1 x2 n x3 = some u0 → (∀ r, u0 = .inl r → V = none ∧ N = r) →  (∀ u, u0 = .inr u → X p l e 0 s m args below meth c 4 D ad cs A LX V N M 26 [(0, .ref (ad 74)), (2, .int x2)] []) → X p l e 0 s m args below meth c 4 D ad cs A LX V N M 2 [(0, .ref (ad 74)), (1, .ref (ad k1)), (2, .int x2), (3, .int x3)] [] := by
  intro n
  induction n with
  | zero => intro x3 u0 hf; cases hf
  | succ n ih =>
    intro x3 u0 hf Kr Kx
    replace hf : B_B_takeIfFitting_2 F M k1 x2 (L_B_takeIfFitting_2 F M k1 x2 n) x3 = some u0 := hf
    unfold B_B_takeIfFitting_2 at hf
    refine x_iload_n C d_B_takeIfFitting_2 3 rfl ?_
    refine x_aload_n C d_B_takeIfFitting_3 1 rfl ?_
    refine xg_V_personCount C wF_B_25 hm1 hk1 d_B_takeIfFitting_4 ?_
    refine x_icmp_ge C 26 d_B_takeIfFitting_7 (by decide) (fun g1 => ?_) (fun g1 => ?_)
    · replace hf := it g1 hf
      cases hf
      exact x_sub [0, 2] rfl (Kx _ rfl)
    · replace hf := ie g1 hf
      refine x_aload_n C d_B_takeIfFitting_10 0 rfl ?_
      refine xg_B_lacking C wF_B_21 mc_74 kc_74 d_B_takeIfFitting_11 ?_
      refine x_iload_n C d_B_takeIfFitting_14 3 rfl ?_
      obtain ⟨t2, ht2, hf⟩ := bs hf
      refine x_iald C ht2 mc_75 kc_75 d_B_takeIfFitting_15 ?_
      refine x_if_eq C 20 d_B_takeIfFitting_16 (by decide) (fun g3 => ?_) (fun g3 => ?_)
      · replace hf := it g3 hf
        refine x_iinc (v := (x3 + 1)) (lv' := [(3, .int (x3 + 1)), (0, .ref (ad 74)), (1, .ref (ad k1)), (2, .int x2)]) C d_B_takeIfFitting_20 3 rfl rfl (by decide) rfl ?_
        refine x_goto C 2 d_B_takeIfFitting_23 (by decide) ?_
        refine x_sub [1, 2, 3, 0] rfl ?_
        exact ih _ _ hf Kr Kx
      · replace hf := ie g3 hf
        cases hf
        obtain ⟨hV, hN⟩ := Kr _ rfl
        exact x_vret C d_B_takeIfFitting_19 hV hN
set_option maxHeartbeats 4000000 in
set_option maxRecDepth 100000 in
theorem ct_B_takeIfFitting {l : Launch} {D : va_G} {ad : Nat → Nat} {cs : Nat → ClassId} {A : Nat → Prop} (E : Ev ad cs A LX) (F : Nat) (M : Mem) (k1 : Nat) (x2 : Int32) (R : Mem) (hm1 : k1 ∈ LX) (hk1 : kd k1 = 12) (hf : B_takeIfFitting F M k1 x2 = some R) : Met l y_B_takeIfFitting (Cond.code y_B_takeIfFitting b_B_takeIfFitting 4 none :: wl) (rmD 0) (PX D ad cs A LX [.ref (ad 74), .ref (ad k1), .int x2] M) (QX D ad cs A LX (none) R) 0 0 A := by
  refine x_enter (lv := [(0, .ref (ad 74)), (1, .ref (ad k1)), (2, .int x2)]) E mi_B_takeIfFitting.1 (Nat.le_of_ble_eq_true rfl) rfl (fun p e s m args below meth c C => ?_)
  unfold B_takeIfFitting at hf
  refine x_iconst (v := 0) C d_B_takeIfFitting_0 rfl ?_
  refine x_istore_n (lv' := [(3, .int 0), (0, .ref (ad 74)), (1, .ref (ad k1)), (2, .int x2)]) C d_B_takeIfFitting_1 (by decide) rfl ?_
  obtain ⟨u4, hu4, hf⟩ := bs hf
  refine x_sub [1, 2, 3, 0] rfl ?_
  refine lw_B_takeIfFitting_2 E C F _ _ _ hm1 hk1 _ _ _ hu4 (fun r5 hr5 => ?_) (fun w6 hw6 => ?_)
  · subst hr5
    replace hf := se_l hf
    cases hf
    exact ⟨rfl, rfl⟩
  · subst hw6
    replace hf := se_r hf
    refine x_aload_n C d_B_takeIfFitting_26 0 rfl ?_
    refine x_aload_n C d_B_takeIfFitting_27 0 rfl ?_
    refine xg_B_sets C wF_B_9 mc_74 kc_74 d_B_takeIfFitting_28 ?_
    obtain ⟨j7, hj7, hf⟩ := bs hf
    have Jj7 : X p l e 0 s m args below meth c 4 D ad cs A LX (none) R M 42 [(0, .ref (ad 74)), (2, .int x2)] [.int j7, .ref (ad 74)] := by
      refine xp_B_first (x := j7) C wF_B_15 mc_74 kc_74 d_B_takeIfFitting_42 ?_
      refine x_aload_n C d_B_takeIfFitting_45 0 rfl ?_
      refine x_aload_n C d_B_takeIfFitting_46 0 rfl ?_
      refine xg_B_sets C wF_B_9 mc_74 kc_74 d_B_takeIfFitting_47 ?_
      obtain ⟨j8, hj8, hf⟩ := bs hf
      have Jj8 : X p l e 0 s m args below meth c 4 D ad cs A LX (none) R (up M 74 1 j7) 63 [(0, .ref (ad 74))] [.int j8, .ref (ad 74)] := by
        refine xp_B_inEach (x := j8) C wF_B_18 mc_74 kc_74 d_B_takeIfFitting_63 ?_
        refine x_aload_n C d_B_takeIfFitting_66 0 rfl ?_
        refine x_dup C d_B_takeIfFitting_67 rfl ?_
        refine xg_B_sets C wF_B_9 mc_74 kc_74 d_B_takeIfFitting_68 ?_
        refine x_iconst (v := 1) C d_B_takeIfFitting_71 rfl ?_
        refine x_iadd C d_B_takeIfFitting_72 ?_
        refine xp_B_sets (x := (((up (up M 74 1 j7) 74 2 j8) 74 0) + 1)) C wF_B_9 mc_74 kc_74 d_B_takeIfFitting_73 ?_
        cases hf
        exact x_vret C d_B_takeIfFitting_76 rfl rfl
      replace hf := hj8
      refine x_if_ne C 57 d_B_takeIfFitting_50 (by decide) (fun g9 => ?_) (fun g9 => ?_)
      · replace hf := ie g9 hf
        refine x_aload_n C d_B_takeIfFitting_57 0 rfl ?_
        refine xg_B_inEach C wF_B_18 mc_74 kc_74 d_B_takeIfFitting_58 ?_
        refine x_iload_n C d_B_takeIfFitting_61 1 rfl ?_
        refine x_iand C d_B_takeIfFitting_62 ?_
        cases hf
        exact x_sub [0] rfl Jj8
      · replace hf := it g9 hf
        refine x_iload_n C d_B_takeIfFitting_53 1 rfl ?_
        refine x_goto C 63 d_B_takeIfFitting_54 (by decide) ?_
        cases hf
        exact x_sub [0] rfl Jj8
    replace hf := hj7
    refine x_if_ne C 38 d_B_takeIfFitting_31 (by decide) (fun g10 => ?_) (fun g10 => ?_)
    · replace hf := ie g10 hf
      refine x_aload_n C d_B_takeIfFitting_38 0 rfl ?_
      refine xg_B_first C wF_B_15 mc_74 kc_74 d_B_takeIfFitting_39 ?_
      cases hf
      exact x_sub [0, 1] rfl Jj7
    · replace hf := it g10 hf
      refine x_iload_n C d_B_takeIfFitting_34 1 rfl ?_
      refine x_goto C 42 d_B_takeIfFitting_35 (by decide) ?_
      cases hf
      exact x_sub [0, 1] rfl Jj7
set_option maxHeartbeats 4000000 in
set_option maxRecDepth 100000 in
theorem ct_B_choose {l : Launch} {D : va_G} {ad : Nat → Nat} {cs : Nat → ClassId} {A : Nat → Prop} (E : Ev ad cs A LX) (F : Nat) : ∀ (dl : Nat) (M : Mem) (k1 : Nat) (x2 : Int32) (x3 : Int32) (R : Mem) (hm1 : k1 ∈ LX) (hk1 : kd k1 = 12), B_choose F dl M k1 x2 x3 = some R → Met l y_B_choose (Cond.code y_B_choose b_B_choose 6 none :: wl) (rmD (1 + dl)) (PX D ad cs A LX [.ref (ad 74), .ref (ad k1), .int x2, .int x3] M) (QX D ad cs A LX (none) R) 0 0 A := by
  intro dl
  induction dl with
  | zero => intro M k1 x2 x3 R hm1 hk1 hf; cases hf
  | succ dl hrc =>
    intro M k1 x2 x3 R hm1 hk1 hf
    refine x_enter (lv := [(0, .ref (ad 74)), (1, .ref (ad k1)), (2, .int x2), (3, .int x3)]) E mi_B_choose.1 (Nat.le_of_ble_eq_true rfl) rfl (fun p e s m args below meth c C => ?_)
    replace hf : Bd_B_choose F (B_choose F dl) M k1 x2 x3 = some R := hf
    generalize B_choose F dl = rc at hf hrc
    unfold Bd_B_choose at hf
    refine x_iload_n C d_B_choose_0 2 rfl ?_
    refine x_if_lt C 10 d_B_choose_1 (by decide) (fun g1 => ?_) (fun g1 => ?_)
    · replace hf := it g1 hf
      refine x_aload_n C d_B_choose_10 0 rfl ?_
      refine x_aload_n C d_B_choose_11 1 rfl ?_
      refine x_iload_n C d_B_choose_12 3 rfl ?_
      obtain ⟨c2, hc2, hf⟩ := bs hf
      refine x_callV (rest := []) (n := 2) C (ct_B_takeIfFitting E F _ _ _ _ hm1 hk1 hc2) mi_B_takeIfFitting (by omega) mc_74 ⟨_, cel_B kc_74⟩ rfl rfl wL_B_37 d_B_choose_13 rfl rfl (Nat.le_of_ble_eq_true rfl) ?_
      show X _ _ _ _ _ _ _ _ _ _ _ _ _ _ _ _ _ _ _ _ _ []
      cases hf
      exact x_vret C d_B_choose_16 rfl rfl
    · replace hf := ie g1 hf
      refine x_iload_n C d_B_choose_4 2 rfl ?_
      refine x_bipush (v := 12) C d_B_choose_5 rfl ?_
      refine x_icmp_lt C 17 d_B_choose_7 (by decide) (fun g3 => ?_) (fun g3 => ?_)
      · replace hf := it g3 hf
        refine x_aload_n C d_B_choose_17 0 rfl ?_
        refine x_aload_n C d_B_choose_18 1 rfl ?_
        refine x_iload_n C d_B_choose_19 2 rfl ?_
        refine x_iconst (v := 1) C d_B_choose_20 rfl ?_
        refine x_isub C d_B_choose_21 ?_
        refine x_iload_n C d_B_choose_22 3 rfl ?_
        obtain ⟨c4, hc4, hf⟩ := bs hf
        refine x_callV (rest := []) (n := 3) C (hrc _ _ _ _ _ hm1 hk1 hc4) mi_B_choose (by omega) mc_74 ⟨_, cel_B kc_74⟩ rfl rfl wL_B_33 d_B_choose_23 rfl rfl (Nat.le_of_ble_eq_true rfl) ?_
        show X _ _ _ _ _ _ _ _ _ _ _ _ _ _ _ _ _ _ _ _ _ []
        refine x_aload_n C d_B_choose_26 1 rfl ?_
        refine xg_V_drafts C wF_B_41 hm1 hk1 d_B_choose_27 ?_
        refine x_iload_n C d_B_choose_30 2 rfl ?_
        obtain ⟨z5, hz5, hf⟩ := bs hf
        refine x_aald2 C hz5 (m_V_drafts hk1) (k_V_drafts hk1) d_B_choose_31 ?_
        refine x_astore (lv' := [(4, .ref (ad ((k1 + 2) + 1 + z5))), (0, .ref (ad 74)), (1, .ref (ad k1)), (2, .int x2), (3, .int x3)]) C d_B_choose_32 (by decide) rfl ?_
        refine x_aload C d_B_choose_34 0 rfl ?_
        refine xg_D_kisses C wF_B_45 (ma_D (k_V_drafts hk1) hz5) (ka_D (k_V_drafts hk1) hz5) d_B_choose_36 ?_
        refine x_istore (lv' := [(5, .int (c4 ((k1 + 2) + 1 + z5) 3)), (4, .ref (ad ((k1 + 2) + 1 + z5))), (0, .ref (ad 74)), (1, .ref (ad k1)), (2, .int x2), (3, .int x3)]) C d_B_choose_39 (by decide) rfl ?_
        refine x_aload C d_B_choose_41 1 rfl ?_
        obtain ⟨c6, hc6, hf⟩ := bs hf
        refine x_callV (rest := []) (n := 0) C (ct_D_isOpen E F _ _ _ (ma_D (k_V_drafts hk1) hz5) (ka_D (k_V_drafts hk1) hz5) hc6) mi_D_isOpen (by omega) (ma_D (k_V_drafts hk1) hz5) ⟨_, cel_D (ka_D (k_V_drafts hk1) hz5)⟩ rfl rfl wL_B_50 d_B_choose_43 rfl rfl (Nat.le_of_ble_eq_true rfl) ?_
        show X _ _ _ _ _ _ _ _ _ _ _ _ _ _ _ _ _ _ _ _ _ [.int c6]
        refine x_if_eq C 152 d_B_choose_46 (by decide) (fun g7 => ?_) (fun g7 => ?_)
        · replace hf := it g7 hf
          cases hf
          exact x_vret C d_B_choose_152 rfl rfl
        · replace hf := ie g7 hf
          refine x_aload_n C d_B_choose_49 2 rfl ?_
          refine xg_B_lacking C wF_B_21 mc_74 kc_74 d_B_choose_50 ?_
          refine x_aload C d_B_choose_53 1 rfl ?_
          refine xg_D_who C wF_B_54 (ma_D (k_V_drafts hk1) hz5) (ka_D (k_V_drafts hk1) hz5) d_B_choose_55 ?_
          obtain ⟨t8, ht8, hf⟩ := bs hf
          refine x_iald C ht8 mc_75 kc_75 d_B_choose_58 ?_
          refine x_iload C d_B_choose_59 0 rfl ?_
          refine x_icmp_lt C 152 d_B_choose_61 (by decide) (fun g9 => ?_) (fun g9 => ?_)
          · replace hf := it g9 hf
            cases hf
            exact x_vret C d_B_choose_152 rfl rfl
          · replace hf := ie g9 hf
            refine x_aload_n C d_B_choose_64 2 rfl ?_
            refine xg_B_lacking C wF_B_21 mc_74 kc_74 d_B_choose_65 ?_
            refine x_aload C d_B_choose_68 1 rfl ?_
            refine xg_D_whom C wF_B_57 (ma_D (k_V_drafts hk1) hz5) (ka_D (k_V_drafts hk1) hz5) d_B_choose_70 ?_
            obtain ⟨t10, ht10, hf⟩ := bs hf
            refine x_iald C ht10 mc_75 kc_75 d_B_choose_73 ?_
            refine x_iload C d_B_choose_74 0 rfl ?_
            refine x_icmp_lt C 152 d_B_choose_76 (by decide) (fun g11 => ?_) (fun g11 => ?_)
            · replace hf := it g11 hf
              cases hf
              exact x_vret C d_B_choose_152 rfl rfl
            · replace hf := ie g11 hf
              refine x_aload_n C d_B_choose_79 2 rfl ?_
              refine xg_B_lacking C wF_B_21 mc_74 kc_74 d_B_choose_80 ?_
              refine x_aload C d_B_choose_83 1 rfl ?_
              refine xg_D_who C wF_B_54 (ma_D (k_V_drafts hk1) hz5) (ka_D (k_V_drafts hk1) hz5) d_B_choose_85 ?_
              refine x_dup2 C d_B_choose_88 rfl rfl ?_
              obtain ⟨t12, ht12, hf⟩ := bs hf
              refine x_iald C ht12 mc_75 kc_75 d_B_choose_89 ?_
              refine x_iload C d_B_choose_90 0 rfl ?_
              refine x_isub C d_B_choose_92 ?_
              obtain ⟨M13, hM13, hf⟩ := bs hf
              refine x_iast C hM13 mc_75 kc_75 d_B_choose_93 ?_
              refine x_aload_n C d_B_choose_94 2 rfl ?_
              refine xg_B_lacking C wF_B_21 mc_74 kc_74 d_B_choose_95 ?_
              refine x_aload C d_B_choose_98 1 rfl ?_
              refine xg_D_whom C wF_B_57 (ma_D (k_V_drafts hk1) hz5) (ka_D (k_V_drafts hk1) hz5) d_B_choose_100 ?_
              refine x_dup2 C d_B_choose_103 rfl rfl ?_
              obtain ⟨t14, ht14, hf⟩ := bs hf
              refine x_iald C ht14 mc_75 kc_75 d_B_choose_104 ?_
              refine x_iload C d_B_choose_105 0 rfl ?_
              refine x_isub C d_B_choose_107 ?_
              obtain ⟨M15, hM15, hf⟩ := bs hf
              refine x_iast C hM15 mc_75 kc_75 d_B_choose_108 ?_
              refine x_aload_n C d_B_choose_109 2 rfl ?_
              refine x_aload_n C d_B_choose_110 3 rfl ?_
              refine x_iload_n C d_B_choose_111 4 rfl ?_
              refine x_iconst (v := 1) C d_B_choose_112 rfl ?_
              refine x_isub C d_B_choose_113 ?_
              refine x_iload_n C d_B_choose_114 5 rfl ?_
              refine x_iconst (v := 1) C d_B_choose_115 rfl ?_
              refine x_iload_n C d_B_choose_116 4 rfl ?_
              refine x_ishl C d_B_choose_117 ?_
              refine x_ior C d_B_choose_118 ?_
              obtain ⟨c16, hc16, hf⟩ := bs hf
              refine x_callV (rest := []) (n := 3) C (hrc _ _ _ _ _ hm1 hk1 hc16) mi_B_choose (by omega) mc_74 ⟨_, cel_B kc_74⟩ rfl rfl wL_B_33 d_B_choose_119 rfl rfl (Nat.le_of_ble_eq_true rfl) ?_
              show X _ _ _ _ _ _ _ _ _ _ _ _ _ _ _ _ _ _ _ _ _ []
              refine x_aload_n C d_B_choose_122 2 rfl ?_
              refine xg_B_lacking C wF_B_21 mc_74 kc_74 d_B_choose_123 ?_
              refine x_aload C d_B_choose_126 1 rfl ?_
              refine xg_D_who C wF_B_54 (ma_D (k_V_drafts hk1) hz5) (ka_D (k_V_drafts hk1) hz5) d_B_choose_128 ?_
              refine x_dup2 C d_B_choose_131 rfl rfl ?_
              obtain ⟨t17, ht17, hf⟩ := bs hf
              refine x_iald C ht17 mc_75 kc_75 d_B_choose_132 ?_
              refine x_iload C d_B_choose_133 0 rfl ?_
              refine x_iadd C d_B_choose_135 ?_
              obtain ⟨M18, hM18, hf⟩ := bs hf
              refine x_iast C hM18 mc_75 kc_75 d_B_choose_136 ?_
              refine x_aload_n C d_B_choose_137 2 rfl ?_
              refine xg_B_lacking C wF_B_21 mc_74 kc_74 d_B_choose_138 ?_
              refine x_aload C d_B_choose_141 1 rfl ?_
              refine xg_D_whom C wF_B_57 (ma_D (k_V_drafts hk1) hz5) (ka_D (k_V_drafts hk1) hz5) d_B_choose_143 ?_
              refine x_dup2 C d_B_choose_146 rfl rfl ?_
              obtain ⟨t19, ht19, hf⟩ := bs hf
              refine x_iald C ht19 mc_75 kc_75 d_B_choose_147 ?_
              refine x_iload C d_B_choose_148 0 rfl ?_
              refine x_iadd C d_B_choose_150 ?_
              obtain ⟨M20, hM20, hf⟩ := bs hf
              refine x_iast C hM20 mc_75 kc_75 d_B_choose_151 ?_
              cases hf
              exact x_vret C d_B_choose_152 rfl rfl
      · replace hf := ie g3 hf
        refine x_aload_n C d_B_choose_10 0 rfl ?_
        refine x_aload_n C d_B_choose_11 1 rfl ?_
        refine x_iload_n C d_B_choose_12 3 rfl ?_
        obtain ⟨c21, hc21, hf⟩ := bs hf
        refine x_callV (rest := []) (n := 2) C (ct_B_takeIfFitting E F _ _ _ _ hm1 hk1 hc21) mi_B_takeIfFitting (by omega) mc_74 ⟨_, cel_B kc_74⟩ rfl rfl wL_B_37 d_B_choose_13 rfl rfl (Nat.le_of_ble_eq_true rfl) ?_
        show X _ _ _ _ _ _ _ _ _ _ _ _ _ _ _ _ _ _ _ _ _ []
        cases hf
        exact x_vret C d_B_choose_16 rfl rfl
set_option maxHeartbeats 4000000 in
set_option maxRecDepth 100000 in
theorem lw_B_search_18 {p : Program} {l : Launch} {e : Env} {s : State} {m : MethodId} {args : Array Value} {below : List Frame} {meth : Method} {c : Code} {D : va_G} {ad : Nat → Nat} {cs : Nat → ClassId} {A : Nat → Prop} {V : Option Value} {N : Mem} (E : Ev ad cs A LX) (C : Cx p s m args meth c "KissClearing$Blushes" b_B_search 4 none D ad cs A LX) (F : Nat) (k1 : Nat) (k2 : Nat) (hm1 : k1 ∈ LX) (hk1 : kd k1 = 12) (hm2 : k2 ∈ LX) (hk2 : kd k2 = 0) : ∀ (n : Nat) (M : Mem) (x3 : Int32) (u : Mem), L_B_search_18 F k1 k2 n M x3 = some u → X p l e 16 s m args below meth c 4 D ad cs A LX V N u 47 [(0, .ref (ad 74)), (1, .ref (ad k1))] [] → X p l e 16 s m args below meth c 4 D ad cs A LX V N M 18 [(0, .ref (ad 74)), (1, .ref (ad k1)), (2, .ref (ad k2)), (3, .int x3)] [] := by
  intro n
  induction n with
  | zero => intro M x3 u hf; cases hf
  | succ n ih =>
    intro M x3 u hf K
    replace hf : B_B_search_18 F k1 k2 (L_B_search_18 F k1 k2 n) M x3 = some u := hf
    unfold B_B_search_18 at hf
    refine x_iload_n C d_B_search_18 3 rfl ?_
    refine x_aload_n C d_B_search_19 1 rfl ?_
    refine xg_V_personCount C wF_B_25 hm1 hk1 d_B_search_20 ?_
    refine x_icmp_ge C 47 d_B_search_23 (by decide) (fun g1 => ?_) (fun g1 => ?_)
    · replace hf := it g1 hf
      cases hf
      exact x_sub [0, 1] rfl K
    · replace hf := ie g1 hf
      refine x_iload_n C d_B_search_26 3 rfl ?_
      refine x_aload_n C d_B_search_27 2 rfl ?_
      refine x_alen (v := (Int32.ofNat (ln k2))) C hm2 hk2 rfl d_B_search_28 ?_
      refine x_icmp_ge C 47 d_B_search_29 (by decide) (fun g2 => ?_) (fun g2 => ?_)
      · replace hf := it g2 hf
        cases hf
        exact x_sub [0, 1] rfl K
      · replace hf := ie g2 hf
        refine x_aload_n C d_B_search_32 0 rfl ?_
        refine xg_B_lacking C wF_B_21 mc_74 kc_74 d_B_search_33 ?_
        refine x_iload_n C d_B_search_36 3 rfl ?_
        refine x_aload_n C d_B_search_37 2 rfl ?_
        refine x_iload_n C d_B_search_38 3 rfl ?_
        obtain ⟨t3, ht3, hf⟩ := bs hf
        refine x_iald C ht3 hm2 hk2 d_B_search_39 ?_
        obtain ⟨M4, hM4, hf⟩ := bs hf
        refine x_iast C hM4 mc_75 kc_75 d_B_search_40 ?_
        refine x_iinc (v := (x3 + 1)) (lv' := [(3, .int (x3 + 1)), (0, .ref (ad 74)), (1, .ref (ad k1)), (2, .ref (ad k2))]) C d_B_search_41 3 rfl rfl (by decide) rfl ?_
        refine x_goto C 18 d_B_search_44 (by decide) ?_
        refine x_sub [1, 2, 3, 0] rfl ?_
        exact ih _ _ _ hf K
set_option maxHeartbeats 4000000 in
set_option maxRecDepth 100000 in
theorem ct_B_search {l : Launch} {D : va_G} {ad : Nat → Nat} {cs : Nat → ClassId} {A : Nat → Prop} (E : Ev ad cs A LX) (F : Nat) (M : Mem) (k1 : Nat) (k2 : Nat) (R : Mem) (hm1 : k1 ∈ LX) (hk1 : kd k1 = 12) (hm2 : k2 ∈ LX) (hk2 : kd k2 = 0) (hf : B_search F M k1 k2 = some R) : Met l y_B_search (Cond.code y_B_search b_B_search 4 none :: wl) (rmD 16) (PX D ad cs A LX [.ref (ad 74), .ref (ad k1), .ref (ad k2)] M) (QX D ad cs A LX (none) R) 0 0 A := by
  refine x_enter (lv := [(0, .ref (ad 74)), (1, .ref (ad k1)), (2, .ref (ad k2))]) E mi_B_search.1 (Nat.le_of_ble_eq_true rfl) rfl (fun p e s m args below meth c C => ?_)
  unfold B_search at hf
  refine x_aload_n C d_B_search_0 0 rfl ?_
  refine x_iconst (v := 0) C d_B_search_1 rfl ?_
  refine xp_B_sets (x := 0) C wF_B_9 mc_74 kc_74 d_B_search_2 ?_
  refine x_aload_n C d_B_search_5 0 rfl ?_
  refine x_bipush (v := (-9)) C d_B_search_6 rfl ?_
  refine xp_B_first (x := (-9)) C wF_B_15 mc_74 kc_74 d_B_search_8 ?_
  refine x_aload_n C d_B_search_11 0 rfl ?_
  refine x_iconst (v := 0) C d_B_search_12 rfl ?_
  refine xp_B_inEach (x := 0) C wF_B_18 mc_74 kc_74 d_B_search_13 ?_
  refine x_iconst (v := 0) C d_B_search_16 rfl ?_
  refine x_istore_n (lv' := [(3, .int 0), (0, .ref (ad 74)), (1, .ref (ad k1)), (2, .ref (ad k2))]) C d_B_search_17 (by decide) rfl ?_
  obtain ⟨u5, hu5, hf⟩ := bs hf
  refine x_sub [1, 2, 3, 0] rfl ?_
  refine lw_B_search_18 E C F _ _ hm1 hk1 hm2 hk2 _ _ _ _ hu5 ?_
  refine x_aload_n C d_B_search_47 0 rfl ?_
  refine x_aload_n C d_B_search_48 1 rfl ?_
  refine x_aload_n C d_B_search_49 1 rfl ?_
  refine xg_V_draftCount C wF_B_30 hm1 hk1 d_B_search_50 ?_
  refine x_iconst (v := 1) C d_B_search_53 rfl ?_
  refine x_isub C d_B_search_54 ?_
  refine x_iconst (v := 0) C d_B_search_55 rfl ?_
  obtain ⟨c6, hc6, hf⟩ := bs hf
  refine x_callV (rest := []) (n := 3) C (ct_B_choose E F 14 _ _ _ _ _ hm1 hk1 hc6) mi_B_choose (by decide) mc_74 ⟨_, cel_B kc_74⟩ rfl rfl wL_B_33 d_B_search_56 rfl rfl (Nat.le_of_ble_eq_true rfl) ?_
  show X _ _ _ _ _ _ _ _ _ _ _ _ _ _ _ _ _ _ _ _ _ []
  cases hf
  exact x_vret C d_B_search_59 rfl rfl
set_option maxHeartbeats 4000000 in
set_option maxRecDepth 100000 in
theorem lw_G_takeRing_19 {p : Program} {l : Launch} {e : Env} {s : State} {m : MethodId} {args : Array Value} {below : List Frame} {meth : Method} {c : Code} {D : va_G} {ad : Nat → Nat} {cs : Nat → ClassId} {A : Nat → Prop} {V : Option Value} {N : Mem} (E : Ev ad cs A LX) (C : Cx p s m args meth c "KissClearing$Rings" b_G_takeRing 5 none D ad cs A LX) (F : Nat) (k1 : Nat) (x2 : Int32) (x3 : Int32) (hm1 : k1 ∈ LX) (hk1 : kd k1 = 12) : ∀ (n : Nat) (M : Mem) (x4 : Int32) (u : Mem), L_G_takeRing_19 F k1 x2 x3 n M x4 = some u → X p l e 1 s m args below meth c 5 D ad cs A LX V N u 55 [(0, .ref (ad 66)), (2, .int x2), (3, .int x3)] [] → X p l e 1 s m args below meth c 5 D ad cs A LX V N M 19 [(0, .ref (ad 66)), (1, .ref (ad k1)), (2, .int x2), (3, .int x3), (4, .int x4)] [] := by
  intro n
  induction n with
  | zero => intro M x4 u hf; cases hf
  | succ n ih =>
    intro M x4 u hf K
    replace hf : B_G_takeRing_19 F k1 x2 x3 (L_G_takeRing_19 F k1 x2 x3 n) M x4 = some u := hf
    unfold B_G_takeRing_19 at hf
    refine x_iload C d_G_takeRing_19 4 rfl ?_
    refine x_iload_n C d_G_takeRing_21 2 rfl ?_
    refine x_icmp_ge C 55 d_G_takeRing_22 (by decide) (fun g2 => ?_) (fun g2 => ?_)
    · replace hf := it g2 hf
      cases hf
      exact x_sub [0, 2, 3] rfl K
    · replace hf := ie g2 hf
      refine x_aload_n C d_G_takeRing_25 0 rfl ?_
      refine xg_G_through C wF_G_28 mc_66 kc_66 d_G_takeRing_26 ?_
      refine x_aload_n C d_G_takeRing_29 1 rfl ?_
      refine xg_V_drafts C wF_G_39 hm1 hk1 d_G_takeRing_30 ?_
      refine x_aload_n C d_G_takeRing_33 0 rfl ?_
      refine xg_G_path C wF_G_31 mc_66 kc_66 d_G_takeRing_34 ?_
      refine x_iload C d_G_takeRing_37 4 rfl ?_
      obtain ⟨t3, ht3, hf⟩ := bs hf
      refine x_iald C ht3 mc_69 kc_69 d_G_takeRing_39 ?_
      obtain ⟨z4, hz4, hf⟩ := bs hf
      refine x_aald2 C hz4 (m_V_drafts hk1) (k_V_drafts hk1) d_G_takeRing_40 ?_
      refine xg_D_who C wF_G_49 (ma_D (k_V_drafts hk1) hz4) (ka_D (k_V_drafts hk1) hz4) d_G_takeRing_41 ?_
      refine x_dup2 C d_G_takeRing_44 rfl rfl ?_
      obtain ⟨t5, ht5, hf⟩ := bs hf
      refine x_iald C ht5 mc_68 kc_68 d_G_takeRing_45 ?_
      refine x_iconst (v := 1) C d_G_takeRing_46 rfl ?_
      refine x_iadd C d_G_takeRing_47 ?_
      obtain ⟨M6, hM6, hf⟩ := bs hf
      refine x_iast C hM6 mc_68 kc_68 d_G_takeRing_48 ?_
      refine x_iinc (v := (x4 + 1)) (lv' := [(4, .int (x4 + 1)), (0, .ref (ad 66)), (1, .ref (ad k1)), (2, .int x2), (3, .int x3)]) C d_G_takeRing_49 4 rfl rfl (by decide) rfl ?_
      refine x_goto C 19 d_G_takeRing_52 (by decide) ?_
      refine x_sub [1, 2, 3, 4, 0] rfl ?_
      exact ih _ _ _ hf K
set_option maxHeartbeats 4000000 in
set_option maxRecDepth 100000 in
theorem ct_G_takeRing {l : Launch} {D : va_G} {ad : Nat → Nat} {cs : Nat → ClassId} {A : Nat → Prop} (E : Ev ad cs A LX) (F : Nat) (M : Mem) (k1 : Nat) (x2 : Int32) (x3 : Int32) (R : Mem) (hm1 : k1 ∈ LX) (hk1 : kd k1 = 12) (hf : G_takeRing F M k1 x2 x3 = some R) : Met l y_G_takeRing (Cond.code y_G_takeRing b_G_takeRing 5 none :: wl) (rmD 1) (PX D ad cs A LX [.ref (ad 66), .ref (ad k1), .int x2, .int x3] M) (QX D ad cs A LX (none) R) 0 0 A := by
  refine x_enter (lv := [(0, .ref (ad 66)), (1, .ref (ad k1)), (2, .int x2), (3, .int x3)]) E mi_G_takeRing.1 (Nat.le_of_ble_eq_true rfl) rfl (fun p e s m args below meth c C => ?_)
  unfold G_takeRing at hf
  refine x_iload_n C d_G_takeRing_0 2 rfl ?_
  refine x_iconst (v := 3) C d_G_takeRing_1 rfl ?_
  refine x_icmp_ge C 6 d_G_takeRing_2 (by decide) (fun g1 => ?_) (fun g1 => ?_)
  · replace hf := it g1 hf
    refine x_aload_n C d_G_takeRing_6 0 rfl ?_
    refine x_dup C d_G_takeRing_7 rfl ?_
    refine xg_G_found C wF_G_9 mc_66 kc_66 d_G_takeRing_8 ?_
    refine x_iconst (v := 1) C d_G_takeRing_11 rfl ?_
    refine x_iadd C d_G_takeRing_12 ?_
    refine xp_G_found (x := ((M 66 0) + 1)) C wF_G_9 mc_66 kc_66 d_G_takeRing_13 ?_
    refine x_iconst (v := 0) C d_G_takeRing_16 rfl ?_
    refine x_istore (lv' := [(4, .int 0), (0, .ref (ad 66)), (1, .ref (ad k1)), (2, .int x2), (3, .int x3)]) C d_G_takeRing_17 (by decide) rfl ?_
    obtain ⟨u7, hu7, hf⟩ := bs hf
    refine x_sub [1, 2, 3, 4, 0] rfl ?_
    refine lw_G_takeRing_19 E C F _ _ _ hm1 hk1 _ _ _ _ hu7 ?_
    refine x_iload_n C d_G_takeRing_55 2 rfl ?_
    refine x_iload_n C d_G_takeRing_56 1 rfl ?_
    refine x_imul C d_G_takeRing_57 ?_
    refine x_aload_n C d_G_takeRing_58 0 rfl ?_
    refine xg_G_mostCleared C wF_G_15 mc_66 kc_66 d_G_takeRing_59 ?_
    refine x_icmp_le C 96 d_G_takeRing_62 (by decide) (fun g8 => ?_) (fun g8 => ?_)
    · replace hf := it g8 hf
      cases hf
      exact x_vret C d_G_takeRing_96 rfl rfl
    · replace hf := ie g8 hf
      refine x_aload_n C d_G_takeRing_65 0 rfl ?_
      refine x_iload_n C d_G_takeRing_66 2 rfl ?_
      refine x_iload_n C d_G_takeRing_67 1 rfl ?_
      refine x_imul C d_G_takeRing_68 ?_
      refine xp_G_mostCleared (x := (x3 * x2)) C wF_G_15 mc_66 kc_66 d_G_takeRing_69 ?_
      refine x_aload_n C d_G_takeRing_72 0 rfl ?_
      refine x_iload_n C d_G_takeRing_73 2 rfl ?_
      refine xp_G_bestLeast (x := x3) C wF_G_18 mc_66 kc_66 d_G_takeRing_74 ?_
      refine x_aload_n C d_G_takeRing_77 0 rfl ?_
      refine x_iload_n C d_G_takeRing_78 1 rfl ?_
      refine xp_G_bestSize (x := x2) C wF_G_21 mc_66 kc_66 d_G_takeRing_79 ?_
      refine x_aload_n C d_G_takeRing_82 0 rfl ?_
      refine xg_G_path C wF_G_31 mc_66 kc_66 d_G_takeRing_83 ?_
      refine x_iconst (v := 0) C d_G_takeRing_86 rfl ?_
      refine x_aload_n C d_G_takeRing_87 0 rfl ?_
      refine xg_G_best C wF_G_24 mc_66 kc_66 d_G_takeRing_88 ?_
      refine x_iconst (v := 0) C d_G_takeRing_91 rfl ?_
      refine x_iload_n C d_G_takeRing_92 1 rfl ?_
      obtain ⟨M9, hM9, hf⟩ := bs hf
      refine x_acp C hM9 wL_G_75 (by decide) (Nat.le_of_ble_eq_true rfl) mc_69 kc_69 mc_67 kc_67 d_G_takeRing_93 ?_
      cases hf
      exact x_vret C d_G_takeRing_96 rfl rfl
  · replace hf := ie g1 hf
    cases hf
    exact x_vret C d_G_takeRing_5 rfl rfl
set_option maxHeartbeats 4000000 in
set_option maxRecDepth 100000 in
theorem lw_G_extend_88 {p : Program} {l : Launch} {e : Env} {s : State} {m : MethodId} {args : Array Value} {below : List Frame} {meth : Method} {c : Code} {D : va_G} {ad : Nat → Nat} {cs : Nat → ClassId} {A : Nat → Prop} {V : Option Value} {N : Mem} (E : Ev ad cs A LX) (C : Cx p s m args meth c "KissClearing$Rings" b_G_extend 9 none D ad cs A LX) (F : Nat) (dl : Nat) (rc : Mem → Nat → Int32 → Int32 → Int32 → Option Mem) (hrc : ∀ (M : Mem) (k1 : Nat) (x2 : Int32) (x3 : Int32) (x4 : Int32) (R : Mem) (hm1 : k1 ∈ LX) (hk1 : kd k1 = 12), rc M k1 x2 x3 x4 = some R → Met l y_G_extend (Cond.code y_G_extend b_G_extend 9 none :: wl) (rmD (2 + dl)) (PX D ad cs A LX [.ref (ad 66), .ref (ad k1), .int x2, .int x3, .int x4] M) (QX D ad cs A LX (none) R) 0 0 A) (k1 : Nat) (x2 : Int32) (x3 : Int32) (x4 : Int32) (k5 : Nat) (x6 : Int32) (hm1 : k1 ∈ LX) (hk1 : kd k1 = 12) (hm5 : k5 ∈ LX) (hk5 : kd k5 = 13) : ∀ (n : Nat) (M : Mem) (x7 : Int32) (u : Mem), L_G_extend_88 F rc k1 x2 x3 x4 k5 x6 n M x7 = some u → X p l e (2 + (dl + 1)) s m args below meth c 9 D ad cs A LX V N u 167 [] [] → X p l e (2 + (dl + 1)) s m args below meth c 9 D ad cs A LX V N M 88 [(0, .ref (ad 66)), (1, .ref (ad k1)), (2, .int x2), (3, .int x3), (4, .int x4), (5, .ref (ad k5)), (6, .int x6), (7, .int x7)] [] := by
  intro n
  induction n with
  | zero => intro M x7 u hf; cases hf
  | succ n ih =>
    intro M x7 u hf K
    replace hf : B_G_extend_88 F rc k1 x2 x3 x4 k5 x6 (L_G_extend_88 F rc k1 x2 x3 x4 k5 x6 n) M x7 = some u := hf
    unfold B_G_extend_88 at hf
    refine x_iload C d_G_extend_88 7 rfl ?_
    refine x_aload_n C d_G_extend_90 1 rfl ?_
    refine xg_V_draftCount C wF_G_34 hm1 hk1 d_G_extend_91 ?_
    refine x_icmp_ge C 167 d_G_extend_94 (by decide) (fun g9 => ?_) (fun g9 => ?_)
    · replace hf := it g9 hf
      cases hf
      exact x_sub [] rfl K
    · replace hf := ie g9 hf
      refine x_aload_n C d_G_extend_97 1 rfl ?_
      refine xg_V_drafts C wF_G_39 hm1 hk1 d_G_extend_98 ?_
      refine x_iload C d_G_extend_101 7 rfl ?_
      obtain ⟨z10, hz10, hf⟩ := bs hf
      refine x_aald2 C hz10 (m_V_drafts hk1) (k_V_drafts hk1) d_G_extend_103 ?_
      refine x_astore (lv' := [(8, .ref (ad ((k1 + 2) + 1 + z10))), (0, .ref (ad 66)), (1, .ref (ad k1)), (2, .int x2), (3, .int x3), (4, .int x4), (5, .ref (ad k5)), (6, .int x6), (7, .int x7)]) C d_G_extend_104 (by decide) rfl ?_
      refine x_aload C d_G_extend_106 0 rfl ?_
      refine xg_D_who C wF_G_49 (ma_D (k_V_drafts hk1) hz10) (ka_D (k_V_drafts hk1) hz10) d_G_extend_108 ?_
      refine x_iload C d_G_extend_111 7 rfl ?_
      refine x_icmp_ne C 161 d_G_extend_113 (by decide) (fun g11 => ?_) (fun g11 => ?_)
      · replace hf := ie g11 hf
        refine x_iinc (v := (x7 + 1)) (lv' := [(7, .int (x7 + 1)), (8, .ref (ad ((k1 + 2) + 1 + z10))), (0, .ref (ad 66)), (1, .ref (ad k1)), (2, .int x2), (3, .int x3), (4, .int x4), (5, .ref (ad k5)), (6, .int x6)]) C d_G_extend_161 8 rfl rfl (by decide) rfl ?_
        refine x_goto C 88 d_G_extend_164 (by decide) ?_
        refine x_sub [2, 3, 4, 5, 6, 7, 8, 0] rfl ?_
        exact ih _ _ _ hf K
      · replace hf := it g11 hf
        refine x_aload C d_G_extend_116 0 rfl ?_
        refine x_aload C d_G_extend_118 6 rfl ?_
        refine xg_D_sort C wF_G_66 hm5 hk5 d_G_extend_120 ?_
        obtain ⟨c12, hc12, hf⟩ := bs hf
        refine x_callV (rest := []) (n := 1) C (ct_D_isOpenOf E F _ _ _ _ (ma_D (k_V_drafts hk1) hz10) (ka_D (k_V_drafts hk1) hz10) hc12) mi_D_isOpenOf (by omega) (ma_D (k_V_drafts hk1) hz10) ⟨_, cel_D (ka_D (k_V_drafts hk1) hz10)⟩ rfl rfl wL_G_43 d_G_extend_123 rfl rfl (Nat.le_of_ble_eq_true rfl) ?_
        show X _ _ _ _ _ _ _ _ _ _ _ _ _ _ _ _ _ _ _ _ _ [.int c12]
        refine x_if_eq C 161 d_G_extend_126 (by decide) (fun g13 => ?_) (fun g13 => ?_)
        · replace hf := it g13 hf
          refine x_iinc (v := (x7 + 1)) (lv' := [(7, .int (x7 + 1)), (8, .ref (ad ((k1 + 2) + 1 + z10))), (0, .ref (ad 66)), (1, .ref (ad k1)), (2, .int x2), (3, .int x3), (4, .int x4), (5, .ref (ad k5)), (6, .int x6)]) C d_G_extend_161 8 rfl rfl (by decide) rfl ?_
          refine x_goto C 88 d_G_extend_164 (by decide) ?_
          refine x_sub [2, 3, 4, 5, 6, 7, 8, 0] rfl ?_
          exact ih _ _ _ hf K
        · replace hf := ie g13 hf
          refine x_aload_n C d_G_extend_129 1 rfl ?_
          refine xg_G_path C wF_G_31 mc_66 kc_66 d_G_extend_130 ?_
          refine x_iload_n C d_G_extend_133 3 rfl ?_
          refine x_iload C d_G_extend_134 8 rfl ?_
          obtain ⟨M14, hM14, hf⟩ := bs hf
          refine x_iast C hM14 mc_69 kc_69 d_G_extend_136 ?_
          refine x_aload_n C d_G_extend_137 1 rfl ?_
          refine x_aload_n C d_G_extend_138 2 rfl ?_
          refine x_iload_n C d_G_extend_139 3 rfl ?_
          refine x_iconst (v := 1) C d_G_extend_140 rfl ?_
          refine x_iadd C d_G_extend_141 ?_
          refine x_iload_n C d_G_extend_142 4 rfl ?_
          refine x_iconst (v := 1) C d_G_extend_143 rfl ?_
          refine x_iload C d_G_extend_144 7 rfl ?_
          refine x_ishl C d_G_extend_146 ?_
          refine x_ior C d_G_extend_147 ?_
          refine x_iload C d_G_extend_148 5 rfl ?_
          refine x_aload C d_G_extend_150 0 rfl ?_
          refine xg_D_kisses C wF_G_52 (ma_D (k_V_drafts hk1) hz10) (ka_D (k_V_drafts hk1) hz10) d_G_extend_152 ?_
          refine x_min C wL_G_69 (by omega) (Nat.le_of_ble_eq_true rfl) d_G_extend_155 ?_
          obtain ⟨c15, hc15, hf⟩ := bs hf
          refine x_callV (rest := []) (n := 4) C (hrc _ _ _ _ _ _ hm1 hk1 hc15) mi_G_extend (by omega) mc_66 ⟨_, cel_G kc_66⟩ rfl rfl wL_G_55 d_G_extend_158 rfl rfl (Nat.le_of_ble_eq_true rfl) ?_
          show X _ _ _ _ _ _ _ _ _ _ _ _ _ _ _ _ _ _ _ _ _ []
          refine x_iinc (v := (x7 + 1)) (lv' := [(7, .int (x7 + 1)), (8, .ref (ad ((k1 + 2) + 1 + z10))), (0, .ref (ad 66)), (1, .ref (ad k1)), (2, .int x2), (3, .int x3), (4, .int x4), (5, .ref (ad k5)), (6, .int x6)]) C d_G_extend_161 8 rfl rfl (by decide) rfl ?_
          refine x_goto C 88 d_G_extend_164 (by decide) ?_
          refine x_sub [2, 3, 4, 5, 6, 7, 8, 0] rfl ?_
          exact ih _ _ _ hf K
set_option maxHeartbeats 4000000 in
set_option maxRecDepth 100000 in
theorem ct_G_extend {l : Launch} {D : va_G} {ad : Nat → Nat} {cs : Nat → ClassId} {A : Nat → Prop} (E : Ev ad cs A LX) (F : Nat) : ∀ (dl : Nat) (M : Mem) (k1 : Nat) (x2 : Int32) (x3 : Int32) (x4 : Int32) (R : Mem) (hm1 : k1 ∈ LX) (hk1 : kd k1 = 12), G_extend F dl M k1 x2 x3 x4 = some R → Met l y_G_extend (Cond.code y_G_extend b_G_extend 9 none :: wl) (rmD (2 + dl)) (PX D ad cs A LX [.ref (ad 66), .ref (ad k1), .int x2, .int x3, .int x4] M) (QX D ad cs A LX (none) R) 0 0 A := by
  intro dl
  induction dl with
  | zero => intro M k1 x2 x3 x4 R hm1 hk1 hf; cases hf
  | succ dl hrc =>
    intro M k1 x2 x3 x4 R hm1 hk1 hf
    refine x_enter (lv := [(0, .ref (ad 66)), (1, .ref (ad k1)), (2, .int x2), (3, .int x3), (4, .int x4)]) E mi_G_extend.1 (Nat.le_of_ble_eq_true rfl) rfl (fun p e s m args below meth c C => ?_)
    replace hf : Bd_G_extend F (G_extend F dl) M k1 x2 x3 x4 = some R := hf
    generalize G_extend F dl = rc at hf hrc
    unfold Bd_G_extend at hf
    refine x_iload_n C d_G_extend_0 2 rfl ?_
    refine x_iconst (v := 1) C d_G_extend_1 rfl ?_
    refine x_icmp_lt C 11 d_G_extend_2 (by decide) (fun g1 => ?_) (fun g1 => ?_)
    · replace hf := it g1 hf
      cases hf
      exact x_vret C d_G_extend_11 rfl rfl
    · replace hf := ie g1 hf
      refine x_iload_n C d_G_extend_5 2 rfl ?_
      refine x_bipush (v := 6) C d_G_extend_6 rfl ?_
      refine x_icmp_le C 12 d_G_extend_8 (by decide) (fun g2 => ?_) (fun g2 => ?_)
      · replace hf := it g2 hf
        refine x_aload_n C d_G_extend_12 1 rfl ?_
        refine xg_V_drafts C wF_G_39 hm1 hk1 d_G_extend_13 ?_
        refine x_aload_n C d_G_extend_16 0 rfl ?_
        refine xg_G_path C wF_G_31 mc_66 kc_66 d_G_extend_17 ?_
        refine x_iconst (v := 0) C d_G_extend_20 rfl ?_
        refine x_iald C (ac_69_0 M) mc_69 kc_69 d_G_extend_21 ?_
        obtain ⟨z3, hz3, hf⟩ := bs hf
        refine x_aald2 C hz3 (m_V_drafts hk1) (k_V_drafts hk1) d_G_extend_22 ?_
        refine x_astore (lv' := [(5, .ref (ad ((k1 + 2) + 1 + z3))), (0, .ref (ad 66)), (1, .ref (ad k1)), (2, .int x2), (3, .int x3), (4, .int x4)]) C d_G_extend_23 (by decide) rfl ?_
        refine x_aload_n C d_G_extend_25 2 rfl ?_
        refine xg_V_drafts C wF_G_39 hm1 hk1 d_G_extend_26 ?_
        refine x_aload_n C d_G_extend_29 1 rfl ?_
        refine xg_G_path C wF_G_31 mc_66 kc_66 d_G_extend_30 ?_
        refine x_iload_n C d_G_extend_33 3 rfl ?_
        refine x_iconst (v := 1) C d_G_extend_34 rfl ?_
        refine x_isub C d_G_extend_35 ?_
        obtain ⟨t4, ht4, hf⟩ := bs hf
        refine x_iald C ht4 mc_69 kc_69 d_G_extend_36 ?_
        obtain ⟨z5, hz5, hf⟩ := bs hf
        refine x_aald2 C hz5 (m_V_drafts hk1) (k_V_drafts hk1) d_G_extend_37 ?_
        refine xg_D_whom C wF_G_59 (ma_D (k_V_drafts hk1) hz5) (ka_D (k_V_drafts hk1) hz5) d_G_extend_38 ?_
        refine x_istore (lv' := [(6, .int (M ((k1 + 2) + 1 + z5) 1)), (5, .ref (ad ((k1 + 2) + 1 + z3))), (0, .ref (ad 66)), (1, .ref (ad k1)), (2, .int x2), (3, .int x3), (4, .int x4)]) C d_G_extend_41 (by decide) rfl ?_
        refine x_iload C d_G_extend_43 0 rfl ?_
        refine x_aload C d_G_extend_45 1 rfl ?_
        refine xg_D_who C wF_G_49 (ma_D (k_V_drafts hk1) hz3) (ka_D (k_V_drafts hk1) hz3) d_G_extend_47 ?_
        refine x_icmp_ne C 62 d_G_extend_50 (by decide) (fun g6 => ?_) (fun g6 => ?_)
        · replace hf := ie g6 hf
          refine x_iload_n C d_G_extend_62 5 rfl ?_
          refine x_iconst (v := 1) C d_G_extend_63 rfl ?_
          refine x_iload C d_G_extend_64 0 rfl ?_
          refine x_ishl C d_G_extend_66 ?_
          refine x_iand C d_G_extend_67 ?_
          refine x_if_ne C 77 d_G_extend_68 (by decide) (fun g7 => ?_) (fun g7 => ?_)
          · replace hf := ie g7 hf
            cases hf
            exact x_vret C d_G_extend_77 rfl rfl
          · replace hf := it g7 hf
            refine x_iload_n C d_G_extend_71 4 rfl ?_
            refine x_bipush (v := 6) C d_G_extend_72 rfl ?_
            refine x_icmp_ne C 78 d_G_extend_74 (by decide) (fun g8 => ?_) (fun g8 => ?_)
            · replace hf := ie g8 hf
              refine x_aload_n C d_G_extend_78 2 rfl ?_
              refine xg_G_path C wF_G_31 mc_66 kc_66 d_G_extend_79 ?_
              refine x_iconst (v := 0) C d_G_extend_82 rfl ?_
              refine x_iald C (ac_69_0 M) mc_69 kc_69 d_G_extend_83 ?_
              refine x_iconst (v := 1) C d_G_extend_84 rfl ?_
              refine x_iadd C d_G_extend_85 ?_
              refine x_istore (lv' := [(7, .int ((M 69 0) + 1)), (6, .int (M ((k1 + 2) + 1 + z5) 1)), (5, .ref (ad ((k1 + 2) + 1 + z3))), (0, .ref (ad 66)), (1, .ref (ad k1)), (2, .int x2), (3, .int x3), (4, .int x4)]) C d_G_extend_86 (by decide) rfl ?_
              obtain ⟨u16, hu16, hf⟩ := bs hf
              refine x_sub [3, 4, 5, 6, 7, 2, 1, 0] rfl ?_
              refine lw_G_extend_88 E C F dl rc hrc _ _ _ _ _ _ hm1 hk1 (ma_D (k_V_drafts hk1) hz3) (ka_D (k_V_drafts hk1) hz3) _ _ _ _ hu16 ?_
              cases hf
              exact x_vret C d_G_extend_167 rfl rfl
            · replace hf := it g8 hf
              cases hf
              exact x_vret C d_G_extend_77 rfl rfl
        · replace hf := it g6 hf
          refine x_aload_n C d_G_extend_53 2 rfl ?_
          refine x_aload_n C d_G_extend_54 3 rfl ?_
          refine x_iload_n C d_G_extend_55 4 rfl ?_
          refine x_iload C d_G_extend_56 6 rfl ?_
          obtain ⟨c17, hc17, hf⟩ := bs hf
          refine x_callV (rest := []) (n := 3) C (ct_G_takeRing E F _ _ _ _ _ hm1 hk1 hc17) mi_G_takeRing (by omega) mc_66 ⟨_, cel_G kc_66⟩ rfl rfl wL_G_62 d_G_extend_58 rfl rfl (Nat.le_of_ble_eq_true rfl) ?_
          show X _ _ _ _ _ _ _ _ _ _ _ _ _ _ _ _ _ _ _ _ _ []
          cases hf
          exact x_vret C d_G_extend_61 rfl rfl
      · replace hf := ie g2 hf
        cases hf
        exact x_vret C d_G_extend_11 rfl rfl
set_option maxHeartbeats 4000000 in
set_option maxRecDepth 100000 in
theorem lw_G_search_12 {p : Program} {l : Launch} {e : Env} {s : State} {m : MethodId} {args : Array Value} {below : List Frame} {meth : Method} {c : Code} {D : va_G} {ad : Nat → Nat} {cs : Nat → ClassId} {A : Nat → Prop} {V : Option Value} {N : Mem} (E : Ev ad cs A LX) (C : Cx p s m args meth c "KissClearing$Rings" b_G_search 5 none D ad cs A LX) (F : Nat) (k1 : Nat) (x2 : Int32) (hm1 : k1 ∈ LX) (hk1 : kd k1 = 12) : ∀ (n : Nat) (M : Mem) (x3 : Int32) (u : Mem), L_G_search_12 F k1 x2 n M x3 = some u → X p l e 11 s m args below meth c 5 D ad cs A LX V N u 31 [(0, .ref (ad 66)), (1, .ref (ad k1)), (2, .int x2)] [] → X p l e 11 s m args below meth c 5 D ad cs A LX V N M 12 [(0, .ref (ad 66)), (1, .ref (ad k1)), (2, .int x2), (3, .int x3)] [] := by
  intro n
  induction n with
  | zero => intro M x3 u hf; cases hf
  | succ n ih =>
    intro M x3 u hf K
    replace hf : B_G_search_12 F k1 x2 (L_G_search_12 F k1 x2 n) M x3 = some u := hf
    unfold B_G_search_12 at hf
    refine x_iload_n C d_G_search_12 3 rfl ?_
    refine x_bipush (v := 6) C d_G_search_13 rfl ?_
    refine x_icmp_ge C 31 d_G_search_15 (by decide) (fun g1 => ?_) (fun g1 => ?_)
    · replace hf := it g1 hf
      cases hf
      exact x_sub [0, 1, 2] rfl K
    · replace hf := ie g1 hf
      refine x_aload_n C d_G_search_18 0 rfl ?_
      refine xg_G_through C wF_G_28 mc_66 kc_66 d_G_search_19 ?_
      refine x_iload_n C d_G_search_22 3 rfl ?_
      refine x_iconst (v := 0) C d_G_search_23 rfl ?_
      obtain ⟨M2, hM2, hf⟩ := bs hf
      refine x_iast C hM2 mc_68 kc_68 d_G_search_24 ?_
      refine x_iinc (v := (x3 + 1)) (lv' := [(3, .int (x3 + 1)), (0, .ref (ad 66)), (1, .ref (ad k1)), (2, .int x2)]) C d_G_search_25 3 rfl rfl (by decide) rfl ?_
      refine x_goto C 12 d_G_search_28 (by decide) ?_
      refine x_sub [1, 2, 3, 0] rfl ?_
      exact ih _ _ _ hf K
set_option maxHeartbeats 4000000 in
set_option maxRecDepth 100000 in
theorem lw_G_search_33 {p : Program} {l : Launch} {e : Env} {s : State} {m : MethodId} {args : Array Value} {below : List Frame} {meth : Method} {c : Code} {D : va_G} {ad : Nat → Nat} {cs : Nat → ClassId} {A : Nat → Prop} {V : Option Value} {N : Mem} (E : Ev ad cs A LX) (C : Cx p s m args meth c "KissClearing$Rings" b_G_search 5 none D ad cs A LX) (F : Nat) (k1 : Nat) (x2 : Int32) (hm1 : k1 ∈ LX) (hk1 : kd k1 = 12) : ∀ (n : Nat) (M : Mem) (x3 : Int32) (u : Mem), L_G_search_33 F k1 x2 n M x3 = some u → X p l e 11 s m args below meth c 5 D ad cs A LX V N u 89 [] [] → X p l e 11 s m args below meth c 5 D ad cs A LX V N M 33 [(0, .ref (ad 66)), (1, .ref (ad k1)), (2, .int x2), (3, .int x3)] [] := by
  intro n
  induction n with
  | zero => intro M x3 u hf; cases hf
  | succ n ih =>
    intro M x3 u hf K
    replace hf : B_G_search_33 F k1 x2 (L_G_search_33 F k1 x2 n) M x3 = some u := hf
    unfold B_G_search_33 at hf
    refine x_iload_n C d_G_search_33 3 rfl ?_
    refine x_aload_n C d_G_search_34 1 rfl ?_
    refine xg_V_draftCount C wF_G_34 hm1 hk1 d_G_search_35 ?_
    refine x_icmp_ge C 89 d_G_search_38 (by decide) (fun g4 => ?_) (fun g4 => ?_)
    · replace hf := it g4 hf
      cases hf
      exact x_sub [] rfl K
    · replace hf := ie g4 hf
      refine x_aload_n C d_G_search_41 1 rfl ?_
      refine xg_V_drafts C wF_G_39 hm1 hk1 d_G_search_42 ?_
      refine x_iload_n C d_G_search_45 3 rfl ?_
      obtain ⟨z5, hz5, hf⟩ := bs hf
      refine x_aald2 C hz5 (m_V_drafts hk1) (k_V_drafts hk1) d_G_search_46 ?_
      refine x_astore (lv' := [(4, .ref (ad ((k1 + 2) + 1 + z5))), (0, .ref (ad 66)), (1, .ref (ad k1)), (2, .int x2), (3, .int x3)]) C d_G_search_47 (by decide) rfl ?_
      refine x_aload C d_G_search_49 0 rfl ?_
      refine x_iload_n C d_G_search_51 3 rfl ?_
      obtain ⟨c6, hc6, hf⟩ := bs hf
      refine x_callV (rest := []) (n := 1) C (ct_D_isOpenOf E F _ _ _ _ (ma_D (k_V_drafts hk1) hz5) (ka_D (k_V_drafts hk1) hz5) hc6) mi_D_isOpenOf (by decide) (ma_D (k_V_drafts hk1) hz5) ⟨_, cel_D (ka_D (k_V_drafts hk1) hz5)⟩ rfl rfl wL_G_43 d_G_search_52 rfl rfl (Nat.le_of_ble_eq_true rfl) ?_
      show X _ _ _ _ _ _ _ _ _ _ _ _ _ _ _ _ _ _ _ _ _ [.int c6]
      refine x_if_eq C 83 d_G_search_55 (by decide) (fun g7 => ?_) (fun g7 => ?_)
      · replace hf := it g7 hf
        refine x_iinc (v := (x3 + 1)) (lv' := [(3, .int (x3 + 1)), (4, .ref (ad ((k1 + 2) + 1 + z5))), (0, .ref (ad 66)), (1, .ref (ad k1)), (2, .int x2)]) C d_G_search_83 4 rfl rfl (by decide) rfl ?_
        refine x_goto C 33 d_G_search_86 (by decide) ?_
        refine x_sub [2, 3, 4, 0] rfl ?_
        exact ih _ _ _ hf K
      · replace hf := ie g7 hf
        refine x_aload_n C d_G_search_58 1 rfl ?_
        refine xg_G_path C wF_G_31 mc_66 kc_66 d_G_search_59 ?_
        refine x_iconst (v := 0) C d_G_search_62 rfl ?_
        refine x_iload_n C d_G_search_63 4 rfl ?_
        obtain ⟨M8, hM8, hf⟩ := bs hf
        refine x_iast C hM8 mc_69 kc_69 d_G_search_64 ?_
        refine x_aload_n C d_G_search_65 1 rfl ?_
        refine x_aload_n C d_G_search_66 2 rfl ?_
        refine x_iconst (v := 1) C d_G_search_67 rfl ?_
        refine x_iconst (v := 1) C d_G_search_68 rfl ?_
        refine x_aload C d_G_search_69 0 rfl ?_
        refine xg_D_who C wF_G_49 (ma_D (k_V_drafts hk1) hz5) (ka_D (k_V_drafts hk1) hz5) d_G_search_71 ?_
        refine x_ishl C d_G_search_74 ?_
        refine x_aload C d_G_search_75 0 rfl ?_
        refine xg_D_kisses C wF_G_52 (ma_D (k_V_drafts hk1) hz5) (ka_D (k_V_drafts hk1) hz5) d_G_search_77 ?_
        obtain ⟨c9, hc9, hf⟩ := bs hf
        refine x_callV (rest := []) (n := 4) C (ct_G_extend E F 8 _ _ _ _ _ _ hm1 hk1 hc9) mi_G_extend (by decide) mc_66 ⟨_, cel_G kc_66⟩ rfl rfl wL_G_55 d_G_search_80 rfl rfl (Nat.le_of_ble_eq_true rfl) ?_
        show X _ _ _ _ _ _ _ _ _ _ _ _ _ _ _ _ _ _ _ _ _ []
        refine x_iinc (v := (x3 + 1)) (lv' := [(3, .int (x3 + 1)), (4, .ref (ad ((k1 + 2) + 1 + z5))), (0, .ref (ad 66)), (1, .ref (ad k1)), (2, .int x2)]) C d_G_search_83 4 rfl rfl (by decide) rfl ?_
        refine x_goto C 33 d_G_search_86 (by decide) ?_
        refine x_sub [2, 3, 4, 0] rfl ?_
        exact ih _ _ _ hf K
set_option maxHeartbeats 4000000 in
set_option maxRecDepth 100000 in
theorem ct_G_search {l : Launch} {D : va_G} {ad : Nat → Nat} {cs : Nat → ClassId} {A : Nat → Prop} (E : Ev ad cs A LX) (F : Nat) (M : Mem) (k1 : Nat) (x2 : Int32) (R : Mem) (hm1 : k1 ∈ LX) (hk1 : kd k1 = 12) (hf : G_search F M k1 x2 = some R) : Met l y_G_search (Cond.code y_G_search b_G_search 5 none :: wl) (rmD 11) (PX D ad cs A LX [.ref (ad 66), .ref (ad k1), .int x2] M) (QX D ad cs A LX (none) R) 0 0 A := by
  refine x_enter (lv := [(0, .ref (ad 66)), (1, .ref (ad k1)), (2, .int x2)]) E mi_G_search.1 (Nat.le_of_ble_eq_true rfl) rfl (fun p e s m args below meth c C => ?_)
  unfold G_search at hf
  refine x_aload_n C d_G_search_0 0 rfl ?_
  refine x_iconst (v := 0) C d_G_search_1 rfl ?_
  refine xp_G_found (x := 0) C wF_G_9 mc_66 kc_66 d_G_search_2 ?_
  refine x_aload_n C d_G_search_5 0 rfl ?_
  refine x_iconst (v := 0) C d_G_search_6 rfl ?_
  refine xp_G_mostCleared (x := 0) C wF_G_15 mc_66 kc_66 d_G_search_7 ?_
  refine x_iconst (v := 0) C d_G_search_10 rfl ?_
  refine x_istore_n (lv' := [(3, .int 0), (0, .ref (ad 66)), (1, .ref (ad k1)), (2, .int x2)]) C d_G_search_11 (by decide) rfl ?_
  obtain ⟨u3, hu3, hf⟩ := bs hf
  refine x_sub [1, 2, 3, 0] rfl ?_
  refine lw_G_search_12 E C F _ _ hm1 hk1 _ _ _ _ hu3 ?_
  refine x_iconst (v := 0) C d_G_search_31 rfl ?_
  refine x_istore_n (lv' := [(3, .int 0), (0, .ref (ad 66)), (1, .ref (ad k1)), (2, .int x2)]) C d_G_search_32 (by decide) rfl ?_
  obtain ⟨u10, hu10, hf⟩ := bs hf
  refine x_sub [1, 2, 3, 0] rfl ?_
  refine lw_G_search_33 E C F _ _ hm1 hk1 _ _ _ _ hu10 ?_
  cases hf
  exact x_vret C d_G_search_89 rfl rfl
set_option maxHeartbeats 4000000 in
set_option maxRecDepth 100000 in
theorem lw_O_mostOfOne_15 {p : Program} {l : Launch} {e : Env} {s : State} {m : MethodId} {args : Array Value} {below : List Frame} {meth : Method} {c : Code} {D : va_G} {ad : Nat → Nat} {cs : Nat → ClassId} {A : Nat → Prop} {V : Option Value} {N : Mem} (E : Ev ad cs A LX) (C : Cx p s m args meth c "KissClearing$Rounds" b_O_mostOfOne 5 (some .int) D ad cs A LX) (F : Nat) (M : Mem) (x1 : Int32) (x2 : Int32) : ∀ (n : Nat) (x3 : Int32) (x4 : Int32) (u : Int32), L_O_mostOfOne_15 F M x1 x2 n x3 x4 = some u → X p l e 1 s m args below meth c 5 D ad cs A LX V N M 60 [(0, .ref (ad 70)), (1, .int x1), (2, .int x2), (3, .int u)] [] → X p l e 1 s m args below meth c 5 D ad cs A LX V N M 15 [(0, .ref (ad 70)), (1, .int x1), (2, .int x2), (3, .int x3), (4, .int x4)] [] := by
  intro n
  induction n with
  | zero => intro x3 x4 u hf; cases hf
  | succ n ih =>
    intro x3 x4 u hf K
    replace hf : B_O_mostOfOne_15 F M x1 x2 (L_O_mostOfOne_15 F M x1 x2 n) x3 x4 = some u := hf
    unfold B_O_mostOfOne_15 at hf
    refine x_iload C d_O_mostOfOne_15 4 rfl ?_
    refine x_aload_n C d_O_mostOfOne_17 0 rfl ?_
    refine xg_O_size C wF_O_9 mc_70 kc_70 d_O_mostOfOne_18 ?_
    refine x_icmp_ge C 60 d_O_mostOfOne_21 (by decide) (fun g2 => ?_) (fun g2 => ?_)
    · replace hf := it g2 hf
      cases hf
      exact x_sub [0, 1, 2, 3] rfl K
    · replace hf := ie g2 hf
      refine x_iload_n C d_O_mostOfOne_24 3 rfl ?_
      refine x_aload_n C d_O_mostOfOne_25 0 rfl ?_
      refine xg_O_ones C wF_O_15 mc_70 kc_70 d_O_mostOfOne_26 ?_
      refine x_iload C d_O_mostOfOne_29 4 rfl ?_
      obtain ⟨t3, ht3, hf⟩ := bs hf
      refine x_iald C ht3 mc_71 kc_71 d_O_mostOfOne_31 ?_
      refine x_iload_n C d_O_mostOfOne_32 2 rfl ?_
      refine x_icmp_eq C 47 d_O_mostOfOne_33 (by decide) (fun g4 => ?_) (fun g4 => ?_)
      · replace hf := it g4 hf
        refine x_iconst (v := 1) C d_O_mostOfOne_47 rfl ?_
        refine x_goto C 52 d_O_mostOfOne_48 (by decide) ?_
        refine x_iadd C d_O_mostOfOne_52 ?_
        refine x_istore_n (lv' := [(3, .int (x3 + 1)), (0, .ref (ad 70)), (1, .int x1), (2, .int x2), (4, .int x4)]) C d_O_mostOfOne_53 (by decide) rfl ?_
        refine x_iinc (v := (x4 + 1)) (lv' := [(4, .int (x4 + 1)), (3, .int (x3 + 1)), (0, .ref (ad 70)), (1, .int x1), (2, .int x2)]) C d_O_mostOfOne_54 4 rfl rfl (by decide) rfl ?_
        refine x_goto C 15 d_O_mostOfOne_57 (by decide) ?_
        refine x_sub [2, 3, 4, 1, 0] rfl ?_
        exact ih _ _ _ hf K
      · replace hf := ie g4 hf
        refine x_aload_n C d_O_mostOfOne_36 0 rfl ?_
        refine xg_O_others C wF_O_19 mc_70 kc_70 d_O_mostOfOne_37 ?_
        refine x_iload C d_O_mostOfOne_40 4 rfl ?_
        obtain ⟨t5, ht5, hf⟩ := bs hf
        refine x_iald C ht5 mc_72 kc_72 d_O_mostOfOne_42 ?_
        refine x_iload_n C d_O_mostOfOne_43 2 rfl ?_
        refine x_icmp_ne C 51 d_O_mostOfOne_44 (by decide) (fun g6 => ?_) (fun g6 => ?_)
        · replace hf := ie g6 hf
          refine x_iconst (v := 0) C d_O_mostOfOne_51 rfl ?_
          refine x_iadd C d_O_mostOfOne_52 ?_
          refine x_istore_n (lv' := [(3, .int (x3 + 0)), (0, .ref (ad 70)), (1, .int x1), (2, .int x2), (4, .int x4)]) C d_O_mostOfOne_53 (by decide) rfl ?_
          refine x_iinc (v := (x4 + 1)) (lv' := [(4, .int (x4 + 1)), (3, .int (x3 + 0)), (0, .ref (ad 70)), (1, .int x1), (2, .int x2)]) C d_O_mostOfOne_54 4 rfl rfl (by decide) rfl ?_
          refine x_goto C 15 d_O_mostOfOne_57 (by decide) ?_
          refine x_sub [2, 3, 4, 1, 0] rfl ?_
          exact ih _ _ _ hf K
        · replace hf := it g6 hf
          refine x_iconst (v := 1) C d_O_mostOfOne_47 rfl ?_
          refine x_goto C 52 d_O_mostOfOne_48 (by decide) ?_
          refine x_iadd C d_O_mostOfOne_52 ?_
          refine x_istore_n (lv' := [(3, .int (x3 + 1)), (0, .ref (ad 70)), (1, .int x1), (2, .int x2), (4, .int x4)]) C d_O_mostOfOne_53 (by decide) rfl ?_
          refine x_iinc (v := (x4 + 1)) (lv' := [(4, .int (x4 + 1)), (3, .int (x3 + 1)), (0, .ref (ad 70)), (1, .int x1), (2, .int x2)]) C d_O_mostOfOne_54 4 rfl rfl (by decide) rfl ?_
          refine x_goto C 15 d_O_mostOfOne_57 (by decide) ?_
          refine x_sub [2, 3, 4, 1, 0] rfl ?_
          exact ih _ _ _ hf K
set_option maxHeartbeats 4000000 in
set_option maxRecDepth 100000 in
theorem lw_O_mostOfOne_4 {p : Program} {l : Launch} {e : Env} {s : State} {m : MethodId} {args : Array Value} {below : List Frame} {meth : Method} {c : Code} {D : va_G} {ad : Nat → Nat} {cs : Nat → ClassId} {A : Nat → Prop} {V : Option Value} {N : Mem} (E : Ev ad cs A LX) (C : Cx p s m args meth c "KissClearing$Rounds" b_O_mostOfOne 5 (some .int) D ad cs A LX) (F : Nat) (M : Mem)  : ∀ (n : Nat) (x1 : Int32) (x2 : Int32) (u : Int32), L_O_mostOfOne_4 F M n x1 x2 = some u → X p l e 1 s m args below meth c 5 D ad cs A LX V N M 72 [(1, .int u)] [] → X p l e 1 s m args below meth c 5 D ad cs A LX V N M 4 [(0, .ref (ad 70)), (1, .int x1), (2, .int x2)] [] := by
  intro n
  induction n with
  | zero => intro x1 x2 u hf; cases hf
  | succ n ih =>
    intro x1 x2 u hf K
    replace hf : B_O_mostOfOne_4 F M (L_O_mostOfOne_4 F M n) x1 x2 = some u := hf
    unfold B_O_mostOfOne_4 at hf
    refine x_iload_n C d_O_mostOfOne_4 2 rfl ?_
    refine x_bipush (v := 6) C d_O_mostOfOne_5 rfl ?_
    refine x_icmp_ge C 72 d_O_mostOfOne_7 (by decide) (fun g1 => ?_) (fun g1 => ?_)
    · replace hf := it g1 hf
      cases hf
      exact x_sub [1] rfl K
    · replace hf := ie g1 hf
      refine x_iconst (v := 0) C d_O_mostOfOne_10 rfl ?_
      refine x_istore_n (lv' := [(3, .int 0), (0, .ref (ad 70)), (1, .int x1), (2, .int x2)]) C d_O_mostOfOne_11 (by decide) rfl ?_
      refine x_iconst (v := 0) C d_O_mostOfOne_12 rfl ?_
      refine x_istore (lv' := [(4, .int 0), (3, .int 0), (0, .ref (ad 70)), (1, .int x1), (2, .int x2)]) C d_O_mostOfOne_13 (by decide) rfl ?_
      obtain ⟨u7, hu7, hf⟩ := bs hf
      refine x_sub [2, 3, 4, 1, 0] rfl ?_
      refine lw_O_mostOfOne_15 E C F _ _ _ _ _ _ _ hu7 ?_
      refine x_iload_n C d_O_mostOfOne_60 1 rfl ?_
      refine x_iload_n C d_O_mostOfOne_61 3 rfl ?_
      refine x_max C wL_O_42 (by decide) (Nat.le_of_ble_eq_true rfl) d_O_mostOfOne_62 ?_
      refine x_istore_n (lv' := [(1, .int (if x1 < u7 then u7 else x1)), (0, .ref (ad 70)), (2, .int x2), (3, .int u7)]) C d_O_mostOfOne_65 (by decide) rfl ?_
      refine x_iinc (v := (x2 + 1)) (lv' := [(2, .int (x2 + 1)), (1, .int (if x1 < u7 then u7 else x1)), (0, .ref (ad 70)), (3, .int u7)]) C d_O_mostOfOne_66 2 rfl rfl (by decide) rfl ?_
      refine x_goto C 4 d_O_mostOfOne_69 (by decide) ?_
      refine x_sub [2, 1, 0] rfl ?_
      exact ih _ _ _ hf K
set_option maxHeartbeats 4000000 in
set_option maxRecDepth 100000 in
theorem ct_O_mostOfOne {l : Launch} {D : va_G} {ad : Nat → Nat} {cs : Nat → ClassId} {A : Nat → Prop} (E : Ev ad cs A LX) (F : Nat) (M : Mem)  (R : Int32)  (hf : O_mostOfOne F M = some R) : Met l y_O_mostOfOne (Cond.code y_O_mostOfOne b_O_mostOfOne 5 (some .int) :: wl) (rmD 1) (PX D ad cs A LX [.ref (ad 70)] M) (QX D ad cs A LX (some (.int R)) M) 0 0 A := by
  refine x_enter (lv := [(0, .ref (ad 70))]) E mi_O_mostOfOne.1 (Nat.le_of_ble_eq_true rfl) rfl (fun p e s m args below meth c C => ?_)
  unfold O_mostOfOne at hf
  refine x_iconst (v := 0) C d_O_mostOfOne_0 rfl ?_
  refine x_istore_n (lv' := [(1, .int 0), (0, .ref (ad 70))]) C d_O_mostOfOne_1 (by decide) rfl ?_
  refine x_iconst (v := 0) C d_O_mostOfOne_2 rfl ?_
  refine x_istore_n (lv' := [(2, .int 0), (1, .int 0), (0, .ref (ad 70))]) C d_O_mostOfOne_3 (by decide) rfl ?_
  obtain ⟨u8, hu8, hf⟩ := bs hf
  refine x_sub [2, 1, 0] rfl ?_
  refine lw_O_mostOfOne_4 E C F _ _ _ _ _ hu8 ?_
  refine x_iload_n C d_O_mostOfOne_72 0 rfl ?_
  cases hf
  exact x_iret C d_O_mostOfOne_73 rfl rfl
set_option maxHeartbeats 4000000 in
set_option maxRecDepth 100000 in
theorem lw_O_fit_33 {p : Program} {l : Launch} {e : Env} {s : State} {m : MethodId} {args : Array Value} {below : List Frame} {meth : Method} {c : Code} {D : va_G} {ad : Nat → Nat} {cs : Nat → ClassId} {A : Nat → Prop} {V : Option Value} {N : Mem} (E : Ev ad cs A LX) (C : Cx p s m args meth c "KissClearing$Rounds" b_O_fit 8 (some .boolean) D ad cs A LX) (F : Nat) (dl : Nat) (rc : Mem → Int32 → Int32 → Int32 → Option (Int32 × Mem)) (hrc : ∀ (M : Mem) (x1 : Int32) (x2 : Int32) (x3 : Int32) (R : (Int32 × Mem)) , rc M x1 x2 x3 = some R → Met l y_O_fit (Cond.code y_O_fit b_O_fit 8 (some .boolean) :: wl) (rmD (1 + dl)) (PX D ad cs A LX [.ref (ad 70), .int x1, .int x2, .int x3] M) (QX D ad cs A LX (some (.int R.1)) R.2) 0 0 A) (x1 : Int32) (x2 : Int32) (x3 : Int32) (x4 : Int32) (x5 : Int32) : ∀ (n : Nat) (M : Mem) (x6 : Int32) (u0 : (Sum (Int32 × Mem) Mem)), L_O_fit_33 F rc x1 x2 x3 x4 x5 n M x6 = some u0 → (∀ r, u0 = .inl r → V = some (.int r.1) ∧ N = r.2) →  (∀ u, u0 = .inr u → X p l e (1 + (dl + 1)) s m args below meth c 8 D ad cs A LX V N u 151 [] []) → X p l e (1 + (dl + 1)) s m args below meth c 8 D ad cs A LX V N M 33 [(0, .ref (ad 70)), (1, .int x1), (2, .int x2), (3, .int x3), (4, .int x4), (5, .int x5), (6, .int x6)] [] := by
  intro n
  induction n with
  | zero => intro M x6 u0 hf; cases hf
  | succ n ih =>
    intro M x6 u0 hf Kr Kx
    replace hf : B_O_fit_33 F rc x1 x2 x3 x4 x5 (L_O_fit_33 F rc x1 x2 x3 x4 x5 n) M x6 = some u0 := hf
    unfold B_O_fit_33 at hf
    refine x_iload C d_O_fit_33 6 rfl ?_
    refine x_iload_n C d_O_fit_35 2 rfl ?_
    refine x_icmp_ge C 151 d_O_fit_36 (by decide) (fun g5 => ?_) (fun g5 => ?_)
    · replace hf := it g5 hf
      cases hf
      exact x_sub [] rfl (Kx _ rfl)
    · replace hf := ie g5 hf
      refine x_iload C d_O_fit_39 6 rfl ?_
      refine x_iload_n C d_O_fit_41 3 rfl ?_
      refine x_icmp_gt C 151 d_O_fit_42 (by decide) (fun g6 => ?_) (fun g6 => ?_)
      · replace hf := it g6 hf
        cases hf
        exact x_sub [] rfl (Kx _ rfl)
      · replace hf := ie g6 hf
        refine x_iconst (v := 1) C d_O_fit_45 rfl ?_
        refine x_iload C d_O_fit_46 6 rfl ?_
        refine x_ishl C d_O_fit_48 ?_
        refine x_istore (lv' := [(7, .int (1 <<< (x6 &&& 31))), (0, .ref (ad 70)), (1, .int x1), (2, .int x2), (3, .int x3), (4, .int x4), (5, .int x5), (6, .int x6)]) C d_O_fit_49 (by decide) rfl ?_
        refine x_aload_n C d_O_fit_51 1 rfl ?_
        refine xg_O_busy C wF_O_22 mc_70 kc_70 d_O_fit_52 ?_
        refine x_iload C d_O_fit_55 5 rfl ?_
        obtain ⟨t7, ht7, hf⟩ := bs hf
        refine x_iald C ht7 mc_73 kc_73 d_O_fit_57 ?_
        refine x_aload_n C d_O_fit_58 1 rfl ?_
        refine xg_O_busy C wF_O_22 mc_70 kc_70 d_O_fit_59 ?_
        refine x_iload C d_O_fit_62 6 rfl ?_
        obtain ⟨t8, ht8, hf⟩ := bs hf
        refine x_iald C ht8 mc_73 kc_73 d_O_fit_64 ?_
        refine x_ior C d_O_fit_65 ?_
        refine x_iload C d_O_fit_66 0 rfl ?_
        refine x_iand C d_O_fit_68 ?_
        refine x_if_ne C 145 d_O_fit_69 (by decide) (fun g9 => ?_) (fun g9 => ?_)
        · replace hf := ie g9 hf
          refine x_iinc (v := (x6 + 1)) (lv' := [(6, .int (x6 + 1)), (7, .int (1 <<< (x6 &&& 31))), (0, .ref (ad 70)), (1, .int x1), (2, .int x2), (3, .int x3), (4, .int x4), (5, .int x5)]) C d_O_fit_145 7 rfl rfl (by decide) rfl ?_
          refine x_goto C 33 d_O_fit_148 (by decide) ?_
          refine x_sub [2, 3, 4, 5, 6, 7, 0] rfl ?_
          exact ih _ _ _ hf Kr Kx
        · replace hf := it g9 hf
          refine x_aload_n C d_O_fit_72 1 rfl ?_
          refine xg_O_busy C wF_O_22 mc_70 kc_70 d_O_fit_73 ?_
          refine x_iload C d_O_fit_76 5 rfl ?_
          refine x_dup2 C d_O_fit_78 rfl rfl ?_
          obtain ⟨t10, ht10, hf⟩ := bs hf
          refine x_iald C ht10 mc_73 kc_73 d_O_fit_79 ?_
          refine x_iload C d_O_fit_80 0 rfl ?_
          refine x_ior C d_O_fit_82 ?_
          obtain ⟨M11, hM11, hf⟩ := bs hf
          refine x_iast C hM11 mc_73 kc_73 d_O_fit_83 ?_
          refine x_aload_n C d_O_fit_84 1 rfl ?_
          refine xg_O_busy C wF_O_22 mc_70 kc_70 d_O_fit_85 ?_
          refine x_iload C d_O_fit_88 6 rfl ?_
          refine x_dup2 C d_O_fit_90 rfl rfl ?_
          obtain ⟨t12, ht12, hf⟩ := bs hf
          refine x_iald C ht12 mc_73 kc_73 d_O_fit_91 ?_
          refine x_iload C d_O_fit_92 0 rfl ?_
          refine x_ior C d_O_fit_94 ?_
          obtain ⟨M13, hM13, hf⟩ := bs hf
          refine x_iast C hM13 mc_73 kc_73 d_O_fit_95 ?_
          refine x_aload_n C d_O_fit_96 1 rfl ?_
          refine x_iload_n C d_O_fit_97 2 rfl ?_
          refine x_iconst (v := 1) C d_O_fit_98 rfl ?_
          refine x_iadd C d_O_fit_99 ?_
          refine x_iload_n C d_O_fit_100 3 rfl ?_
          refine x_iload_n C d_O_fit_101 4 rfl ?_
          refine x_iload C d_O_fit_102 7 rfl ?_
          refine x_iconst (v := 1) C d_O_fit_104 rfl ?_
          refine x_iadd C d_O_fit_105 ?_
          refine x_max C wL_O_42 (by omega) (Nat.le_of_ble_eq_true rfl) d_O_fit_106 ?_
          obtain ⟨c14, hc14, hf⟩ := bs hf
          refine x_callV (rest := []) (n := 3) C (hrc _ _ _ _ _  hc14) mi_O_fit (by omega) mc_70 ⟨_, cel_O kc_70⟩ rfl rfl wL_O_38 d_O_fit_109 rfl rfl (Nat.le_of_ble_eq_true rfl) ?_
          show X _ _ _ _ _ _ _ _ _ _ _ _ _ _ _ _ _ _ _ _ _ [.int c14.1]
          refine x_if_eq C 117 d_O_fit_112 (by decide) (fun g15 => ?_) (fun g15 => ?_)
          · replace hf := it g15 hf
            refine x_aload_n C d_O_fit_117 1 rfl ?_
            refine xg_O_busy C wF_O_22 mc_70 kc_70 d_O_fit_118 ?_
            refine x_iload C d_O_fit_121 5 rfl ?_
            refine x_dup2 C d_O_fit_123 rfl rfl ?_
            obtain ⟨t16, ht16, hf⟩ := bs hf
            refine x_iald C ht16 mc_73 kc_73 d_O_fit_124 ?_
            refine x_iload C d_O_fit_125 0 rfl ?_
            refine x_iconst (v := (-1)) C d_O_fit_127 rfl ?_
            refine x_ixor C d_O_fit_128 ?_
            refine x_iand C d_O_fit_129 ?_
            obtain ⟨M17, hM17, hf⟩ := bs hf
            refine x_iast C hM17 mc_73 kc_73 d_O_fit_130 ?_
            refine x_aload_n C d_O_fit_131 1 rfl ?_
            refine xg_O_busy C wF_O_22 mc_70 kc_70 d_O_fit_132 ?_
            refine x_iload C d_O_fit_135 6 rfl ?_
            refine x_dup2 C d_O_fit_137 rfl rfl ?_
            obtain ⟨t18, ht18, hf⟩ := bs hf
            refine x_iald C ht18 mc_73 kc_73 d_O_fit_138 ?_
            refine x_iload C d_O_fit_139 0 rfl ?_
            refine x_iconst (v := (-1)) C d_O_fit_141 rfl ?_
            refine x_ixor C d_O_fit_142 ?_
            refine x_iand C d_O_fit_143 ?_
            obtain ⟨M19, hM19, hf⟩ := bs hf
            refine x_iast C hM19 mc_73 kc_73 d_O_fit_144 ?_
            refine x_iinc (v := (x6 + 1)) (lv' := [(6, .int (x6 + 1)), (7, .int (1 <<< (x6 &&& 31))), (0, .ref (ad 70)), (1, .int x1), (2, .int x2), (3, .int x3), (4, .int x4), (5, .int x5)]) C d_O_fit_145 7 rfl rfl (by decide) rfl ?_
            refine x_goto C 33 d_O_fit_148 (by decide) ?_
            refine x_sub [2, 3, 4, 5, 6, 7, 0] rfl ?_
            exact ih _ _ _ hf Kr Kx
          · replace hf := ie g15 hf
            refine x_iconst (v := 1) C d_O_fit_115 rfl ?_
            cases hf
            obtain ⟨hV, hN⟩ := Kr _ rfl
            exact x_zret C d_O_fit_116 (Or.inr rfl) hV hN
set_option maxHeartbeats 4000000 in
set_option maxRecDepth 100000 in
theorem ct_O_fit {l : Launch} {D : va_G} {ad : Nat → Nat} {cs : Nat → ClassId} {A : Nat → Prop} (E : Ev ad cs A LX) (F : Nat) : ∀ (dl : Nat) (M : Mem) (x1 : Int32) (x2 : Int32) (x3 : Int32) (R : (Int32 × Mem)) , O_fit F dl M x1 x2 x3 = some R → Met l y_O_fit (Cond.code y_O_fit b_O_fit 8 (some .boolean) :: wl) (rmD (1 + dl)) (PX D ad cs A LX [.ref (ad 70), .int x1, .int x2, .int x3] M) (QX D ad cs A LX (some (.int R.1)) R.2) 0 0 A := by
  intro dl
  induction dl with
  | zero => intro M x1 x2 x3 R  hf; cases hf
  | succ dl hrc =>
    intro M x1 x2 x3 R  hf
    refine x_enter (lv := [(0, .ref (ad 70)), (1, .int x1), (2, .int x2), (3, .int x3)]) E mi_O_fit.1 (Nat.le_of_ble_eq_true rfl) rfl (fun p e s m args below meth c C => ?_)
    replace hf : Bd_O_fit F (O_fit F dl) M x1 x2 x3 = some R := hf
    generalize O_fit F dl = rc at hf hrc
    unfold Bd_O_fit at hf
    refine x_iload_n C d_O_fit_0 1 rfl ?_
    refine x_if_lt C 12 d_O_fit_1 (by decide) (fun g1 => ?_) (fun g1 => ?_)
    · replace hf := it g1 hf
      refine x_iconst (v := 1) C d_O_fit_12 rfl ?_
      cases hf
      exact x_zret C d_O_fit_13 (Or.inr rfl) rfl rfl
    · replace hf := ie g1 hf
      refine x_iload_n C d_O_fit_4 1 rfl ?_
      refine x_aload_n C d_O_fit_5 0 rfl ?_
      refine xg_O_size C wF_O_9 mc_70 kc_70 d_O_fit_6 ?_
      refine x_icmp_lt C 14 d_O_fit_9 (by decide) (fun g2 => ?_) (fun g2 => ?_)
      · replace hf := it g2 hf
        refine x_aload_n C d_O_fit_14 0 rfl ?_
        refine xg_O_ones C wF_O_15 mc_70 kc_70 d_O_fit_15 ?_
        refine x_iload_n C d_O_fit_18 1 rfl ?_
        obtain ⟨t3, ht3, hf⟩ := bs hf
        refine x_iald C ht3 mc_71 kc_71 d_O_fit_19 ?_
        refine x_istore (lv' := [(4, .int t3), (0, .ref (ad 70)), (1, .int x1), (2, .int x2), (3, .int x3)]) C d_O_fit_20 (by decide) rfl ?_
        refine x_aload_n C d_O_fit_22 1 rfl ?_
        refine xg_O_others C wF_O_19 mc_70 kc_70 d_O_fit_23 ?_
        refine x_iload_n C d_O_fit_26 2 rfl ?_
        obtain ⟨t4, ht4, hf⟩ := bs hf
        refine x_iald C ht4 mc_72 kc_72 d_O_fit_27 ?_
        refine x_istore (lv' := [(5, .int t4), (4, .int t3), (0, .ref (ad 70)), (1, .int x1), (2, .int x2), (3, .int x3)]) C d_O_fit_28 (by decide) rfl ?_
        refine x_iconst (v := 0) C d_O_fit_30 rfl ?_
        refine x_istore (lv' := [(6, .int 0), (5, .int t4), (4, .int t3), (0, .ref (ad 70)), (1, .int x1), (2, .int x2), (3, .int x3)]) C d_O_fit_31 (by decide) rfl ?_
        obtain ⟨u20, hu20, hf⟩ := bs hf
        refine x_sub [3, 4, 5, 6, 2, 1, 0] rfl ?_
        refine lw_O_fit_33 E C F dl rc hrc _ _ _ _ _ _ _ _ _ hu20 (fun r21 hr21 => ?_) (fun w22 hw22 => ?_)
        · subst hr21
          replace hf := se_l hf
          cases hf
          exact ⟨rfl, rfl⟩
        · subst hw22
          replace hf := se_r hf
          refine x_iconst (v := 0) C d_O_fit_151 rfl ?_
          cases hf
          exact x_zret C d_O_fit_152 (Or.inl rfl) rfl rfl
      · replace hf := ie g2 hf
        refine x_iconst (v := 1) C d_O_fit_12 rfl ?_
        cases hf
        exact x_zret C d_O_fit_13 (Or.inr rfl) rfl rfl
set_option maxHeartbeats 4000000 in
set_option maxRecDepth 100000 in
theorem lw_O_fewest_15 {p : Program} {l : Launch} {e : Env} {s : State} {m : MethodId} {args : Array Value} {below : List Frame} {meth : Method} {c : Code} {D : va_G} {ad : Nat → Nat} {cs : Nat → ClassId} {A : Nat → Prop} {V : Option Value} {N : Mem} (E : Ev ad cs A LX) (C : Cx p s m args meth c "KissClearing$Rounds" b_O_fewest 3 (some .int) D ad cs A LX) (F : Nat) (x1 : Int32) : ∀ (n : Nat) (M : Mem) (x2 : Int32) (u : Mem), L_O_fewest_15 F x1 n M x2 = some u → X p l e 19 s m args below meth c 3 D ad cs A LX V N u 34 [(0, .ref (ad 70)), (1, .int x1)] [] → X p l e 19 s m args below meth c 3 D ad cs A LX V N M 15 [(0, .ref (ad 70)), (1, .int x1), (2, .int x2)] [] := by
  intro n
  induction n with
  | zero => intro M x2 u hf; cases hf
  | succ n ih =>
    intro M x2 u hf K
    replace hf : B_O_fewest_15 F x1 (L_O_fewest_15 F x1 n) M x2 = some u := hf
    unfold B_O_fewest_15 at hf
    refine x_iload_n C d_O_fewest_15 2 rfl ?_
    refine x_bipush (v := 6) C d_O_fewest_16 rfl ?_
    refine x_icmp_ge C 34 d_O_fewest_18 (by decide) (fun g3 => ?_) (fun g3 => ?_)
    · replace hf := it g3 hf
      cases hf
      exact x_sub [0, 1] rfl K
    · replace hf := ie g3 hf
      refine x_aload_n C d_O_fewest_21 0 rfl ?_
      refine xg_O_busy C wF_O_22 mc_70 kc_70 d_O_fewest_22 ?_
      refine x_iload_n C d_O_fewest_25 2 rfl ?_
      refine x_iconst (v := 0) C d_O_fewest_26 rfl ?_
      obtain ⟨M4, hM4, hf⟩ := bs hf
      refine x_iast C hM4 mc_73 kc_73 d_O_fewest_27 ?_
      refine x_iinc (v := (x2 + 1)) (lv' := [(2, .int (x2 + 1)), (0, .ref (ad 70)), (1, .int x1)]) C d_O_fewest_28 2 rfl rfl (by decide) rfl ?_
      refine x_goto C 15 d_O_fewest_31 (by decide) ?_
      refine x_sub [1, 2, 0] rfl ?_
      exact ih _ _ _ hf K
set_option maxHeartbeats 4000000 in
set_option maxRecDepth 100000 in
theorem lw_O_fewest_5 {p : Program} {l : Launch} {e : Env} {s : State} {m : MethodId} {args : Array Value} {below : List Frame} {meth : Method} {c : Code} {D : va_G} {ad : Nat → Nat} {cs : Nat → ClassId} {A : Nat → Prop} {V : Option Value} {N : Mem} (E : Ev ad cs A LX) (C : Cx p s m args meth c "KissClearing$Rounds" b_O_fewest 3 (some .int) D ad cs A LX) (F : Nat)  : ∀ (n : Nat) (M : Mem) (x1 : Int32) (u0 : (Sum (Int32 × Mem) Mem)), L_O_fewest_5 F n M x1 = some u0 → (∀ r, u0 = .inl r → V = some (.int r.1) ∧ N = r.2) →  (∀ u, u0 = .inr u → X p l e 19 s m args below meth c 3 D ad cs A LX V N u 52 [(0, .ref (ad 70))] []) → X p l e 19 s m args below meth c 3 D ad cs A LX V N M 5 [(0, .ref (ad 70)), (1, .int x1)] [] := by
  intro n
  induction n with
  | zero => intro M x1 u0 hf; cases hf
  | succ n ih =>
    intro M x1 u0 hf Kr Kx
    replace hf : B_O_fewest_5 F (L_O_fewest_5 F n) M x1 = some u0 := hf
    unfold B_O_fewest_5 at hf
    refine x_iload_n C d_O_fewest_5 1 rfl ?_
    refine x_aload_n C d_O_fewest_6 0 rfl ?_
    refine xg_O_size C wF_O_9 mc_70 kc_70 d_O_fewest_7 ?_
    refine x_icmp_ge C 52 d_O_fewest_10 (by decide) (fun g2 => ?_) (fun g2 => ?_)
    · replace hf := it g2 hf
      cases hf
      exact x_sub [0] rfl (Kx _ rfl)
    · replace hf := ie g2 hf
      refine x_iconst (v := 0) C d_O_fewest_13 rfl ?_
      refine x_istore_n (lv' := [(2, .int 0), (0, .ref (ad 70)), (1, .int x1)]) C d_O_fewest_14 (by decide) rfl ?_
      obtain ⟨u5, hu5, hf⟩ := bs hf
      refine x_sub [1, 2, 0] rfl ?_
      refine lw_O_fewest_15 E C F _ _ _ _ _ hu5 ?_
      refine x_aload_n C d_O_fewest_34 0 rfl ?_
      refine x_iconst (v := 0) C d_O_fewest_35 rfl ?_
      refine x_iload_n C d_O_fewest_36 1 rfl ?_
      refine x_iconst (v := 0) C d_O_fewest_37 rfl ?_
      obtain ⟨c6, hc6, hf⟩ := bs hf
      refine x_callV (rest := []) (n := 3) C (ct_O_fit E F 17 _ _ _ _ _  hc6) mi_O_fit (by decide) mc_70 ⟨_, cel_O kc_70⟩ rfl rfl wL_O_38 d_O_fewest_38 rfl rfl (Nat.le_of_ble_eq_true rfl) ?_
      show X _ _ _ _ _ _ _ _ _ _ _ _ _ _ _ _ _ _ _ _ _ [.int c6.1]
      refine x_if_eq C 46 d_O_fewest_41 (by decide) (fun g7 => ?_) (fun g7 => ?_)
      · replace hf := it g7 hf
        refine x_iinc (v := (x1 + 1)) (lv' := [(1, .int (x1 + 1)), (0, .ref (ad 70))]) C d_O_fewest_46 1 rfl rfl (by decide) rfl ?_
        refine x_goto C 5 d_O_fewest_49 (by decide) ?_
        refine x_sub [1, 0] rfl ?_
        exact ih _ _ _ hf Kr Kx
      · replace hf := ie g7 hf
        refine x_iload_n C d_O_fewest_44 1 rfl ?_
        cases hf
        obtain ⟨hV, hN⟩ := Kr _ rfl
        exact x_iret C d_O_fewest_45 hV hN
set_option maxHeartbeats 4000000 in
set_option maxRecDepth 100000 in
theorem ct_O_fewest {l : Launch} {D : va_G} {ad : Nat → Nat} {cs : Nat → ClassId} {A : Nat → Prop} (E : Ev ad cs A LX) (F : Nat) (M : Mem)  (R : (Int32 × Mem))  (hf : O_fewest F M = some R) : Met l y_O_fewest (Cond.code y_O_fewest b_O_fewest 3 (some .int) :: wl) (rmD 19) (PX D ad cs A LX [.ref (ad 70)] M) (QX D ad cs A LX (some (.int R.1)) R.2) 0 0 A := by
  refine x_enter (lv := [(0, .ref (ad 70))]) E mi_O_fewest.1 (Nat.le_of_ble_eq_true rfl) rfl (fun p e s m args below meth c C => ?_)
  unfold O_fewest at hf
  refine x_aload_n C d_O_fewest_0 0 rfl ?_
  obtain ⟨c1, hc1, hf⟩ := bs hf
  refine x_callV (rest := []) (n := 0) C (ct_O_mostOfOne E F _ _  hc1) mi_O_mostOfOne (by decide) mc_70 ⟨_, cel_O kc_70⟩ rfl rfl wL_O_34 d_O_fewest_1 rfl rfl (Nat.le_of_ble_eq_true rfl) ?_
  show X _ _ _ _ _ _ _ _ _ _ _ _ _ _ _ _ _ _ _ _ _ [.int c1]
  refine x_istore_n (lv' := [(1, .int c1), (0, .ref (ad 70))]) C d_O_fewest_4 (by decide) rfl ?_
  obtain ⟨u8, hu8, hf⟩ := bs hf
  refine x_sub [1, 0] rfl ?_
  refine lw_O_fewest_5 E C F _ _ _ _ hu8 (fun r9 hr9 => ?_) (fun w10 hw10 => ?_)
  · subst hr9
    replace hf := se_l hf
    cases hf
    exact ⟨rfl, rfl⟩
  · subst hw10
    replace hf := se_r hf
    refine x_aload_n C d_O_fewest_52 0 rfl ?_
    refine xg_O_size C wF_O_9 mc_70 kc_70 d_O_fewest_53 ?_
    cases hf
    exact x_iret C d_O_fewest_56 rfl rfl
set_option maxHeartbeats 4000000 in
set_option maxRecDepth 100000 in
theorem lw_O_gather_28 {p : Program} {l : Launch} {e : Env} {s : State} {m : MethodId} {args : Array Value} {below : List Frame} {meth : Method} {c : Code} {D : va_G} {ad : Nat → Nat} {cs : Nat → ClassId} {A : Nat → Prop} {V : Option Value} {N : Mem} (E : Ev ad cs A LX) (C : Cx p s m args meth c "KissClearing$Rounds" b_O_gather 6 none D ad cs A LX) (F : Nat) (k1 : Nat) (x2 : Int32) (x3 : Int32) (hm1 : k1 ∈ LX) (hk1 : kd k1 = 12) : ∀ (n : Nat) (M : Mem) (x4 : Int32) (u : Mem), L_O_gather_28 F k1 x2 x3 n M x4 = some u → X p l e 2 s m args below meth c 6 D ad cs A LX V N u 119 [(0, .ref (ad 70)), (1, .ref (ad k1)), (2, .int x2)] [] → X p l e 2 s m args below meth c 6 D ad cs A LX V N M 28 [(0, .ref (ad 70)), (1, .ref (ad k1)), (2, .int x2), (3, .int x3), (4, .int x4)] [] := by
  intro n
  induction n with
  | zero => intro M x4 u hf; cases hf
  | succ n ih =>
    intro M x4 u hf K
    replace hf : B_O_gather_28 F k1 x2 x3 (L_O_gather_28 F k1 x2 x3 n) M x4 = some u := hf
    unfold B_O_gather_28 at hf
    refine x_iload C d_O_gather_28 4 rfl ?_
    refine x_aload_n C d_O_gather_30 1 rfl ?_
    refine xg_V_personCount C wF_O_25 hm1 hk1 d_O_gather_31 ?_
    refine x_icmp_ge C 119 d_O_gather_34 (by decide) (fun g3 => ?_) (fun g3 => ?_)
    · replace hf := it g3 hf
      cases hf
      exact x_sub [0, 1, 2] rfl K
    · replace hf := ie g3 hf
      refine x_iload_n C d_O_gather_37 3 rfl ?_
      refine x_iconst (v := 1) C d_O_gather_38 rfl ?_
      refine x_iload C d_O_gather_39 4 rfl ?_
      refine x_ishl C d_O_gather_41 ?_
      refine x_iand C d_O_gather_42 ?_
      obtain ⟨j4, hj4, hf⟩ := bs hf
      have Jj4 : X p l e 2 s m args below meth c 6 D ad cs A LX V N M 66 [(0, .ref (ad 70)), (1, .ref (ad k1)), (2, .int x2), (3, .int x3), (4, .int x4)] [.int j4] := by
        refine x_istore (lv' := [(5, .int j4), (0, .ref (ad 70)), (1, .ref (ad k1)), (2, .int x2), (3, .int x3), (4, .int x4)]) C d_O_gather_66 (by decide) rfl ?_
        refine x_iload C d_O_gather_68 0 rfl ?_
        refine x_if_eq C 113 d_O_gather_70 (by decide) (fun g5 => ?_) (fun g5 => ?_)
        · replace hf := it g5 hf
          refine x_iinc (v := (x4 + 1)) (lv' := [(4, .int (x4 + 1)), (5, .int j4), (0, .ref (ad 70)), (1, .ref (ad k1)), (2, .int x2), (3, .int x3)]) C d_O_gather_113 5 rfl rfl (by decide) rfl ?_
          refine x_goto C 28 d_O_gather_116 (by decide) ?_
          refine x_sub [2, 3, 4, 5, 0] rfl ?_
          exact ih _ _ _ hf K
        · replace hf := ie g5 hf
          refine x_aload_n C d_O_gather_73 1 rfl ?_
          refine xg_O_size C wF_O_9 mc_70 kc_70 d_O_gather_74 ?_
          refine x_bipush (v := 15) C d_O_gather_77 rfl ?_
          refine x_icmp_ge C 113 d_O_gather_79 (by decide) (fun g6 => ?_) (fun g6 => ?_)
          · replace hf := it g6 hf
            refine x_iinc (v := (x4 + 1)) (lv' := [(4, .int (x4 + 1)), (5, .int j4), (0, .ref (ad 70)), (1, .ref (ad k1)), (2, .int x2), (3, .int x3)]) C d_O_gather_113 5 rfl rfl (by decide) rfl ?_
            refine x_goto C 28 d_O_gather_116 (by decide) ?_
            refine x_sub [2, 3, 4, 5, 0] rfl ?_
            exact ih _ _ _ hf K
          · replace hf := ie g6 hf
            refine x_aload_n C d_O_gather_82 1 rfl ?_
            refine xg_O_ones C wF_O_15 mc_70 kc_70 d_O_gather_83 ?_
            refine x_aload_n C d_O_gather_86 1 rfl ?_
            refine xg_O_size C wF_O_9 mc_70 kc_70 d_O_gather_87 ?_
            refine x_iload_n C d_O_gather_90 3 rfl ?_
            obtain ⟨M7, hM7, hf⟩ := bs hf
            refine x_iast C hM7 mc_71 kc_71 d_O_gather_91 ?_
            refine x_aload_n C d_O_gather_92 1 rfl ?_
            refine xg_O_others C wF_O_19 mc_70 kc_70 d_O_gather_93 ?_
            refine x_aload_n C d_O_gather_96 1 rfl ?_
            refine xg_O_size C wF_O_9 mc_70 kc_70 d_O_gather_97 ?_
            refine x_iload C d_O_gather_100 5 rfl ?_
            obtain ⟨M8, hM8, hf⟩ := bs hf
            refine x_iast C hM8 mc_72 kc_72 d_O_gather_102 ?_
            refine x_aload_n C d_O_gather_103 1 rfl ?_
            refine x_dup C d_O_gather_104 rfl ?_
            refine xg_O_size C wF_O_9 mc_70 kc_70 d_O_gather_105 ?_
            refine x_iconst (v := 1) C d_O_gather_108 rfl ?_
            refine x_iadd C d_O_gather_109 ?_
            refine xp_O_size (x := ((M8 70 0) + 1)) C wF_O_9 mc_70 kc_70 d_O_gather_110 ?_
            refine x_iinc (v := (x4 + 1)) (lv' := [(4, .int (x4 + 1)), (5, .int j4), (0, .ref (ad 70)), (1, .ref (ad k1)), (2, .int x2), (3, .int x3)]) C d_O_gather_113 5 rfl rfl (by decide) rfl ?_
            refine x_goto C 28 d_O_gather_116 (by decide) ?_
            refine x_sub [2, 3, 4, 5, 0] rfl ?_
            exact ih _ _ _ hf K
      replace hf := hj4
      refine x_if_ne C 61 d_O_gather_43 (by decide) (fun g9 => ?_) (fun g9 => ?_)
      · replace hf := ie g9 hf
        refine x_iconst (v := 1) C d_O_gather_61 rfl ?_
        refine x_goto C 66 d_O_gather_62 (by decide) ?_
        cases hf
        exact x_sub [0, 1, 2, 3, 4] rfl Jj4
      · replace hf := it g9 hf
        refine x_aload_n C d_O_gather_46 1 rfl ?_
        refine x_iconst (v := 1) C d_O_gather_47 rfl ?_
        refine x_iload C d_O_gather_48 4 rfl ?_
        refine x_ishl C d_O_gather_50 ?_
        obtain ⟨c10, hc10, hf⟩ := bs hf
        refine x_callV (rest := []) (n := 1) C (ct_V_owedByAny E F _ _ _ _ hm1 hk1 hc10) mi_V_owedByAny (by decide) hm1 ⟨_, cel_V hk1⟩ rfl rfl wL_O_30 d_O_gather_51 rfl rfl (Nat.le_of_ble_eq_true rfl) ?_
        show X _ _ _ _ _ _ _ _ _ _ _ _ _ _ _ _ _ _ _ _ _ [.int c10]
        refine x_iconst (v := 1) C d_O_gather_54 rfl ?_
        refine x_iload_n C d_O_gather_55 2 rfl ?_
        refine x_ishl C d_O_gather_56 ?_
        refine x_iand C d_O_gather_57 ?_
        refine x_if_eq C 65 d_O_gather_58 (by decide) (fun g11 => ?_) (fun g11 => ?_)
        · replace hf := it g11 hf
          refine x_iconst (v := 0) C d_O_gather_65 rfl ?_
          cases hf
          exact x_sub [0, 1, 2, 3, 4] rfl Jj4
        · replace hf := ie g11 hf
          refine x_iconst (v := 1) C d_O_gather_61 rfl ?_
          refine x_goto C 66 d_O_gather_62 (by decide) ?_
          cases hf
          exact x_sub [0, 1, 2, 3, 4] rfl Jj4
set_option maxHeartbeats 4000000 in
set_option maxRecDepth 100000 in
theorem lw_O_gather_7 {p : Program} {l : Launch} {e : Env} {s : State} {m : MethodId} {args : Array Value} {below : List Frame} {meth : Method} {c : Code} {D : va_G} {ad : Nat → Nat} {cs : Nat → ClassId} {A : Nat → Prop} {V : Option Value} {N : Mem} (E : Ev ad cs A LX) (C : Cx p s m args meth c "KissClearing$Rounds" b_O_gather 6 none D ad cs A LX) (F : Nat) (k1 : Nat) (hm1 : k1 ∈ LX) (hk1 : kd k1 = 12) : ∀ (n : Nat) (M : Mem) (x2 : Int32) (u : Mem), L_O_gather_7 F k1 n M x2 = some u → X p l e 2 s m args below meth c 6 D ad cs A LX V N u 125 [] [] → X p l e 2 s m args below meth c 6 D ad cs A LX V N M 7 [(0, .ref (ad 70)), (1, .ref (ad k1)), (2, .int x2)] [] := by
  intro n
  induction n with
  | zero => intro M x2 u hf; cases hf
  | succ n ih =>
    intro M x2 u hf K
    replace hf : B_O_gather_7 F k1 (L_O_gather_7 F k1 n) M x2 = some u := hf
    unfold B_O_gather_7 at hf
    refine x_iload_n C d_O_gather_7 2 rfl ?_
    refine x_aload_n C d_O_gather_8 1 rfl ?_
    refine xg_V_personCount C wF_O_25 hm1 hk1 d_O_gather_9 ?_
    refine x_icmp_ge C 125 d_O_gather_12 (by decide) (fun g1 => ?_) (fun g1 => ?_)
    · replace hf := it g1 hf
      cases hf
      exact x_sub [] rfl K
    · replace hf := ie g1 hf
      refine x_aload_n C d_O_gather_15 1 rfl ?_
      refine x_iconst (v := 1) C d_O_gather_16 rfl ?_
      refine x_iload_n C d_O_gather_17 2 rfl ?_
      refine x_ishl C d_O_gather_18 ?_
      obtain ⟨c2, hc2, hf⟩ := bs hf
      refine x_callV (rest := []) (n := 1) C (ct_V_owedByAny E F _ _ _ _ hm1 hk1 hc2) mi_V_owedByAny (by decide) hm1 ⟨_, cel_V hk1⟩ rfl rfl wL_O_30 d_O_gather_19 rfl rfl (Nat.le_of_ble_eq_true rfl) ?_
      show X _ _ _ _ _ _ _ _ _ _ _ _ _ _ _ _ _ _ _ _ _ [.int c2]
      refine x_istore_n (lv' := [(3, .int c2), (0, .ref (ad 70)), (1, .ref (ad k1)), (2, .int x2)]) C d_O_gather_22 (by decide) rfl ?_
      refine x_iload_n C d_O_gather_23 3 rfl ?_
      refine x_iconst (v := 1) C d_O_gather_24 rfl ?_
      refine x_iadd C d_O_gather_25 ?_
      refine x_istore (lv' := [(4, .int (x2 + 1)), (3, .int c2), (0, .ref (ad 70)), (1, .ref (ad k1)), (2, .int x2)]) C d_O_gather_26 (by decide) rfl ?_
      obtain ⟨u12, hu12, hf⟩ := bs hf
      refine x_sub [2, 3, 4, 1, 0] rfl ?_
      refine lw_O_gather_28 E C F _ _ _ hm1 hk1 _ _ _ _ hu12 ?_
      refine x_iinc (v := (x2 + 1)) (lv' := [(2, .int (x2 + 1)), (0, .ref (ad 70)), (1, .ref (ad k1))]) C d_O_gather_119 2 rfl rfl (by decide) rfl ?_
      refine x_goto C 7 d_O_gather_122 (by decide) ?_
      refine x_sub [1, 2, 0] rfl ?_
      exact ih _ _ _ hf K
set_option maxHeartbeats 4000000 in
set_option maxRecDepth 100000 in
theorem ct_O_gather {l : Launch} {D : va_G} {ad : Nat → Nat} {cs : Nat → ClassId} {A : Nat → Prop} (E : Ev ad cs A LX) (F : Nat) (M : Mem) (k1 : Nat) (R : Mem) (hm1 : k1 ∈ LX) (hk1 : kd k1 = 12) (hf : O_gather F M k1 = some R) : Met l y_O_gather (Cond.code y_O_gather b_O_gather 6 none :: wl) (rmD 2) (PX D ad cs A LX [.ref (ad 70), .ref (ad k1)] M) (QX D ad cs A LX (none) R) 0 0 A := by
  refine x_enter (lv := [(0, .ref (ad 70)), (1, .ref (ad k1))]) E mi_O_gather.1 (Nat.le_of_ble_eq_true rfl) rfl (fun p e s m args below meth c C => ?_)
  unfold O_gather at hf
  refine x_aload_n C d_O_gather_0 0 rfl ?_
  refine x_iconst (v := 0) C d_O_gather_1 rfl ?_
  refine xp_O_size (x := 0) C wF_O_9 mc_70 kc_70 d_O_gather_2 ?_
  refine x_iconst (v := 0) C d_O_gather_5 rfl ?_
  refine x_istore_n (lv' := [(2, .int 0), (0, .ref (ad 70)), (1, .ref (ad k1))]) C d_O_gather_6 (by decide) rfl ?_
  obtain ⟨u13, hu13, hf⟩ := bs hf
  refine x_sub [1, 2, 0] rfl ?_
  refine lw_O_gather_7 E C F _ hm1 hk1 _ _ _ _ hu13 ?_
  cases hf
  exact x_vret C d_O_gather_125 rfl rfl
set_option maxHeartbeats 4000000 in
set_option maxRecDepth 100000 in
theorem ct_R_signAt {l : Launch} {D : va_G} {ad : Nat → Nat} {cs : Nat → ClassId} {A : Nat → Prop} (E : Ev ad cs A LX) (F : Nat) (M : Mem) (k0 : Nat) (x1 : Int32) (R : Int32) (hm0 : k0 ∈ LX) (hk0 : kd k0 = 11) (hf : R_signAt F M k0 x1 = some R) : Met l y_R_signAt (Cond.code y_R_signAt b_R_signAt 2 (some .int) :: wl) (rmD 1) (PX D ad cs A LX [.ref (ad k0), .int x1] M) (QX D ad cs A LX (some (.int R)) M) 0 0 A := by
  refine x_enter (lv := [(0, .ref (ad k0)), (1, .int x1)]) E mi_R_signAt.1 (Nat.le_of_ble_eq_true rfl) rfl (fun p e s m args below meth c C => ?_)
  unfold R_signAt at hf
  refine x_aload_n C d_R_signAt_0 0 rfl ?_
  refine x_iload_n C d_R_signAt_1 1 rfl ?_
  obtain ⟨c1, hc1, hf⟩ := bs hf
  refine x_callV (rest := []) (n := 1) C (ct_S_hasPlace E F _ _ _ _ hm0 hk0 hc1) mi_S_hasPlace (by decide) hm0 ⟨_, cel_S hk0⟩ rfl rfl wL_R_67 d_R_signAt_2 rfl rfl (Nat.le_of_ble_eq_true rfl) ?_
  show X _ _ _ _ _ _ _ _ _ _ _ _ _ _ _ _ _ _ _ _ _ [.int c1]
  refine x_if_eq C 17 d_R_signAt_5 (by decide) (fun g2 => ?_) (fun g2 => ?_)
  · replace hf := it g2 hf
    refine x_sipush (v := (-1000)) C d_R_signAt_17 rfl ?_
    cases hf
    exact x_iret C d_R_signAt_20 rfl rfl
  · replace hf := ie g2 hf
    refine x_aload_n C d_R_signAt_8 0 rfl ?_
    refine xg_S_places C wF_R_70 hm0 hk0 d_R_signAt_9 ?_
    refine x_iload_n C d_R_signAt_12 1 rfl ?_
    obtain ⟨t3, ht3, hf⟩ := bs hf
    refine x_iald C ht3 (m_S_places hk0) (k_S_places hk0) d_R_signAt_13 ?_
    refine x_goto C 20 d_R_signAt_14 (by decide) ?_
    cases hf
    exact x_iret C d_R_signAt_20 rfl rfl
set_option maxHeartbeats 4000000 in
set_option maxRecDepth 100000 in
theorem lw_R_numberOf_2 {p : Program} {l : Launch} {e : Env} {s : State} {m : MethodId} {args : Array Value} {below : List Frame} {meth : Method} {c : Code} {D : va_G} {ad : Nat → Nat} {cs : Nat → ClassId} {A : Nat → Prop} {V : Option Value} {N : Mem} (E : Ev ad cs A LX) (C : Cx p s m args meth c "KissClearing$Reader" b_R_numberOf 3 (some .int) D ad cs A LX) (F : Nat) (M : Mem) (x0 : Int32) (k1 : Nat) (hm1 : 80 ≤ k1) (hk1 : k1 < 85) : ∀ (n : Nat) (x2 : Int32) (u0 : (Sum Int32 Unit)), L_R_numberOf_2 F M x0 k1 n x2 = some u0 → (∀ r, u0 = .inl r → V = some (.int r) ∧ N = M) →  (∀ u, u0 = .inr u → X p l e 0 s m args below meth c 3 D ad cs A LX V N M 23 [] []) → X p l e 0 s m args below meth c 3 D ad cs A LX V N M 2 [(0, .int x0), (1, .ref (ad k1)), (2, .int x2)] [] := by
  intro n
  induction n with
  | zero => intro x2 u0 hf; cases hf
  | succ n ih =>
    intro x2 u0 hf Kr Kx
    replace hf : B_R_numberOf_2 F M x0 k1 (L_R_numberOf_2 F M x0 k1 n) x2 = some u0 := hf
    unfold B_R_numberOf_2 at hf
    refine x_iload_n C d_R_numberOf_2 2 rfl ?_
    refine x_aload_n C d_R_numberOf_3 1 rfl ?_
    refine x_rolen (v := (Int32.ofNat (ln k1))) C hm1 hk1 rfl d_R_numberOf_4 ?_
    refine x_icmp_ge C 23 d_R_numberOf_5 (by decide) (fun g1 => ?_) (fun g1 => ?_)
    · replace hf := it g1 hf
      cases hf
      exact x_sub [] rfl (Kx _ rfl)
    · replace hf := ie g1 hf
      refine x_aload_n C d_R_numberOf_8 1 rfl ?_
      refine x_iload_n C d_R_numberOf_9 2 rfl ?_
      obtain ⟨t2, ht2, hf⟩ := bs hf
      refine x_rod C ht2 hm1 hk1 d_R_numberOf_10 ?_
      refine x_iload_n C d_R_numberOf_11 0 rfl ?_
      refine x_icmp_ne C 17 d_R_numberOf_12 (by decide) (fun g3 => ?_) (fun g3 => ?_)
      · replace hf := ie g3 hf
        refine x_iinc (v := (x2 + 1)) (lv' := [(2, .int (x2 + 1)), (0, .int x0), (1, .ref (ad k1))]) C d_R_numberOf_17 2 rfl rfl (by decide) rfl ?_
        refine x_goto C 2 d_R_numberOf_20 (by decide) ?_
        refine x_sub [1, 2, 0] rfl ?_
        exact ih _ _ hf Kr Kx
      · replace hf := it g3 hf
        refine x_iload_n C d_R_numberOf_15 2 rfl ?_
        cases hf
        obtain ⟨hV, hN⟩ := Kr _ rfl
        exact x_iret C d_R_numberOf_16 hV hN
set_option maxHeartbeats 4000000 in
set_option maxRecDepth 100000 in
theorem ct_R_numberOf {l : Launch} {D : va_G} {ad : Nat → Nat} {cs : Nat → ClassId} {A : Nat → Prop} (E : Ev ad cs A LX) (F : Nat) (M : Mem) (x0 : Int32) (k1 : Nat) (R : Int32) (hm1 : 80 ≤ k1) (hk1 : k1 < 85) (hf : R_numberOf F M x0 k1 = some R) : Met l y_R_numberOf (Cond.code y_R_numberOf b_R_numberOf 3 (some .int) :: wl) (rmD 0) (PX D ad cs A LX [.int x0, .ref (ad k1)] M) (QX D ad cs A LX (some (.int R)) M) 0 0 A := by
  refine x_enter (lv := [(0, .int x0), (1, .ref (ad k1))]) E mi_R_numberOf.1 (Nat.le_of_ble_eq_true rfl) rfl (fun p e s m args below meth c C => ?_)
  unfold R_numberOf at hf
  refine x_iconst (v := 0) C d_R_numberOf_0 rfl ?_
  refine x_istore_n (lv' := [(2, .int 0), (0, .int x0), (1, .ref (ad k1))]) C d_R_numberOf_1 (by decide) rfl ?_
  obtain ⟨u4, hu4, hf⟩ := bs hf
  refine x_sub [1, 2, 0] rfl ?_
  refine lw_R_numberOf_2 E C F _ _ _ hm1 hk1 _ _ _ hu4 (fun r5 hr5 => ?_) (fun w6 hw6 => ?_)
  · subst hr5
    replace hf := se_l hf
    cases hf
    exact ⟨rfl, rfl⟩
  · subst hw6
    replace hf := se_r hf
    refine x_iconst (v := (-1)) C d_R_numberOf_23 rfl ?_
    cases hf
    exact x_iret C d_R_numberOf_24 rfl rfl
set_option maxHeartbeats 4000000 in
set_option maxRecDepth 100000 in
theorem ct_R_readDraft {l : Launch} {D : va_G} {ad : Nat → Nat} {cs : Nat → ClassId} {A : Nat → Prop} (E : Ev ad cs A LX) (F : Nat) (M : Mem) (k0 : Nat) (x1 : Int32) (k2 : Nat) (R : (Int32 × Mem)) (hm0 : k0 ∈ LX) (hk0 : kd k0 = 11) (hm2 : k2 ∈ LX) (hk2 : kd k2 = 12) (hf : R_readDraft F M k0 x1 k2 = some R) : Met l y_R_readDraft (Cond.code y_R_readDraft b_R_readDraft 7 (some .int) :: wl) (rmD 2) (PX D ad cs A LX [.ref (ad k0), .int x1, .ref (ad k2)] M) (QX D ad cs A LX (some (.int R.1)) R.2) 0 0 A := by
  refine x_enter (lv := [(0, .ref (ad k0)), (1, .int x1), (2, .ref (ad k2))]) E mi_R_readDraft.1 (Nat.le_of_ble_eq_true rfl) rfl (fun p e s m args below meth c C => ?_)
  unfold R_readDraft at hf
  refine x_aload_n C d_R_readDraft_0 2 rfl ?_
  refine xg_V_personCount C wF_R_34 hm2 hk2 d_R_readDraft_1 ?_
  refine x_iconst (v := 2) C d_R_readDraft_4 rfl ?_
  refine x_icmp_lt C 17 d_R_readDraft_5 (by decide) (fun g1 => ?_) (fun g1 => ?_)
  · replace hf := it g1 hf
    refine x_iload_n C d_R_readDraft_17 1 rfl ?_
    cases hf
    exact x_iret C d_R_readDraft_18 rfl rfl
  · replace hf := ie g1 hf
    refine x_aload_n C d_R_readDraft_8 2 rfl ?_
    refine xg_V_draftCount C wF_R_45 hm2 hk2 d_R_readDraft_9 ?_
    refine x_bipush (v := 12) C d_R_readDraft_12 rfl ?_
    refine x_icmp_lt C 19 d_R_readDraft_14 (by decide) (fun g2 => ?_) (fun g2 => ?_)
    · replace hf := it g2 hf
      refine x_aload_n C d_R_readDraft_19 0 rfl ?_
      refine x_iload_n C d_R_readDraft_20 1 rfl ?_
      refine x_iconst (v := 1) C d_R_readDraft_21 rfl ?_
      refine x_iadd C d_R_readDraft_22 ?_
      obtain ⟨c3, hc3, hf⟩ := bs hf
      refine x_callS (rest := []) (n := 2) C (ct_R_signAt E F _ _ _ _ hm0 hk0 hc3) mi_R_signAt (by decide) wL_R_20 d_R_readDraft_23 rfl rfl (Nat.le_of_ble_eq_true rfl) ?_
      show X _ _ _ _ _ _ _ _ _ _ _ _ _ _ _ _ _ _ _ _ _ [.int c3]
      refine x_bipush (v := 48) C d_R_readDraft_26 rfl ?_
      refine x_isub C d_R_readDraft_28 ?_
      refine x_istore_n (lv' := [(3, .int (c3 - 48)), (0, .ref (ad k0)), (1, .int x1), (2, .ref (ad k2))]) C d_R_readDraft_29 (by decide) rfl ?_
      refine x_aload_n C d_R_readDraft_30 3 rfl ?_
      refine x_iload_n C d_R_readDraft_31 0 rfl ?_
      obtain ⟨c4, hc4, hf⟩ := bs hf
      refine x_callV (rest := []) (n := 1) C (ct_V_hasPerson E F _ _ _ _ hm2 hk2 hc4) mi_V_hasPerson (by decide) hm2 ⟨_, cel_V hk2⟩ rfl rfl wL_R_52 d_R_readDraft_32 rfl rfl (Nat.le_of_ble_eq_true rfl) ?_
      show X _ _ _ _ _ _ _ _ _ _ _ _ _ _ _ _ _ _ _ _ _ [.int c4]
      refine x_if_ne C 42 d_R_readDraft_35 (by decide) (fun g5 => ?_) (fun g5 => ?_)
      · replace hf := ie g5 hf
        refine x_aload_n C d_R_readDraft_42 1 rfl ?_
        refine x_iload_n C d_R_readDraft_43 2 rfl ?_
        refine x_iconst (v := 2) C d_R_readDraft_44 rfl ?_
        refine x_iadd C d_R_readDraft_45 ?_
        obtain ⟨c6, hc6, hf⟩ := bs hf
        refine x_callS (rest := []) (n := 2) C (ct_R_signAt E F _ _ _ _ hm0 hk0 hc6) mi_R_signAt (by decide) wL_R_20 d_R_readDraft_46 rfl rfl (Nat.le_of_ble_eq_true rfl) ?_
        show X _ _ _ _ _ _ _ _ _ _ _ _ _ _ _ _ _ _ _ _ _ [.int c6]
        refine x_bipush (v := 48) C d_R_readDraft_49 rfl ?_
        refine x_isub C d_R_readDraft_51 ?_
        refine x_istore (lv' := [(4, .int (c6 - 48)), (3, .int (c3 - 48)), (0, .ref (ad k0)), (1, .int x1), (2, .ref (ad k2))]) C d_R_readDraft_52 (by decide) rfl ?_
        refine x_aload_n C d_R_readDraft_54 4 rfl ?_
        refine x_iload_n C d_R_readDraft_55 1 rfl ?_
        refine x_iload C d_R_readDraft_56 0 rfl ?_
        obtain ⟨c7, hc7, hf⟩ := bs hf
        refine x_callV (rest := []) (n := 2) C (ct_V_hasTwo E F _ _ _ _ _ hm2 hk2 hc7) mi_V_hasTwo (by decide) hm2 ⟨_, cel_V hk2⟩ rfl rfl wL_R_56 d_R_readDraft_58 rfl rfl (Nat.le_of_ble_eq_true rfl) ?_
        show X _ _ _ _ _ _ _ _ _ _ _ _ _ _ _ _ _ _ _ _ _ [.int c7]
        refine x_if_ne C 68 d_R_readDraft_61 (by decide) (fun g8 => ?_) (fun g8 => ?_)
        · replace hf := ie g8 hf
          refine x_aload_n C d_R_readDraft_68 2 rfl ?_
          refine x_iload_n C d_R_readDraft_69 3 rfl ?_
          refine x_iconst (v := 3) C d_R_readDraft_70 rfl ?_
          refine x_iadd C d_R_readDraft_71 ?_
          obtain ⟨c9, hc9, hf⟩ := bs hf
          refine x_callS (rest := []) (n := 2) C (ct_R_signAt E F _ _ _ _ hm0 hk0 hc9) mi_R_signAt (by decide) wL_R_20 d_R_readDraft_72 rfl rfl (Nat.le_of_ble_eq_true rfl) ?_
          show X _ _ _ _ _ _ _ _ _ _ _ _ _ _ _ _ _ _ _ _ _ [.int c9]
          refine x_gets C 0 (by decide) rfl rfl d_R_readDraft_75 ?_
          obtain ⟨c10, hc10, hf⟩ := bs hf
          refine x_callS (rest := []) (n := 2) C (ct_R_numberOf E F _ _ _ _ (by decide) (by decide) hc10) mi_R_numberOf (by decide) wL_R_41 d_R_readDraft_78 rfl rfl (Nat.le_of_ble_eq_true rfl) ?_
          show X _ _ _ _ _ _ _ _ _ _ _ _ _ _ _ _ _ _ _ _ _ [.int c10]
          refine x_istore (lv' := [(5, .int c10), (4, .int (c6 - 48)), (3, .int (c3 - 48)), (0, .ref (ad k0)), (1, .int x1), (2, .ref (ad k2))]) C d_R_readDraft_81 (by decide) rfl ?_
          refine x_iload C d_R_readDraft_83 0 rfl ?_
          refine x_if_ge C 92 d_R_readDraft_85 (by decide) (fun g11 => ?_) (fun g11 => ?_)
          · replace hf := it g11 hf
            refine x_aload_n C d_R_readDraft_92 3 rfl ?_
            refine x_iload_n C d_R_readDraft_93 4 rfl ?_
            refine x_iconst (v := 4) C d_R_readDraft_94 rfl ?_
            refine x_iadd C d_R_readDraft_95 ?_
            obtain ⟨c12, hc12, hf⟩ := bs hf
            refine x_callS (rest := []) (n := 2) C (ct_R_signAt E F _ _ _ _ hm0 hk0 hc12) mi_R_signAt (by decide) wL_R_20 d_R_readDraft_96 rfl rfl (Nat.le_of_ble_eq_true rfl) ?_
            show X _ _ _ _ _ _ _ _ _ _ _ _ _ _ _ _ _ _ _ _ _ [.int c12]
            refine x_bipush (v := 48) C d_R_readDraft_99 rfl ?_
            refine x_isub C d_R_readDraft_101 ?_
            refine x_istore (lv' := [(6, .int (c12 - 48)), (5, .int c10), (4, .int (c6 - 48)), (3, .int (c3 - 48)), (0, .ref (ad k0)), (1, .int x1), (2, .ref (ad k2))]) C d_R_readDraft_102 (by decide) rfl ?_
            refine x_iload C d_R_readDraft_104 0 rfl ?_
            refine x_iconst (v := 1) C d_R_readDraft_106 rfl ?_
            refine x_icmp_lt C 117 d_R_readDraft_107 (by decide) (fun g13 => ?_) (fun g13 => ?_)
            · replace hf := it g13 hf
              refine x_iload_n C d_R_readDraft_117 5 rfl ?_
              refine x_iconst (v := 4) C d_R_readDraft_118 rfl ?_
              refine x_iadd C d_R_readDraft_119 ?_
              cases hf
              exact x_iret C d_R_readDraft_120 rfl rfl
            · replace hf := ie g13 hf
              refine x_iload C d_R_readDraft_110 0 rfl ?_
              refine x_bipush (v := 9) C d_R_readDraft_112 rfl ?_
              refine x_icmp_le C 121 d_R_readDraft_114 (by decide) (fun g14 => ?_) (fun g14 => ?_)
              · replace hf := it g14 hf
                refine x_aload_n C d_R_readDraft_121 6 rfl ?_
                refine x_iload_n C d_R_readDraft_122 3 rfl ?_
                refine x_iload C d_R_readDraft_123 2 rfl ?_
                refine x_iload C d_R_readDraft_125 1 rfl ?_
                refine x_iload C d_R_readDraft_127 0 rfl ?_
                obtain ⟨c15, hc15, hf⟩ := bs hf
                refine x_callV (rest := []) (n := 4) C (ct_V_addDraft E F _ _ _ _ _ _ _ hm2 hk2 hc15) mi_V_addDraft (by decide) hm2 ⟨_, cel_V hk2⟩ rfl rfl wL_R_63 d_R_readDraft_129 rfl rfl (Nat.le_of_ble_eq_true rfl) ?_
                show X _ _ _ _ _ _ _ _ _ _ _ _ _ _ _ _ _ _ _ _ _ []
                refine x_bipush (v := (-9)) C d_R_readDraft_132 rfl ?_
                cases hf
                exact x_iret C d_R_readDraft_134 rfl rfl
              · replace hf := ie g14 hf
                refine x_iload_n C d_R_readDraft_117 5 rfl ?_
                refine x_iconst (v := 4) C d_R_readDraft_118 rfl ?_
                refine x_iadd C d_R_readDraft_119 ?_
                cases hf
                exact x_iret C d_R_readDraft_120 rfl rfl
          · replace hf := ie g11 hf
            refine x_iload_n C d_R_readDraft_88 4 rfl ?_
            refine x_iconst (v := 3) C d_R_readDraft_89 rfl ?_
            refine x_iadd C d_R_readDraft_90 ?_
            cases hf
            exact x_iret C d_R_readDraft_91 rfl rfl
        · replace hf := it g8 hf
          refine x_iload_n C d_R_readDraft_64 3 rfl ?_
          refine x_iconst (v := 2) C d_R_readDraft_65 rfl ?_
          refine x_iadd C d_R_readDraft_66 ?_
          cases hf
          exact x_iret C d_R_readDraft_67 rfl rfl
      · replace hf := it g5 hf
        refine x_iload_n C d_R_readDraft_38 2 rfl ?_
        refine x_iconst (v := 1) C d_R_readDraft_39 rfl ?_
        refine x_iadd C d_R_readDraft_40 ?_
        cases hf
        exact x_iret C d_R_readDraft_41 rfl rfl
    · replace hf := ie g2 hf
      refine x_iload_n C d_R_readDraft_17 1 rfl ?_
      cases hf
      exact x_iret C d_R_readDraft_18 rfl rfl
set_option maxHeartbeats 4000000 in
set_option maxRecDepth 100000 in
theorem ct_R_readPerson {l : Launch} {D : va_G} {ad : Nat → Nat} {cs : Nat → ClassId} {A : Nat → Prop} (E : Ev ad cs A LX) (F : Nat) (M : Mem) (x0 : Int32) (k1 : Nat) (R : (Int32 × Mem)) (hm1 : k1 ∈ LX) (hk1 : kd k1 = 12) (hf : R_readPerson F M x0 k1 = some R) : Met l y_R_readPerson (Cond.code y_R_readPerson b_R_readPerson 3 (some .boolean) :: wl) (rmD 1) (PX D ad cs A LX [.int x0, .ref (ad k1)] M) (QX D ad cs A LX (some (.int R.1)) R.2) 0 0 A := by
  refine x_enter (lv := [(0, .int x0), (1, .ref (ad k1))]) E mi_R_readPerson.1 (Nat.le_of_ble_eq_true rfl) rfl (fun p e s m args below meth c C => ?_)
  unfold R_readPerson at hf
  refine x_iload_n C d_R_readPerson_0 0 rfl ?_
  refine x_gets C 1 (by decide) rfl rfl d_R_readPerson_1 ?_
  obtain ⟨c1, hc1, hf⟩ := bs hf
  refine x_callS (rest := []) (n := 2) C (ct_R_numberOf E F _ _ _ _ (by decide) (by decide) hc1) mi_R_numberOf (by decide) wL_R_41 d_R_readPerson_4 rfl rfl (Nat.le_of_ble_eq_true rfl) ?_
  show X _ _ _ _ _ _ _ _ _ _ _ _ _ _ _ _ _ _ _ _ _ [.int c1]
  refine x_istore_n (lv' := [(2, .int c1), (0, .int x0), (1, .ref (ad k1))]) C d_R_readPerson_7 (by decide) rfl ?_
  refine x_iload_n C d_R_readPerson_8 0 rfl ?_
  refine x_if_lt C 28 d_R_readPerson_9 (by decide) (fun g2 => ?_) (fun g2 => ?_)
  · replace hf := it g2 hf
    refine x_iconst (v := 0) C d_R_readPerson_28 rfl ?_
    cases hf
    exact x_zret C d_R_readPerson_29 (Or.inl rfl) rfl rfl
  · replace hf := ie g2 hf
    refine x_aload_n C d_R_readPerson_12 2 rfl ?_
    refine xg_V_draftCount C wF_R_45 hm1 hk1 d_R_readPerson_13 ?_
    refine x_if_gt C 28 d_R_readPerson_16 (by decide) (fun g3 => ?_) (fun g3 => ?_)
    · replace hf := it g3 hf
      refine x_iconst (v := 0) C d_R_readPerson_28 rfl ?_
      cases hf
      exact x_zret C d_R_readPerson_29 (Or.inl rfl) rfl rfl
    · replace hf := ie g3 hf
      refine x_aload_n C d_R_readPerson_19 2 rfl ?_
      refine xg_V_personCount C wF_R_34 hm1 hk1 d_R_readPerson_20 ?_
      refine x_bipush (v := 6) C d_R_readPerson_23 rfl ?_
      refine x_icmp_lt C 30 d_R_readPerson_25 (by decide) (fun g4 => ?_) (fun g4 => ?_)
      · replace hf := it g4 hf
        refine x_aload_n C d_R_readPerson_30 2 rfl ?_
        refine x_iload_n C d_R_readPerson_31 0 rfl ?_
        obtain ⟨c5, hc5, hf⟩ := bs hf
        refine x_callV (rest := []) (n := 1) C (ct_V_addPerson E F _ _ _ _ hm1 hk1 hc5) mi_V_addPerson (by decide) hm1 ⟨_, cel_V hk1⟩ rfl rfl wL_R_48 d_R_readPerson_32 rfl rfl (Nat.le_of_ble_eq_true rfl) ?_
        show X _ _ _ _ _ _ _ _ _ _ _ _ _ _ _ _ _ _ _ _ _ []
        refine x_iconst (v := 1) C d_R_readPerson_35 rfl ?_
        cases hf
        exact x_zret C d_R_readPerson_36 (Or.inr rfl) rfl rfl
      · replace hf := ie g4 hf
        refine x_iconst (v := 0) C d_R_readPerson_28 rfl ?_
        cases hf
        exact x_zret C d_R_readPerson_29 (Or.inl rfl) rfl rfl
set_option maxHeartbeats 4000000 in
set_option maxRecDepth 100000 in
theorem lw_R_faultOf_6 {p : Program} {l : Launch} {e : Env} {s : State} {m : MethodId} {args : Array Value} {below : List Frame} {meth : Method} {c : Code} {D : va_G} {ad : Nat → Nat} {cs : Nat → ClassId} {A : Nat → Prop} {V : Option Value} {N : Mem} (E : Ev ad cs A LX) (C : Cx p s m args meth c "KissClearing$Reader" b_R_faultOf 5 (some .int) D ad cs A LX) (F : Nat) (k0 : Nat) (k1 : Nat) (hm0 : k0 ∈ LX) (hk0 : kd k0 = 11) (hm1 : k1 ∈ LX) (hk1 : kd k1 = 12) : ∀ (n : Nat) (M : Mem) (x2 : Int32) (u0 : (Sum (Int32 × Mem) Mem)), L_R_faultOf_6 F k0 k1 n M x2 = some u0 → (∀ r, u0 = .inl r → V = some (.int r.1) ∧ N = r.2) →  (∀ u, u0 = .inr u → X p l e 3 s m args below meth c 5 D ad cs A LX V N u 81 [(0, .ref (ad k0)), (1, .ref (ad k1))] []) → X p l e 3 s m args below meth c 5 D ad cs A LX V N M 6 [(0, .ref (ad k0)), (1, .ref (ad k1)), (2, .int x2)] [] := by
  intro n
  induction n with
  | zero => intro M x2 u0 hf; cases hf
  | succ n ih =>
    intro M x2 u0 hf Kr Kx
    replace hf : B_R_faultOf_6 F k0 k1 (L_R_faultOf_6 F k0 k1 n) M x2 = some u0 := hf
    unfold B_R_faultOf_6 at hf
    refine x_iload_n C d_R_faultOf_6 2 rfl ?_
    refine x_aload_n C d_R_faultOf_7 0 rfl ?_
    refine xg_S_size C wF_R_14 hm0 hk0 d_R_faultOf_8 ?_
    refine x_icmp_ge C 81 d_R_faultOf_11 (by decide) (fun g2 => ?_) (fun g2 => ?_)
    · replace hf := it g2 hf
      cases hf
      exact x_sub [0, 1] rfl (Kx _ rfl)
    · replace hf := ie g2 hf
      refine x_aload_n C d_R_faultOf_14 0 rfl ?_
      refine x_iload_n C d_R_faultOf_15 2 rfl ?_
      obtain ⟨c3, hc3, hf⟩ := bs hf
      refine x_callS (rest := []) (n := 2) C (ct_R_signAt E F _ _ _ _ hm0 hk0 hc3) mi_R_signAt (by decide) wL_R_20 d_R_faultOf_16 rfl rfl (Nat.le_of_ble_eq_true rfl) ?_
      show X _ _ _ _ _ _ _ _ _ _ _ _ _ _ _ _ _ _ _ _ _ [.int c3]
      refine x_istore_n (lv' := [(3, .int c3), (0, .ref (ad k0)), (1, .ref (ad k1)), (2, .int x2)]) C d_R_faultOf_19 (by decide) rfl ?_
      refine x_iload_n C d_R_faultOf_20 0 rfl ?_
      refine x_bipush (v := 32) C d_R_faultOf_21 rfl ?_
      refine x_icmp_ne C 32 d_R_faultOf_23 (by decide) (fun g4 => ?_) (fun g4 => ?_)
      · replace hf := ie g4 hf
        refine x_iload_n C d_R_faultOf_32 0 rfl ?_
        refine x_bipush (v := 120) C d_R_faultOf_33 rfl ?_
        refine x_icmp_ne C 62 d_R_faultOf_35 (by decide) (fun g5 => ?_) (fun g5 => ?_)
        · replace hf := ie g5 hf
          refine x_iload_n C d_R_faultOf_62 0 rfl ?_
          refine x_aload_n C d_R_faultOf_63 2 rfl ?_
          obtain ⟨c6, hc6, hf⟩ := bs hf
          refine x_callS (rest := []) (n := 2) C (ct_R_readPerson E F _ _ _ _ hm1 hk1 hc6) mi_R_readPerson (by decide) wL_R_30 d_R_faultOf_64 rfl rfl (Nat.le_of_ble_eq_true rfl) ?_
          show X _ _ _ _ _ _ _ _ _ _ _ _ _ _ _ _ _ _ _ _ _ [.int c6.1]
          refine x_if_eq C 76 d_R_faultOf_67 (by decide) (fun g7 => ?_) (fun g7 => ?_)
          · replace hf := it g7 hf
            refine x_iload_n C d_R_faultOf_76 3 rfl ?_
            cases hf
            obtain ⟨hV, hN⟩ := Kr _ rfl
            exact x_iret C d_R_faultOf_77 hV hN
          · replace hf := ie g7 hf
            refine x_iinc (v := (x2 + 1)) (lv' := [(2, .int (x2 + 1)), (3, .int c3), (0, .ref (ad k0)), (1, .ref (ad k1))]) C d_R_faultOf_70 3 rfl rfl (by decide) rfl ?_
            refine x_goto C 78 d_R_faultOf_73 (by decide) ?_
            refine x_goto C 6 d_R_faultOf_78 (by decide) ?_
            refine x_sub [2, 3, 0] rfl ?_
            exact ih _ _ _ hf Kr Kx
        · replace hf := it g5 hf
          refine x_aload_n C d_R_faultOf_38 1 rfl ?_
          refine x_iload_n C d_R_faultOf_39 3 rfl ?_
          refine x_aload_n C d_R_faultOf_40 2 rfl ?_
          obtain ⟨c8, hc8, hf⟩ := bs hf
          refine x_callS (rest := []) (n := 3) C (ct_R_readDraft E F _ _ _ _ _ hm0 hk0 hm1 hk1 hc8) mi_R_readDraft (by decide) wL_R_26 d_R_faultOf_41 rfl rfl (Nat.le_of_ble_eq_true rfl) ?_
          show X _ _ _ _ _ _ _ _ _ _ _ _ _ _ _ _ _ _ _ _ _ [.int c8.1]
          refine x_istore (lv' := [(4, .int c8.1), (3, .int c3), (0, .ref (ad k0)), (1, .ref (ad k1)), (2, .int x2)]) C d_R_faultOf_44 (by decide) rfl ?_
          refine x_iload C d_R_faultOf_46 0 rfl ?_
          refine x_bipush (v := (-9)) C d_R_faultOf_48 rfl ?_
          refine x_icmp_eq C 56 d_R_faultOf_50 (by decide) (fun g9 => ?_) (fun g9 => ?_)
          · replace hf := it g9 hf
            refine x_iinc (v := (x2 + 5)) (lv' := [(2, .int (x2 + 5)), (4, .int c8.1), (3, .int c3), (0, .ref (ad k0)), (1, .ref (ad k1))]) C d_R_faultOf_56 4 rfl rfl (by decide) rfl ?_
            refine x_goto C 78 d_R_faultOf_59 (by decide) ?_
            refine x_goto C 6 d_R_faultOf_78 (by decide) ?_
            refine x_sub [3, 4, 0] rfl ?_
            exact ih _ _ _ hf Kr Kx
          · replace hf := ie g9 hf
            refine x_iload C d_R_faultOf_53 0 rfl ?_
            cases hf
            obtain ⟨hV, hN⟩ := Kr _ rfl
            exact x_iret C d_R_faultOf_55 hV hN
      · replace hf := it g4 hf
        refine x_iinc (v := (x2 + 1)) (lv' := [(2, .int (x2 + 1)), (3, .int c3), (0, .ref (ad k0)), (1, .ref (ad k1))]) C d_R_faultOf_26 3 rfl rfl (by decide) rfl ?_
        refine x_goto C 78 d_R_faultOf_29 (by decide) ?_
        refine x_goto C 6 d_R_faultOf_78 (by decide) ?_
        refine x_sub [2, 3, 0] rfl ?_
        exact ih _ _ _ hf Kr Kx
set_option maxHeartbeats 4000000 in
set_option maxRecDepth 100000 in
theorem ct_R_faultOf {l : Launch} {D : va_G} {ad : Nat → Nat} {cs : Nat → ClassId} {A : Nat → Prop} (E : Ev ad cs A LX) (F : Nat) (M : Mem) (k0 : Nat) (k1 : Nat) (R : (Int32 × Mem)) (hm0 : k0 ∈ LX) (hk0 : kd k0 = 11) (hm1 : k1 ∈ LX) (hk1 : kd k1 = 12) (hf : R_faultOf F M k0 k1 = some R) : Met l y_R_faultOf (Cond.code y_R_faultOf b_R_faultOf 5 (some .int) :: wl) (rmD 3) (PX D ad cs A LX [.ref (ad k0), .ref (ad k1)] M) (QX D ad cs A LX (some (.int R.1)) R.2) 0 0 A := by
  refine x_enter (lv := [(0, .ref (ad k0)), (1, .ref (ad k1))]) E mi_R_faultOf.1 (Nat.le_of_ble_eq_true rfl) rfl (fun p e s m args below meth c C => ?_)
  unfold R_faultOf at hf
  refine x_aload_n C d_R_faultOf_0 1 rfl ?_
  obtain ⟨c1, hc1, hf⟩ := bs hf
  refine x_callV (rest := []) (n := 0) C (ct_V_becomeEmpty E F _ _ _ hm1 hk1 hc1) mi_V_becomeEmpty (by decide) hm1 ⟨_, cel_V hk1⟩ rfl rfl wL_R_9 d_R_faultOf_1 rfl rfl (Nat.le_of_ble_eq_true rfl) ?_
  show X _ _ _ _ _ _ _ _ _ _ _ _ _ _ _ _ _ _ _ _ _ []
  refine x_iconst (v := 0) C d_R_faultOf_4 rfl ?_
  refine x_istore_n (lv' := [(2, .int 0), (0, .ref (ad k0)), (1, .ref (ad k1))]) C d_R_faultOf_5 (by decide) rfl ?_
  obtain ⟨u10, hu10, hf⟩ := bs hf
  refine x_sub [1, 2, 0] rfl ?_
  refine lw_R_faultOf_6 E C F _ _ hm0 hk0 hm1 hk1 _ _ _ _ hu10 (fun r11 hr11 => ?_) (fun w12 hw12 => ?_)
  · subst hr11
    replace hf := se_l hf
    cases hf
    exact ⟨rfl, rfl⟩
  · subst hw12
    replace hf := se_r hf
    refine x_aload_n C d_R_faultOf_81 1 rfl ?_
    refine xg_V_personCount C wF_R_34 hm1 hk1 d_R_faultOf_82 ?_
    refine x_iconst (v := 2) C d_R_faultOf_85 rfl ?_
    refine x_icmp_ge C 96 d_R_faultOf_86 (by decide) (fun g13 => ?_) (fun g13 => ?_)
    · replace hf := it g13 hf
      refine x_bipush (v := (-9)) C d_R_faultOf_96 rfl ?_
      cases hf
      exact x_iret C d_R_faultOf_98 rfl rfl
    · replace hf := ie g13 hf
      refine x_aload_n C d_R_faultOf_89 0 rfl ?_
      refine xg_S_size C wF_R_14 hm0 hk0 d_R_faultOf_90 ?_
      refine x_goto C 98 d_R_faultOf_93 (by decide) ?_
      cases hf
      exact x_iret C d_R_faultOf_98 rfl rfl
