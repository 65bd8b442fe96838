/-! contracts (by program: wip/whole/emit.py) -/
set_option maxHeartbeats 4000000 in
set_option maxRecDepth 100000 in
theorem ct_D_become {l : Launch} {D : va_G} {ad : Nat → Nat} {cs : Nat → ClassId} {A : Nat → Prop} (E : Ev ad cs A LX) (F : Nat) (M : Mem) (k0 : Nat) (x1 : Int32) (x2 : Int32) (x3 : Int32) (x4 : Int32) (R : Mem) (hm0 : k0 ∈ LX) (hk0 : kd k0 = 13) (hf : D_become F M k0 x1 x2 x3 x4 = some R) : Met l y_D_become (Cond.code y_D_become b_D_become 5 none :: wl) (rmD 0) (PX D ad cs A LX [.ref (ad k0), .int x1, .int x2, .int x3, .int x4] M) (QX D ad cs A LX (none) R) 0 0 A := by
  refine x_enter (lv := [(0, .ref (ad k0)), (1, .int x1), (2, .int x2), (3, .int x3), (4, .int x4)]) E mi_D_become.1 (Nat.le_of_ble_eq_true rfl) rfl (fun p e s m args below meth c C => ?_)
  unfold D_become at hf
  refine x_aload_n C d_D_become_0 0 rfl ?_
  refine x_iload_n C d_D_become_1 1 rfl ?_
  refine xp_D_who (x := x1) C wF_D_16 hm0 hk0 d_D_become_2 ?_
  refine x_aload_n C d_D_become_5 0 rfl ?_
  refine x_iload_n C d_D_become_6 2 rfl ?_
  refine xp_D_whom (x := x2) C wF_D_19 hm0 hk0 d_D_become_7 ?_
  refine x_aload_n C d_D_become_10 0 rfl ?_
  refine x_iload_n C d_D_become_11 3 rfl ?_
  refine xp_D_sort (x := x3) C wF_D_13 hm0 hk0 d_D_become_12 ?_
  refine x_aload_n C d_D_become_15 0 rfl ?_
  refine x_iload C d_D_become_16 4 rfl ?_
  refine xp_D_kisses (x := x4) C wF_D_7 hm0 hk0 d_D_become_18 ?_
  refine x_aload_n C d_D_become_21 0 rfl ?_
  refine x_iconst (v := 0) C d_D_become_22 rfl ?_
  refine xp_D_weeks (x := 0) C wF_D_22 hm0 hk0 d_D_become_23 ?_
  refine x_aload_n C d_D_become_26 0 rfl ?_
  refine x_iconst (v := 0) C d_D_become_27 rfl ?_
  refine xp_D_endorsed (x := 0) C wF_D_25 hm0 hk0 d_D_become_28 ?_
  cases hf
  exact x_vret C d_D_become_31 rfl rfl
set_option maxHeartbeats 4000000 in
set_option maxRecDepth 100000 in
theorem ct_D_becomeLike {l : Launch} {D : va_G} {ad : Nat → Nat} {cs : Nat → ClassId} {A : Nat → Prop} (E : Ev ad cs A LX) (F : Nat) (M : Mem) (k0 : Nat) (k1 : Nat) (R : Mem) (hm0 : k0 ∈ LX) (hk0 : kd k0 = 13) (hm1 : k1 ∈ LX) (hk1 : kd k1 = 13) (hf : D_becomeLike F M k0 k1 = some R) : Met l y_D_becomeLike (Cond.code y_D_becomeLike b_D_becomeLike 2 none :: wl) (rmD 1) (PX D ad cs A LX [.ref (ad k0), .ref (ad k1)] M) (QX D ad cs A LX (none) R) 0 0 A := by
  refine x_enter (lv := [(0, .ref (ad k0)), (1, .ref (ad k1))]) E mi_D_becomeLike.1 (Nat.le_of_ble_eq_true rfl) rfl (fun p e s m args below meth c C => ?_)
  unfold D_becomeLike at hf
  refine x_aload_n C d_D_becomeLike_0 0 rfl ?_
  refine x_aload_n C d_D_becomeLike_1 1 rfl ?_
  refine xg_D_who C wF_D_16 hm1 hk1 d_D_becomeLike_2 ?_
  refine x_aload_n C d_D_becomeLike_5 1 rfl ?_
  refine xg_D_whom C wF_D_19 hm1 hk1 d_D_becomeLike_6 ?_
  refine x_aload_n C d_D_becomeLike_9 1 rfl ?_
  refine xg_D_sort C wF_D_13 hm1 hk1 d_D_becomeLike_10 ?_
  refine x_aload_n C d_D_becomeLike_13 1 rfl ?_
  refine xg_D_kisses C wF_D_7 hm1 hk1 d_D_becomeLike_14 ?_
  obtain ⟨c1, hc1, hf⟩ := bs hf
  refine x_callV (rest := []) (n := 4) C (ct_D_become E F _ _ _ _ _ _ _ hm0 hk0 hc1) mi_D_become (by decide) hm0 ⟨_, cel_D hk0⟩ rfl rfl wL_D_28 d_D_becomeLike_17 rfl rfl (Nat.le_of_ble_eq_true rfl) ?_
  show X _ _ _ _ _ _ _ _ _ _ _ _ _ _ _ _ _ _ _ _ _ []
  refine x_aload_n C d_D_becomeLike_20 0 rfl ?_
  refine x_aload_n C d_D_becomeLike_21 1 rfl ?_
  refine xg_D_weeks C wF_D_22 hm1 hk1 d_D_becomeLike_22 ?_
  refine xp_D_weeks (x := (c1 k1 4)) C wF_D_22 hm0 hk0 d_D_becomeLike_25 ?_
  refine x_aload_n C d_D_becomeLike_28 0 rfl ?_
  refine x_aload_n C d_D_becomeLike_29 1 rfl ?_
  refine xg_D_endorsed C wF_D_25 hm1 hk1 d_D_becomeLike_30 ?_
  refine xp_D_endorsed (x := ((up c1 k0 4 (c1 k1 4)) k1 5)) C wF_D_25 hm0 hk0 d_D_becomeLike_33 ?_
  cases hf
  exact x_vret C d_D_becomeLike_36 rfl rfl
set_option maxHeartbeats 4000000 in
set_option maxRecDepth 100000 in
theorem ct_D_isOpen {l : Launch} {D : va_G} {ad : Nat → Nat} {cs : Nat → ClassId} {A : Nat → Prop} (E : Ev ad cs A LX) (F : Nat) (M : Mem) (k0 : Nat) (R : Int32) (hm0 : k0 ∈ LX) (hk0 : kd k0 = 13) (hf : D_isOpen F M k0 = some R) : Met l y_D_isOpen (Cond.code y_D_isOpen b_D_isOpen 1 (some .boolean) :: wl) (rmD 0) (PX D ad cs A LX [.ref (ad k0)] M) (QX D ad cs A LX (some (.int R)) M) 0 0 A := by
  refine x_enter (lv := [(0, .ref (ad k0))]) E mi_D_isOpen.1 (Nat.le_of_ble_eq_true rfl) rfl (fun p e s m args below meth c C => ?_)
  unfold D_isOpen at hf
  refine x_aload_n C d_D_isOpen_0 0 rfl ?_
  refine xg_D_kisses C wF_D_7 hm0 hk0 d_D_isOpen_1 ?_
  refine x_if_le C 11 d_D_isOpen_4 (by decide) (fun g1 => ?_) (fun g1 => ?_)
  · replace hf := it g1 hf
    refine x_iconst (v := 0) C d_D_isOpen_11 rfl ?_
    cases hf
    exact x_zret C d_D_isOpen_12 (Or.inl rfl) rfl rfl
  · replace hf := ie g1 hf
    refine x_iconst (v := 1) C d_D_isOpen_7 rfl ?_
    refine x_goto C 12 d_D_isOpen_8 (by decide) ?_
    cases hf
    exact x_zret C d_D_isOpen_12 (Or.inr rfl) rfl rfl
set_option maxHeartbeats 4000000 in
set_option maxRecDepth 100000 in
theorem ct_D_isOpenOf {l : Launch} {D : va_G} {ad : Nat → Nat} {cs : Nat → ClassId} {A : Nat → Prop} (E : Ev ad cs A LX) (F : Nat) (M : Mem) (k0 : Nat) (x1 : Int32) (R : Int32) (hm0 : k0 ∈ LX) (hk0 : kd k0 = 13) (hf : D_isOpenOf F M k0 x1 = some R) : Met l y_D_isOpenOf (Cond.code y_D_isOpenOf b_D_isOpenOf 2 (some .boolean) :: wl) (rmD 0) (PX D ad cs A LX [.ref (ad k0), .int x1] M) (QX D ad cs A LX (some (.int R)) M) 0 0 A := by
  refine x_enter (lv := [(0, .ref (ad k0)), (1, .int x1)]) E mi_D_isOpenOf.1 (Nat.le_of_ble_eq_true rfl) rfl (fun p e s m args below meth c C => ?_)
  unfold D_isOpenOf at hf
  refine x_aload_n C d_D_isOpenOf_0 0 rfl ?_
  refine xg_D_kisses C wF_D_7 hm0 hk0 d_D_isOpenOf_1 ?_
  refine x_if_le C 19 d_D_isOpenOf_4 (by decide) (fun g1 => ?_) (fun g1 => ?_)
  · replace hf := it g1 hf
    refine x_iconst (v := 0) C d_D_isOpenOf_19 rfl ?_
    cases hf
    exact x_zret C d_D_isOpenOf_20 (Or.inl rfl) rfl rfl
  · replace hf := ie g1 hf
    refine x_aload_n C d_D_isOpenOf_7 0 rfl ?_
    refine xg_D_sort C wF_D_13 hm0 hk0 d_D_isOpenOf_8 ?_
    refine x_iload_n C d_D_isOpenOf_11 1 rfl ?_
    refine x_icmp_ne C 19 d_D_isOpenOf_12 (by decide) (fun g2 => ?_) (fun g2 => ?_)
    · replace hf := ie g2 hf
      refine x_iconst (v := 0) C d_D_isOpenOf_19 rfl ?_
      cases hf
      exact x_zret C d_D_isOpenOf_20 (Or.inl rfl) rfl rfl
    · replace hf := it g2 hf
      refine x_iconst (v := 1) C d_D_isOpenOf_15 rfl ?_
      refine x_goto C 20 d_D_isOpenOf_16 (by decide) ?_
      cases hf
      exact x_zret C d_D_isOpenOf_20 (Or.inr rfl) rfl rfl
set_option maxHeartbeats 4000000 in
set_option maxRecDepth 100000 in
theorem ct_D_packed {l : Launch} {D : va_G} {ad : Nat → Nat} {cs : Nat → ClassId} {A : Nat → Prop} (E : Ev ad cs A LX) (F : Nat) (M : Mem) (k0 : Nat) (R : Int32) (hm0 : k0 ∈ LX) (hk0 : kd k0 = 13) (hf : D_packed F M k0 = some R) : Met l y_D_packed (Cond.code y_D_packed b_D_packed 1 (some .int) :: wl) (rmD 0) (PX D ad cs A LX [.ref (ad k0)] M) (QX D ad cs A LX (some (.int R)) M) 0 0 A := by
  refine x_enter (lv := [(0, .ref (ad k0))]) E mi_D_packed.1 (Nat.le_of_ble_eq_true rfl) rfl (fun p e s m args below meth c C => ?_)
  unfold D_packed at hf
  refine x_aload_n C d_D_packed_0 0 rfl ?_
  refine xg_D_who C wF_D_16 hm0 hk0 d_D_packed_1 ?_
  refine x_aload_n C d_D_packed_4 0 rfl ?_
  refine xg_D_whom C wF_D_19 hm0 hk0 d_D_packed_5 ?_
  refine x_iconst (v := 3) C d_D_packed_8 rfl ?_
  refine x_ishl C d_D_packed_9 ?_
  refine x_ior C d_D_packed_10 ?_
  refine x_aload_n C d_D_packed_11 0 rfl ?_
  refine xg_D_sort C wF_D_13 hm0 hk0 d_D_packed_12 ?_
  refine x_bipush (v := 6) C d_D_packed_15 rfl ?_
  refine x_ishl C d_D_packed_17 ?_
  refine x_ior C d_D_packed_18 ?_
  refine x_aload_n C d_D_packed_19 0 rfl ?_
  refine xg_D_endorsed C wF_D_25 hm0 hk0 d_D_packed_20 ?_
  refine x_bipush (v := 8) C d_D_packed_23 rfl ?_
  refine x_ishl C d_D_packed_25 ?_
  refine x_ior C d_D_packed_26 ?_
  refine x_aload_n C d_D_packed_27 0 rfl ?_
  refine xg_D_weeks C wF_D_22 hm0 hk0 d_D_packed_28 ?_
  refine x_bipush (v := 10) C d_D_packed_31 rfl ?_
  refine x_ishl C d_D_packed_33 ?_
  refine x_ior C d_D_packed_34 ?_
  refine x_aload_n C d_D_packed_35 0 rfl ?_
  refine xg_D_kisses C wF_D_7 hm0 hk0 d_D_packed_36 ?_
  refine x_bipush (v := 16) C d_D_packed_39 rfl ?_
  refine x_ishl C d_D_packed_41 ?_
  refine x_ior C d_D_packed_42 ?_
  cases hf
  exact x_iret C d_D_packed_43 rfl rfl
set_option maxHeartbeats 4000000 in
set_option maxRecDepth 100000 in
theorem ct_D_unpack {l : Launch} {D : va_G} {ad : Nat → Nat} {cs : Nat → ClassId} {A : Nat → Prop} (E : Ev ad cs A LX) (F : Nat) (M : Mem) (k0 : Nat) (x1 : Int32) (R : Mem) (hm0 : k0 ∈ LX) (hk0 : kd k0 = 13) (hf : D_unpack F M k0 x1 = some R) : Met l y_D_unpack (Cond.code y_D_unpack b_D_unpack 2 none :: wl) (rmD 1) (PX D ad cs A LX [.ref (ad k0), .int x1] M) (QX D ad cs A LX (none) R) 0 0 A := by
  refine x_enter (lv := [(0, .ref (ad k0)), (1, .int x1)]) E mi_D_unpack.1 (Nat.le_of_ble_eq_true rfl) rfl (fun p e s m args below meth c C => ?_)
  unfold D_unpack at hf
  refine x_aload_n C d_D_unpack_0 0 rfl ?_
  refine x_iload_n C d_D_unpack_1 1 rfl ?_
  refine x_bipush (v := 7) C d_D_unpack_2 rfl ?_
  refine x_iand C d_D_unpack_4 ?_
  refine x_iload_n C d_D_unpack_5 1 rfl ?_
  refine x_iconst (v := 3) C d_D_unpack_6 rfl ?_
  refine x_ishr C d_D_unpack_7 ?_
  refine x_bipush (v := 7) C d_D_unpack_8 rfl ?_
  refine x_iand C d_D_unpack_10 ?_
  refine x_iload_n C d_D_unpack_11 1 rfl ?_
  refine x_bipush (v := 6) C d_D_unpack_12 rfl ?_
  refine x_ishr C d_D_unpack_14 ?_
  refine x_iconst (v := 3) C d_D_unpack_15 rfl ?_
  refine x_iand C d_D_unpack_16 ?_
  refine x_iload_n C d_D_unpack_17 1 rfl ?_
  refine x_bipush (v := 16) C d_D_unpack_18 rfl ?_
  refine x_ishr C d_D_unpack_20 ?_
  refine x_bipush (v := 127) C d_D_unpack_21 rfl ?_
  refine x_iand C d_D_unpack_23 ?_
  obtain ⟨c1, hc1, hf⟩ := bs hf
  refine x_callV (rest := []) (n := 4) C (ct_D_become E F _ _ _ _ _ _ _ hm0 hk0 hc1) mi_D_become (by decide) hm0 ⟨_, cel_D hk0⟩ rfl rfl wL_D_28 d_D_unpack_24 rfl rfl (Nat.le_of_ble_eq_true rfl) ?_
  show X _ _ _ _ _ _ _ _ _ _ _ _ _ _ _ _ _ _ _ _ _ []
  refine x_aload_n C d_D_unpack_27 0 rfl ?_
  refine x_iload_n C d_D_unpack_28 1 rfl ?_
  refine x_bipush (v := 8) C d_D_unpack_29 rfl ?_
  refine x_ishr C d_D_unpack_31 ?_
  refine x_iconst (v := 3) C d_D_unpack_32 rfl ?_
  refine x_iand C d_D_unpack_33 ?_
  refine xp_D_endorsed (x := ((x1 >>> (8 &&& 31)) &&& 3)) C wF_D_25 hm0 hk0 d_D_unpack_34 ?_
  refine x_aload_n C d_D_unpack_37 0 rfl ?_
  refine x_iload_n C d_D_unpack_38 1 rfl ?_
  refine x_bipush (v := 10) C d_D_unpack_39 rfl ?_
  refine x_ishr C d_D_unpack_41 ?_
  refine x_bipush (v := 63) C d_D_unpack_42 rfl ?_
  refine x_iand C d_D_unpack_44 ?_
  refine xp_D_weeks (x := ((x1 >>> (10 &&& 31)) &&& 63)) C wF_D_22 hm0 hk0 d_D_unpack_45 ?_
  cases hf
  exact x_vret C d_D_unpack_48 rfl rfl
set_option maxHeartbeats 4000000 in
set_option maxRecDepth 100000 in
theorem ct_D_worth {l : Launch} {D : va_G} {ad : Nat → Nat} {cs : Nat → ClassId} {A : Nat → Prop} (E : Ev ad cs A LX) (F : Nat) (M : Mem) (k0 : Nat) (R : Int32) (hm0 : k0 ∈ LX) (hk0 : kd k0 = 13) (hf : D_worth F M k0 = some R) : Met l y_D_worth (Cond.code y_D_worth b_D_worth 1 (some .int) :: wl) (rmD 0) (PX D ad cs A LX [.ref (ad k0)] M) (QX D ad cs A LX (some (.int R)) M) 0 0 A := by
  refine x_enter (lv := [(0, .ref (ad k0))]) E mi_D_worth.1 (Nat.le_of_ble_eq_true rfl) rfl (fun p e s m args below meth c C => ?_)
  unfold D_worth at hf
  refine x_aload_n C d_D_worth_0 0 rfl ?_
  refine xg_D_kisses C wF_D_7 hm0 hk0 d_D_worth_1 ?_
  refine x_aload_n C d_D_worth_4 0 rfl ?_
  refine xg_D_sort C wF_D_13 hm0 hk0 d_D_worth_5 ?_
  refine x_iconst (v := 1) C d_D_worth_8 rfl ?_
  refine x_iadd C d_D_worth_9 ?_
  refine x_imul C d_D_worth_10 ?_
  cases hf
  exact x_iret C d_D_worth_11 rfl rfl
set_option maxHeartbeats 4000000 in
set_option maxRecDepth 100000 in
theorem ct_S_isMissing {l : Launch} {D : va_G} {ad : Nat → Nat} {cs : Nat → ClassId} {A : Nat → Prop} (E : Ev ad cs A LX) (F : Nat) (M : Mem) (k0 : Nat) (R : Int32) (hm0 : k0 ∈ LX) (hk0 : kd k0 = 11) (hf : S_isMissing F M k0 = some R) : Met l y_S_isMissing (Cond.code y_S_isMissing b_S_isMissing 1 (some .boolean) :: wl) (rmD 0) (PX D ad cs A LX [.ref (ad k0)] M) (QX D ad cs A LX (some (.int R)) M) 0 0 A := by
  refine x_enter (lv := [(0, .ref (ad k0))]) E mi_S_isMissing.1 (Nat.le_of_ble_eq_true rfl) rfl (fun p e s m args below meth c C => ?_)
  unfold S_isMissing at hf
  refine x_aload_n C d_S_isMissing_0 0 rfl ?_
  refine xg_S_size C wF_S_9 hm0 hk0 d_S_isMissing_1 ?_
  refine x_iconst (v := (-1)) C d_S_isMissing_4 rfl ?_
  refine x_icmp_ne C 12 d_S_isMissing_5 (by decide) (fun g1 => ?_) (fun g1 => ?_)
  · replace hf := ie g1 hf
    refine x_iconst (v := 0) C d_S_isMissing_12 rfl ?_
    cases hf
    exact x_zret C d_S_isMissing_13 (Or.inl rfl) rfl rfl
  · replace hf := it g1 hf
    refine x_iconst (v := 1) C d_S_isMissing_8 rfl ?_
    refine x_goto C 13 d_S_isMissing_9 (by decide) ?_
    cases hf
    exact x_zret C d_S_isMissing_13 (Or.inr rfl) rfl rfl
set_option maxHeartbeats 4000000 in
set_option maxRecDepth 100000 in
theorem ct_S_hasPlace {l : Launch} {D : va_G} {ad : Nat → Nat} {cs : Nat → ClassId} {A : Nat → Prop} (E : Ev ad cs A LX) (F : Nat) (M : Mem) (k0 : Nat) (x1 : Int32) (R : Int32) (hm0 : k0 ∈ LX) (hk0 : kd k0 = 11) (hf : S_hasPlace F M k0 x1 = some R) : Met l y_S_hasPlace (Cond.code y_S_hasPlace b_S_hasPlace 2 (some .boolean) :: wl) (rmD 0) (PX D ad cs A LX [.ref (ad k0), .int x1] M) (QX D ad cs A LX (some (.int R)) M) 0 0 A := by
  refine x_enter (lv := [(0, .ref (ad k0)), (1, .int x1)]) E mi_S_hasPlace.1 (Nat.le_of_ble_eq_true rfl) rfl (fun p e s m args below meth c C => ?_)
  unfold S_hasPlace at hf
  refine x_iload_n C d_S_hasPlace_0 1 rfl ?_
  refine x_if_lt C 16 d_S_hasPlace_1 (by decide) (fun g1 => ?_) (fun g1 => ?_)
  · replace hf := it g1 hf
    refine x_iconst (v := 0) C d_S_hasPlace_16 rfl ?_
    cases hf
    exact x_zret C d_S_hasPlace_17 (Or.inl rfl) rfl rfl
  · replace hf := ie g1 hf
    refine x_iload_n C d_S_hasPlace_4 1 rfl ?_
    refine x_aload_n C d_S_hasPlace_5 0 rfl ?_
    refine xg_S_size C wF_S_9 hm0 hk0 d_S_hasPlace_6 ?_
    refine x_icmp_ge C 16 d_S_hasPlace_9 (by decide) (fun g2 => ?_) (fun g2 => ?_)
    · replace hf := it g2 hf
      refine x_iconst (v := 0) C d_S_hasPlace_16 rfl ?_
      cases hf
      exact x_zret C d_S_hasPlace_17 (Or.inl rfl) rfl rfl
    · replace hf := ie g2 hf
      refine x_iconst (v := 1) C d_S_hasPlace_12 rfl ?_
      refine x_goto C 17 d_S_hasPlace_13 (by decide) ?_
      cases hf
      exact x_zret C d_S_hasPlace_17 (Or.inr rfl) rfl rfl
set_option maxHeartbeats 4000000 in
set_option maxRecDepth 100000 in
theorem ct_S_findingAt {l : Launch} {D : va_G} {ad : Nat → Nat} {cs : Nat → ClassId} {A : Nat → Prop} (E : Ev ad cs A LX) (F : Nat) (M : Mem) (k0 : Nat) (x1 : Int32) (R : Int32) (hm0 : k0 ∈ LX) (hk0 : kd k0 = 11) (hf : S_findingAt F M k0 x1 = some R) : Met l y_S_findingAt (Cond.code y_S_findingAt b_S_findingAt 2 (some .int) :: wl) (rmD 1) (PX D ad cs A LX [.ref (ad k0), .int x1] M) (QX D ad cs A LX (some (.int R)) M) 0 0 A := by
  refine x_enter (lv := [(0, .ref (ad k0)), (1, .int x1)]) E mi_S_findingAt.1 (Nat.le_of_ble_eq_true rfl) rfl (fun p e s m args below meth c C => ?_)
  unfold S_findingAt at hf
  refine x_aload_n C d_S_findingAt_0 0 rfl ?_
  obtain ⟨c1, hc1, hf⟩ := bs hf
  refine x_callV (rest := []) (n := 0) C (ct_S_isMissing E F _ _ _ hm0 hk0 hc1) mi_S_isMissing (by decide) hm0 ⟨_, cel_S hk0⟩ rfl rfl wL_S_19 d_S_findingAt_1 rfl rfl (Nat.le_of_ble_eq_true rfl) ?_
  show X _ _ _ _ _ _ _ _ _ _ _ _ _ _ _ _ _ _ _ _ _ [.int c1]
  refine x_if_eq C 9 d_S_findingAt_4 (by decide) (fun g2 => ?_) (fun g2 => ?_)
  · replace hf := it g2 hf
    refine x_aload_n C d_S_findingAt_9 0 rfl ?_
    refine x_iload_n C d_S_findingAt_10 1 rfl ?_
    obtain ⟨c3, hc3, hf⟩ := bs hf
    refine x_callV (rest := []) (n := 1) C (ct_S_hasPlace E F _ _ _ _ hm0 hk0 hc3) mi_S_hasPlace (by decide) hm0 ⟨_, cel_S hk0⟩ rfl rfl wL_S_23 d_S_findingAt_11 rfl rfl (Nat.le_of_ble_eq_true rfl) ?_
    show X _ _ _ _ _ _ _ _ _ _ _ _ _ _ _ _ _ _ _ _ _ [.int c3]
    refine x_if_eq C 21 d_S_findingAt_14 (by decide) (fun g4 => ?_) (fun g4 => ?_)
    · replace hf := it g4 hf
      refine x_iconst (v := 2) C d_S_findingAt_21 rfl ?_
      cases hf
      exact x_iret C d_S_findingAt_22 rfl rfl
    · replace hf := ie g4 hf
      refine x_iconst (v := 0) C d_S_findingAt_17 rfl ?_
      refine x_goto C 22 d_S_findingAt_18 (by decide) ?_
      cases hf
      exact x_iret C d_S_findingAt_22 rfl rfl
  · replace hf := ie g2 hf
    refine x_iconst (v := 1) C d_S_findingAt_7 rfl ?_
    cases hf
    exact x_iret C d_S_findingAt_8 rfl rfl
set_option maxHeartbeats 4000000 in
set_option maxRecDepth 100000 in
theorem ct_S_hasStretch {l : Launch} {D : va_G} {ad : Nat → Nat} {cs : Nat → ClassId} {A : Nat → Prop} (E : Ev ad cs A LX) (F : Nat) (M : Mem) (k0 : Nat) (x1 : Int32) (x2 : Int32) (R : Int32) (hm0 : k0 ∈ LX) (hk0 : kd k0 = 11) (hf : S_hasStretch F M k0 x1 x2 = some R) : Met l y_S_hasStretch (Cond.code y_S_hasStretch b_S_hasStretch 3 (some .boolean) :: wl) (rmD 0) (PX D ad cs A LX [.ref (ad k0), .int x1, .int x2] M) (QX D ad cs A LX (some (.int R)) M) 0 0 A := by
  refine x_enter (lv := [(0, .ref (ad k0)), (1, .int x1), (2, .int x2)]) E mi_S_hasStretch.1 (Nat.le_of_ble_eq_true rfl) rfl (fun p e s m args below meth c C => ?_)
  unfold S_hasStretch at hf
  refine x_iload_n C d_S_hasStretch_0 1 rfl ?_
  refine x_if_lt C 26 d_S_hasStretch_1 (by decide) (fun g1 => ?_) (fun g1 => ?_)
  · replace hf := it g1 hf
    refine x_iconst (v := 0) C d_S_hasStretch_26 rfl ?_
    cases hf
    exact x_zret C d_S_hasStretch_27 (Or.inl rfl) rfl rfl
  · replace hf := ie g1 hf
    refine x_iload_n C d_S_hasStretch_4 1 rfl ?_
    refine x_aload_n C d_S_hasStretch_5 0 rfl ?_
    refine xg_S_size C wF_S_9 hm0 hk0 d_S_hasStretch_6 ?_
    refine x_icmp_gt C 26 d_S_hasStretch_9 (by decide) (fun g2 => ?_) (fun g2 => ?_)
    · replace hf := it g2 hf
      refine x_iconst (v := 0) C d_S_hasStretch_26 rfl ?_
      cases hf
      exact x_zret C d_S_hasStretch_27 (Or.inl rfl) rfl rfl
    · replace hf := ie g2 hf
      refine x_iload_n C d_S_hasStretch_12 2 rfl ?_
      refine x_aload_n C d_S_hasStretch_13 0 rfl ?_
      refine xg_S_size C wF_S_9 hm0 hk0 d_S_hasStretch_14 ?_
      refine x_iload_n C d_S_hasStretch_17 1 rfl ?_
      refine x_isub C d_S_hasStretch_18 ?_
      refine x_icmp_gt C 26 d_S_hasStretch_19 (by decide) (fun g3 => ?_) (fun g3 => ?_)
      · replace hf := it g3 hf
        refine x_iconst (v := 0) C d_S_hasStretch_26 rfl ?_
        cases hf
        exact x_zret C d_S_hasStretch_27 (Or.inl rfl) rfl rfl
      · replace hf := ie g3 hf
        refine x_iconst (v := 1) C d_S_hasStretch_22 rfl ?_
        refine x_goto C 27 d_S_hasStretch_23 (by decide) ?_
        cases hf
        exact x_zret C d_S_hasStretch_27 (Or.inr rfl) rfl rfl
set_option maxHeartbeats 4000000 in
set_option maxRecDepth 100000 in
theorem lw_S_mixedInto_15 {p : Program} {l : Launch} {e : Env} {s : State} {m : MethodId} {args : Array Value} {below : List Frame} {meth : Method} {c : Code} {D : va_G} {ad : Nat → Nat} {cs : Nat → ClassId} {A : Nat → Prop} {V : Option Value} {N : Mem} (E : Ev ad cs A LX) (C : Cx p s m args meth c "KissClearing$Strip" b_S_mixedInto 6 (some .long) D ad cs A LX) (F : Nat) (M : Mem) (k0 : Nat) (hm0 : k0 ∈ LX) (hk0 : kd k0 = 11) : ∀ (n : Nat) (x3 : Int64) (x5 : Int32) (u : Int64), L_S_mixedInto_15 F M k0 n x3 x5 = some u → X p l e 0 s m args below meth c 6 D ad cs A LX V N M 45 [(3, .long u)] [] → X p l e 0 s m args below meth c 6 D ad cs A LX V N M 15 [(0, .ref (ad k0)), (3, .long x3), (5, .int x5)] [] := by
  intro n
  induction n with
  | zero => intro x3 x5 u hf; cases hf
  | succ n ih =>
    intro x3 x5 u hf K
    replace hf : B_S_mixedInto_15 F M k0 (L_S_mixedInto_15 F M k0 n) x3 x5 = some u := hf
    unfold B_S_mixedInto_15 at hf
    refine x_iload C d_S_mixedInto_15 2 rfl ?_
    refine x_aload_n C d_S_mixedInto_17 0 rfl ?_
    refine xg_S_size C wF_S_9 hm0 hk0 d_S_mixedInto_18 ?_
    refine x_icmp_ge C 45 d_S_mixedInto_21 (by decide) (fun g1 => ?_) (fun g1 => ?_)
    · replace hf := it g1 hf
      cases hf
      exact x_sub [1] rfl K
    · replace hf := ie g1 hf
      refine x_ldc2 C wJ_S_27 d_S_mixedInto_24 ?_
      refine x_lload_n C d_S_mixedInto_27 1 rfl ?_
      refine x_lmul C d_S_mixedInto_28 ?_
      refine x_aload_n C d_S_mixedInto_29 0 rfl ?_
      refine xg_S_places C wF_S_15 hm0 hk0 d_S_mixedInto_30 ?_
      refine x_iload C d_S_mixedInto_33 2 rfl ?_
      obtain ⟨t2, ht2, hf⟩ := bs hf
      refine x_iald C ht2 (m_S_places hk0) (k_S_places hk0) d_S_mixedInto_35 ?_
      refine x_i2l C d_S_mixedInto_36 ?_
      refine x_ladd C d_S_mixedInto_37 ?_
      refine x_lstore_n (lv' := [(3, .long ((31 * x3) + ((t2).toInt64))), (0, .ref (ad k0)), (5, .int x5)]) C d_S_mixedInto_38 (by decide) rfl ?_
      refine x_iinc (v := (x5 + 1)) (lv' := [(5, .int (x5 + 1)), (3, .long ((31 * x3) + ((t2).toInt64))), (0, .ref (ad k0))]) C d_S_mixedInto_39 2 rfl rfl (by decide) rfl ?_
      refine x_goto C 15 d_S_mixedInto_42 (by decide) ?_
      refine x_sub [2, 1, 0] rfl ?_
      exact ih _ _ _ hf K
set_option maxHeartbeats 4000000 in
set_option maxRecDepth 100000 in
theorem ct_S_mixedInto {l : Launch} {D : va_G} {ad : Nat → Nat} {cs : Nat → ClassId} {A : Nat → Prop} (E : Ev ad cs A LX) (F : Nat) (M : Mem) (k0 : Nat) (x1 : Int64) (R : Int64) (hm0 : k0 ∈ LX) (hk0 : kd k0 = 11) (hf : S_mixedInto F M k0 x1 = some R) : Met l y_S_mixedInto (Cond.code y_S_mixedInto b_S_mixedInto 6 (some .long) :: wl) (rmD 0) (PX D ad cs A LX [.ref (ad k0), .long x1] M) (QX D ad cs A LX (some (.long R)) M) 0 0 A := by
  refine x_enter (lv := [(0, .ref (ad k0)), (1, .long x1)]) E mi_S_mixedInto.1 (Nat.le_of_ble_eq_true rfl) rfl (fun p e s m args below meth c C => ?_)
  unfold S_mixedInto at hf
  refine x_ldc2 C wJ_S_27 d_S_mixedInto_0 ?_
  refine x_lload_n C d_S_mixedInto_3 1 rfl ?_
  refine x_lmul C d_S_mixedInto_4 ?_
  refine x_aload_n C d_S_mixedInto_5 0 rfl ?_
  refine xg_S_size C wF_S_9 hm0 hk0 d_S_mixedInto_6 ?_
  refine x_i2l C d_S_mixedInto_9 ?_
  refine x_ladd C d_S_mixedInto_10 ?_
  refine x_lstore_n (lv' := [(3, .long ((31 * x1) + (((M k0 1)).toInt64))), (0, .ref (ad k0)), (1, .long x1)]) C d_S_mixedInto_11 (by decide) rfl ?_
  refine x_iconst (v := 0) C d_S_mixedInto_12 rfl ?_
  refine x_istore (lv' := [(5, .int 0), (3, .long ((31 * x1) + (((M k0 1)).toInt64))), (0, .ref (ad k0)), (1, .long x1)]) C d_S_mixedInto_13 (by decide) rfl ?_
  obtain ⟨u3, hu3, hf⟩ := bs hf
  refine x_sub [2, 1, 0] rfl ?_
  refine lw_S_mixedInto_15 E C F _ _ hm0 hk0 _ _ _ _ hu3 ?_
  refine x_lload_n C d_S_mixedInto_45 0 rfl ?_
  cases hf
  exact x_lret C d_S_mixedInto_46 rfl rfl
set_option maxHeartbeats 4000000 in
set_option maxRecDepth 100000 in
theorem lw_S_renew_7 {p : Program} {l : Launch} {e : Env} {s : State} {m : MethodId} {args : Array Value} {below : List Frame} {meth : Method} {c : Code} {D : va_G} {ad : Nat → Nat} {cs : Nat → ClassId} {A : Nat → Prop} {V : Option Value} {N : Mem} (E : Ev ad cs A LX) (C : Cx p s m args meth c "KissClearing$Strip" b_S_renew 4 none D ad cs A LX) (F : Nat) (k0 : Nat) (x1 : Int32) (x2 : Int32) (hm0 : k0 ∈ LX) (hk0 : kd k0 = 11) : ∀ (n : Nat) (M : Mem) (x3 : Int32) (u : Mem), L_S_renew_7 F k0 x1 x2 n M x3 = some u → X p l e 0 s m args below meth c 4 D ad cs A LX V N u 34 [] [] → X p l e 0 s m args below meth c 4 D ad cs A LX V N M 7 [(0, .ref (ad k0)), (1, .int x1), (2, .int x2), (3, .int x3)] [] := by
  intro n
  induction n with
  | zero => intro M x3 u hf; cases hf
  | succ n ih =>
    intro M x3 u hf K
    replace hf : B_S_renew_7 F k0 x1 x2 (L_S_renew_7 F k0 x1 x2 n) M x3 = some u := hf
    unfold B_S_renew_7 at hf
    refine x_iload_n C d_S_renew_7 3 rfl ?_
    refine x_iload_n C d_S_renew_8 1 rfl ?_
    refine x_icmp_ge C 34 d_S_renew_9 (by decide) (fun g1 => ?_) (fun g1 => ?_)
    · replace hf := it g1 hf
      cases hf
      exact x_sub [] rfl K
    · replace hf := ie g1 hf
      refine x_iload_n C d_S_renew_12 3 rfl ?_
      refine x_aload_n C d_S_renew_13 0 rfl ?_
      refine xg_S_places C wF_S_15 hm0 hk0 d_S_renew_14 ?_
      refine x_alen (v := (Int32.ofNat (ln (k0 + 1)))) C (m_S_places hk0) (k_S_places hk0) rfl d_S_renew_17 ?_
      refine x_icmp_ge C 34 d_S_renew_18 (by decide) (fun g2 => ?_) (fun g2 => ?_)
      · replace hf := it g2 hf
        cases hf
        exact x_sub [] rfl K
      · replace hf := ie g2 hf
        refine x_aload_n C d_S_renew_21 0 rfl ?_
        refine xg_S_places C wF_S_15 hm0 hk0 d_S_renew_22 ?_
        refine x_iload_n C d_S_renew_25 3 rfl ?_
        refine x_iload_n C d_S_renew_26 2 rfl ?_
        obtain ⟨M3, hM3, hf⟩ := bs hf
        refine x_iast C hM3 (m_S_places hk0) (k_S_places hk0) d_S_renew_27 ?_
        refine x_iinc (v := (x3 + 1)) (lv' := [(3, .int (x3 + 1)), (0, .ref (ad k0)), (1, .int x1), (2, .int x2)]) C d_S_renew_28 3 rfl rfl (by decide) rfl ?_
        refine x_goto C 7 d_S_renew_31 (by decide) ?_
        refine x_sub [1, 2, 3, 0] rfl ?_
        exact ih _ _ _ hf K
set_option maxHeartbeats 4000000 in
set_option maxRecDepth 100000 in
theorem ct_S_renew {l : Launch} {D : va_G} {ad : Nat → Nat} {cs : Nat → ClassId} {A : Nat → Prop} (E : Ev ad cs A LX) (F : Nat) (M : Mem) (k0 : Nat) (x1 : Int32) (x2 : Int32) (R : Mem) (hm0 : k0 ∈ LX) (hk0 : kd k0 = 11) (hf : S_renew F M k0 x1 x2 = some R) : Met l y_S_renew (Cond.code y_S_renew b_S_renew 4 none :: wl) (rmD 0) (PX D ad cs A LX [.ref (ad k0), .int x1, .int x2] M) (QX D ad cs A LX (none) R) 0 0 A := by
  refine x_enter (lv := [(0, .ref (ad k0)), (1, .int x1), (2, .int x2)]) E mi_S_renew.1 (Nat.le_of_ble_eq_true rfl) rfl (fun p e s m args below meth c C => ?_)
  unfold S_renew at hf
  refine x_aload_n C d_S_renew_0 0 rfl ?_
  refine x_iload_n C d_S_renew_1 1 rfl ?_
  refine xp_S_size (x := x1) C wF_S_9 hm0 hk0 d_S_renew_2 ?_
  refine x_iconst (v := 0) C d_S_renew_5 rfl ?_
  refine x_istore_n (lv' := [(3, .int 0), (0, .ref (ad k0)), (1, .int x1), (2, .int x2)]) C d_S_renew_6 (by decide) rfl ?_
  obtain ⟨u4, hu4, hf⟩ := bs hf
  refine x_sub [1, 2, 3, 0] rfl ?_
  refine lw_S_renew_7 E C F _ _ _ hm0 hk0 _ _ _ _ hu4 ?_
  cases hf
  exact x_vret C d_S_renew_34 rfl rfl
set_option maxHeartbeats 4000000 in
set_option maxRecDepth 100000 in
theorem ct_J_bitCount {l : Launch} {D : va_G} {ad : Nat → Nat} {cs : Nat → ClassId} {A : Nat → Prop} (E : Ev ad cs A LX) (F : Nat) (M : Mem) (x0 : Int32) (R : Int32)  (hf : J_bitCount F M x0 = some R) : Met l y_J_bitCount (Cond.code y_J_bitCount b_J_bitCount 1 (some .int) :: wl) (rmD 0) (PX D ad cs A LX [.int x0] M) (QX D ad cs A LX (some (.int R)) M) 0 0 A := by
  refine x_enter (lv := [(0, .int x0)]) E mi_J_bitCount.1 (Nat.le_of_ble_eq_true rfl) rfl (fun p e s m args below meth c C => ?_)
  unfold J_bitCount at hf
  refine x_iload_n C d_J_bitCount_0 0 rfl ?_
  refine x_iload_n C d_J_bitCount_1 0 rfl ?_
  refine x_iconst (v := 1) C d_J_bitCount_2 rfl ?_
  refine x_iushr C d_J_bitCount_3 ?_
  refine x_ldcw C wc_J_265 d_J_bitCount_4 ?_
  refine x_iand C d_J_bitCount_7 ?_
  refine x_isub C d_J_bitCount_8 ?_
  refine x_istore_n (lv' := [(0, .int (x0 - ((((x0).toUInt32 >>> ((1 : Int32).toUInt32 &&& Int32.toUInt32 31)).toInt32) &&& 1431655765)))]) C d_J_bitCount_9 (by decide) rfl ?_
  refine x_iload_n C d_J_bitCount_10 0 rfl ?_
  refine x_ldcw C wc_J_266 d_J_bitCount_11 ?_
  refine x_iand C d_J_bitCount_14 ?_
  refine x_iload_n C d_J_bitCount_15 0 rfl ?_
  refine x_iconst (v := 2) C d_J_bitCount_16 rfl ?_
  refine x_iushr C d_J_bitCount_17 ?_
  refine x_ldcw C wc_J_266 d_J_bitCount_18 ?_
  refine x_iand C d_J_bitCount_21 ?_
  refine x_iadd C d_J_bitCount_22 ?_
  refine x_istore_n (lv' := [(0, .int (((x0 - ((((x0).toUInt32 >>> ((1 : Int32).toUInt32 &&& Int32.toUInt32 31)).toInt32) &&& 1431655765)) &&& 858993459) + (((((x0 - ((((x0).toUInt32 >>> ((1 : Int32).toUInt32 &&& Int32.toUInt32 31)).toInt32) &&& 1431655765))).toUInt32 >>> ((2 : Int32).toUInt32 &&& Int32.toUInt32 31)).toInt32) &&& 858993459)))]) C d_J_bitCount_23 (by decide) rfl ?_
  refine x_iload_n C d_J_bitCount_24 0 rfl ?_
  refine x_iload_n C d_J_bitCount_25 0 rfl ?_
  refine x_iconst (v := 4) C d_J_bitCount_26 rfl ?_
  refine x_iushr C d_J_bitCount_27 ?_
  refine x_iadd C d_J_bitCount_28 ?_
  refine x_ldcw C wc_J_267 d_J_bitCount_29 ?_
  refine x_iand C d_J_bitCount_32 ?_
  refine x_istore_n (lv' := [(0, .int (((((x0 - ((((x0).toUInt32 >>> ((1 : Int32).toUInt32 &&& Int32.toUInt32 31)).toInt32) &&& 1431655765)) &&& 858993459) + (((((x0 - ((((x0).toUInt32 >>> ((1 : Int32).toUInt32 &&& Int32.toUInt32 31)).toInt32) &&& 1431655765))).toUInt32 >>> ((2 : Int32).toUInt32 &&& Int32.toUInt32 31)).toInt32) &&& 858993459)) + ((((((x0 - ((((x0).toUInt32 >>> ((1 : Int32).toUInt32 &&& Int32.toUInt32 31)).toInt32) &&& 1431655765)) &&& 858993459) + (((((x0 - ((((x0).toUInt32 >>> ((1 : Int32).toUInt32 &&& Int32.toUInt32 31)).toInt32) &&& 1431655765))).toUInt32 >>> ((2 : Int32).toUInt32 &&& Int32.toUInt32 31)).toInt32) &&& 858993459))).toUInt32 >>> ((4 : Int32).toUInt32 &&& Int32.toUInt32 31)).toInt32)) &&& 252645135))]) C d_J_bitCount_33 (by decide) rfl ?_
  refine x_iload_n C d_J_bitCount_34 0 rfl ?_
  refine x_iload_n C d_J_bitCount_35 0 rfl ?_
  refine x_bipush (v := 8) C d_J_bitCount_36 rfl ?_
  refine x_iushr C d_J_bitCount_38 ?_
  refine x_iadd C d_J_bitCount_39 ?_
  refine x_istore_n (lv' := [(0, .int ((((((x0 - ((((x0).toUInt32 >>> ((1 : Int32).toUInt32 &&& Int32.toUInt32 31)).toInt32) &&& 1431655765)) &&& 858993459) + (((((x0 - ((((x0).toUInt32 >>> ((1 : Int32).toUInt32 &&& Int32.toUInt32 31)).toInt32) &&& 1431655765))).toUInt32 >>> ((2 : Int32).toUInt32 &&& Int32.toUInt32 31)).toInt32) &&& 858993459)) + ((((((x0 - ((((x0).toUInt32 >>> ((1 : Int32).toUInt32 &&& Int32.toUInt32 31)).toInt32) &&& 1431655765)) &&& 858993459) + (((((x0 - ((((x0).toUInt32 >>> ((1 : Int32).toUInt32 &&& Int32.toUInt32 31)).toInt32) &&& 1431655765))).toUInt32 >>> ((2 : Int32).toUInt32 &&& Int32.toUInt32 31)).toInt32) &&& 858993459))).toUInt32 >>> ((4 : Int32).toUInt32 &&& Int32.toUInt32 31)).toInt32)) &&& 252645135) + ((((((((x0 - ((((x0).toUInt32 >>> ((1 : Int32).toUInt32 &&& Int32.toUInt32 31)).toInt32) &&& 1431655765)) &&& 858993459) + (((((x0 - ((((x0).toUInt32 >>> ((1 : Int32).toUInt32 &&& Int32.toUInt32 31)).toInt32) &&& 1431655765))).toUInt32 >>> ((2 : Int32).toUInt32 &&& Int32.toUInt32 31)).toInt32) &&& 858993459)) + ((((((x0 - ((((x0).toUInt32 >>> ((1 : Int32).toUInt32 &&& Int32.toUInt32 31)).toInt32) &&& 1431655765)) &&& 858993459) + (((((x0 - ((((x0).toUInt32 >>> ((1 : Int32).toUInt32 &&& Int32.toUInt32 31)).toInt32) &&& 1431655765))).toUInt32 >>> ((2 : Int32).toUInt32 &&& Int32.toUInt32 31)).toInt32) &&& 858993459))).toUInt32 >>> ((4 : Int32).toUInt32 &&& Int32.toUInt32 31)).toInt32)) &&& 252645135)).toUInt32 >>> ((8 : Int32).toUInt32 &&& Int32.toUInt32 31)).toInt32)))]) C d_J_bitCount_40 (by decide) rfl ?_
  refine x_iload_n C d_J_bitCount_41 0 rfl ?_
  refine x_iload_n C d_J_bitCount_42 0 rfl ?_
  refine x_bipush (v := 16) C d_J_bitCount_43 rfl ?_
  refine x_iushr C d_J_bitCount_45 ?_
  refine x_iadd C d_J_bitCount_46 ?_
  refine x_istore_n (lv' := [(0, .int (((((((x0 - ((((x0).toUInt32 >>> ((1 : Int32).toUInt32 &&& Int32.toUInt32 31)).toInt32) &&& 1431655765)) &&& 858993459) + (((((x0 - ((((x0).toUInt32 >>> ((1 : Int32).toUInt32 &&& Int32.toUInt32 31)).toInt32) &&& 1431655765))).toUInt32 >>> ((2 : Int32).toUInt32 &&& Int32.toUInt32 31)).toInt32) &&& 858993459)) + ((((((x0 - ((((x0).toUInt32 >>> ((1 : Int32).toUInt32 &&& Int32.toUInt32 31)).toInt32) &&& 1431655765)) &&& 858993459) + (((((x0 - ((((x0).toUInt32 >>> ((1 : Int32).toUInt32 &&& Int32.toUInt32 31)).toInt32) &&& 1431655765))).toUInt32 >>> ((2 : Int32).toUInt32 &&& Int32.toUInt32 31)).toInt32) &&& 858993459))).toUInt32 >>> ((4 : Int32).toUInt32 &&& Int32.toUInt32 31)).toInt32)) &&& 252645135) + ((((((((x0 - ((((x0).toUInt32 >>> ((1 : Int32).toUInt32 &&& Int32.toUInt32 31)).toInt32) &&& 1431655765)) &&& 858993459) + (((((x0 - ((((x0).toUInt32 >>> ((1 : Int32).toUInt32 &&& Int32.toUInt32 31)).toInt32) &&& 1431655765))).toUInt32 >>> ((2 : Int32).toUInt32 &&& Int32.toUInt32 31)).toInt32) &&& 858993459)) + ((((((x0 - ((((x0).toUInt32 >>> ((1 : Int32).toUInt32 &&& Int32.toUInt32 31)).toInt32) &&& 1431655765)) &&& 858993459) + (((((x0 - ((((x0).toUInt32 >>> ((1 : Int32).toUInt32 &&& Int32.toUInt32 31)).toInt32) &&& 1431655765))).toUInt32 >>> ((2 : Int32).toUInt32 &&& Int32.toUInt32 31)).toInt32) &&& 858993459))).toUInt32 >>> ((4 : Int32).toUInt32 &&& Int32.toUInt32 31)).toInt32)) &&& 252645135)).toUInt32 >>> ((8 : Int32).toUInt32 &&& Int32.toUInt32 31)).toInt32)) + (((((((((x0 - ((((x0).toUInt32 >>> ((1 : Int32).toUInt32 &&& Int32.toUInt32 31)).toInt32) &&& 1431655765)) &&& 858993459) + (((((x0 - ((((x0).toUInt32 >>> ((1 : Int32).toUInt32 &&& Int32.toUInt32 31)).toInt32) &&& 1431655765))).toUInt32 >>> ((2 : Int32).toUInt32 &&& Int32.toUInt32 31)).toInt32) &&& 858993459)) + ((((((x0 - ((((x0).toUInt32 >>> ((1 : Int32).toUInt32 &&& Int32.toUInt32 31)).toInt32) &&& 1431655765)) &&& 858993459) + (((((x0 - ((((x0).toUInt32 >>> ((1 : Int32).toUInt32 &&& Int32.toUInt32 31)).toInt32) &&& 1431655765))).toUInt32 >>> ((2 : Int32).toUInt32 &&& Int32.toUInt32 31)).toInt32) &&& 858993459))).toUInt32 >>> ((4 : Int32).toUInt32 &&& Int32.toUInt32 31)).toInt32)) &&& 252645135) + ((((((((x0 - ((((x0).toUInt32 >>> ((1 : Int32).toUInt32 &&& Int32.toUInt32 31)).toInt32) &&& 1431655765)) &&& 858993459) + (((((x0 - ((((x0).toUInt32 >>> ((1 : Int32).toUInt32 &&& Int32.toUInt32 31)).toInt32) &&& 1431655765))).toUInt32 >>> ((2 : Int32).toUInt32 &&& Int32.toUInt32 31)).toInt32) &&& 858993459)) + ((((((x0 - ((((x0).toUInt32 >>> ((1 : Int32).toUInt32 &&& Int32.toUInt32 31)).toInt32) &&& 1431655765)) &&& 858993459) + (((((x0 - ((((x0).toUInt32 >>> ((1 : Int32).toUInt32 &&& Int32.toUInt32 31)).toInt32) &&& 1431655765))).toUInt32 >>> ((2 : Int32).toUInt32 &&& Int32.toUInt32 31)).toInt32) &&& 858993459))).toUInt32 >>> ((4 : Int32).toUInt32 &&& Int32.toUInt32 31)).toInt32)) &&& 252645135)).toUInt32 >>> ((8 : Int32).toUInt32 &&& Int32.toUInt32 31)).toInt32))).toUInt32 >>> ((16 : Int32).toUInt32 &&& Int32.toUInt32 31)).toInt32)))]) C d_J_bitCount_47 (by decide) rfl ?_
  refine x_iload_n C d_J_bitCount_48 0 rfl ?_
  refine x_bipush (v := 63) C d_J_bitCount_49 rfl ?_
  refine x_iand C d_J_bitCount_51 ?_
  cases hf
  exact x_iret C d_J_bitCount_52 rfl rfl
set_option maxHeartbeats 4000000 in
set_option maxRecDepth 100000 in
theorem ct_H_becomeLike {l : Launch} {D : va_G} {ad : Nat → Nat} {cs : Nat → ClassId} {A : Nat → Prop} (E : Ev ad cs A LX) (F : Nat) (M : Mem) (k0 : Nat) (k1 : Nat) (R : Mem) (hm0 : k0 ∈ LX) (hk0 : kd k0 = 14) (hm1 : k1 ∈ LX) (hk1 : kd k1 = 14) (hf : H_becomeLike F M k0 k1 = some R) : Met l y_H_becomeLike (Cond.code y_H_becomeLike b_H_becomeLike 2 none :: wl) (rmD 1) (PX D ad cs A LX [.ref (ad k0), .ref (ad k1)] M) (QX D ad cs A LX (none) R) 0 0 A := by
  refine x_enter (lv := [(0, .ref (ad k0)), (1, .ref (ad k1))]) E mi_H_becomeLike.1 (Nat.le_of_ble_eq_true rfl) rfl (fun p e s m args below meth c C => ?_)
  unfold H_becomeLike at hf
  refine x_aload_n C d_H_becomeLike_0 0 rfl ?_
  refine x_aload_n C d_H_becomeLike_1 1 rfl ?_
  refine xg_H_deeds C wF_H_9 hm1 hk1 d_H_becomeLike_2 ?_
  refine xp_H_deeds (x := (M k1 0)) C wF_H_9 hm0 hk0 d_H_becomeLike_5 ?_
  refine x_aload_n C d_H_becomeLike_8 1 rfl ?_
  refine xg_H_counts C wF_H_15 hm1 hk1 d_H_becomeLike_9 ?_
  refine x_iconst (v := 0) C d_H_becomeLike_12 rfl ?_
  refine x_aload_n C d_H_becomeLike_13 0 rfl ?_
  refine xg_H_counts C wF_H_15 hm0 hk0 d_H_becomeLike_14 ?_
  refine x_iconst (v := 0) C d_H_becomeLike_17 rfl ?_
  refine x_aload_n C d_H_becomeLike_18 0 rfl ?_
  refine xg_H_deeds C wF_H_9 hm0 hk0 d_H_becomeLike_19 ?_
  refine x_iconst (v := 1) C d_H_becomeLike_22 rfl ?_
  refine x_iadd C d_H_becomeLike_23 ?_
  obtain ⟨M1, hM1, hf⟩ := bs hf
  refine x_acp C hM1 wL_H_49 (by decide) (Nat.le_of_ble_eq_true rfl) (m_H_counts hk1) (k_H_counts hk1) (m_H_counts hk0) (k_H_counts hk0) d_H_becomeLike_24 ?_
  refine x_aload_n C d_H_becomeLike_27 1 rfl ?_
  refine xg_H_pages C wF_H_19 hm1 hk1 d_H_becomeLike_28 ?_
  refine x_iconst (v := 0) C d_H_becomeLike_31 rfl ?_
  refine x_aload_n C d_H_becomeLike_32 0 rfl ?_
  refine xg_H_pages C wF_H_19 hm0 hk0 d_H_becomeLike_33 ?_
  refine x_iconst (v := 0) C d_H_becomeLike_36 rfl ?_
  refine x_aload_n C d_H_becomeLike_37 0 rfl ?_
  refine xg_H_deeds C wF_H_9 hm0 hk0 d_H_becomeLike_38 ?_
  refine x_iconst (v := 1) C d_H_becomeLike_41 rfl ?_
  refine x_iadd C d_H_becomeLike_42 ?_
  refine x_bipush (v := 12) C d_H_becomeLike_43 rfl ?_
  refine x_imul C d_H_becomeLike_45 ?_
  obtain ⟨M2, hM2, hf⟩ := bs hf
  refine x_acp C hM2 wL_H_49 (by decide) (Nat.le_of_ble_eq_true rfl) (m_H_pages hk1) (k_H_pages hk1) (m_H_pages hk0) (k_H_pages hk0) d_H_becomeLike_46 ?_
  cases hf
  exact x_vret C d_H_becomeLike_49 rfl rfl
set_option maxHeartbeats 4000000 in
set_option maxRecDepth 100000 in
theorem ct_H_isFullFor {l : Launch} {D : va_G} {ad : Nat → Nat} {cs : Nat → ClassId} {A : Nat → Prop} (E : Ev ad cs A LX) (F : Nat) (M : Mem) (k0 : Nat) (x1 : Int32) (R : Int32) (hm0 : k0 ∈ LX) (hk0 : kd k0 = 14) (hf : H_isFullFor F M k0 x1 = some R) : Met l y_H_isFullFor (Cond.code y_H_isFullFor b_H_isFullFor 2 (some .boolean) :: wl) (rmD 0) (PX D ad cs A LX [.ref (ad k0), .int x1] M) (QX D ad cs A LX (some (.int R)) M) 0 0 A := by
  refine x_enter (lv := [(0, .ref (ad k0)), (1, .int x1)]) E mi_H_isFullFor.1 (Nat.le_of_ble_eq_true rfl) rfl (fun p e s m args below meth c C => ?_)
  unfold H_isFullFor at hf
  refine x_aload_n C d_H_isFullFor_0 0 rfl ?_
  refine xg_H_deeds C wF_H_9 hm0 hk0 d_H_isFullFor_1 ?_
  refine x_iload_n C d_H_isFullFor_4 1 rfl ?_
  refine x_iadd C d_H_isFullFor_5 ?_
  refine x_bipush (v := 40) C d_H_isFullFor_6 rfl ?_
  refine x_icmp_le C 15 d_H_isFullFor_8 (by decide) (fun g1 => ?_) (fun g1 => ?_)
  · replace hf := it g1 hf
    refine x_iconst (v := 0) C d_H_isFullFor_15 rfl ?_
    cases hf
    exact x_zret C d_H_isFullFor_16 (Or.inl rfl) rfl rfl
  · replace hf := ie g1 hf
    refine x_iconst (v := 1) C d_H_isFullFor_11 rfl ?_
    refine x_goto C 16 d_H_isFullFor_12 (by decide) ?_
    cases hf
    exact x_zret C d_H_isFullFor_16 (Or.inr rfl) rfl rfl
set_option maxHeartbeats 4000000 in
set_option maxRecDepth 100000 in
theorem lw_H_save_32 {p : Program} {l : Launch} {e : Env} {s : State} {m : MethodId} {args : Array Value} {below : List Frame} {meth : Method} {c : Code} {D : va_G} {ad : Nat → Nat} {cs : Nat → ClassId} {A : Nat → Prop} {V : Option Value} {N : Mem} (E : Ev ad cs A LX) (C : Cx p s m args meth c "KissClearing$History" b_H_save 3 none D ad cs A LX) (F : Nat) (k0 : Nat) (k1 : Nat) (hm0 : k0 ∈ LX) (hk0 : kd k0 = 14) (hm1 : k1 ∈ LX) (hk1 : kd k1 = 12) : ∀ (n : Nat) (M : Mem) (x2 : Int32) (u : Mem), L_H_save_32 F k0 k1 n M x2 = some u → X p l e 1 s m args below meth c 3 D ad cs A LX V N u 69 [] [] → X p l e 1 s m args below meth c 3 D ad cs A LX V N M 32 [(0, .ref (ad k0)), (1, .ref (ad k1)), (2, .int x2)] [] := by
  intro n
  induction n with
  | zero => intro M x2 u hf; cases hf
  | succ n ih =>
    intro M x2 u hf K
    replace hf : B_H_save_32 F k0 k1 (L_H_save_32 F k0 k1 n) M x2 = some u := hf
    unfold B_H_save_32 at hf
    refine x_iload_n C d_H_save_32 2 rfl ?_
    refine x_aload_n C d_H_save_33 1 rfl ?_
    refine xg_V_draftCount C wF_H_30 hm1 hk1 d_H_save_34 ?_
    refine x_icmp_ge C 69 d_H_save_37 (by decide) (fun g4 => ?_) (fun g4 => ?_)
    · replace hf := it g4 hf
      cases hf
      exact x_sub [] rfl K
    · replace hf := ie g4 hf
      refine x_aload_n C d_H_save_40 0 rfl ?_
      refine xg_H_pages C wF_H_19 hm0 hk0 d_H_save_41 ?_
      refine x_aload_n C d_H_save_44 0 rfl ?_
      refine xg_H_deeds C wF_H_9 hm0 hk0 d_H_save_45 ?_
      refine x_bipush (v := 12) C d_H_save_48 rfl ?_
      refine x_imul C d_H_save_50 ?_
      refine x_iload_n C d_H_save_51 2 rfl ?_
      refine x_iadd C d_H_save_52 ?_
      refine x_aload_n C d_H_save_53 1 rfl ?_
      refine xg_V_drafts C wF_H_35 hm1 hk1 d_H_save_54 ?_
      refine x_iload_n C d_H_save_57 2 rfl ?_
      obtain ⟨z5, hz5, hf⟩ := bs hf
      refine x_aald2 C hz5 (m_V_drafts hk1) (k_V_drafts hk1) d_H_save_58 ?_
      obtain ⟨c6, hc6, hf⟩ := bs hf
      refine x_callV (rest := [.int (((M k0 0) * 12) + x2), .ref (ad (k0 + 2))]) (n := 0) C (ct_D_packed E F _ _ _ (ma_D (k_V_drafts hk1) hz5) (ka_D (k_V_drafts hk1) hz5) hc6) mi_D_packed (by decide) (ma_D (k_V_drafts hk1) hz5) ⟨_, cel_D (ka_D (k_V_drafts hk1) hz5)⟩ rfl rfl wL_H_39 d_H_save_59 rfl rfl (Nat.le_of_ble_eq_true rfl) ?_
      show X _ _ _ _ _ _ _ _ _ _ _ _ _ _ _ _ _ _ _ _ _ [.int c6, .int (((M k0 0) * 12) + x2), .ref (ad (k0 + 2))]
      obtain ⟨M7, hM7, hf⟩ := bs hf
      refine x_iast C hM7 (m_H_pages hk0) (k_H_pages hk0) d_H_save_62 ?_
      refine x_iinc (v := (x2 + 1)) (lv' := [(2, .int (x2 + 1)), (0, .ref (ad k0)), (1, .ref (ad k1))]) C d_H_save_63 2 rfl rfl (by decide) rfl ?_
      refine x_goto C 32 d_H_save_66 (by decide) ?_
      refine x_sub [1, 2, 0] rfl ?_
      exact ih _ _ _ hf K
set_option maxHeartbeats 4000000 in
set_option maxRecDepth 100000 in
theorem ct_H_save {l : Launch} {D : va_G} {ad : Nat → Nat} {cs : Nat → ClassId} {A : Nat → Prop} (E : Ev ad cs A LX) (F : Nat) (M : Mem) (k0 : Nat) (k1 : Nat) (R : Mem) (hm0 : k0 ∈ LX) (hk0 : kd k0 = 14) (hm1 : k1 ∈ LX) (hk1 : kd k1 = 12) (hf : H_save F M k0 k1 = some R) : Met l y_H_save (Cond.code y_H_save b_H_save 3 none :: wl) (rmD 1) (PX D ad cs A LX [.ref (ad k0), .ref (ad k1)] M) (QX D ad cs A LX (none) R) 0 0 A := by
  refine x_enter (lv := [(0, .ref (ad k0)), (1, .ref (ad k1))]) E mi_H_save.1 (Nat.le_of_ble_eq_true rfl) rfl (fun p e s m args below meth c C => ?_)
  unfold H_save at hf
  refine x_aload_n C d_H_save_0 0 rfl ?_
  refine xg_H_deeds C wF_H_9 hm0 hk0 d_H_save_1 ?_
  refine x_if_lt C 16 d_H_save_4 (by decide) (fun g1 => ?_) (fun g1 => ?_)
  · replace hf := it g1 hf
    cases hf
    exact x_vret C d_H_save_16 rfl rfl
  · replace hf := ie g1 hf
    refine x_aload_n C d_H_save_7 0 rfl ?_
    refine xg_H_deeds C wF_H_9 hm0 hk0 d_H_save_8 ?_
    refine x_bipush (v := 40) C d_H_save_11 rfl ?_
    refine x_icmp_le C 17 d_H_save_13 (by decide) (fun g2 => ?_) (fun g2 => ?_)
    · replace hf := it g2 hf
      refine x_aload_n C d_H_save_17 0 rfl ?_
      refine xg_H_counts C wF_H_15 hm0 hk0 d_H_save_18 ?_
      refine x_aload_n C d_H_save_21 0 rfl ?_
      refine xg_H_deeds C wF_H_9 hm0 hk0 d_H_save_22 ?_
      refine x_aload_n C d_H_save_25 1 rfl ?_
      refine xg_V_draftCount C wF_H_30 hm1 hk1 d_H_save_26 ?_
      obtain ⟨M3, hM3, hf⟩ := bs hf
      refine x_iast C hM3 (m_H_counts hk0) (k_H_counts hk0) d_H_save_29 ?_
      refine x_iconst (v := 0) C d_H_save_30 rfl ?_
      refine x_istore_n (lv' := [(2, .int 0), (0, .ref (ad k0)), (1, .ref (ad k1))]) C d_H_save_31 (by decide) rfl ?_
      obtain ⟨u8, hu8, hf⟩ := bs hf
      refine x_sub [1, 2, 0] rfl ?_
      refine lw_H_save_32 E C F _ _ hm0 hk0 hm1 hk1 _ _ _ _ hu8 ?_
      cases hf
      exact x_vret C d_H_save_69 rfl rfl
    · replace hf := ie g2 hf
      cases hf
      exact x_vret C d_H_save_16 rfl rfl
set_option maxHeartbeats 4000000 in
set_option maxRecDepth 100000 in
theorem ct_H_begin {l : Launch} {D : va_G} {ad : Nat → Nat} {cs : Nat → ClassId} {A : Nat → Prop} (E : Ev ad cs A LX) (F : Nat) (M : Mem) (k0 : Nat) (k1 : Nat) (R : Mem) (hm0 : k0 ∈ LX) (hk0 : kd k0 = 14) (hm1 : k1 ∈ LX) (hk1 : kd k1 = 12) (hf : H_begin F M k0 k1 = some R) : Met l y_H_begin (Cond.code y_H_begin b_H_begin 2 none :: wl) (rmD 2) (PX D ad cs A LX [.ref (ad k0), .ref (ad k1)] M) (QX D ad cs A LX (none) R) 0 0 A := by
  refine x_enter (lv := [(0, .ref (ad k0)), (1, .ref (ad k1))]) E mi_H_begin.1 (Nat.le_of_ble_eq_true rfl) rfl (fun p e s m args below meth c C => ?_)
  unfold H_begin at hf
  refine x_aload_n C d_H_begin_0 0 rfl ?_
  refine x_iconst (v := 1) C d_H_begin_1 rfl ?_
  obtain ⟨c1, hc1, hf⟩ := bs hf
  refine x_callV (rest := []) (n := 1) C (ct_H_isFullFor E F _ _ _ _ hm0 hk0 hc1) mi_H_isFullFor (by decide) hm0 ⟨_, cel_H hk0⟩ rfl rfl wL_H_22 d_H_begin_2 rfl rfl (Nat.le_of_ble_eq_true rfl) ?_
  show X _ _ _ _ _ _ _ _ _ _ _ _ _ _ _ _ _ _ _ _ _ [.int c1]
  refine x_if_ne C 23 d_H_begin_5 (by decide) (fun g2 => ?_) (fun g2 => ?_)
  · replace hf := ie g2 hf
    cases hf
    exact x_vret C d_H_begin_23 rfl rfl
  · replace hf := it g2 hf
    refine x_aload_n C d_H_begin_8 0 rfl ?_
    refine x_aload_n C d_H_begin_9 1 rfl ?_
    obtain ⟨c3, hc3, hf⟩ := bs hf
    refine x_callV (rest := []) (n := 1) C (ct_H_save E F _ _ _ _ hm0 hk0 hm1 hk1 hc3) mi_H_save (by decide) hm0 ⟨_, cel_H hk0⟩ rfl rfl wL_H_26 d_H_begin_10 rfl rfl (Nat.le_of_ble_eq_true rfl) ?_
    show X _ _ _ _ _ _ _ _ _ _ _ _ _ _ _ _ _ _ _ _ _ []
    refine x_aload_n C d_H_begin_13 0 rfl ?_
    refine x_dup C d_H_begin_14 rfl ?_
    refine xg_H_deeds C wF_H_9 hm0 hk0 d_H_begin_15 ?_
    refine x_iconst (v := 1) C d_H_begin_18 rfl ?_
    refine x_iadd C d_H_begin_19 ?_
    refine xp_H_deeds (x := ((c3 k0 0) + 1)) C wF_H_9 hm0 hk0 d_H_begin_20 ?_
    cases hf
    exact x_vret C d_H_begin_23 rfl rfl
set_option maxHeartbeats 4000000 in
set_option maxRecDepth 100000 in
theorem lw_H_goBack_30 {p : Program} {l : Launch} {e : Env} {s : State} {m : MethodId} {args : Array Value} {below : List Frame} {meth : Method} {c : Code} {D : va_G} {ad : Nat → Nat} {cs : Nat → ClassId} {A : Nat → Prop} {V : Option Value} {N : Mem} (E : Ev ad cs A LX) (C : Cx p s m args meth c "KissClearing$History" b_H_goBack 4 none D ad cs A LX) (F : Nat) (k0 : Nat) (x1 : Int32) (k2 : Nat) (hm0 : k0 ∈ LX) (hk0 : kd k0 = 14) (hm2 : k2 ∈ LX) (hk2 : kd k2 = 12) : ∀ (n : Nat) (M : Mem) (x3 : Int32) (u : Mem), L_H_goBack_30 F k0 x1 k2 n M x3 = some u → X p l e 2 s m args below meth c 4 D ad cs A LX V N u 64 [] [] → X p l e 2 s m args below meth c 4 D ad cs A LX V N M 30 [(0, .ref (ad k0)), (1, .int x1), (2, .ref (ad k2)), (3, .int x3)] [] := by
  intro n
  induction n with
  | zero => intro M x3 u hf; cases hf
  | succ n ih =>
    intro M x3 u hf K
    replace hf : B_H_goBack_30 F k0 x1 k2 (L_H_goBack_30 F k0 x1 k2 n) M x3 = some u := hf
    unfold B_H_goBack_30 at hf
    refine x_iload_n C d_H_goBack_30 3 rfl ?_
    refine x_aload_n C d_H_goBack_31 2 rfl ?_
    refine xg_V_draftCount C wF_H_30 hm2 hk2 d_H_goBack_32 ?_
    refine x_icmp_ge C 64 d_H_goBack_35 (by decide) (fun g4 => ?_) (fun g4 => ?_)
    · replace hf := it g4 hf
      cases hf
      exact x_sub [] rfl K
    · replace hf := ie g4 hf
      refine x_aload_n C d_H_goBack_38 2 rfl ?_
      refine xg_V_drafts C wF_H_35 hm2 hk2 d_H_goBack_39 ?_
      refine x_iload_n C d_H_goBack_42 3 rfl ?_
      obtain ⟨z5, hz5, hf⟩ := bs hf
      refine x_aald2 C hz5 (m_V_drafts hk2) (k_V_drafts hk2) d_H_goBack_43 ?_
      refine x_aload_n C d_H_goBack_44 0 rfl ?_
      refine xg_H_pages C wF_H_19 hm0 hk0 d_H_goBack_45 ?_
      refine x_iload_n C d_H_goBack_48 1 rfl ?_
      refine x_bipush (v := 12) C d_H_goBack_49 rfl ?_
      refine x_imul C d_H_goBack_51 ?_
      refine x_iload_n C d_H_goBack_52 3 rfl ?_
      refine x_iadd C d_H_goBack_53 ?_
      obtain ⟨t6, ht6, hf⟩ := bs hf
      refine x_iald C ht6 (m_H_pages hk0) (k_H_pages hk0) d_H_goBack_54 ?_
      obtain ⟨c7, hc7, hf⟩ := bs hf
      refine x_callV (rest := []) (n := 1) C (ct_D_unpack E F _ _ _ _ (ma_D (k_V_drafts hk2) hz5) (ka_D (k_V_drafts hk2) hz5) hc7) mi_D_unpack (by decide) (ma_D (k_V_drafts hk2) hz5) ⟨_, cel_D (ka_D (k_V_drafts hk2) hz5)⟩ rfl rfl wL_H_45 d_H_goBack_55 rfl rfl (Nat.le_of_ble_eq_true rfl) ?_
      show X _ _ _ _ _ _ _ _ _ _ _ _ _ _ _ _ _ _ _ _ _ []
      refine x_iinc (v := (x3 + 1)) (lv' := [(3, .int (x3 + 1)), (0, .ref (ad k0)), (1, .int x1), (2, .ref (ad k2))]) C d_H_goBack_58 3 rfl rfl (by decide) rfl ?_
      refine x_goto C 30 d_H_goBack_61 (by decide) ?_
      refine x_sub [1, 2, 3, 0] rfl ?_
      exact ih _ _ _ hf K
set_option maxHeartbeats 4000000 in
set_option maxRecDepth 100000 in
theorem ct_H_goBack {l : Launch} {D : va_G} {ad : Nat → Nat} {cs : Nat → ClassId} {A : Nat → Prop} (E : Ev ad cs A LX) (F : Nat) (M : Mem) (k0 : Nat) (x1 : Int32) (k2 : Nat) (R : Mem) (hm0 : k0 ∈ LX) (hk0 : kd k0 = 14) (hm2 : k2 ∈ LX) (hk2 : kd k2 = 12) (hf : H_goBack F M k0 x1 k2 = some R) : Met l y_H_goBack (Cond.code y_H_goBack b_H_goBack 4 none :: wl) (rmD 2) (PX D ad cs A LX [.ref (ad k0), .int x1, .ref (ad k2)] M) (QX D ad cs A LX (none) R) 0 0 A := by
  refine x_enter (lv := [(0, .ref (ad k0)), (1, .int x1), (2, .ref (ad k2))]) E mi_H_goBack.1 (Nat.le_of_ble_eq_true rfl) rfl (fun p e s m args below meth c C => ?_)
  unfold H_goBack at hf
  refine x_iload_n C d_H_goBack_0 1 rfl ?_
  refine x_if_lt C 12 d_H_goBack_1 (by decide) (fun g1 => ?_) (fun g1 => ?_)
  · replace hf := it g1 hf
    cases hf
    exact x_vret C d_H_goBack_12 rfl rfl
  · replace hf := ie g1 hf
    refine x_iload_n C d_H_goBack_4 1 rfl ?_
    refine x_aload_n C d_H_goBack_5 0 rfl ?_
    refine xg_H_deeds C wF_H_9 hm0 hk0 d_H_goBack_6 ?_
    refine x_icmp_le C 13 d_H_goBack_9 (by decide) (fun g2 => ?_) (fun g2 => ?_)
    · replace hf := it g2 hf
      refine x_aload_n C d_H_goBack_13 0 rfl ?_
      refine x_iload_n C d_H_goBack_14 1 rfl ?_
      refine xp_H_deeds (x := x1) C wF_H_9 hm0 hk0 d_H_goBack_15 ?_
      refine x_aload_n C d_H_goBack_18 2 rfl ?_
      refine x_aload_n C d_H_goBack_19 0 rfl ?_
      refine xg_H_counts C wF_H_15 hm0 hk0 d_H_goBack_20 ?_
      refine x_iload_n C d_H_goBack_23 1 rfl ?_
      obtain ⟨t3, ht3, hf⟩ := bs hf
      refine x_iald C ht3 (m_H_counts hk0) (k_H_counts hk0) d_H_goBack_24 ?_
      refine xp_V_draftCount (x := t3) C wF_H_30 hm2 hk2 d_H_goBack_25 ?_
      refine x_iconst (v := 0) C d_H_goBack_28 rfl ?_
      refine x_istore_n (lv' := [(3, .int 0), (0, .ref (ad k0)), (1, .int x1), (2, .ref (ad k2))]) C d_H_goBack_29 (by decide) rfl ?_
      obtain ⟨u8, hu8, hf⟩ := bs hf
      refine x_sub [1, 2, 3, 0] rfl ?_
      refine lw_H_goBack_30 E C F _ _ _ hm0 hk0 hm2 hk2 _ _ _ _ hu8 ?_
      cases hf
      exact x_vret C d_H_goBack_64 rfl rfl
    · replace hf := ie g2 hf
      cases hf
      exact x_vret C d_H_goBack_12 rfl rfl
set_option maxHeartbeats 4000000 in
set_option maxRecDepth 100000 in
theorem ct_V_addDraft {l : Launch} {D : va_G} {ad : Nat → Nat} {cs : Nat → ClassId} {A : Nat → Prop} (E : Ev ad cs A LX) (F : Nat) (M : Mem) (k0 : Nat) (x1 : Int32) (x2 : Int32) (x3 : Int32) (x4 : Int32) (R : Mem) (hm0 : k0 ∈ LX) (hk0 : kd k0 = 12) (hf : V_addDraft F M k0 x1 x2 x3 x4 = some R) : Met l y_V_addDraft (Cond.code y_V_addDraft b_V_addDraft 5 none :: wl) (rmD 1) (PX D ad cs A LX [.ref (ad k0), .int x1, .int x2, .int x3, .int x4] M) (QX D ad cs A LX (none) R) 0 0 A := by
  refine x_enter (lv := [(0, .ref (ad k0)), (1, .int x1), (2, .int x2), (3, .int x3), (4, .int x4)]) E mi_V_addDraft.1 (Nat.le_of_ble_eq_true rfl) rfl (fun p e s m args below meth c C => ?_)
  unfold V_addDraft at hf
  refine x_aload_n C d_V_addDraft_0 0 rfl ?_
  refine xg_V_draftCount C wF_V_15 hm0 hk0 d_V_addDraft_1 ?_
  refine x_bipush (v := 12) C d_V_addDraft_4 rfl ?_
  refine x_icmp_ge C 36 d_V_addDraft_6 (by decide) (fun g1 => ?_) (fun g1 => ?_)
  · replace hf := it g1 hf
    cases hf
    exact x_vret C d_V_addDraft_36 rfl rfl
  · replace hf := ie g1 hf
    refine x_aload_n C d_V_addDraft_9 0 rfl ?_
    refine xg_V_drafts C wF_V_24 hm0 hk0 d_V_addDraft_10 ?_
    refine x_aload_n C d_V_addDraft_13 0 rfl ?_
    refine xg_V_draftCount C wF_V_15 hm0 hk0 d_V_addDraft_14 ?_
    obtain ⟨z2, hz2, hf⟩ := bs hf
    refine x_aald2 C hz2 (m_V_drafts hk0) (k_V_drafts hk0) d_V_addDraft_17 ?_
    refine x_iload_n C d_V_addDraft_18 1 rfl ?_
    refine x_iload_n C d_V_addDraft_19 2 rfl ?_
    refine x_iload_n C d_V_addDraft_20 3 rfl ?_
    refine x_iload C d_V_addDraft_21 4 rfl ?_
    obtain ⟨c3, hc3, hf⟩ := bs hf
    refine x_callV (rest := []) (n := 4) C (ct_D_become E F _ _ _ _ _ _ _ (ma_D (k_V_drafts hk0) hz2) (ka_D (k_V_drafts hk0) hz2) hc3) mi_D_become (by decide) (ma_D (k_V_drafts hk0) hz2) ⟨_, cel_D (ka_D (k_V_drafts hk0) hz2)⟩ rfl rfl wL_V_37 d_V_addDraft_23 rfl rfl (Nat.le_of_ble_eq_true rfl) ?_
    show X _ _ _ _ _ _ _ _ _ _ _ _ _ _ _ _ _ _ _ _ _ []
    refine x_aload_n C d_V_addDraft_26 0 rfl ?_
    refine x_dup C d_V_addDraft_27 rfl ?_
    refine xg_V_draftCount C wF_V_15 hm0 hk0 d_V_addDraft_28 ?_
    refine x_iconst (v := 1) C d_V_addDraft_31 rfl ?_
    refine x_iadd C d_V_addDraft_32 ?_
    refine xp_V_draftCount (x := ((c3 k0 1) + 1)) C wF_V_15 hm0 hk0 d_V_addDraft_33 ?_
    cases hf
    exact x_vret C d_V_addDraft_36 rfl rfl
set_option maxHeartbeats 4000000 in
set_option maxRecDepth 100000 in
theorem ct_V_addPerson {l : Launch} {D : va_G} {ad : Nat → Nat} {cs : Nat → ClassId} {A : Nat → Prop} (E : Ev ad cs A LX) (F : Nat) (M : Mem) (k0 : Nat) (x1 : Int32) (R : Mem) (hm0 : k0 ∈ LX) (hk0 : kd k0 = 12) (hf : V_addPerson F M k0 x1 = some R) : Met l y_V_addPerson (Cond.code y_V_addPerson b_V_addPerson 2 none :: wl) (rmD 0) (PX D ad cs A LX [.ref (ad k0), .int x1] M) (QX D ad cs A LX (none) R) 0 0 A := by
  refine x_enter (lv := [(0, .ref (ad k0)), (1, .int x1)]) E mi_V_addPerson.1 (Nat.le_of_ble_eq_true rfl) rfl (fun p e s m args below meth c C => ?_)
  unfold V_addPerson at hf
  refine x_aload_n C d_V_addPerson_0 0 rfl ?_
  refine xg_V_personCount C wF_V_9 hm0 hk0 d_V_addPerson_1 ?_
  refine x_bipush (v := 6) C d_V_addPerson_4 rfl ?_
  refine x_icmp_ge C 29 d_V_addPerson_6 (by decide) (fun g1 => ?_) (fun g1 => ?_)
  · replace hf := it g1 hf
    cases hf
    exact x_vret C d_V_addPerson_29 rfl rfl
  · replace hf := ie g1 hf
    refine x_aload_n C d_V_addPerson_9 0 rfl ?_
    refine xg_V_kinds C wF_V_18 hm0 hk0 d_V_addPerson_10 ?_
    refine x_aload_n C d_V_addPerson_13 0 rfl ?_
    refine xg_V_personCount C wF_V_9 hm0 hk0 d_V_addPerson_14 ?_
    refine x_iload_n C d_V_addPerson_17 1 rfl ?_
    obtain ⟨M2, hM2, hf⟩ := bs hf
    refine x_iast C hM2 (m_V_kinds hk0) (k_V_kinds hk0) d_V_addPerson_18 ?_
    refine x_aload_n C d_V_addPerson_19 0 rfl ?_
    refine x_dup C d_V_addPerson_20 rfl ?_
    refine xg_V_personCount C wF_V_9 hm0 hk0 d_V_addPerson_21 ?_
    refine x_iconst (v := 1) C d_V_addPerson_24 rfl ?_
    refine x_iadd C d_V_addPerson_25 ?_
    refine xp_V_personCount (x := ((M2 k0 0) + 1)) C wF_V_9 hm0 hk0 d_V_addPerson_26 ?_
    cases hf
    exact x_vret C d_V_addPerson_29 rfl rfl
set_option maxHeartbeats 4000000 in
set_option maxRecDepth 100000 in
theorem ct_V_becomeEmpty {l : Launch} {D : va_G} {ad : Nat → Nat} {cs : Nat → ClassId} {A : Nat → Prop} (E : Ev ad cs A LX) (F : Nat) (M : Mem) (k0 : Nat) (R : Mem) (hm0 : k0 ∈ LX) (hk0 : kd k0 = 12) (hf : V_becomeEmpty F M k0 = some R) : Met l y_V_becomeEmpty (Cond.code y_V_becomeEmpty b_V_becomeEmpty 1 none :: wl) (rmD 0) (PX D ad cs A LX [.ref (ad k0)] M) (QX D ad cs A LX (none) R) 0 0 A := by
  refine x_enter (lv := [(0, .ref (ad k0))]) E mi_V_becomeEmpty.1 (Nat.le_of_ble_eq_true rfl) rfl (fun p e s m args below meth c C => ?_)
  unfold V_becomeEmpty at hf
  refine x_aload_n C d_V_becomeEmpty_0 0 rfl ?_
  refine x_iconst (v := 0) C d_V_becomeEmpty_1 rfl ?_
  refine xp_V_personCount (x := 0) C wF_V_9 hm0 hk0 d_V_becomeEmpty_2 ?_
  refine x_aload_n C d_V_becomeEmpty_5 0 rfl ?_
  refine x_iconst (v := 0) C d_V_becomeEmpty_6 rfl ?_
  refine xp_V_draftCount (x := 0) C wF_V_15 hm0 hk0 d_V_becomeEmpty_7 ?_
  cases hf
  exact x_vret C d_V_becomeEmpty_10 rfl rfl
set_option maxHeartbeats 4000000 in
set_option maxRecDepth 100000 in
theorem lw_V_becomeLike_18 {p : Program} {l : Launch} {e : Env} {s : State} {m : MethodId} {args : Array Value} {below : List Frame} {meth : Method} {c : Code} {D : va_G} {ad : Nat → Nat} {cs : Nat → ClassId} {A : Nat → Prop} {V : Option Value} {N : Mem} (E : Ev ad cs A LX) (C : Cx p s m args meth c "KissClearing$Village" b_V_becomeLike 3 none D ad cs A LX) (F : Nat) (k0 : Nat) (k1 : Nat) (hm0 : k0 ∈ LX) (hk0 : kd k0 = 12) (hm1 : k1 ∈ LX) (hk1 : kd k1 = 12) : ∀ (n : Nat) (M : Mem) (x2 : Int32) (u : Mem), L_V_becomeLike_18 F k0 k1 n M x2 = some u → X p l e 2 s m args below meth c 3 D ad cs A LX V N u 44 [(0, .ref (ad k0)), (1, .ref (ad k1))] [] → X p l e 2 s m args below meth c 3 D ad cs A LX V N M 18 [(0, .ref (ad k0)), (1, .ref (ad k1)), (2, .int x2)] [] := by
  intro n
  induction n with
  | zero => intro M x2 u hf; cases hf
  | succ n ih =>
    intro M x2 u hf K
    replace hf : B_V_becomeLike_18 F k0 k1 (L_V_becomeLike_18 F k0 k1 n) M x2 = some u := hf
    unfold B_V_becomeLike_18 at hf
    refine x_iload_n C d_V_becomeLike_18 2 rfl ?_
    refine x_aload_n C d_V_becomeLike_19 0 rfl ?_
    refine xg_V_personCount C wF_V_9 hm0 hk0 d_V_becomeLike_20 ?_
    refine x_icmp_ge C 44 d_V_becomeLike_23 (by decide) (fun g1 => ?_) (fun g1 => ?_)
    · replace hf := it g1 hf
      cases hf
      exact x_sub [0, 1] rfl K
    · replace hf := ie g1 hf
      refine x_aload_n C d_V_becomeLike_26 0 rfl ?_
      refine xg_V_kinds C wF_V_18 hm0 hk0 d_V_becomeLike_27 ?_
      refine x_iload_n C d_V_becomeLike_30 2 rfl ?_
      refine x_aload_n C d_V_becomeLike_31 1 rfl ?_
      refine xg_V_kinds C wF_V_18 hm1 hk1 d_V_becomeLike_32 ?_
      refine x_iload_n C d_V_becomeLike_35 2 rfl ?_
      obtain ⟨t2, ht2, hf⟩ := bs hf
      refine x_iald C ht2 (m_V_kinds hk1) (k_V_kinds hk1) d_V_becomeLike_36 ?_
      obtain ⟨M3, hM3, hf⟩ := bs hf
      refine x_iast C hM3 (m_V_kinds hk0) (k_V_kinds hk0) d_V_becomeLike_37 ?_
      refine x_iinc (v := (x2 + 1)) (lv' := [(2, .int (x2 + 1)), (0, .ref (ad k0)), (1, .ref (ad k1))]) C d_V_becomeLike_38 2 rfl rfl (by decide) rfl ?_
      refine x_goto C 18 d_V_becomeLike_41 (by decide) ?_
      refine x_sub [1, 2, 0] rfl ?_
      exact ih _ _ _ hf K
set_option maxHeartbeats 4000000 in
set_option maxRecDepth 100000 in
theorem lw_V_becomeLike_46 {p : Program} {l : Launch} {e : Env} {s : State} {m : MethodId} {args : Array Value} {below : List Frame} {meth : Method} {c : Code} {D : va_G} {ad : Nat → Nat} {cs : Nat → ClassId} {A : Nat → Prop} {V : Option Value} {N : Mem} (E : Ev ad cs A LX) (C : Cx p s m args meth c "KissClearing$Village" b_V_becomeLike 3 none D ad cs A LX) (F : Nat) (k0 : Nat) (k1 : Nat) (hm0 : k0 ∈ LX) (hk0 : kd k0 = 12) (hm1 : k1 ∈ LX) (hk1 : kd k1 = 12) : ∀ (n : Nat) (M : Mem) (x2 : Int32) (u : Mem), L_V_becomeLike_46 F k0 k1 n M x2 = some u → X p l e 2 s m args below meth c 3 D ad cs A LX V N u 75 [] [] → X p l e 2 s m args below meth c 3 D ad cs A LX V N M 46 [(0, .ref (ad k0)), (1, .ref (ad k1)), (2, .int x2)] [] := by
  intro n
  induction n with
  | zero => intro M x2 u hf; cases hf
  | succ n ih =>
    intro M x2 u hf K
    replace hf : B_V_becomeLike_46 F k0 k1 (L_V_becomeLike_46 F k0 k1 n) M x2 = some u := hf
    unfold B_V_becomeLike_46 at hf
    refine x_iload_n C d_V_becomeLike_46 2 rfl ?_
    refine x_aload_n C d_V_becomeLike_47 0 rfl ?_
    refine xg_V_draftCount C wF_V_15 hm0 hk0 d_V_becomeLike_48 ?_
    refine x_icmp_ge C 75 d_V_becomeLike_51 (by decide) (fun g5 => ?_) (fun g5 => ?_)
    · replace hf := it g5 hf
      cases hf
      exact x_sub [] rfl K
    · replace hf := ie g5 hf
      refine x_aload_n C d_V_becomeLike_54 0 rfl ?_
      refine xg_V_drafts C wF_V_24 hm0 hk0 d_V_becomeLike_55 ?_
      refine x_iload_n C d_V_becomeLike_58 2 rfl ?_
      obtain ⟨z6, hz6, hf⟩ := bs hf
      refine x_aald2 C hz6 (m_V_drafts hk0) (k_V_drafts hk0) d_V_becomeLike_59 ?_
      refine x_aload_n C d_V_becomeLike_60 1 rfl ?_
      refine xg_V_drafts C wF_V_24 hm1 hk1 d_V_becomeLike_61 ?_
      refine x_iload_n C d_V_becomeLike_64 2 rfl ?_
      obtain ⟨z7, hz7, hf⟩ := bs hf
      refine x_aald2 C hz7 (m_V_drafts hk1) (k_V_drafts hk1) d_V_becomeLike_65 ?_
      obtain ⟨c8, hc8, hf⟩ := bs hf
      refine x_callV (rest := []) (n := 1) C (ct_D_becomeLike E F _ _ _ _ (ma_D (k_V_drafts hk0) hz6) (ka_D (k_V_drafts hk0) hz6) (ma_D (k_V_drafts hk1) hz7) (ka_D (k_V_drafts hk1) hz7) hc8) mi_D_becomeLike (by decide) (ma_D (k_V_drafts hk0) hz6) ⟨_, cel_D (ka_D (k_V_drafts hk0) hz6)⟩ rfl rfl wL_V_33 d_V_becomeLike_66 rfl rfl (Nat.le_of_ble_eq_true rfl) ?_
      show X _ _ _ _ _ _ _ _ _ _ _ _ _ _ _ _ _ _ _ _ _ []
      refine x_iinc (v := (x2 + 1)) (lv' := [(2, .int (x2 + 1)), (0, .ref (ad k0)), (1, .ref (ad k1))]) C d_V_becomeLike_69 2 rfl rfl (by decide) rfl ?_
      refine x_goto C 46 d_V_becomeLike_72 (by decide) ?_
      refine x_sub [1, 2, 0] rfl ?_
      exact ih _ _ _ hf K
set_option maxHeartbeats 4000000 in
set_option maxRecDepth 100000 in
theorem ct_V_becomeLike {l : Launch} {D : va_G} {ad : Nat → Nat} {cs : Nat → ClassId} {A : Nat → Prop} (E : Ev ad cs A LX) (F : Nat) (M : Mem) (k0 : Nat) (k1 : Nat) (R : Mem) (hm0 : k0 ∈ LX) (hk0 : kd k0 = 12) (hm1 : k1 ∈ LX) (hk1 : kd k1 = 12) (hf : V_becomeLike F M k0 k1 = some R) : Met l y_V_becomeLike (Cond.code y_V_becomeLike b_V_becomeLike 3 none :: wl) (rmD 2) (PX D ad cs A LX [.ref (ad k0), .ref (ad k1)] M) (QX D ad cs A LX (none) R) 0 0 A := by
  refine x_enter (lv := [(0, .ref (ad k0)), (1, .ref (ad k1))]) E mi_V_becomeLike.1 (Nat.le_of_ble_eq_true rfl) rfl (fun p e s m args below meth c C => ?_)
  unfold V_becomeLike at hf
  refine x_aload_n C d_V_becomeLike_0 0 rfl ?_
  refine x_aload_n C d_V_becomeLike_1 1 rfl ?_
  refine xg_V_personCount C wF_V_9 hm1 hk1 d_V_becomeLike_2 ?_
  refine xp_V_personCount (x := (M k1 0)) C wF_V_9 hm0 hk0 d_V_becomeLike_5 ?_
  refine x_aload_n C d_V_becomeLike_8 0 rfl ?_
  refine x_aload_n C d_V_becomeLike_9 1 rfl ?_
  refine xg_V_draftCount C wF_V_15 hm1 hk1 d_V_becomeLike_10 ?_
  refine xp_V_draftCount (x := ((up M k0 0 (M k1 0)) k1 1)) C wF_V_15 hm0 hk0 d_V_becomeLike_13 ?_
  refine x_iconst (v := 0) C d_V_becomeLike_16 rfl ?_
  refine x_istore_n (lv' := [(2, .int 0), (0, .ref (ad k0)), (1, .ref (ad k1))]) C d_V_becomeLike_17 (by decide) rfl ?_
  obtain ⟨u4, hu4, hf⟩ := bs hf
  refine x_sub [1, 2, 0] rfl ?_
  refine lw_V_becomeLike_18 E C F _ _ hm0 hk0 hm1 hk1 _ _ _ _ hu4 ?_
  refine x_iconst (v := 0) C d_V_becomeLike_44 rfl ?_
  refine x_istore_n (lv' := [(2, .int 0), (0, .ref (ad k0)), (1, .ref (ad k1))]) C d_V_becomeLike_45 (by decide) rfl ?_
  obtain ⟨u9, hu9, hf⟩ := bs hf
  refine x_sub [1, 2, 0] rfl ?_
  refine lw_V_becomeLike_46 E C F _ _ hm0 hk0 hm1 hk1 _ _ _ _ hu9 ?_
  cases hf
  exact x_vret C d_V_becomeLike_75 rfl rfl
set_option maxHeartbeats 4000000 in
set_option maxRecDepth 100000 in
theorem ct_V_hasDraft {l : Launch} {D : va_G} {ad : Nat → Nat} {cs : Nat → ClassId} {A : Nat → Prop} (E : Ev ad cs A LX) (F : Nat) (M : Mem) (k0 : Nat) (x1 : Int32) (R : Int32) (hm0 : k0 ∈ LX) (hk0 : kd k0 = 12) (hf : V_hasDraft F M k0 x1 = some R) : Met l y_V_hasDraft (Cond.code y_V_hasDraft b_V_hasDraft 2 (some .boolean) :: wl) (rmD 0) (PX D ad cs A LX [.ref (ad k0), .int x1] M) (QX D ad cs A LX (some (.int R)) M) 0 0 A := by
  refine x_enter (lv := [(0, .ref (ad k0)), (1, .int x1)]) E mi_V_hasDraft.1 (Nat.le_of_ble_eq_true rfl) rfl (fun p e s m args below meth c C => ?_)
  unfold V_hasDraft at hf
  refine x_iload_n C d_V_hasDraft_0 1 rfl ?_
  refine x_if_lt C 16 d_V_hasDraft_1 (by decide) (fun g1 => ?_) (fun g1 => ?_)
  · replace hf := it g1 hf
    refine x_iconst (v := 0) C d_V_hasDraft_16 rfl ?_
    cases hf
    exact x_zret C d_V_hasDraft_17 (Or.inl rfl) rfl rfl
  · replace hf := ie g1 hf
    refine x_iload_n C d_V_hasDraft_4 1 rfl ?_
    refine x_aload_n C d_V_hasDraft_5 0 rfl ?_
    refine xg_V_draftCount C wF_V_15 hm0 hk0 d_V_hasDraft_6 ?_
    refine x_icmp_ge C 16 d_V_hasDraft_9 (by decide) (fun g2 => ?_) (fun g2 => ?_)
    · replace hf := it g2 hf
      refine x_iconst (v := 0) C d_V_hasDraft_16 rfl ?_
      cases hf
      exact x_zret C d_V_hasDraft_17 (Or.inl rfl) rfl rfl
    · replace hf := ie g2 hf
      refine x_iconst (v := 1) C d_V_hasDraft_12 rfl ?_
      refine x_goto C 17 d_V_hasDraft_13 (by decide) ?_
      cases hf
      exact x_zret C d_V_hasDraft_17 (Or.inr rfl) rfl rfl
set_option maxHeartbeats 4000000 in
set_option maxRecDepth 100000 in
theorem lw_V_isRing_47 {p : Program} {l : Launch} {e : Env} {s : State} {m : MethodId} {args : Array Value} {below : List Frame} {meth : Method} {c : Code} {D : va_G} {ad : Nat → Nat} {cs : Nat → ClassId} {A : Nat → Prop} {V : Option Value} {N : Mem} (E : Ev ad cs A LX) (C : Cx p s m args meth c "KissClearing$Village" b_V_isRing 8 (some .boolean) D ad cs A LX) (F : Nat) (M : Mem) (k0 : Nat) (k1 : Nat) (x2 : Int32) (x3 : Int32) (hm0 : k0 ∈ LX) (hk0 : kd k0 = 12) (hm1 : k1 ∈ LX) (hk1 : kd k1 = 0) : ∀ (n : Nat) (x4 : Int32) (x5 : Int32) (u0 : (Sum Int32 Unit)), L_V_isRing_47 F M k0 k1 x2 x3 n x4 x5 = some u0 → (∀ r, u0 = .inl r → V = some (.int r) ∧ N = M) →  (∀ u, u0 = .inr u → X p l e 1 s m args below meth c 8 D ad cs A LX V N M 166 [(3, .int x3)] []) → X p l e 1 s m args below meth c 8 D ad cs A LX V N M 47 [(0, .ref (ad k0)), (1, .ref (ad k1)), (2, .int x2), (3, .int x3), (4, .int x4), (5, .int x5)] [] := by
  intro n
  induction n with
  | zero => intro x4 x5 u0 hf; cases hf
  | succ n ih =>
    intro x4 x5 u0 hf Kr Kx
    replace hf : B_V_isRing_47 F M k0 k1 x2 x3 (L_V_isRing_47 F M k0 k1 x2 x3 n) x4 x5 = some u0 := hf
    unfold B_V_isRing_47 at hf
    refine x_iload C d_V_isRing_47 5 rfl ?_
    refine x_iload_n C d_V_isRing_49 2 rfl ?_
    refine x_icmp_ge C 166 d_V_isRing_50 (by decide) (fun g9 => ?_) (fun g9 => ?_)
    · replace hf := it g9 hf
      cases hf
      exact x_sub [3] rfl (Kx _ rfl)
    · replace hf := ie g9 hf
      refine x_aload_n C d_V_isRing_53 1 rfl ?_
      refine x_iload C d_V_isRing_54 5 rfl ?_
      refine x_iconst (v := 1) C d_V_isRing_56 rfl ?_
      refine x_iadd C d_V_isRing_57 ?_
      refine x_iload_n C d_V_isRing_58 2 rfl ?_
      obtain ⟨j10, hj10, hf⟩ := bs hf
      have Jj10 : X p l e 1 s m args below meth c 8 D ad cs A LX V N M 70 [(0, .ref (ad k0)), (1, .ref (ad k1)), (2, .int x2), (3, .int x3), (4, .int x4), (5, .int x5)] [.int j10, .ref (ad k1)] := by
        obtain ⟨t11, ht11, hf⟩ := bs hf
        refine x_iald C ht11 hm1 hk1 d_V_isRing_70 ?_
        refine x_istore (lv' := [(6, .int t11), (0, .ref (ad k0)), (1, .ref (ad k1)), (2, .int x2), (3, .int x3), (4, .int x4), (5, .int x5)]) C d_V_isRing_71 (by decide) rfl ?_
        refine x_aload_n C d_V_isRing_73 1 rfl ?_
        refine x_aload_n C d_V_isRing_74 2 rfl ?_
        refine x_iload C d_V_isRing_75 6 rfl ?_
        obtain ⟨t12, ht12, hf⟩ := bs hf
        refine x_iald C ht12 hm1 hk1 d_V_isRing_77 ?_
        obtain ⟨c13, hc13, hf⟩ := bs hf
        refine x_callV (rest := []) (n := 1) C (ct_V_hasDraft E F _ _ _ _ hm0 hk0 hc13) mi_V_hasDraft (by decide) hm0 ⟨_, cel_V hk0⟩ rfl rfl wL_V_94 d_V_isRing_78 rfl rfl (Nat.le_of_ble_eq_true rfl) ?_
        show X _ _ _ _ _ _ _ _ _ _ _ _ _ _ _ _ _ _ _ _ _ [.int c13]
        refine x_if_eq C 93 d_V_isRing_81 (by decide) (fun g14 => ?_) (fun g14 => ?_)
        · replace hf := it g14 hf
          refine x_iconst (v := 0) C d_V_isRing_93 rfl ?_
          cases hf
          obtain ⟨hV, hN⟩ := Kr _ rfl
          exact x_zret C d_V_isRing_94 (Or.inl rfl) hV hN
        · replace hf := ie g14 hf
          refine x_aload_n C d_V_isRing_84 1 rfl ?_
          refine x_iload C d_V_isRing_85 0 rfl ?_
          obtain ⟨c15, hc15, hf⟩ := bs hf
          refine x_callV (rest := []) (n := 1) C (ct_V_hasDraft E F _ _ _ _ hm0 hk0 hc15) mi_V_hasDraft (by decide) hm0 ⟨_, cel_V hk0⟩ rfl rfl wL_V_94 d_V_isRing_87 rfl rfl (Nat.le_of_ble_eq_true rfl) ?_
          show X _ _ _ _ _ _ _ _ _ _ _ _ _ _ _ _ _ _ _ _ _ [.int c15]
          refine x_if_ne C 95 d_V_isRing_90 (by decide) (fun g16 => ?_) (fun g16 => ?_)
          · replace hf := ie g16 hf
            refine x_aload_n C d_V_isRing_95 1 rfl ?_
            refine xg_V_drafts C wF_V_24 hm0 hk0 d_V_isRing_96 ?_
            refine x_aload_n C d_V_isRing_99 2 rfl ?_
            refine x_iload C d_V_isRing_100 6 rfl ?_
            obtain ⟨t17, ht17, hf⟩ := bs hf
            refine x_iald C ht17 hm1 hk1 d_V_isRing_102 ?_
            obtain ⟨z18, hz18, hf⟩ := bs hf
            refine x_aald2 C hz18 (m_V_drafts hk0) (k_V_drafts hk0) d_V_isRing_103 ?_
            refine x_astore (lv' := [(7, .ref (ad ((k0 + 2) + 1 + z18))), (6, .int t11), (0, .ref (ad k0)), (1, .ref (ad k1)), (2, .int x2), (3, .int x3), (4, .int x4), (5, .int x5)]) C d_V_isRing_104 (by decide) rfl ?_
            refine x_aload C d_V_isRing_106 0 rfl ?_
            refine x_iload_n C d_V_isRing_108 5 rfl ?_
            obtain ⟨c19, hc19, hf⟩ := bs hf
            refine x_callV (rest := []) (n := 1) C (ct_D_isOpenOf E F _ _ _ _ (ma_D (k_V_drafts hk0) hz18) (ka_D (k_V_drafts hk0) hz18) hc19) mi_D_isOpenOf (by decide) (ma_D (k_V_drafts hk0) hz18) ⟨_, cel_D (ka_D (k_V_drafts hk0) hz18)⟩ rfl rfl wL_V_97 d_V_isRing_109 rfl rfl (Nat.le_of_ble_eq_true rfl) ?_
            show X _ _ _ _ _ _ _ _ _ _ _ _ _ _ _ _ _ _ _ _ _ [.int c19]
            refine x_if_eq C 146 d_V_isRing_112 (by decide) (fun g20 => ?_) (fun g20 => ?_)
            · replace hf := it g20 hf
              refine x_iconst (v := 0) C d_V_isRing_146 rfl ?_
              cases hf
              obtain ⟨hV, hN⟩ := Kr _ rfl
              exact x_zret C d_V_isRing_147 (Or.inl rfl) hV hN
            · replace hf := ie g20 hf
              refine x_aload C d_V_isRing_115 0 rfl ?_
              refine xg_D_whom C wF_V_65 (ma_D (k_V_drafts hk0) hz18) (ka_D (k_V_drafts hk0) hz18) d_V_isRing_117 ?_
              refine x_aload_n C d_V_isRing_120 2 rfl ?_
              refine xg_V_drafts C wF_V_24 hm0 hk0 d_V_isRing_121 ?_
              refine x_iload C d_V_isRing_124 1 rfl ?_
              obtain ⟨z21, hz21, hf⟩ := bs hf
              refine x_aald2 C hz21 (m_V_drafts hk0) (k_V_drafts hk0) d_V_isRing_126 ?_
              refine xg_D_who C wF_V_58 (ma_D (k_V_drafts hk0) hz21) (ka_D (k_V_drafts hk0) hz21) d_V_isRing_127 ?_
              refine x_icmp_ne C 146 d_V_isRing_130 (by decide) (fun g22 => ?_) (fun g22 => ?_)
              · replace hf := ie g22 hf
                refine x_iconst (v := 0) C d_V_isRing_146 rfl ?_
                cases hf
                obtain ⟨hV, hN⟩ := Kr _ rfl
                exact x_zret C d_V_isRing_147 (Or.inl rfl) hV hN
              · replace hf := it g22 hf
                refine x_iload C d_V_isRing_133 6 rfl ?_
                refine x_iconst (v := 1) C d_V_isRing_135 rfl ?_
                refine x_aload C d_V_isRing_136 0 rfl ?_
                refine xg_D_who C wF_V_58 (ma_D (k_V_drafts hk0) hz18) (ka_D (k_V_drafts hk0) hz18) d_V_isRing_138 ?_
                refine x_ishl C d_V_isRing_141 ?_
                refine x_iand C d_V_isRing_142 ?_
                refine x_if_eq C 148 d_V_isRing_143 (by decide) (fun g23 => ?_) (fun g23 => ?_)
                · replace hf := it g23 hf
                  refine x_iload C d_V_isRing_148 6 rfl ?_
                  refine x_iconst (v := 1) C d_V_isRing_150 rfl ?_
                  refine x_aload C d_V_isRing_151 0 rfl ?_
                  refine xg_D_who C wF_V_58 (ma_D (k_V_drafts hk0) hz18) (ka_D (k_V_drafts hk0) hz18) d_V_isRing_153 ?_
                  refine x_ishl C d_V_isRing_156 ?_
                  refine x_ior C d_V_isRing_157 ?_
                  refine x_istore (lv' := [(4, .int (x4 ||| (1 <<< ((M ((k0 + 2) + 1 + z18) 0) &&& 31)))), (7, .ref (ad ((k0 + 2) + 1 + z18))), (6, .int t11), (0, .ref (ad k0)), (1, .ref (ad k1)), (2, .int x2), (3, .int x3), (5, .int x5)]) C d_V_isRing_158 (by decide) rfl ?_
                  refine x_iinc (v := (x5 + 1)) (lv' := [(5, .int (x5 + 1)), (4, .int (x4 ||| (1 <<< ((M ((k0 + 2) + 1 + z18) 0) &&& 31)))), (7, .ref (ad ((k0 + 2) + 1 + z18))), (6, .int t11), (0, .ref (ad k0)), (1, .ref (ad k1)), (2, .int x2), (3, .int x3)]) C d_V_isRing_160 7 rfl rfl (by decide) rfl ?_
                  refine x_goto C 47 d_V_isRing_163 (by decide) ?_
                  refine x_sub [4, 5, 6, 7, 1, 0] rfl ?_
                  exact ih _ _ _ hf Kr Kx
                · replace hf := ie g23 hf
                  refine x_iconst (v := 0) C d_V_isRing_146 rfl ?_
                  cases hf
                  obtain ⟨hV, hN⟩ := Kr _ rfl
                  exact x_zret C d_V_isRing_147 (Or.inl rfl) hV hN
          · replace hf := it g16 hf
            refine x_iconst (v := 0) C d_V_isRing_93 rfl ?_
            cases hf
            obtain ⟨hV, hN⟩ := Kr _ rfl
            exact x_zret C d_V_isRing_94 (Or.inl rfl) hV hN
      replace hf := hj10
      refine x_icmp_ge C 69 d_V_isRing_59 (by decide) (fun g24 => ?_) (fun g24 => ?_)
      · replace hf := it g24 hf
        refine x_iconst (v := 0) C d_V_isRing_69 rfl ?_
        cases hf
        exact x_sub [0, 1, 2, 3, 4, 5] rfl Jj10
      · replace hf := ie g24 hf
        refine x_iload C d_V_isRing_62 5 rfl ?_
        refine x_iconst (v := 1) C d_V_isRing_64 rfl ?_
        refine x_iadd C d_V_isRing_65 ?_
        refine x_goto C 70 d_V_isRing_66 (by decide) ?_
        cases hf
        exact x_sub [0, 1, 2, 3, 4, 5] rfl Jj10
set_option maxHeartbeats 4000000 in
set_option maxRecDepth 100000 in
theorem ct_V_isRing {l : Launch} {D : va_G} {ad : Nat → Nat} {cs : Nat → ClassId} {A : Nat → Prop} (E : Ev ad cs A LX) (F : Nat) (M : Mem) (k0 : Nat) (k1 : Nat) (x2 : Int32) (R : Int32) (hm0 : k0 ∈ LX) (hk0 : kd k0 = 12) (hm1 : k1 ∈ LX) (hk1 : kd k1 = 0) (hf : V_isRing F M k0 k1 x2 = some R) : Met l y_V_isRing (Cond.code y_V_isRing b_V_isRing 8 (some .boolean) :: wl) (rmD 1) (PX D ad cs A LX [.ref (ad k0), .ref (ad k1), .int x2] M) (QX D ad cs A LX (some (.int R)) M) 0 0 A := by
  refine x_enter (lv := [(0, .ref (ad k0)), (1, .ref (ad k1)), (2, .int x2)]) E mi_V_isRing.1 (Nat.le_of_ble_eq_true rfl) rfl (fun p e s m args below meth c C => ?_)
  unfold V_isRing at hf
  refine x_iload_n C d_V_isRing_0 2 rfl ?_
  refine x_iconst (v := 3) C d_V_isRing_1 rfl ?_
  refine x_icmp_lt C 27 d_V_isRing_2 (by decide) (fun g1 => ?_) (fun g1 => ?_)
  · replace hf := it g1 hf
    refine x_iconst (v := 0) C d_V_isRing_27 rfl ?_
    cases hf
    exact x_zret C d_V_isRing_28 (Or.inl rfl) rfl rfl
  · replace hf := ie g1 hf
    refine x_iload_n C d_V_isRing_5 2 rfl ?_
    refine x_bipush (v := 6) C d_V_isRing_6 rfl ?_
    refine x_icmp_gt C 27 d_V_isRing_8 (by decide) (fun g2 => ?_) (fun g2 => ?_)
    · replace hf := it g2 hf
      refine x_iconst (v := 0) C d_V_isRing_27 rfl ?_
      cases hf
      exact x_zret C d_V_isRing_28 (Or.inl rfl) rfl rfl
    · replace hf := ie g2 hf
      refine x_iload_n C d_V_isRing_11 2 rfl ?_
      refine x_aload_n C d_V_isRing_12 1 rfl ?_
      refine x_alen (v := (Int32.ofNat (ln k1))) C hm1 hk1 rfl d_V_isRing_13 ?_
      refine x_icmp_gt C 27 d_V_isRing_14 (by decide) (fun g3 => ?_) (fun g3 => ?_)
      · replace hf := it g3 hf
        refine x_iconst (v := 0) C d_V_isRing_27 rfl ?_
        cases hf
        exact x_zret C d_V_isRing_28 (Or.inl rfl) rfl rfl
      · replace hf := ie g3 hf
        refine x_aload_n C d_V_isRing_17 0 rfl ?_
        refine x_aload_n C d_V_isRing_18 1 rfl ?_
        refine x_iconst (v := 0) C d_V_isRing_19 rfl ?_
        obtain ⟨t4, ht4, hf⟩ := bs hf
        refine x_iald C ht4 hm1 hk1 d_V_isRing_20 ?_
        obtain ⟨c5, hc5, hf⟩ := bs hf
        refine x_callV (rest := []) (n := 1) C (ct_V_hasDraft E F _ _ _ _ hm0 hk0 hc5) mi_V_hasDraft (by decide) hm0 ⟨_, cel_V hk0⟩ rfl rfl wL_V_94 d_V_isRing_21 rfl rfl (Nat.le_of_ble_eq_true rfl) ?_
        show X _ _ _ _ _ _ _ _ _ _ _ _ _ _ _ _ _ _ _ _ _ [.int c5]
        refine x_if_ne C 29 d_V_isRing_24 (by decide) (fun g6 => ?_) (fun g6 => ?_)
        · replace hf := ie g6 hf
          refine x_aload_n C d_V_isRing_29 0 rfl ?_
          refine xg_V_drafts C wF_V_24 hm0 hk0 d_V_isRing_30 ?_
          refine x_aload_n C d_V_isRing_33 1 rfl ?_
          refine x_iconst (v := 0) C d_V_isRing_34 rfl ?_
          obtain ⟨t7, ht7, hf⟩ := bs hf
          refine x_iald C ht7 hm1 hk1 d_V_isRing_35 ?_
          obtain ⟨z8, hz8, hf⟩ := bs hf
          refine x_aald2 C hz8 (m_V_drafts hk0) (k_V_drafts hk0) d_V_isRing_36 ?_
          refine xg_D_sort C wF_V_72 (ma_D (k_V_drafts hk0) hz8) (ka_D (k_V_drafts hk0) hz8) d_V_isRing_37 ?_
          refine x_istore_n (lv' := [(3, .int (M ((k0 + 2) + 1 + z8) 2)), (0, .ref (ad k0)), (1, .ref (ad k1)), (2, .int x2)]) C d_V_isRing_40 (by decide) rfl ?_
          refine x_iconst (v := 0) C d_V_isRing_41 rfl ?_
          refine x_istore (lv' := [(4, .int 0), (3, .int (M ((k0 + 2) + 1 + z8) 2)), (0, .ref (ad k0)), (1, .ref (ad k1)), (2, .int x2)]) C d_V_isRing_42 (by decide) rfl ?_
          refine x_iconst (v := 0) C d_V_isRing_44 rfl ?_
          refine x_istore (lv' := [(5, .int 0), (4, .int 0), (3, .int (M ((k0 + 2) + 1 + z8) 2)), (0, .ref (ad k0)), (1, .ref (ad k1)), (2, .int x2)]) C d_V_isRing_45 (by decide) rfl ?_
          obtain ⟨u25, hu25, hf⟩ := bs hf
          refine x_sub [3, 4, 5, 2, 1, 0] rfl ?_
          refine lw_V_isRing_47 E C F _ _ _ _ _ hm0 hk0 hm1 hk1 _ _ _ _ hu25 (fun r26 hr26 => ?_) (fun w27 hw27 => ?_)
          · subst hr26
            replace hf := se_l hf
            cases hf
            exact ⟨rfl, rfl⟩
          · subst hw27
            replace hf := se_r hf
            refine x_iload_n C d_V_isRing_166 0 rfl ?_
            refine x_iconst (v := 2) C d_V_isRing_167 rfl ?_
            refine x_icmp_eq C 175 d_V_isRing_168 (by decide) (fun g28 => ?_) (fun g28 => ?_)
            · replace hf := it g28 hf
              refine x_iconst (v := 0) C d_V_isRing_175 rfl ?_
              cases hf
              exact x_zret C d_V_isRing_176 (Or.inl rfl) rfl rfl
            · replace hf := ie g28 hf
              refine x_iconst (v := 1) C d_V_isRing_171 rfl ?_
              refine x_goto C 176 d_V_isRing_172 (by decide) ?_
              cases hf
              exact x_zret C d_V_isRing_176 (Or.inr rfl) rfl rfl
        · replace hf := it g6 hf
          refine x_iconst (v := 0) C d_V_isRing_27 rfl ?_
          cases hf
          exact x_zret C d_V_isRing_28 (Or.inl rfl) rfl rfl
set_option maxHeartbeats 4000000 in
set_option maxRecDepth 100000 in
theorem lw_V_clearRing_26 {p : Program} {l : Launch} {e : Env} {s : State} {m : MethodId} {args : Array Value} {below : List Frame} {meth : Method} {c : Code} {D : va_G} {ad : Nat → Nat} {cs : Nat → ClassId} {A : Nat → Prop} {V : Option Value} {N : Mem} (E : Ev ad cs A LX) (C : Cx p s m args meth c "KissClearing$Village" b_V_clearRing 5 (some .int) D ad cs A LX) (F : Nat) (M : Mem) (k0 : Nat) (k1 : Nat) (x2 : Int32) (hm0 : k0 ∈ LX) (hk0 : kd k0 = 12) (hm1 : k1 ∈ LX) (hk1 : kd k1 = 0) : ∀ (n : Nat) (x3 : Int32) (x4 : Int32) (u : Int32), L_V_clearRing_26 F M k0 k1 x2 n x3 x4 = some u → X p l e 2 s m args below meth c 5 D ad cs A LX V N M 55 [(0, .ref (ad k0)), (1, .ref (ad k1)), (2, .int x2), (3, .int u)] [] → X p l e 2 s m args below meth c 5 D ad cs A LX V N M 26 [(0, .ref (ad k0)), (1, .ref (ad k1)), (2, .int x2), (3, .int x3), (4, .int x4)] [] := by
  intro n
  induction n with
  | zero => intro x3 x4 u hf; cases hf
  | succ n ih =>
    intro x3 x4 u hf K
    replace hf : B_V_clearRing_26 F M k0 k1 x2 (L_V_clearRing_26 F M k0 k1 x2 n) x3 x4 = some u := hf
    unfold B_V_clearRing_26 at hf
    refine x_iload C d_V_clearRing_26 4 rfl ?_
    refine x_iload_n C d_V_clearRing_28 2 rfl ?_
    refine x_icmp_ge C 55 d_V_clearRing_29 (by decide) (fun g5 => ?_) (fun g5 => ?_)
    · replace hf := it g5 hf
      cases hf
      exact x_sub [0, 1, 2, 3] rfl K
    · replace hf := ie g5 hf
      refine x_iload_n C d_V_clearRing_32 3 rfl ?_
      refine x_aload_n C d_V_clearRing_33 0 rfl ?_
      refine xg_V_drafts C wF_V_24 hm0 hk0 d_V_clearRing_34 ?_
      refine x_aload_n C d_V_clearRing_37 1 rfl ?_
      refine x_iload C d_V_clearRing_38 4 rfl ?_
      obtain ⟨t6, ht6, hf⟩ := bs hf
      refine x_iald C ht6 hm1 hk1 d_V_clearRing_40 ?_
      obtain ⟨z7, hz7, hf⟩ := bs hf
      refine x_aald2 C hz7 (m_V_drafts hk0) (k_V_drafts hk0) d_V_clearRing_41 ?_
      refine xg_D_kisses C wF_V_78 (ma_D (k_V_drafts hk0) hz7) (ka_D (k_V_drafts hk0) hz7) d_V_clearRing_42 ?_
      refine x_min C wL_V_85 (by decide) (Nat.le_of_ble_eq_true rfl) d_V_clearRing_45 ?_
      refine x_istore_n (lv' := [(3, .int (if (M ((k0 + 2) + 1 + z7) 3) < x3 then (M ((k0 + 2) + 1 + z7) 3) else x3)), (0, .ref (ad k0)), (1, .ref (ad k1)), (2, .int x2), (4, .int x4)]) C d_V_clearRing_48 (by decide) rfl ?_
      refine x_iinc (v := (x4 + 1)) (lv' := [(4, .int (x4 + 1)), (3, .int (if (M ((k0 + 2) + 1 + z7) 3) < x3 then (M ((k0 + 2) + 1 + z7) 3) else x3)), (0, .ref (ad k0)), (1, .ref (ad k1)), (2, .int x2)]) C d_V_clearRing_49 4 rfl rfl (by decide) rfl ?_
      refine x_goto C 26 d_V_clearRing_52 (by decide) ?_
      refine x_sub [2, 3, 4, 1, 0] rfl ?_
      exact ih _ _ _ hf K
set_option maxHeartbeats 4000000 in
set_option maxRecDepth 100000 in
theorem lw_V_clearRing_58 {p : Program} {l : Launch} {e : Env} {s : State} {m : MethodId} {args : Array Value} {below : List Frame} {meth : Method} {c : Code} {D : va_G} {ad : Nat → Nat} {cs : Nat → ClassId} {A : Nat → Prop} {V : Option Value} {N : Mem} (E : Ev ad cs A LX) (C : Cx p s m args meth c "KissClearing$Village" b_V_clearRing 5 (some .int) D ad cs A LX) (F : Nat) (k0 : Nat) (k1 : Nat) (x2 : Int32) (x3 : Int32) (hm0 : k0 ∈ LX) (hk0 : kd k0 = 12) (hm1 : k1 ∈ LX) (hk1 : kd k1 = 0) : ∀ (n : Nat) (M : Mem) (x4 : Int32) (u : Mem), L_V_clearRing_58 F k0 k1 x2 x3 n M x4 = some u → X p l e 2 s m args below meth c 5 D ad cs A LX V N u 88 [(3, .int x3)] [] → X p l e 2 s m args below meth c 5 D ad cs A LX V N M 58 [(0, .ref (ad k0)), (1, .ref (ad k1)), (2, .int x2), (3, .int x3), (4, .int x4)] [] := by
  intro n
  induction n with
  | zero => intro M x4 u hf; cases hf
  | succ n ih =>
    intro M x4 u hf K
    replace hf : B_V_clearRing_58 F k0 k1 x2 x3 (L_V_clearRing_58 F k0 k1 x2 x3 n) M x4 = some u := hf
    unfold B_V_clearRing_58 at hf
    refine x_iload C d_V_clearRing_58 4 rfl ?_
    refine x_iload_n C d_V_clearRing_60 2 rfl ?_
    refine x_icmp_ge C 88 d_V_clearRing_61 (by decide) (fun g9 => ?_) (fun g9 => ?_)
    · replace hf := it g9 hf
      cases hf
      exact x_sub [3] rfl K
    · replace hf := ie g9 hf
      refine x_aload_n C d_V_clearRing_64 0 rfl ?_
      refine xg_V_drafts C wF_V_24 hm0 hk0 d_V_clearRing_65 ?_
      refine x_aload_n C d_V_clearRing_68 1 rfl ?_
      refine x_iload C d_V_clearRing_69 4 rfl ?_
      obtain ⟨t10, ht10, hf⟩ := bs hf
      refine x_iald C ht10 hm1 hk1 d_V_clearRing_71 ?_
      obtain ⟨z11, hz11, hf⟩ := bs hf
      refine x_aald2 C hz11 (m_V_drafts hk0) (k_V_drafts hk0) d_V_clearRing_72 ?_
      refine x_dup C d_V_clearRing_73 rfl ?_
      refine xg_D_kisses C wF_V_78 (ma_D (k_V_drafts hk0) hz11) (ka_D (k_V_drafts hk0) hz11) d_V_clearRing_74 ?_
      refine x_iload_n C d_V_clearRing_77 3 rfl ?_
      refine x_isub C d_V_clearRing_78 ?_
      refine xp_D_kisses (x := ((M ((k0 + 2) + 1 + z11) 3) - x3)) C wF_V_78 (ma_D (k_V_drafts hk0) hz11) (ka_D (k_V_drafts hk0) hz11) d_V_clearRing_79 ?_
      refine x_iinc (v := (x4 + 1)) (lv' := [(4, .int (x4 + 1)), (0, .ref (ad k0)), (1, .ref (ad k1)), (2, .int x2), (3, .int x3)]) C d_V_clearRing_82 4 rfl rfl (by decide) rfl ?_
      refine x_goto C 58 d_V_clearRing_85 (by decide) ?_
      refine x_sub [1, 2, 3, 4, 0] rfl ?_
      exact ih _ _ _ hf K
set_option maxHeartbeats 4000000 in
set_option maxRecDepth 100000 in
theorem ct_V_clearRing {l : Launch} {D : va_G} {ad : Nat → Nat} {cs : Nat → ClassId} {A : Nat → Prop} (E : Ev ad cs A LX) (F : Nat) (M : Mem) (k0 : Nat) (k1 : Nat) (x2 : Int32) (R : (Int32 × Mem)) (hm0 : k0 ∈ LX) (hk0 : kd k0 = 12) (hm1 : k1 ∈ LX) (hk1 : kd k1 = 0) (hf : V_clearRing F M k0 k1 x2 = some R) : Met l y_V_clearRing (Cond.code y_V_clearRing b_V_clearRing 5 (some .int) :: wl) (rmD 2) (PX D ad cs A LX [.ref (ad k0), .ref (ad k1), .int x2] M) (QX D ad cs A LX (some (.int R.1)) R.2) 0 0 A := by
  refine x_enter (lv := [(0, .ref (ad k0)), (1, .ref (ad k1)), (2, .int x2)]) E mi_V_clearRing.1 (Nat.le_of_ble_eq_true rfl) rfl (fun p e s m args below meth c C => ?_)
  unfold V_clearRing at hf
  refine x_aload_n C d_V_clearRing_0 0 rfl ?_
  refine x_aload_n C d_V_clearRing_1 1 rfl ?_
  refine x_iload_n C d_V_clearRing_2 2 rfl ?_
  obtain ⟨c1, hc1, hf⟩ := bs hf
  refine x_callV (rest := []) (n := 2) C (ct_V_isRing E F _ _ _ _ _ hm0 hk0 hm1 hk1 hc1) mi_V_isRing (by decide) hm0 ⟨_, cel_V hk0⟩ rfl rfl wL_V_100 d_V_clearRing_3 rfl rfl (Nat.le_of_ble_eq_true rfl) ?_
  show X _ _ _ _ _ _ _ _ _ _ _ _ _ _ _ _ _ _ _ _ _ [.int c1]
  refine x_if_ne C 11 d_V_clearRing_6 (by decide) (fun g2 => ?_) (fun g2 => ?_)
  · replace hf := ie g2 hf
    refine x_aload_n C d_V_clearRing_11 0 rfl ?_
    refine xg_V_drafts C wF_V_24 hm0 hk0 d_V_clearRing_12 ?_
    refine x_aload_n C d_V_clearRing_15 1 rfl ?_
    refine x_iconst (v := 0) C d_V_clearRing_16 rfl ?_
    obtain ⟨t3, ht3, hf⟩ := bs hf
    refine x_iald C ht3 hm1 hk1 d_V_clearRing_17 ?_
    obtain ⟨z4, hz4, hf⟩ := bs hf
    refine x_aald2 C hz4 (m_V_drafts hk0) (k_V_drafts hk0) d_V_clearRing_18 ?_
    refine xg_D_kisses C wF_V_78 (ma_D (k_V_drafts hk0) hz4) (ka_D (k_V_drafts hk0) hz4) d_V_clearRing_19 ?_
    refine x_istore_n (lv' := [(3, .int (M ((k0 + 2) + 1 + z4) 3)), (0, .ref (ad k0)), (1, .ref (ad k1)), (2, .int x2)]) C d_V_clearRing_22 (by decide) rfl ?_
    refine x_iconst (v := 1) C d_V_clearRing_23 rfl ?_
    refine x_istore (lv' := [(4, .int 1), (3, .int (M ((k0 + 2) + 1 + z4) 3)), (0, .ref (ad k0)), (1, .ref (ad k1)), (2, .int x2)]) C d_V_clearRing_24 (by decide) rfl ?_
    obtain ⟨u8, hu8, hf⟩ := bs hf
    refine x_sub [2, 3, 4, 1, 0] rfl ?_
    refine lw_V_clearRing_26 E C F _ _ _ _ hm0 hk0 hm1 hk1 _ _ _ _ hu8 ?_
    refine x_iconst (v := 0) C d_V_clearRing_55 rfl ?_
    refine x_istore (lv' := [(4, .int 0), (0, .ref (ad k0)), (1, .ref (ad k1)), (2, .int x2), (3, .int u8)]) C d_V_clearRing_56 (by decide) rfl ?_
    obtain ⟨u12, hu12, hf⟩ := bs hf
    refine x_sub [1, 2, 3, 4, 0] rfl ?_
    refine lw_V_clearRing_58 E C F _ _ _ _ hm0 hk0 hm1 hk1 _ _ _ _ hu12 ?_
    refine x_iload_n C d_V_clearRing_88 0 rfl ?_
    cases hf
    exact x_iret C d_V_clearRing_89 rfl rfl
  · replace hf := it g2 hf
    refine x_iconst (v := 0) C d_V_clearRing_9 rfl ?_
    cases hf
    exact x_iret C d_V_clearRing_10 rfl rfl
set_option maxHeartbeats 4000000 in
set_option maxRecDepth 100000 in
theorem lw_V_clearedByHalving_4 {p : Program} {l : Launch} {e : Env} {s : State} {m : MethodId} {args : Array Value} {below : List Frame} {meth : Method} {c : Code} {D : va_G} {ad : Nat → Nat} {cs : Nat → ClassId} {A : Nat → Prop} {V : Option Value} {N : Mem} (E : Ev ad cs A LX) (C : Cx p s m args meth c "KissClearing$Village" b_V_clearedByHalving 4 (some .int) D ad cs A LX) (F : Nat) (M : Mem) (k0 : Nat) (x1 : Int32) (hm0 : k0 ∈ LX) (hk0 : kd k0 = 12) : ∀ (n : Nat) (x2 : Int32) (x3 : Int32) (u : Int32), L_V_clearedByHalving_4 F M k0 x1 n x2 x3 = some u → X p l e 0 s m args below meth c 4 D ad cs A LX V N M 68 [(2, .int u)] [] → X p l e 0 s m args below meth c 4 D ad cs A LX V N M 4 [(0, .ref (ad k0)), (1, .int x1), (2, .int x2), (3, .int x3)] [] := by
  intro n
  induction n with
  | zero => intro x2 x3 u hf; cases hf
  | succ n ih =>
    intro x2 x3 u hf K
    replace hf : B_V_clearedByHalving_4 F M k0 x1 (L_V_clearedByHalving_4 F M k0 x1 n) x2 x3 = some u := hf
    unfold B_V_clearedByHalving_4 at hf
    refine x_iload_n C d_V_clearedByHalving_4 3 rfl ?_
    refine x_aload_n C d_V_clearedByHalving_5 0 rfl ?_
    refine xg_V_draftCount C wF_V_15 hm0 hk0 d_V_clearedByHalving_6 ?_
    refine x_icmp_ge C 68 d_V_clearedByHalving_9 (by decide) (fun g1 => ?_) (fun g1 => ?_)
    · replace hf := it g1 hf
      cases hf
      exact x_sub [2] rfl K
    · replace hf := ie g1 hf
      refine x_aload_n C d_V_clearedByHalving_12 0 rfl ?_
      refine xg_V_drafts C wF_V_24 hm0 hk0 d_V_clearedByHalving_13 ?_
      refine x_iload_n C d_V_clearedByHalving_16 3 rfl ?_
      obtain ⟨z2, hz2, hf⟩ := bs hf
      refine x_aald2 C hz2 (m_V_drafts hk0) (k_V_drafts hk0) d_V_clearedByHalving_17 ?_
      refine xg_D_who C wF_V_58 (ma_D (k_V_drafts hk0) hz2) (ka_D (k_V_drafts hk0) hz2) d_V_clearedByHalving_18 ?_
      refine x_iload_n C d_V_clearedByHalving_21 1 rfl ?_
      refine x_icmp_eq C 38 d_V_clearedByHalving_22 (by decide) (fun g3 => ?_) (fun g3 => ?_)
      · replace hf := it g3 hf
        refine x_iload_n C d_V_clearedByHalving_38 2 rfl ?_
        refine x_aload_n C d_V_clearedByHalving_39 0 rfl ?_
        refine xg_V_drafts C wF_V_24 hm0 hk0 d_V_clearedByHalving_40 ?_
        refine x_iload_n C d_V_clearedByHalving_43 3 rfl ?_
        obtain ⟨z4, hz4, hf⟩ := bs hf
        refine x_aald2 C hz4 (m_V_drafts hk0) (k_V_drafts hk0) d_V_clearedByHalving_44 ?_
        refine xg_D_kisses C wF_V_78 (ma_D (k_V_drafts hk0) hz4) (ka_D (k_V_drafts hk0) hz4) d_V_clearedByHalving_45 ?_
        refine x_aload_n C d_V_clearedByHalving_48 0 rfl ?_
        refine xg_V_drafts C wF_V_24 hm0 hk0 d_V_clearedByHalving_49 ?_
        refine x_iload_n C d_V_clearedByHalving_52 3 rfl ?_
        obtain ⟨z5, hz5, hf⟩ := bs hf
        refine x_aald2 C hz5 (m_V_drafts hk0) (k_V_drafts hk0) d_V_clearedByHalving_53 ?_
        refine xg_D_kisses C wF_V_78 (ma_D (k_V_drafts hk0) hz5) (ka_D (k_V_drafts hk0) hz5) d_V_clearedByHalving_54 ?_
        refine x_iconst (v := 2) C d_V_clearedByHalving_57 rfl ?_
        obtain ⟨t6, ht6, hf⟩ := bs hf
        refine x_idiv C ht6 d_V_clearedByHalving_58 ?_
        refine x_isub C d_V_clearedByHalving_59 ?_
        refine x_iadd C d_V_clearedByHalving_60 ?_
        refine x_istore_n (lv' := [(2, .int (x2 + ((M ((k0 + 2) + 1 + z4) 3) - t6))), (0, .ref (ad k0)), (1, .int x1), (3, .int x3)]) C d_V_clearedByHalving_61 (by decide) rfl ?_
        refine x_iinc (v := (x3 + 1)) (lv' := [(3, .int (x3 + 1)), (2, .int (x2 + ((M ((k0 + 2) + 1 + z4) 3) - t6))), (0, .ref (ad k0)), (1, .int x1)]) C d_V_clearedByHalving_62 3 rfl rfl (by decide) rfl ?_
        refine x_goto C 4 d_V_clearedByHalving_65 (by decide) ?_
        refine x_sub [2, 3, 1, 0] rfl ?_
        exact ih _ _ _ hf K
      · replace hf := ie g3 hf
        refine x_aload_n C d_V_clearedByHalving_25 0 rfl ?_
        refine xg_V_drafts C wF_V_24 hm0 hk0 d_V_clearedByHalving_26 ?_
        refine x_iload_n C d_V_clearedByHalving_29 3 rfl ?_
        obtain ⟨z7, hz7, hf⟩ := bs hf
        refine x_aald2 C hz7 (m_V_drafts hk0) (k_V_drafts hk0) d_V_clearedByHalving_30 ?_
        refine xg_D_whom C wF_V_65 (ma_D (k_V_drafts hk0) hz7) (ka_D (k_V_drafts hk0) hz7) d_V_clearedByHalving_31 ?_
        refine x_iload_n C d_V_clearedByHalving_34 1 rfl ?_
        refine x_icmp_ne C 62 d_V_clearedByHalving_35 (by decide) (fun g8 => ?_) (fun g8 => ?_)
        · replace hf := ie g8 hf
          refine x_iinc (v := (x3 + 1)) (lv' := [(3, .int (x3 + 1)), (0, .ref (ad k0)), (1, .int x1), (2, .int x2)]) C d_V_clearedByHalving_62 3 rfl rfl (by decide) rfl ?_
          refine x_goto C 4 d_V_clearedByHalving_65 (by decide) ?_
          refine x_sub [1, 2, 3, 0] rfl ?_
          exact ih _ _ _ hf K
        · replace hf := it g8 hf
          refine x_iload_n C d_V_clearedByHalving_38 2 rfl ?_
          refine x_aload_n C d_V_clearedByHalving_39 0 rfl ?_
          refine xg_V_drafts C wF_V_24 hm0 hk0 d_V_clearedByHalving_40 ?_
          refine x_iload_n C d_V_clearedByHalving_43 3 rfl ?_
          obtain ⟨z9, hz9, hf⟩ := bs hf
          refine x_aald2 C hz9 (m_V_drafts hk0) (k_V_drafts hk0) d_V_clearedByHalving_44 ?_
          refine xg_D_kisses C wF_V_78 (ma_D (k_V_drafts hk0) hz9) (ka_D (k_V_drafts hk0) hz9) d_V_clearedByHalving_45 ?_
          refine x_aload_n C d_V_clearedByHalving_48 0 rfl ?_
          refine xg_V_drafts C wF_V_24 hm0 hk0 d_V_clearedByHalving_49 ?_
          refine x_iload_n C d_V_clearedByHalving_52 3 rfl ?_
          obtain ⟨z10, hz10, hf⟩ := bs hf
          refine x_aald2 C hz10 (m_V_drafts hk0) (k_V_drafts hk0) d_V_clearedByHalving_53 ?_
          refine xg_D_kisses C wF_V_78 (ma_D (k_V_drafts hk0) hz10) (ka_D (k_V_drafts hk0) hz10) d_V_clearedByHalving_54 ?_
          refine x_iconst (v := 2) C d_V_clearedByHalving_57 rfl ?_
          obtain ⟨t11, ht11, hf⟩ := bs hf
          refine x_idiv C ht11 d_V_clearedByHalving_58 ?_
          refine x_isub C d_V_clearedByHalving_59 ?_
          refine x_iadd C d_V_clearedByHalving_60 ?_
          refine x_istore_n (lv' := [(2, .int (x2 + ((M ((k0 + 2) + 1 + z9) 3) - t11))), (0, .ref (ad k0)), (1, .int x1), (3, .int x3)]) C d_V_clearedByHalving_61 (by decide) rfl ?_
          refine x_iinc (v := (x3 + 1)) (lv' := [(3, .int (x3 + 1)), (2, .int (x2 + ((M ((k0 + 2) + 1 + z9) 3) - t11))), (0, .ref (ad k0)), (1, .int x1)]) C d_V_clearedByHalving_62 3 rfl rfl (by decide) rfl ?_
          refine x_goto C 4 d_V_clearedByHalving_65 (by decide) ?_
          refine x_sub [2, 3, 1, 0] rfl ?_
          exact ih _ _ _ hf K
set_option maxHeartbeats 4000000 in
set_option maxRecDepth 100000 in
theorem ct_V_clearedByHalving {l : Launch} {D : va_G} {ad : Nat → Nat} {cs : Nat → ClassId} {A : Nat → Prop} (E : Ev ad cs A LX) (F : Nat) (M : Mem) (k0 : Nat) (x1 : Int32) (R : Int32) (hm0 : k0 ∈ LX) (hk0 : kd k0 = 12) (hf : V_clearedByHalving F M k0 x1 = some R) : Met l y_V_clearedByHalving (Cond.code y_V_clearedByHalving b_V_clearedByHalving 4 (some .int) :: wl) (rmD 0) (PX D ad cs A LX [.ref (ad k0), .int x1] M) (QX D ad cs A LX (some (.int R)) M) 0 0 A := by
  refine x_enter (lv := [(0, .ref (ad k0)), (1, .int x1)]) E mi_V_clearedByHalving.1 (Nat.le_of_ble_eq_true rfl) rfl (fun p e s m args below meth c C => ?_)
  unfold V_clearedByHalving at hf
  refine x_iconst (v := 0) C d_V_clearedByHalving_0 rfl ?_
  refine x_istore_n (lv' := [(2, .int 0), (0, .ref (ad k0)), (1, .int x1)]) C d_V_clearedByHalving_1 (by decide) rfl ?_
  refine x_iconst (v := 0) C d_V_clearedByHalving_2 rfl ?_
  refine x_istore_n (lv' := [(3, .int 0), (2, .int 0), (0, .ref (ad k0)), (1, .int x1)]) C d_V_clearedByHalving_3 (by decide) rfl ?_
  obtain ⟨u12, hu12, hf⟩ := bs hf
  refine x_sub [2, 3, 1, 0] rfl ?_
  refine lw_V_clearedByHalving_4 E C F _ _ _ hm0 hk0 _ _ _ _ hu12 ?_
  refine x_iload_n C d_V_clearedByHalving_68 0 rfl ?_
  cases hf
  exact x_iret C d_V_clearedByHalving_69 rfl rfl
set_option maxHeartbeats 4000000 in
set_option maxRecDepth 100000 in
theorem lw_V_owing_4 {p : Program} {l : Launch} {e : Env} {s : State} {m : MethodId} {args : Array Value} {below : List Frame} {meth : Method} {c : Code} {D : va_G} {ad : Nat → Nat} {cs : Nat → ClassId} {A : Nat → Prop} {V : Option Value} {N : Mem} (E : Ev ad cs A LX) (C : Cx p s m args meth c "KissClearing$Village" b_V_owing 4 (some .int) D ad cs A LX) (F : Nat) (M : Mem) (k0 : Nat) (x1 : Int32) (hm0 : k0 ∈ LX) (hk0 : kd k0 = 12) : ∀ (n : Nat) (x2 : Int32) (x3 : Int32) (u : Int32), L_V_owing_4 F M k0 x1 n x2 x3 = some u → X p l e 1 s m args below meth c 4 D ad cs A LX V N M 43 [(2, .int u)] [] → X p l e 1 s m args below meth c 4 D ad cs A LX V N M 4 [(0, .ref (ad k0)), (1, .int x1), (2, .int x2), (3, .int x3)] [] := by
  intro n
  induction n with
  | zero => intro x2 x3 u hf; cases hf
  | succ n ih =>
    intro x2 x3 u hf K
    replace hf : B_V_owing_4 F M k0 x1 (L_V_owing_4 F M k0 x1 n) x2 x3 = some u := hf
    unfold B_V_owing_4 at hf
    refine x_iload_n C d_V_owing_4 3 rfl ?_
    refine x_aload_n C d_V_owing_5 0 rfl ?_
    refine xg_V_draftCount C wF_V_15 hm0 hk0 d_V_owing_6 ?_
    refine x_icmp_ge C 43 d_V_owing_9 (by decide) (fun g1 => ?_) (fun g1 => ?_)
    · replace hf := it g1 hf
      cases hf
      exact x_sub [2] rfl K
    · replace hf := ie g1 hf
      refine x_aload_n C d_V_owing_12 0 rfl ?_
      refine xg_V_drafts C wF_V_24 hm0 hk0 d_V_owing_13 ?_
      refine x_iload_n C d_V_owing_16 3 rfl ?_
      obtain ⟨z2, hz2, hf⟩ := bs hf
      refine x_aald2 C hz2 (m_V_drafts hk0) (k_V_drafts hk0) d_V_owing_17 ?_
      refine xg_D_who C wF_V_58 (ma_D (k_V_drafts hk0) hz2) (ka_D (k_V_drafts hk0) hz2) d_V_owing_18 ?_
      refine x_iload_n C d_V_owing_21 1 rfl ?_
      refine x_icmp_ne C 37 d_V_owing_22 (by decide) (fun g3 => ?_) (fun g3 => ?_)
      · replace hf := ie g3 hf
        refine x_iinc (v := (x3 + 1)) (lv' := [(3, .int (x3 + 1)), (0, .ref (ad k0)), (1, .int x1), (2, .int x2)]) C d_V_owing_37 3 rfl rfl (by decide) rfl ?_
        refine x_goto C 4 d_V_owing_40 (by decide) ?_
        refine x_sub [1, 2, 3, 0] rfl ?_
        exact ih _ _ _ hf K
      · replace hf := it g3 hf
        refine x_iload_n C d_V_owing_25 2 rfl ?_
        refine x_aload_n C d_V_owing_26 0 rfl ?_
        refine xg_V_drafts C wF_V_24 hm0 hk0 d_V_owing_27 ?_
        refine x_iload_n C d_V_owing_30 3 rfl ?_
        obtain ⟨z4, hz4, hf⟩ := bs hf
        refine x_aald2 C hz4 (m_V_drafts hk0) (k_V_drafts hk0) d_V_owing_31 ?_
        obtain ⟨c5, hc5, hf⟩ := bs hf
        refine x_callV (rest := [.int x2]) (n := 0) C (ct_D_worth E F _ _ _ (ma_D (k_V_drafts hk0) hz4) (ka_D (k_V_drafts hk0) hz4) hc5) mi_D_worth (by decide) (ma_D (k_V_drafts hk0) hz4) ⟨_, cel_D (ka_D (k_V_drafts hk0) hz4)⟩ rfl rfl wL_V_61 d_V_owing_32 rfl rfl (Nat.le_of_ble_eq_true rfl) ?_
        show X _ _ _ _ _ _ _ _ _ _ _ _ _ _ _ _ _ _ _ _ _ [.int c5, .int x2]
        refine x_iadd C d_V_owing_35 ?_
        refine x_istore_n (lv' := [(2, .int (x2 + c5)), (0, .ref (ad k0)), (1, .int x1), (3, .int x3)]) C d_V_owing_36 (by decide) rfl ?_
        refine x_iinc (v := (x3 + 1)) (lv' := [(3, .int (x3 + 1)), (2, .int (x2 + c5)), (0, .ref (ad k0)), (1, .int x1)]) C d_V_owing_37 3 rfl rfl (by decide) rfl ?_
        refine x_goto C 4 d_V_owing_40 (by decide) ?_
        refine x_sub [2, 3, 1, 0] rfl ?_
        exact ih _ _ _ hf K
set_option maxHeartbeats 4000000 in
set_option maxRecDepth 100000 in
theorem ct_V_owing {l : Launch} {D : va_G} {ad : Nat → Nat} {cs : Nat → ClassId} {A : Nat → Prop} (E : Ev ad cs A LX) (F : Nat) (M : Mem) (k0 : Nat) (x1 : Int32) (R : Int32) (hm0 : k0 ∈ LX) (hk0 : kd k0 = 12) (hf : V_owing F M k0 x1 = some R) : Met l y_V_owing (Cond.code y_V_owing b_V_owing 4 (some .int) :: wl) (rmD 1) (PX D ad cs A LX [.ref (ad k0), .int x1] M) (QX D ad cs A LX (some (.int R)) M) 0 0 A := by
  refine x_enter (lv := [(0, .ref (ad k0)), (1, .int x1)]) E mi_V_owing.1 (Nat.le_of_ble_eq_true rfl) rfl (fun p e s m args below meth c C => ?_)
  unfold V_owing at hf
  refine x_iconst (v := 0) C d_V_owing_0 rfl ?_
  refine x_istore_n (lv' := [(2, .int 0), (0, .ref (ad k0)), (1, .int x1)]) C d_V_owing_1 (by decide) rfl ?_
  refine x_iconst (v := 0) C d_V_owing_2 rfl ?_
  refine x_istore_n (lv' := [(3, .int 0), (2, .int 0), (0, .ref (ad k0)), (1, .int x1)]) C d_V_owing_3 (by decide) rfl ?_
  obtain ⟨u6, hu6, hf⟩ := bs hf
  refine x_sub [2, 3, 1, 0] rfl ?_
  refine lw_V_owing_4 E C F _ _ _ hm0 hk0 _ _ _ _ hu6 ?_
  refine x_iload_n C d_V_owing_43 0 rfl ?_
  cases hf
  exact x_iret C d_V_owing_44 rfl rfl
set_option maxHeartbeats 4000000 in
set_option maxRecDepth 100000 in
theorem lw_V_owed_5 {p : Program} {l : Launch} {e : Env} {s : State} {m : MethodId} {args : Array Value} {below : List Frame} {meth : Method} {c : Code} {D : va_G} {ad : Nat → Nat} {cs : Nat → ClassId} {A : Nat → Prop} {V : Option Value} {N : Mem} (E : Ev ad cs A LX) (C : Cx p s m args meth c "KissClearing$Village" b_V_owed 5 (some .int) D ad cs A LX) (F : Nat) (M : Mem) (k0 : Nat) (x1 : Int32) (x2 : Int32) (hm0 : k0 ∈ LX) (hk0 : kd k0 = 12) : ∀ (n : Nat) (x3 : Int32) (x4 : Int32) (u : Int32), L_V_owed_5 F M k0 x1 x2 n x3 x4 = some u → X p l e 1 s m args below meth c 5 D ad cs A LX V N M 64 [(3, .int u)] [] → X p l e 1 s m args below meth c 5 D ad cs A LX V N M 5 [(0, .ref (ad k0)), (1, .int x1), (2, .int x2), (3, .int x3), (4, .int x4)] [] := by
  intro n
  induction n with
  | zero => intro x3 x4 u hf; cases hf
  | succ n ih =>
    intro x3 x4 u hf K
    replace hf : B_V_owed_5 F M k0 x1 x2 (L_V_owed_5 F M k0 x1 x2 n) x3 x4 = some u := hf
    unfold B_V_owed_5 at hf
    refine x_iload C d_V_owed_5 4 rfl ?_
    refine x_aload_n C d_V_owed_7 0 rfl ?_
    refine xg_V_draftCount C wF_V_15 hm0 hk0 d_V_owed_8 ?_
    refine x_icmp_ge C 64 d_V_owed_11 (by decide) (fun g1 => ?_) (fun g1 => ?_)
    · replace hf := it g1 hf
      cases hf
      exact x_sub [3] rfl K
    · replace hf := ie g1 hf
      refine x_aload_n C d_V_owed_14 0 rfl ?_
      refine xg_V_drafts C wF_V_24 hm0 hk0 d_V_owed_15 ?_
      refine x_iload C d_V_owed_18 4 rfl ?_
      obtain ⟨z2, hz2, hf⟩ := bs hf
      refine x_aald2 C hz2 (m_V_drafts hk0) (k_V_drafts hk0) d_V_owed_20 ?_
      refine xg_D_whom C wF_V_65 (ma_D (k_V_drafts hk0) hz2) (ka_D (k_V_drafts hk0) hz2) d_V_owed_21 ?_
      refine x_iload_n C d_V_owed_24 1 rfl ?_
      refine x_icmp_ne C 58 d_V_owed_25 (by decide) (fun g3 => ?_) (fun g3 => ?_)
      · replace hf := ie g3 hf
        refine x_iinc (v := (x4 + 1)) (lv' := [(4, .int (x4 + 1)), (0, .ref (ad k0)), (1, .int x1), (2, .int x2), (3, .int x3)]) C d_V_owed_58 4 rfl rfl (by decide) rfl ?_
        refine x_goto C 5 d_V_owed_61 (by decide) ?_
        refine x_sub [1, 2, 3, 4, 0] rfl ?_
        exact ih _ _ _ hf K
      · replace hf := it g3 hf
        refine x_iload_n C d_V_owed_28 2 rfl ?_
        refine x_iconst (v := 1) C d_V_owed_29 rfl ?_
        refine x_aload_n C d_V_owed_30 0 rfl ?_
        refine xg_V_drafts C wF_V_24 hm0 hk0 d_V_owed_31 ?_
        refine x_iload C d_V_owed_34 4 rfl ?_
        obtain ⟨z4, hz4, hf⟩ := bs hf
        refine x_aald2 C hz4 (m_V_drafts hk0) (k_V_drafts hk0) d_V_owed_36 ?_
        refine xg_D_who C wF_V_58 (ma_D (k_V_drafts hk0) hz4) (ka_D (k_V_drafts hk0) hz4) d_V_owed_37 ?_
        refine x_ishl C d_V_owed_40 ?_
        refine x_iand C d_V_owed_41 ?_
        refine x_if_ne C 58 d_V_owed_42 (by decide) (fun g5 => ?_) (fun g5 => ?_)
        · replace hf := ie g5 hf
          refine x_iinc (v := (x4 + 1)) (lv' := [(4, .int (x4 + 1)), (0, .ref (ad k0)), (1, .int x1), (2, .int x2), (3, .int x3)]) C d_V_owed_58 4 rfl rfl (by decide) rfl ?_
          refine x_goto C 5 d_V_owed_61 (by decide) ?_
          refine x_sub [1, 2, 3, 4, 0] rfl ?_
          exact ih _ _ _ hf K
        · replace hf := it g5 hf
          refine x_iload_n C d_V_owed_45 3 rfl ?_
          refine x_aload_n C d_V_owed_46 0 rfl ?_
          refine xg_V_drafts C wF_V_24 hm0 hk0 d_V_owed_47 ?_
          refine x_iload C d_V_owed_50 4 rfl ?_
          obtain ⟨z6, hz6, hf⟩ := bs hf
          refine x_aald2 C hz6 (m_V_drafts hk0) (k_V_drafts hk0) d_V_owed_52 ?_
          obtain ⟨c7, hc7, hf⟩ := bs hf
          refine x_callV (rest := [.int x3]) (n := 0) C (ct_D_worth E F _ _ _ (ma_D (k_V_drafts hk0) hz6) (ka_D (k_V_drafts hk0) hz6) hc7) mi_D_worth (by decide) (ma_D (k_V_drafts hk0) hz6) ⟨_, cel_D (ka_D (k_V_drafts hk0) hz6)⟩ rfl rfl wL_V_61 d_V_owed_53 rfl rfl (Nat.le_of_ble_eq_true rfl) ?_
          show X _ _ _ _ _ _ _ _ _ _ _ _ _ _ _ _ _ _ _ _ _ [.int c7, .int x3]
          refine x_iadd C d_V_owed_56 ?_
          refine x_istore_n (lv' := [(3, .int (x3 + c7)), (0, .ref (ad k0)), (1, .int x1), (2, .int x2), (4, .int x4)]) C d_V_owed_57 (by decide) rfl ?_
          refine x_iinc (v := (x4 + 1)) (lv' := [(4, .int (x4 + 1)), (3, .int (x3 + c7)), (0, .ref (ad k0)), (1, .int x1), (2, .int x2)]) C d_V_owed_58 4 rfl rfl (by decide) rfl ?_
          refine x_goto C 5 d_V_owed_61 (by decide) ?_
          refine x_sub [2, 3, 4, 1, 0] rfl ?_
          exact ih _ _ _ hf K
set_option maxHeartbeats 4000000 in
set_option maxRecDepth 100000 in
theorem ct_V_owed {l : Launch} {D : va_G} {ad : Nat → Nat} {cs : Nat → ClassId} {A : Nat → Prop} (E : Ev ad cs A LX) (F : Nat) (M : Mem) (k0 : Nat) (x1 : Int32) (x2 : Int32) (R : Int32) (hm0 : k0 ∈ LX) (hk0 : kd k0 = 12) (hf : V_owed F M k0 x1 x2 = some R) : Met l y_V_owed (Cond.code y_V_owed b_V_owed 5 (some .int) :: wl) (rmD 1) (PX D ad cs A LX [.ref (ad k0), .int x1, .int x2] M) (QX D ad cs A LX (some (.int R)) M) 0 0 A := by
  refine x_enter (lv := [(0, .ref (ad k0)), (1, .int x1), (2, .int x2)]) E mi_V_owed.1 (Nat.le_of_ble_eq_true rfl) rfl (fun p e s m args below meth c C => ?_)
  unfold V_owed at hf
  refine x_iconst (v := 0) C d_V_owed_0 rfl ?_
  refine x_istore_n (lv' := [(3, .int 0), (0, .ref (ad k0)), (1, .int x1), (2, .int x2)]) C d_V_owed_1 (by decide) rfl ?_
  refine x_iconst (v := 0) C d_V_owed_2 rfl ?_
  refine x_istore (lv' := [(4, .int 0), (3, .int 0), (0, .ref (ad k0)), (1, .int x1), (2, .int x2)]) C d_V_owed_3 (by decide) rfl ?_
  obtain ⟨u8, hu8, hf⟩ := bs hf
  refine x_sub [2, 3, 4, 1, 0] rfl ?_
  refine lw_V_owed_5 E C F _ _ _ _ hm0 hk0 _ _ _ _ hu8 ?_
  refine x_iload_n C d_V_owed_64 0 rfl ?_
  cases hf
  exact x_iret C d_V_owed_65 rfl rfl
set_option maxHeartbeats 4000000 in
set_option maxRecDepth 100000 in
theorem ct_V_hasPerson {l : Launch} {D : va_G} {ad : Nat → Nat} {cs : Nat → ClassId} {A : Nat → Prop} (E : Ev ad cs A LX) (F : Nat) (M : Mem) (k0 : Nat) (x1 : Int32) (R : Int32) (hm0 : k0 ∈ LX) (hk0 : kd k0 = 12) (hf : V_hasPerson F M k0 x1 = some R) : Met l y_V_hasPerson (Cond.code y_V_hasPerson b_V_hasPerson 2 (some .boolean) :: wl) (rmD 0) (PX D ad cs A LX [.ref (ad k0), .int x1] M) (QX D ad cs A LX (some (.int R)) M) 0 0 A := by
  refine x_enter (lv := [(0, .ref (ad k0)), (1, .int x1)]) E mi_V_hasPerson.1 (Nat.le_of_ble_eq_true rfl) rfl (fun p e s m args below meth c C => ?_)
  unfold V_hasPerson at hf
  refine x_iload_n C d_V_hasPerson_0 1 rfl ?_
  refine x_if_lt C 16 d_V_hasPerson_1 (by decide) (fun g1 => ?_) (fun g1 => ?_)
  · replace hf := it g1 hf
    refine x_iconst (v := 0) C d_V_hasPerson_16 rfl ?_
    cases hf
    exact x_zret C d_V_hasPerson_17 (Or.inl rfl) rfl rfl
  · replace hf := ie g1 hf
    refine x_iload_n C d_V_hasPerson_4 1 rfl ?_
    refine x_aload_n C d_V_hasPerson_5 0 rfl ?_
    refine xg_V_personCount C wF_V_9 hm0 hk0 d_V_hasPerson_6 ?_
    refine x_icmp_ge C 16 d_V_hasPerson_9 (by decide) (fun g2 => ?_) (fun g2 => ?_)
    · replace hf := it g2 hf
      refine x_iconst (v := 0) C d_V_hasPerson_16 rfl ?_
      cases hf
      exact x_zret C d_V_hasPerson_17 (Or.inl rfl) rfl rfl
    · replace hf := ie g2 hf
      refine x_iconst (v := 1) C d_V_hasPerson_12 rfl ?_
      refine x_goto C 17 d_V_hasPerson_13 (by decide) ?_
      cases hf
      exact x_zret C d_V_hasPerson_17 (Or.inr rfl) rfl rfl
set_option maxHeartbeats 4000000 in
set_option maxRecDepth 100000 in
theorem ct_V_kindOf {l : Launch} {D : va_G} {ad : Nat → Nat} {cs : Nat → ClassId} {A : Nat → Prop} (E : Ev ad cs A LX) (F : Nat) (M : Mem) (k0 : Nat) (x1 : Int32) (R : Int32) (hm0 : k0 ∈ LX) (hk0 : kd k0 = 12) (hf : V_kindOf F M k0 x1 = some R) : Met l y_V_kindOf (Cond.code y_V_kindOf b_V_kindOf 2 (some .int) :: wl) (rmD 1) (PX D ad cs A LX [.ref (ad k0), .int x1] M) (QX D ad cs A LX (some (.int R)) M) 0 0 A := by
  refine x_enter (lv := [(0, .ref (ad k0)), (1, .int x1)]) E mi_V_kindOf.1 (Nat.le_of_ble_eq_true rfl) rfl (fun p e s m args below meth c C => ?_)
  unfold V_kindOf at hf
  refine x_aload_n C d_V_kindOf_0 0 rfl ?_
  refine x_iload_n C d_V_kindOf_1 1 rfl ?_
  obtain ⟨c1, hc1, hf⟩ := bs hf
  refine x_callV (rest := []) (n := 1) C (ct_V_hasPerson E F _ _ _ _ hm0 hk0 hc1) mi_V_hasPerson (by decide) hm0 ⟨_, cel_V hk0⟩ rfl rfl wL_V_29 d_V_kindOf_2 rfl rfl (Nat.le_of_ble_eq_true rfl) ?_
  show X _ _ _ _ _ _ _ _ _ _ _ _ _ _ _ _ _ _ _ _ _ [.int c1]
  refine x_if_eq C 17 d_V_kindOf_5 (by decide) (fun g2 => ?_) (fun g2 => ?_)
  · replace hf := it g2 hf
    refine x_iconst (v := 0) C d_V_kindOf_17 rfl ?_
    cases hf
    exact x_iret C d_V_kindOf_18 rfl rfl
  · replace hf := ie g2 hf
    refine x_aload_n C d_V_kindOf_8 0 rfl ?_
    refine xg_V_kinds C wF_V_18 hm0 hk0 d_V_kindOf_9 ?_
    refine x_iload_n C d_V_kindOf_12 1 rfl ?_
    obtain ⟨t3, ht3, hf⟩ := bs hf
    refine x_iald C ht3 (m_V_kinds hk0) (k_V_kinds hk0) d_V_kindOf_13 ?_
    refine x_goto C 18 d_V_kindOf_14 (by decide) ?_
    cases hf
    exact x_iret C d_V_kindOf_18 rfl rfl
set_option maxHeartbeats 4000000 in
set_option maxRecDepth 100000 in
theorem ct_V_reserve {l : Launch} {D : va_G} {ad : Nat → Nat} {cs : Nat → ClassId} {A : Nat → Prop} (E : Ev ad cs A LX) (F : Nat) (M : Mem) (k0 : Nat) (x1 : Int32) (R : Int32) (hm0 : k0 ∈ LX) (hk0 : kd k0 = 12) (hf : V_reserve F M k0 x1 = some R) : Met l y_V_reserve (Cond.code y_V_reserve b_V_reserve 2 (some .int) :: wl) (rmD 2) (PX D ad cs A LX [.ref (ad k0), .int x1] M) (QX D ad cs A LX (some (.int R)) M) 0 0 A := by
  refine x_enter (lv := [(0, .ref (ad k0)), (1, .int x1)]) E mi_V_reserve.1 (Nat.le_of_ble_eq_true rfl) rfl (fun p e s m args below meth c C => ?_)
  unfold V_reserve at hf
  refine x_gets C 3 (by decide) rfl rfl d_V_reserve_0 ?_
  refine x_aload_n C d_V_reserve_3 0 rfl ?_
  refine x_iload_n C d_V_reserve_4 1 rfl ?_
  obtain ⟨c1, hc1, hf⟩ := bs hf
  refine x_callV (rest := [.ref (ad 83)]) (n := 1) C (ct_V_kindOf E F _ _ _ _ hm0 hk0 hc1) mi_V_kindOf (by decide) hm0 ⟨_, cel_V hk0⟩ rfl rfl wL_V_41 d_V_reserve_5 rfl rfl (Nat.le_of_ble_eq_true rfl) ?_
  show X _ _ _ _ _ _ _ _ _ _ _ _ _ _ _ _ _ _ _ _ _ [.int c1, .ref (ad 83)]
  obtain ⟨t2, ht2, hf⟩ := bs hf
  refine x_rod C ht2 (by decide) (by decide) d_V_reserve_8 ?_
  cases hf
  exact x_iret C d_V_reserve_9 rfl rfl
set_option maxHeartbeats 4000000 in
set_option maxRecDepth 100000 in
theorem lw_V_fallen_28 {p : Program} {l : Launch} {e : Env} {s : State} {m : MethodId} {args : Array Value} {below : List Frame} {meth : Method} {c : Code} {D : va_G} {ad : Nat → Nat} {cs : Nat → ClassId} {A : Nat → Prop} {V : Option Value} {N : Mem} (E : Ev ad cs A LX) (C : Cx p s m args meth c "KissClearing$Village" b_V_fallen 8 (some .int) D ad cs A LX) (F : Nat) (M : Mem) (k0 : Nat) (x1 : Int32) (x2 : Int32) (x5 : Int32) (x6 : Int32) (hm0 : k0 ∈ LX) (hk0 : kd k0 = 12) : ∀ (n : Nat) (x3 : Int32) (x7 : Int32) (u : Int32), L_V_fallen_28 F M k0 x1 x2 x5 x6 n x3 x7 = some u → X p l e 3 s m args below meth c 8 D ad cs A LX V N M 88 [(0, .ref (ad k0)), (1, .int x1), (2, .int x2), (3, .int u), (5, .int x5), (6, .int x6)] [] → X p l e 3 s m args below meth c 8 D ad cs A LX V N M 28 [(0, .ref (ad k0)), (1, .int x1), (2, .int x2), (3, .int x3), (5, .int x5), (6, .int x6), (7, .int x7)] [] := by
  intro n
  induction n with
  | zero => intro x3 x7 u hf; cases hf
  | succ n ih =>
    intro x3 x7 u hf K
    replace hf : B_V_fallen_28 F M k0 x1 x2 x5 x6 (L_V_fallen_28 F M k0 x1 x2 x5 x6 n) x3 x7 = some u := hf
    unfold B_V_fallen_28 at hf
    refine x_iload C d_V_fallen_28 6 rfl ?_
    refine x_aload_n C d_V_fallen_30 0 rfl ?_
    refine xg_V_personCount C wF_V_9 hm0 hk0 d_V_fallen_31 ?_
    refine x_icmp_ge C 88 d_V_fallen_34 (by decide) (fun g3 => ?_) (fun g3 => ?_)
    · replace hf := it g3 hf
      cases hf
      exact x_sub [0, 1, 2, 3, 4, 5] rfl K
    · replace hf := ie g3 hf
      refine x_iload C d_V_fallen_37 6 rfl ?_
      refine x_iload_n C d_V_fallen_39 2 rfl ?_
      refine x_icmp_eq C 82 d_V_fallen_40 (by decide) (fun g4 => ?_) (fun g4 => ?_)
      · replace hf := it g4 hf
        refine x_iinc (v := (x7 + 1)) (lv' := [(7, .int (x7 + 1)), (0, .ref (ad k0)), (1, .int x1), (2, .int x2), (3, .int x3), (5, .int x5), (6, .int x6)]) C d_V_fallen_82 6 rfl rfl (by decide) rfl ?_
        refine x_goto C 28 d_V_fallen_85 (by decide) ?_
        refine x_sub [1, 2, 3, 4, 5, 6, 0] rfl ?_
        exact ih _ _ _ hf K
      · replace hf := ie g4 hf
        refine x_iload_n C d_V_fallen_43 3 rfl ?_
        refine x_iconst (v := 1) C d_V_fallen_44 rfl ?_
        refine x_iload C d_V_fallen_45 6 rfl ?_
        refine x_ishl C d_V_fallen_47 ?_
        refine x_iand C d_V_fallen_48 ?_
        refine x_if_ne C 82 d_V_fallen_49 (by decide) (fun g5 => ?_) (fun g5 => ?_)
        · replace hf := ie g5 hf
          refine x_iinc (v := (x7 + 1)) (lv' := [(7, .int (x7 + 1)), (0, .ref (ad k0)), (1, .int x1), (2, .int x2), (3, .int x3), (5, .int x5), (6, .int x6)]) C d_V_fallen_82 6 rfl rfl (by decide) rfl ?_
          refine x_goto C 28 d_V_fallen_85 (by decide) ?_
          refine x_sub [1, 2, 3, 4, 5, 6, 0] rfl ?_
          exact ih _ _ _ hf K
        · replace hf := it g5 hf
          refine x_aload_n C d_V_fallen_52 0 rfl ?_
          refine x_iload C d_V_fallen_53 6 rfl ?_
          obtain ⟨c6, hc6, hf⟩ := bs hf
          refine x_callV (rest := []) (n := 1) C (ct_V_owing E F _ _ _ _ hm0 hk0 hc6) mi_V_owing (by decide) hm0 ⟨_, cel_V hk0⟩ rfl rfl wL_V_107 d_V_fallen_55 rfl rfl (Nat.le_of_ble_eq_true rfl) ?_
          show X _ _ _ _ _ _ _ _ _ _ _ _ _ _ _ _ _ _ _ _ _ [.int c6]
          refine x_aload_n C d_V_fallen_58 0 rfl ?_
          refine x_iload C d_V_fallen_59 6 rfl ?_
          refine x_iload_n C d_V_fallen_61 3 rfl ?_
          obtain ⟨c7, hc7, hf⟩ := bs hf
          refine x_callV (rest := [.int c6]) (n := 2) C (ct_V_owed E F _ _ _ _ _ hm0 hk0 hc7) mi_V_owed (by decide) hm0 ⟨_, cel_V hk0⟩ rfl rfl wL_V_110 d_V_fallen_62 rfl rfl (Nat.le_of_ble_eq_true rfl) ?_
          show X _ _ _ _ _ _ _ _ _ _ _ _ _ _ _ _ _ _ _ _ _ [.int c7, .int c6]
          refine x_aload_n C d_V_fallen_65 0 rfl ?_
          refine x_iload C d_V_fallen_66 6 rfl ?_
          obtain ⟨c8, hc8, hf⟩ := bs hf
          refine x_callV (rest := [.int c7, .int c6]) (n := 1) C (ct_V_reserve E F _ _ _ _ hm0 hk0 hc8) mi_V_reserve (by decide) hm0 ⟨_, cel_V hk0⟩ rfl rfl wL_V_113 d_V_fallen_68 rfl rfl (Nat.le_of_ble_eq_true rfl) ?_
          show X _ _ _ _ _ _ _ _ _ _ _ _ _ _ _ _ _ _ _ _ _ [.int c8, .int c7, .int c6]
          refine x_iadd C d_V_fallen_71 ?_
          refine x_icmp_le C 82 d_V_fallen_72 (by decide) (fun g9 => ?_) (fun g9 => ?_)
          · replace hf := it g9 hf
            refine x_iinc (v := (x7 + 1)) (lv' := [(7, .int (x7 + 1)), (0, .ref (ad k0)), (1, .int x1), (2, .int x2), (3, .int x3), (5, .int x5), (6, .int x6)]) C d_V_fallen_82 6 rfl rfl (by decide) rfl ?_
            refine x_goto C 28 d_V_fallen_85 (by decide) ?_
            refine x_sub [1, 2, 3, 4, 5, 6, 0] rfl ?_
            exact ih _ _ _ hf K
          · replace hf := ie g9 hf
            refine x_iload_n C d_V_fallen_75 3 rfl ?_
            refine x_iconst (v := 1) C d_V_fallen_76 rfl ?_
            refine x_iload C d_V_fallen_77 6 rfl ?_
            refine x_ishl C d_V_fallen_79 ?_
            refine x_ior C d_V_fallen_80 ?_
            refine x_istore_n (lv' := [(3, .int (x3 ||| (1 <<< (x7 &&& 31)))), (0, .ref (ad k0)), (1, .int x1), (2, .int x2), (5, .int x5), (6, .int x6), (7, .int x7)]) C d_V_fallen_81 (by decide) rfl ?_
            refine x_iinc (v := (x7 + 1)) (lv' := [(7, .int (x7 + 1)), (3, .int (x3 ||| (1 <<< (x7 &&& 31)))), (0, .ref (ad k0)), (1, .int x1), (2, .int x2), (5, .int x5), (6, .int x6)]) C d_V_fallen_82 6 rfl rfl (by decide) rfl ?_
            refine x_goto C 28 d_V_fallen_85 (by decide) ?_
            refine x_sub [2, 3, 4, 1, 5, 6, 0] rfl ?_
            exact ih _ _ _ hf K
set_option maxHeartbeats 4000000 in
set_option maxRecDepth 100000 in
theorem lw_V_fallen_10 {p : Program} {l : Launch} {e : Env} {s : State} {m : MethodId} {args : Array Value} {below : List Frame} {meth : Method} {c : Code} {D : va_G} {ad : Nat → Nat} {cs : Nat → ClassId} {A : Nat → Prop} {V : Option Value} {N : Mem} (E : Ev ad cs A LX) (C : Cx p s m args meth c "KissClearing$Village" b_V_fallen 8 (some .int) D ad cs A LX) (F : Nat) (M : Mem) (k0 : Nat) (x1 : Int32) (x2 : Int32) (hm0 : k0 ∈ LX) (hk0 : kd k0 = 12) : ∀ (n : Nat) (x3 : Int32) (x4 : Int32) (x5 : Int32) (u : Int32), L_V_fallen_10 F M k0 x1 x2 n x3 x4 x5 = some u → X p l e 3 s m args below meth c 8 D ad cs A LX V N M 107 [(1, .int x1), (3, .int u)] [] → X p l e 3 s m args below meth c 8 D ad cs A LX V N M 10 [(0, .ref (ad k0)), (1, .int x1), (2, .int x2), (3, .int x3), (4, .int x4), (5, .int x5)] [] := by
  intro n
  induction n with
  | zero => intro x3 x4 x5 u hf; cases hf
  | succ n ih =>
    intro x3 x4 x5 u hf K
    replace hf : B_V_fallen_10 F M k0 x1 x2 (L_V_fallen_10 F M k0 x1 x2 n) x3 x4 x5 = some u := hf
    unfold B_V_fallen_10 at hf
    refine x_iload C d_V_fallen_10 5 rfl ?_
    refine x_bipush (v := 6) C d_V_fallen_12 rfl ?_
    refine x_icmp_ge C 107 d_V_fallen_14 (by decide) (fun g1 => ?_) (fun g1 => ?_)
    · replace hf := it g1 hf
      cases hf
      exact x_sub [1, 3] rfl K
    · replace hf := ie g1 hf
      refine x_iload C d_V_fallen_17 4 rfl ?_
      refine x_if_eq C 107 d_V_fallen_19 (by decide) (fun g2 => ?_) (fun g2 => ?_)
      · replace hf := it g2 hf
        cases hf
        exact x_sub [1, 3] rfl K
      · replace hf := ie g2 hf
        refine x_iload_n C d_V_fallen_22 3 rfl ?_
        refine x_istore (lv' := [(6, .int x3), (0, .ref (ad k0)), (1, .int x1), (2, .int x2), (3, .int x3), (4, .int x4), (5, .int x5)]) C d_V_fallen_23 (by decide) rfl ?_
        refine x_iconst (v := 0) C d_V_fallen_25 rfl ?_
        refine x_istore (lv' := [(7, .int 0), (6, .int x3), (0, .ref (ad k0)), (1, .int x1), (2, .int x2), (3, .int x3), (4, .int x4), (5, .int x5)]) C d_V_fallen_26 (by decide) rfl ?_
        obtain ⟨u10, hu10, hf⟩ := bs hf
        refine x_sub [2, 3, 4, 5, 7, 1, 0] rfl ?_
        refine lw_V_fallen_28 E C F _ _ _ _ _ _ hm0 hk0 _ _ _ _ hu10 ?_
        refine x_iload_n C d_V_fallen_88 3 rfl ?_
        refine x_iload C d_V_fallen_89 5 rfl ?_
        refine x_icmp_eq C 98 d_V_fallen_91 (by decide) (fun g11 => ?_) (fun g11 => ?_)
        · replace hf := it g11 hf
          refine x_iconst (v := 0) C d_V_fallen_98 rfl ?_
          refine x_istore (lv' := [(4, .int 0), (0, .ref (ad k0)), (1, .int x1), (2, .int x2), (3, .int u10), (5, .int x5), (6, .int x3)]) C d_V_fallen_99 (by decide) rfl ?_
          refine x_iinc (v := (x5 + 1)) (lv' := [(5, .int (x5 + 1)), (4, .int 0), (0, .ref (ad k0)), (1, .int x1), (2, .int x2), (3, .int u10), (6, .int x3)]) C d_V_fallen_101 5 rfl rfl (by decide) rfl ?_
          refine x_goto C 10 d_V_fallen_104 (by decide) ?_
          refine x_sub [2, 3, 4, 5, 1, 0] rfl ?_
          exact ih _ _ _ _ hf K
        · replace hf := ie g11 hf
          refine x_iconst (v := 1) C d_V_fallen_94 rfl ?_
          refine x_goto C 99 d_V_fallen_95 (by decide) ?_
          refine x_istore (lv' := [(4, .int 1), (0, .ref (ad k0)), (1, .int x1), (2, .int x2), (3, .int u10), (5, .int x5), (6, .int x3)]) C d_V_fallen_99 (by decide) rfl ?_
          refine x_iinc (v := (x5 + 1)) (lv' := [(5, .int (x5 + 1)), (4, .int 1), (0, .ref (ad k0)), (1, .int x1), (2, .int x2), (3, .int u10), (6, .int x3)]) C d_V_fallen_101 5 rfl rfl (by decide) rfl ?_
          refine x_goto C 10 d_V_fallen_104 (by decide) ?_
          refine x_sub [2, 3, 4, 5, 1, 0] rfl ?_
          exact ih _ _ _ _ hf K
set_option maxHeartbeats 4000000 in
set_option maxRecDepth 100000 in
theorem ct_V_fallen {l : Launch} {D : va_G} {ad : Nat → Nat} {cs : Nat → ClassId} {A : Nat → Prop} (E : Ev ad cs A LX) (F : Nat) (M : Mem) (k0 : Nat) (x1 : Int32) (x2 : Int32) (R : Int32) (hm0 : k0 ∈ LX) (hk0 : kd k0 = 12) (hf : V_fallen F M k0 x1 x2 = some R) : Met l y_V_fallen (Cond.code y_V_fallen b_V_fallen 8 (some .int) :: wl) (rmD 3) (PX D ad cs A LX [.ref (ad k0), .int x1, .int x2] M) (QX D ad cs A LX (some (.int R)) M) 0 0 A := by
  refine x_enter (lv := [(0, .ref (ad k0)), (1, .int x1), (2, .int x2)]) E mi_V_fallen.1 (Nat.le_of_ble_eq_true rfl) rfl (fun p e s m args below meth c C => ?_)
  unfold V_fallen at hf
  refine x_iconst (v := 1) C d_V_fallen_0 rfl ?_
  refine x_iload_n C d_V_fallen_1 1 rfl ?_
  refine x_ishl C d_V_fallen_2 ?_
  refine x_istore_n (lv' := [(3, .int (1 <<< (x1 &&& 31))), (0, .ref (ad k0)), (1, .int x1), (2, .int x2)]) C d_V_fallen_3 (by decide) rfl ?_
  refine x_iconst (v := 1) C d_V_fallen_4 rfl ?_
  refine x_istore (lv' := [(4, .int 1), (3, .int (1 <<< (x1 &&& 31))), (0, .ref (ad k0)), (1, .int x1), (2, .int x2)]) C d_V_fallen_5 (by decide) rfl ?_
  refine x_iconst (v := 0) C d_V_fallen_7 rfl ?_
  refine x_istore (lv' := [(5, .int 0), (4, .int 1), (3, .int (1 <<< (x1 &&& 31))), (0, .ref (ad k0)), (1, .int x1), (2, .int x2)]) C d_V_fallen_8 (by decide) rfl ?_
  obtain ⟨u12, hu12, hf⟩ := bs hf
  refine x_sub [3, 4, 5, 2, 1, 0] rfl ?_
  refine lw_V_fallen_10 E C F _ _ _ _ hm0 hk0 _ _ _ _ _ hu12 ?_
  refine x_iload_n C d_V_fallen_107 1 rfl ?_
  refine x_iconst (v := 1) C d_V_fallen_108 rfl ?_
  refine x_iload_n C d_V_fallen_109 0 rfl ?_
  refine x_ishl C d_V_fallen_110 ?_
  refine x_iconst (v := (-1)) C d_V_fallen_111 rfl ?_
  refine x_ixor C d_V_fallen_112 ?_
  refine x_iand C d_V_fallen_113 ?_
  cases hf
  exact x_iret C d_V_fallen_114 rfl rfl
set_option maxHeartbeats 4000000 in
set_option maxRecDepth 100000 in
theorem ct_V_growthFor {l : Launch} {D : va_G} {ad : Nat → Nat} {cs : Nat → ClassId} {A : Nat → Prop} (E : Ev ad cs A LX) (F : Nat) (M : Mem) (k0 : Nat) (x1 : Int32) (R : Int32) (hm0 : k0 ∈ LX) (hk0 : kd k0 = 12) (hf : V_growthFor F M k0 x1 = some R) : Met l y_V_growthFor (Cond.code y_V_growthFor b_V_growthFor 2 (some .int) :: wl) (rmD 2) (PX D ad cs A LX [.ref (ad k0), .int x1] M) (QX D ad cs A LX (some (.int R)) M) 0 0 A := by
  refine x_enter (lv := [(0, .ref (ad k0)), (1, .int x1)]) E mi_V_growthFor.1 (Nat.le_of_ble_eq_true rfl) rfl (fun p e s m args below meth c C => ?_)
  unfold V_growthFor at hf
  refine x_gets C 4 (by decide) rfl rfl d_V_growthFor_0 ?_
  refine x_aload_n C d_V_growthFor_3 0 rfl ?_
  refine x_iload_n C d_V_growthFor_4 1 rfl ?_
  obtain ⟨c1, hc1, hf⟩ := bs hf
  refine x_callV (rest := [.ref (ad 84)]) (n := 1) C (ct_V_kindOf E F _ _ _ _ hm0 hk0 hc1) mi_V_kindOf (by decide) hm0 ⟨_, cel_V hk0⟩ rfl rfl wL_V_41 d_V_growthFor_5 rfl rfl (Nat.le_of_ble_eq_true rfl) ?_
  show X _ _ _ _ _ _ _ _ _ _ _ _ _ _ _ _ _ _ _ _ _ [.int c1, .ref (ad 84)]
  obtain ⟨t2, ht2, hf⟩ := bs hf
  refine x_rod C ht2 (by decide) (by decide) d_V_growthFor_8 ?_
  cases hf
  exact x_iret C d_V_growthFor_9 rfl rfl
set_option maxHeartbeats 4000000 in
set_option maxRecDepth 100000 in
theorem ct_V_hasTwo {l : Launch} {D : va_G} {ad : Nat → Nat} {cs : Nat → ClassId} {A : Nat → Prop} (E : Ev ad cs A LX) (F : Nat) (M : Mem) (k0 : Nat) (x1 : Int32) (x2 : Int32) (R : Int32) (hm0 : k0 ∈ LX) (hk0 : kd k0 = 12) (hf : V_hasTwo F M k0 x1 x2 = some R) : Met l y_V_hasTwo (Cond.code y_V_hasTwo b_V_hasTwo 3 (some .boolean) :: wl) (rmD 1) (PX D ad cs A LX [.ref (ad k0), .int x1, .int x2] M) (QX D ad cs A LX (some (.int R)) M) 0 0 A := by
  refine x_enter (lv := [(0, .ref (ad k0)), (1, .int x1), (2, .int x2)]) E mi_V_hasTwo.1 (Nat.le_of_ble_eq_true rfl) rfl (fun p e s m args below meth c C => ?_)
  unfold V_hasTwo at hf
  refine x_aload_n C d_V_hasTwo_0 0 rfl ?_
  refine x_iload_n C d_V_hasTwo_1 1 rfl ?_
  obtain ⟨c1, hc1, hf⟩ := bs hf
  refine x_callV (rest := []) (n := 1) C (ct_V_hasPerson E F _ _ _ _ hm0 hk0 hc1) mi_V_hasPerson (by decide) hm0 ⟨_, cel_V hk0⟩ rfl rfl wL_V_29 d_V_hasTwo_2 rfl rfl (Nat.le_of_ble_eq_true rfl) ?_
  show X _ _ _ _ _ _ _ _ _ _ _ _ _ _ _ _ _ _ _ _ _ [.int c1]
  refine x_if_eq C 25 d_V_hasTwo_5 (by decide) (fun g2 => ?_) (fun g2 => ?_)
  · replace hf := it g2 hf
    refine x_iconst (v := 0) C d_V_hasTwo_25 rfl ?_
    cases hf
    exact x_zret C d_V_hasTwo_26 (Or.inl rfl) rfl rfl
  · replace hf := ie g2 hf
    refine x_aload_n C d_V_hasTwo_8 0 rfl ?_
    refine x_iload_n C d_V_hasTwo_9 2 rfl ?_
    obtain ⟨c3, hc3, hf⟩ := bs hf
    refine x_callV (rest := []) (n := 1) C (ct_V_hasPerson E F _ _ _ _ hm0 hk0 hc3) mi_V_hasPerson (by decide) hm0 ⟨_, cel_V hk0⟩ rfl rfl wL_V_29 d_V_hasTwo_10 rfl rfl (Nat.le_of_ble_eq_true rfl) ?_
    show X _ _ _ _ _ _ _ _ _ _ _ _ _ _ _ _ _ _ _ _ _ [.int c3]
    refine x_if_eq C 25 d_V_hasTwo_13 (by decide) (fun g4 => ?_) (fun g4 => ?_)
    · replace hf := it g4 hf
      refine x_iconst (v := 0) C d_V_hasTwo_25 rfl ?_
      cases hf
      exact x_zret C d_V_hasTwo_26 (Or.inl rfl) rfl rfl
    · replace hf := ie g4 hf
      refine x_iload_n C d_V_hasTwo_16 1 rfl ?_
      refine x_iload_n C d_V_hasTwo_17 2 rfl ?_
      refine x_icmp_eq C 25 d_V_hasTwo_18 (by decide) (fun g5 => ?_) (fun g5 => ?_)
      · replace hf := it g5 hf
        refine x_iconst (v := 0) C d_V_hasTwo_25 rfl ?_
        cases hf
        exact x_zret C d_V_hasTwo_26 (Or.inl rfl) rfl rfl
      · replace hf := ie g5 hf
        refine x_iconst (v := 1) C d_V_hasTwo_21 rfl ?_
        refine x_goto C 26 d_V_hasTwo_22 (by decide) ?_
        cases hf
        exact x_zret C d_V_hasTwo_26 (Or.inr rfl) rfl rfl
set_option maxHeartbeats 4000000 in
set_option maxRecDepth 100000 in
theorem ct_V_isEmpty {l : Launch} {D : va_G} {ad : Nat → Nat} {cs : Nat → ClassId} {A : Nat → Prop} (E : Ev ad cs A LX) (F : Nat) (M : Mem) (k0 : Nat) (R : Int32) (hm0 : k0 ∈ LX) (hk0 : kd k0 = 12) (hf : V_isEmpty F M k0 = some R) : Met l y_V_isEmpty (Cond.code y_V_isEmpty b_V_isEmpty 1 (some .boolean) :: wl) (rmD 0) (PX D ad cs A LX [.ref (ad k0)] M) (QX D ad cs A LX (some (.int R)) M) 0 0 A := by
  refine x_enter (lv := [(0, .ref (ad k0))]) E mi_V_isEmpty.1 (Nat.le_of_ble_eq_true rfl) rfl (fun p e s m args below meth c C => ?_)
  unfold V_isEmpty at hf
  refine x_aload_n C d_V_isEmpty_0 0 rfl ?_
  refine xg_V_personCount C wF_V_9 hm0 hk0 d_V_isEmpty_1 ?_
  refine x_if_ne C 11 d_V_isEmpty_4 (by decide) (fun g1 => ?_) (fun g1 => ?_)
  · replace hf := ie g1 hf
    refine x_iconst (v := 0) C d_V_isEmpty_11 rfl ?_
    cases hf
    exact x_zret C d_V_isEmpty_12 (Or.inl rfl) rfl rfl
  · replace hf := it g1 hf
    refine x_iconst (v := 1) C d_V_isEmpty_7 rfl ?_
    refine x_goto C 12 d_V_isEmpty_8 (by decide) ?_
    cases hf
    exact x_zret C d_V_isEmpty_12 (Or.inr rfl) rfl rfl
set_option maxHeartbeats 4000000 in
set_option maxRecDepth 100000 in
theorem lw_V_isOfKind_9 {p : Program} {l : Launch} {e : Env} {s : State} {m : MethodId} {args : Array Value} {below : List Frame} {meth : Method} {c : Code} {D : va_G} {ad : Nat → Nat} {cs : Nat → ClassId} {A : Nat → Prop} {V : Option Value} {N : Mem} (E : Ev ad cs A LX) (C : Cx p s m args meth c "KissClearing$Village" b_V_isOfKind 5 (some .boolean) D ad cs A LX) (F : Nat) (M : Mem) (x2 : Int32) : ∀ (n : Nat) (x3 : Int32) (x4 : Int32) (u : Int32), L_V_isOfKind_9 F M x2 n x3 x4 = some u → X p l e 2 s m args below meth c 5 D ad cs A LX V N M 43 [(2, .int x2), (3, .int u)] [] → X p l e 2 s m args below meth c 5 D ad cs A LX V N M 9 [(2, .int x2), (3, .int x3), (4, .int x4)] [] := by
  intro n
  induction n with
  | zero => intro x3 x4 u hf; cases hf
  | succ n ih =>
    intro x3 x4 u hf K
    replace hf : B_V_isOfKind_9 F M x2 (L_V_isOfKind_9 F M x2 n) x3 x4 = some u := hf
    unfold B_V_isOfKind_9 at hf
    refine x_iload C d_V_isOfKind_9 2 rfl ?_
    refine x_bipush (v := 6) C d_V_isOfKind_11 rfl ?_
    refine x_icmp_ge C 43 d_V_isOfKind_13 (by decide) (fun g2 => ?_) (fun g2 => ?_)
    · replace hf := it g2 hf
      cases hf
      exact x_sub [0, 1] rfl K
    · replace hf := ie g2 hf
      refine x_iload_n C d_V_isOfKind_16 1 rfl ?_
      refine x_iload_n C d_V_isOfKind_17 0 rfl ?_
      refine x_icmp_eq C 43 d_V_isOfKind_18 (by decide) (fun g3 => ?_) (fun g3 => ?_)
      · replace hf := it g3 hf
        cases hf
        exact x_sub [0, 1] rfl K
      · replace hf := ie g3 hf
        refine x_iload_n C d_V_isOfKind_21 1 rfl ?_
        refine x_if_le C 43 d_V_isOfKind_22 (by decide) (fun g4 => ?_) (fun g4 => ?_)
        · replace hf := it g4 hf
          cases hf
          exact x_sub [0, 1] rfl K
        · replace hf := ie g4 hf
          refine x_iload_n C d_V_isOfKind_25 1 rfl ?_
          refine x_bipush (v := 6) C d_V_isOfKind_26 rfl ?_
          refine x_icmp_ge C 43 d_V_isOfKind_28 (by decide) (fun g5 => ?_) (fun g5 => ?_)
          · replace hf := it g5 hf
            cases hf
            exact x_sub [0, 1] rfl K
          · replace hf := ie g5 hf
            refine x_gets C 2 (by decide) rfl rfl d_V_isOfKind_31 ?_
            refine x_iload_n C d_V_isOfKind_34 1 rfl ?_
            obtain ⟨t6, ht6, hf⟩ := bs hf
            refine x_rod C ht6 (by decide) (by decide) d_V_isOfKind_35 ?_
            refine x_istore_n (lv' := [(3, .int t6), (2, .int x2), (4, .int x4)]) C d_V_isOfKind_36 (by decide) rfl ?_
            refine x_iinc (v := (x4 + 1)) (lv' := [(4, .int (x4 + 1)), (3, .int t6), (2, .int x2)]) C d_V_isOfKind_37 2 rfl rfl (by decide) rfl ?_
            refine x_goto C 9 d_V_isOfKind_40 (by decide) ?_
            refine x_sub [2, 1, 0] rfl ?_
            exact ih _ _ _ hf K
set_option maxHeartbeats 4000000 in
set_option maxRecDepth 100000 in
theorem ct_V_isOfKind {l : Launch} {D : va_G} {ad : Nat → Nat} {cs : Nat → ClassId} {A : Nat → Prop} (E : Ev ad cs A LX) (F : Nat) (M : Mem) (k0 : Nat) (x1 : Int32) (x2 : Int32) (R : Int32) (hm0 : k0 ∈ LX) (hk0 : kd k0 = 12) (hf : V_isOfKind F M k0 x1 x2 = some R) : Met l y_V_isOfKind (Cond.code y_V_isOfKind b_V_isOfKind 5 (some .boolean) :: wl) (rmD 2) (PX D ad cs A LX [.ref (ad k0), .int x1, .int x2] M) (QX D ad cs A LX (some (.int R)) M) 0 0 A := by
  refine x_enter (lv := [(0, .ref (ad k0)), (1, .int x1), (2, .int x2)]) E mi_V_isOfKind.1 (Nat.le_of_ble_eq_true rfl) rfl (fun p e s m args below meth c C => ?_)
  unfold V_isOfKind at hf
  refine x_aload_n C d_V_isOfKind_0 0 rfl ?_
  refine x_iload_n C d_V_isOfKind_1 1 rfl ?_
  obtain ⟨c1, hc1, hf⟩ := bs hf
  refine x_callV (rest := []) (n := 1) C (ct_V_kindOf E F _ _ _ _ hm0 hk0 hc1) mi_V_kindOf (by decide) hm0 ⟨_, cel_V hk0⟩ rfl rfl wL_V_41 d_V_isOfKind_2 rfl rfl (Nat.le_of_ble_eq_true rfl) ?_
  show X _ _ _ _ _ _ _ _ _ _ _ _ _ _ _ _ _ _ _ _ _ [.int c1]
  refine x_istore_n (lv' := [(3, .int c1), (0, .ref (ad k0)), (1, .int x1), (2, .int x2)]) C d_V_isOfKind_5 (by decide) rfl ?_
  refine x_iconst (v := 0) C d_V_isOfKind_6 rfl ?_
  refine x_istore (lv' := [(4, .int 0), (3, .int c1), (0, .ref (ad k0)), (1, .int x1), (2, .int x2)]) C d_V_isOfKind_7 (by decide) rfl ?_
  obtain ⟨u7, hu7, hf⟩ := bs hf
  refine x_sub [4, 1, 0] rfl ?_
  refine lw_V_isOfKind_9 E C F _ _ _ _ _ _ hu7 ?_
  refine x_iload_n C d_V_isOfKind_43 1 rfl ?_
  refine x_iload_n C d_V_isOfKind_44 0 rfl ?_
  refine x_icmp_ne C 52 d_V_isOfKind_45 (by decide) (fun g8 => ?_) (fun g8 => ?_)
  · replace hf := ie g8 hf
    refine x_iconst (v := 0) C d_V_isOfKind_52 rfl ?_
    cases hf
    exact x_zret C d_V_isOfKind_53 (Or.inl rfl) rfl rfl
  · replace hf := it g8 hf
    refine x_iconst (v := 1) C d_V_isOfKind_48 rfl ?_
    refine x_goto C 53 d_V_isOfKind_49 (by decide) ?_
    cases hf
    exact x_zret C d_V_isOfKind_53 (Or.inr rfl) rfl rfl
set_option maxHeartbeats 4000000 in
set_option maxRecDepth 100000 in
theorem lw_V_kissesBetween_6 {p : Program} {l : Launch} {e : Env} {s : State} {m : MethodId} {args : Array Value} {below : List Frame} {meth : Method} {c : Code} {D : va_G} {ad : Nat → Nat} {cs : Nat → ClassId} {A : Nat → Prop} {V : Option Value} {N : Mem} (E : Ev ad cs A LX) (C : Cx p s m args meth c "KissClearing$Village" b_V_kissesBetween 6 (some .int) D ad cs A LX) (F : Nat) (M : Mem) (k0 : Nat) (x1 : Int32) (x2 : Int32) (x3 : Int32) (hm0 : k0 ∈ LX) (hk0 : kd k0 = 12) : ∀ (n : Nat) (x4 : Int32) (x5 : Int32) (u : Int32), L_V_kissesBetween_6 F M k0 x1 x2 x3 n x4 x5 = some u → X p l e 0 s m args below meth c 6 D ad cs A LX V N M 78 [(4, .int u)] [] → X p l e 0 s m args below meth c 6 D ad cs A LX V N M 6 [(0, .ref (ad k0)), (1, .int x1), (2, .int x2), (3, .int x3), (4, .int x4), (5, .int x5)] [] := by
  intro n
  induction n with
  | zero => intro x4 x5 u hf; cases hf
  | succ n ih =>
    intro x4 x5 u hf K
    replace hf : B_V_kissesBetween_6 F M k0 x1 x2 x3 (L_V_kissesBetween_6 F M k0 x1 x2 x3 n) x4 x5 = some u := hf
    unfold B_V_kissesBetween_6 at hf
    refine x_iload C d_V_kissesBetween_6 5 rfl ?_
    refine x_aload_n C d_V_kissesBetween_8 0 rfl ?_
    refine xg_V_draftCount C wF_V_15 hm0 hk0 d_V_kissesBetween_9 ?_
    refine x_icmp_ge C 78 d_V_kissesBetween_12 (by decide) (fun g1 => ?_) (fun g1 => ?_)
    · replace hf := it g1 hf
      cases hf
      exact x_sub [4] rfl K
    · replace hf := ie g1 hf
      refine x_aload_n C d_V_kissesBetween_15 0 rfl ?_
      refine xg_V_drafts C wF_V_24 hm0 hk0 d_V_kissesBetween_16 ?_
      refine x_iload C d_V_kissesBetween_19 5 rfl ?_
      obtain ⟨z2, hz2, hf⟩ := bs hf
      refine x_aald2 C hz2 (m_V_drafts hk0) (k_V_drafts hk0) d_V_kissesBetween_21 ?_
      refine xg_D_who C wF_V_58 (ma_D (k_V_drafts hk0) hz2) (ka_D (k_V_drafts hk0) hz2) d_V_kissesBetween_22 ?_
      refine x_iload_n C d_V_kissesBetween_25 1 rfl ?_
      refine x_icmp_ne C 72 d_V_kissesBetween_26 (by decide) (fun g3 => ?_) (fun g3 => ?_)
      · replace hf := ie g3 hf
        refine x_iinc (v := (x5 + 1)) (lv' := [(5, .int (x5 + 1)), (0, .ref (ad k0)), (1, .int x1), (2, .int x2), (3, .int x3), (4, .int x4)]) C d_V_kissesBetween_72 5 rfl rfl (by decide) rfl ?_
        refine x_goto C 6 d_V_kissesBetween_75 (by decide) ?_
        refine x_sub [1, 2, 3, 4, 5, 0] rfl ?_
        exact ih _ _ _ hf K
      · replace hf := it g3 hf
        refine x_aload_n C d_V_kissesBetween_29 0 rfl ?_
        refine xg_V_drafts C wF_V_24 hm0 hk0 d_V_kissesBetween_30 ?_
        refine x_iload C d_V_kissesBetween_33 5 rfl ?_
        obtain ⟨z4, hz4, hf⟩ := bs hf
        refine x_aald2 C hz4 (m_V_drafts hk0) (k_V_drafts hk0) d_V_kissesBetween_35 ?_
        refine xg_D_whom C wF_V_65 (ma_D (k_V_drafts hk0) hz4) (ka_D (k_V_drafts hk0) hz4) d_V_kissesBetween_36 ?_
        refine x_iload_n C d_V_kissesBetween_39 2 rfl ?_
        refine x_icmp_ne C 72 d_V_kissesBetween_40 (by decide) (fun g5 => ?_) (fun g5 => ?_)
        · replace hf := ie g5 hf
          refine x_iinc (v := (x5 + 1)) (lv' := [(5, .int (x5 + 1)), (0, .ref (ad k0)), (1, .int x1), (2, .int x2), (3, .int x3), (4, .int x4)]) C d_V_kissesBetween_72 5 rfl rfl (by decide) rfl ?_
          refine x_goto C 6 d_V_kissesBetween_75 (by decide) ?_
          refine x_sub [1, 2, 3, 4, 5, 0] rfl ?_
          exact ih _ _ _ hf K
        · replace hf := it g5 hf
          refine x_aload_n C d_V_kissesBetween_43 0 rfl ?_
          refine xg_V_drafts C wF_V_24 hm0 hk0 d_V_kissesBetween_44 ?_
          refine x_iload C d_V_kissesBetween_47 5 rfl ?_
          obtain ⟨z6, hz6, hf⟩ := bs hf
          refine x_aald2 C hz6 (m_V_drafts hk0) (k_V_drafts hk0) d_V_kissesBetween_49 ?_
          refine xg_D_sort C wF_V_72 (ma_D (k_V_drafts hk0) hz6) (ka_D (k_V_drafts hk0) hz6) d_V_kissesBetween_50 ?_
          refine x_iload_n C d_V_kissesBetween_53 3 rfl ?_
          refine x_icmp_ne C 72 d_V_kissesBetween_54 (by decide) (fun g7 => ?_) (fun g7 => ?_)
          · replace hf := ie g7 hf
            refine x_iinc (v := (x5 + 1)) (lv' := [(5, .int (x5 + 1)), (0, .ref (ad k0)), (1, .int x1), (2, .int x2), (3, .int x3), (4, .int x4)]) C d_V_kissesBetween_72 5 rfl rfl (by decide) rfl ?_
            refine x_goto C 6 d_V_kissesBetween_75 (by decide) ?_
            refine x_sub [1, 2, 3, 4, 5, 0] rfl ?_
            exact ih _ _ _ hf K
          · replace hf := it g7 hf
            refine x_iload C d_V_kissesBetween_57 4 rfl ?_
            refine x_aload_n C d_V_kissesBetween_59 0 rfl ?_
            refine xg_V_drafts C wF_V_24 hm0 hk0 d_V_kissesBetween_60 ?_
            refine x_iload C d_V_kissesBetween_63 5 rfl ?_
            obtain ⟨z8, hz8, hf⟩ := bs hf
            refine x_aald2 C hz8 (m_V_drafts hk0) (k_V_drafts hk0) d_V_kissesBetween_65 ?_
            refine xg_D_kisses C wF_V_78 (ma_D (k_V_drafts hk0) hz8) (ka_D (k_V_drafts hk0) hz8) d_V_kissesBetween_66 ?_
            refine x_iadd C d_V_kissesBetween_69 ?_
            refine x_istore (lv' := [(4, .int (x4 + (M ((k0 + 2) + 1 + z8) 3))), (0, .ref (ad k0)), (1, .int x1), (2, .int x2), (3, .int x3), (5, .int x5)]) C d_V_kissesBetween_70 (by decide) rfl ?_
            refine x_iinc (v := (x5 + 1)) (lv' := [(5, .int (x5 + 1)), (4, .int (x4 + (M ((k0 + 2) + 1 + z8) 3))), (0, .ref (ad k0)), (1, .int x1), (2, .int x2), (3, .int x3)]) C d_V_kissesBetween_72 5 rfl rfl (by decide) rfl ?_
            refine x_goto C 6 d_V_kissesBetween_75 (by decide) ?_
            refine x_sub [2, 3, 4, 5, 1, 0] rfl ?_
            exact ih _ _ _ hf K
set_option maxHeartbeats 4000000 in
set_option maxRecDepth 100000 in
theorem ct_V_kissesBetween {l : Launch} {D : va_G} {ad : Nat → Nat} {cs : Nat → ClassId} {A : Nat → Prop} (E : Ev ad cs A LX) (F : Nat) (M : Mem) (k0 : Nat) (x1 : Int32) (x2 : Int32) (x3 : Int32) (R : Int32) (hm0 : k0 ∈ LX) (hk0 : kd k0 = 12) (hf : V_kissesBetween F M k0 x1 x2 x3 = some R) : Met l y_V_kissesBetween (Cond.code y_V_kissesBetween b_V_kissesBetween 6 (some .int) :: wl) (rmD 0) (PX D ad cs A LX [.ref (ad k0), .int x1, .int x2, .int x3] M) (QX D ad cs A LX (some (.int R)) M) 0 0 A := by
  refine x_enter (lv := [(0, .ref (ad k0)), (1, .int x1), (2, .int x2), (3, .int x3)]) E mi_V_kissesBetween.1 (Nat.le_of_ble_eq_true rfl) rfl (fun p e s m args below meth c C => ?_)
  unfold V_kissesBetween at hf
  refine x_iconst (v := 0) C d_V_kissesBetween_0 rfl ?_
  refine x_istore (lv' := [(4, .int 0), (0, .ref (ad k0)), (1, .int x1), (2, .int x2), (3, .int x3)]) C d_V_kissesBetween_1 (by decide) rfl ?_
  refine x_iconst (v := 0) C d_V_kissesBetween_3 rfl ?_
  refine x_istore (lv' := [(5, .int 0), (4, .int 0), (0, .ref (ad k0)), (1, .int x1), (2, .int x2), (3, .int x3)]) C d_V_kissesBetween_4 (by decide) rfl ?_
  obtain ⟨u9, hu9, hf⟩ := bs hf
  refine x_sub [2, 3, 4, 5, 1, 0] rfl ?_
  refine lw_V_kissesBetween_6 E C F _ _ _ _ _ hm0 hk0 _ _ _ _ hu9 ?_
  refine x_iload C d_V_kissesBetween_78 0 rfl ?_
  cases hf
  exact x_iret C d_V_kissesBetween_80 rfl rfl
set_option maxHeartbeats 4000000 in
set_option maxRecDepth 100000 in
theorem lw_V_kissesOfSort_4 {p : Program} {l : Launch} {e : Env} {s : State} {m : MethodId} {args : Array Value} {below : List Frame} {meth : Method} {c : Code} {D : va_G} {ad : Nat → Nat} {cs : Nat → ClassId} {A : Nat → Prop} {V : Option Value} {N : Mem} (E : Ev ad cs A LX) (C : Cx p s m args meth c "KissClearing$Village" b_V_kissesOfSort 4 (some .int) D ad cs A LX) (F : Nat) (M : Mem) (k0 : Nat) (x1 : Int32) (hm0 : k0 ∈ LX) (hk0 : kd k0 = 12) : ∀ (n : Nat) (x2 : Int32) (x3 : Int32) (u : Int32), L_V_kissesOfSort_4 F M k0 x1 n x2 x3 = some u → X p l e 0 s m args below meth c 4 D ad cs A LX V N M 43 [(2, .int u)] [] → X p l e 0 s m args below meth c 4 D ad cs A LX V N M 4 [(0, .ref (ad k0)), (1, .int x1), (2, .int x2), (3, .int x3)] [] := by
  intro n
  induction n with
  | zero => intro x2 x3 u hf; cases hf
  | succ n ih =>
    intro x2 x3 u hf K
    replace hf : B_V_kissesOfSort_4 F M k0 x1 (L_V_kissesOfSort_4 F M k0 x1 n) x2 x3 = some u := hf
    unfold B_V_kissesOfSort_4 at hf
    refine x_iload_n C d_V_kissesOfSort_4 3 rfl ?_
    refine x_aload_n C d_V_kissesOfSort_5 0 rfl ?_
    refine xg_V_draftCount C wF_V_15 hm0 hk0 d_V_kissesOfSort_6 ?_
    refine x_icmp_ge C 43 d_V_kissesOfSort_9 (by decide) (fun g1 => ?_) (fun g1 => ?_)
    · replace hf := it g1 hf
      cases hf
      exact x_sub [2] rfl K
    · replace hf := ie g1 hf
      refine x_aload_n C d_V_kissesOfSort_12 0 rfl ?_
      refine xg_V_drafts C wF_V_24 hm0 hk0 d_V_kissesOfSort_13 ?_
      refine x_iload_n C d_V_kissesOfSort_16 3 rfl ?_
      obtain ⟨z2, hz2, hf⟩ := bs hf
      refine x_aald2 C hz2 (m_V_drafts hk0) (k_V_drafts hk0) d_V_kissesOfSort_17 ?_
      refine xg_D_sort C wF_V_72 (ma_D (k_V_drafts hk0) hz2) (ka_D (k_V_drafts hk0) hz2) d_V_kissesOfSort_18 ?_
      refine x_iload_n C d_V_kissesOfSort_21 1 rfl ?_
      refine x_icmp_ne C 37 d_V_kissesOfSort_22 (by decide) (fun g3 => ?_) (fun g3 => ?_)
      · replace hf := ie g3 hf
        refine x_iinc (v := (x3 + 1)) (lv' := [(3, .int (x3 + 1)), (0, .ref (ad k0)), (1, .int x1), (2, .int x2)]) C d_V_kissesOfSort_37 3 rfl rfl (by decide) rfl ?_
        refine x_goto C 4 d_V_kissesOfSort_40 (by decide) ?_
        refine x_sub [1, 2, 3, 0] rfl ?_
        exact ih _ _ _ hf K
      · replace hf := it g3 hf
        refine x_iload_n C d_V_kissesOfSort_25 2 rfl ?_
        refine x_aload_n C d_V_kissesOfSort_26 0 rfl ?_
        refine xg_V_drafts C wF_V_24 hm0 hk0 d_V_kissesOfSort_27 ?_
        refine x_iload_n C d_V_kissesOfSort_30 3 rfl ?_
        obtain ⟨z4, hz4, hf⟩ := bs hf
        refine x_aald2 C hz4 (m_V_drafts hk0) (k_V_drafts hk0) d_V_kissesOfSort_31 ?_
        refine xg_D_kisses C wF_V_78 (ma_D (k_V_drafts hk0) hz4) (ka_D (k_V_drafts hk0) hz4) d_V_kissesOfSort_32 ?_
        refine x_iadd C d_V_kissesOfSort_35 ?_
        refine x_istore_n (lv' := [(2, .int (x2 + (M ((k0 + 2) + 1 + z4) 3))), (0, .ref (ad k0)), (1, .int x1), (3, .int x3)]) C d_V_kissesOfSort_36 (by decide) rfl ?_
        refine x_iinc (v := (x3 + 1)) (lv' := [(3, .int (x3 + 1)), (2, .int (x2 + (M ((k0 + 2) + 1 + z4) 3))), (0, .ref (ad k0)), (1, .int x1)]) C d_V_kissesOfSort_37 3 rfl rfl (by decide) rfl ?_
        refine x_goto C 4 d_V_kissesOfSort_40 (by decide) ?_
        refine x_sub [2, 3, 1, 0] rfl ?_
        exact ih _ _ _ hf K
set_option maxHeartbeats 4000000 in
set_option maxRecDepth 100000 in
theorem ct_V_kissesOfSort {l : Launch} {D : va_G} {ad : Nat → Nat} {cs : Nat → ClassId} {A : Nat → Prop} (E : Ev ad cs A LX) (F : Nat) (M : Mem) (k0 : Nat) (x1 : Int32) (R : Int32) (hm0 : k0 ∈ LX) (hk0 : kd k0 = 12) (hf : V_kissesOfSort F M k0 x1 = some R) : Met l y_V_kissesOfSort (Cond.code y_V_kissesOfSort b_V_kissesOfSort 4 (some .int) :: wl) (rmD 0) (PX D ad cs A LX [.ref (ad k0), .int x1] M) (QX D ad cs A LX (some (.int R)) M) 0 0 A := by
  refine x_enter (lv := [(0, .ref (ad k0)), (1, .int x1)]) E mi_V_kissesOfSort.1 (Nat.le_of_ble_eq_true rfl) rfl (fun p e s m args below meth c C => ?_)
  unfold V_kissesOfSort at hf
  refine x_iconst (v := 0) C d_V_kissesOfSort_0 rfl ?_
  refine x_istore_n (lv' := [(2, .int 0), (0, .ref (ad k0)), (1, .int x1)]) C d_V_kissesOfSort_1 (by decide) rfl ?_
  refine x_iconst (v := 0) C d_V_kissesOfSort_2 rfl ?_
  refine x_istore_n (lv' := [(3, .int 0), (2, .int 0), (0, .ref (ad k0)), (1, .int x1)]) C d_V_kissesOfSort_3 (by decide) rfl ?_
  obtain ⟨u5, hu5, hf⟩ := bs hf
  refine x_sub [2, 3, 1, 0] rfl ?_
  refine lw_V_kissesOfSort_4 E C F _ _ _ hm0 hk0 _ _ _ _ hu5 ?_
  refine x_iload_n C d_V_kissesOfSort_43 0 rfl ?_
  cases hf
  exact x_iret C d_V_kissesOfSort_44 rfl rfl
set_option maxHeartbeats 4000000 in
set_option maxRecDepth 100000 in
theorem lw_V_lessen_7 {p : Program} {l : Launch} {e : Env} {s : State} {m : MethodId} {args : Array Value} {below : List Frame} {meth : Method} {c : Code} {D : va_G} {ad : Nat → Nat} {cs : Nat → ClassId} {A : Nat → Prop} {V : Option Value} {N : Mem} (E : Ev ad cs A LX) (C : Cx p s m args meth c "KissClearing$Village" b_V_lessen 9 none D ad cs A LX) (F : Nat) (k0 : Nat) (x1 : Int32) (x2 : Int32) (x3 : Int32) (hm0 : k0 ∈ LX) (hk0 : kd k0 = 12) : ∀ (n : Nat) (M : Mem) (x5 : Int32) (x6 : Int32) (u : Mem), L_V_lessen_7 F k0 x1 x2 x3 n M x5 x6 = some u → X p l e 1 s m args below meth c 9 D ad cs A LX V N u 89 [] [] → X p l e 1 s m args below meth c 9 D ad cs A LX V N M 7 [(0, .ref (ad k0)), (1, .int x1), (2, .int x2), (3, .int x3), (5, .int x5), (6, .int x6)] [] := by
  intro n
  induction n with
  | zero => intro M x5 x6 u hf; cases hf
  | succ n ih =>
    intro M x5 x6 u hf K
    replace hf : B_V_lessen_7 F k0 x1 x2 x3 (L_V_lessen_7 F k0 x1 x2 x3 n) M x5 x6 = some u := hf
    unfold B_V_lessen_7 at hf
    refine x_iload C d_V_lessen_7 5 rfl ?_
    refine x_aload_n C d_V_lessen_9 0 rfl ?_
    refine xg_V_draftCount C wF_V_15 hm0 hk0 d_V_lessen_10 ?_
    refine x_icmp_ge C 89 d_V_lessen_13 (by decide) (fun g1 => ?_) (fun g1 => ?_)
    · replace hf := it g1 hf
      cases hf
      exact x_sub [] rfl K
    · replace hf := ie g1 hf
      refine x_aload_n C d_V_lessen_16 0 rfl ?_
      refine xg_V_drafts C wF_V_24 hm0 hk0 d_V_lessen_17 ?_
      refine x_iload C d_V_lessen_20 5 rfl ?_
      obtain ⟨z2, hz2, hf⟩ := bs hf
      refine x_aald2 C hz2 (m_V_drafts hk0) (k_V_drafts hk0) d_V_lessen_22 ?_
      refine x_astore (lv' := [(7, .ref (ad ((k0 + 2) + 1 + z2))), (0, .ref (ad k0)), (1, .int x1), (2, .int x2), (3, .int x3), (5, .int x5), (6, .int x6)]) C d_V_lessen_23 (by decide) rfl ?_
      refine x_aload C d_V_lessen_25 0 rfl ?_
      refine xg_D_who C wF_V_58 (ma_D (k_V_drafts hk0) hz2) (ka_D (k_V_drafts hk0) hz2) d_V_lessen_27 ?_
      refine x_iload_n C d_V_lessen_30 2 rfl ?_
      refine x_icmp_ne C 83 d_V_lessen_31 (by decide) (fun g3 => ?_) (fun g3 => ?_)
      · replace hf := ie g3 hf
        refine x_iinc (v := (x6 + 1)) (lv' := [(6, .int (x6 + 1)), (7, .ref (ad ((k0 + 2) + 1 + z2))), (0, .ref (ad k0)), (1, .int x1), (2, .int x2), (3, .int x3), (5, .int x5)]) C d_V_lessen_83 6 rfl rfl (by decide) rfl ?_
        refine x_goto C 7 d_V_lessen_86 (by decide) ?_
        refine x_sub [2, 3, 4, 5, 6, 0] rfl ?_
        exact ih _ _ _ _ hf K
      · replace hf := it g3 hf
        refine x_aload C d_V_lessen_34 0 rfl ?_
        refine xg_D_whom C wF_V_65 (ma_D (k_V_drafts hk0) hz2) (ka_D (k_V_drafts hk0) hz2) d_V_lessen_36 ?_
        refine x_iload_n C d_V_lessen_39 3 rfl ?_
        refine x_icmp_ne C 83 d_V_lessen_40 (by decide) (fun g4 => ?_) (fun g4 => ?_)
        · replace hf := ie g4 hf
          refine x_iinc (v := (x6 + 1)) (lv' := [(6, .int (x6 + 1)), (7, .ref (ad ((k0 + 2) + 1 + z2))), (0, .ref (ad k0)), (1, .int x1), (2, .int x2), (3, .int x3), (5, .int x5)]) C d_V_lessen_83 6 rfl rfl (by decide) rfl ?_
          refine x_goto C 7 d_V_lessen_86 (by decide) ?_
          refine x_sub [2, 3, 4, 5, 6, 0] rfl ?_
          exact ih _ _ _ _ hf K
        · replace hf := it g4 hf
          refine x_aload C d_V_lessen_43 0 rfl ?_
          refine xg_D_sort C wF_V_72 (ma_D (k_V_drafts hk0) hz2) (ka_D (k_V_drafts hk0) hz2) d_V_lessen_45 ?_
          refine x_iload_n C d_V_lessen_48 4 rfl ?_
          refine x_icmp_ne C 83 d_V_lessen_49 (by decide) (fun g5 => ?_) (fun g5 => ?_)
          · replace hf := ie g5 hf
            refine x_iinc (v := (x6 + 1)) (lv' := [(6, .int (x6 + 1)), (7, .ref (ad ((k0 + 2) + 1 + z2))), (0, .ref (ad k0)), (1, .int x1), (2, .int x2), (3, .int x3), (5, .int x5)]) C d_V_lessen_83 6 rfl rfl (by decide) rfl ?_
            refine x_goto C 7 d_V_lessen_86 (by decide) ?_
            refine x_sub [2, 3, 4, 5, 6, 0] rfl ?_
            exact ih _ _ _ _ hf K
          · replace hf := it g5 hf
            refine x_iload C d_V_lessen_52 5 rfl ?_
            refine x_aload C d_V_lessen_54 0 rfl ?_
            refine xg_D_kisses C wF_V_78 (ma_D (k_V_drafts hk0) hz2) (ka_D (k_V_drafts hk0) hz2) d_V_lessen_56 ?_
            refine x_min C wL_V_85 (by decide) (Nat.le_of_ble_eq_true rfl) d_V_lessen_59 ?_
            refine x_istore (lv' := [(8, .int (if (M ((k0 + 2) + 1 + z2) 3) < x5 then (M ((k0 + 2) + 1 + z2) 3) else x5)), (7, .ref (ad ((k0 + 2) + 1 + z2))), (0, .ref (ad k0)), (1, .int x1), (2, .int x2), (3, .int x3), (5, .int x5), (6, .int x6)]) C d_V_lessen_62 (by decide) rfl ?_
            refine x_aload C d_V_lessen_64 1 rfl ?_
            refine x_dup C d_V_lessen_66 rfl ?_
            refine xg_D_kisses C wF_V_78 (ma_D (k_V_drafts hk0) hz2) (ka_D (k_V_drafts hk0) hz2) d_V_lessen_67 ?_
            refine x_iload C d_V_lessen_70 0 rfl ?_
            refine x_isub C d_V_lessen_72 ?_
            refine xp_D_kisses (x := ((M ((k0 + 2) + 1 + z2) 3) - (if (M ((k0 + 2) + 1 + z2) 3) < x5 then (M ((k0 + 2) + 1 + z2) 3) else x5))) C wF_V_78 (ma_D (k_V_drafts hk0) hz2) (ka_D (k_V_drafts hk0) hz2) d_V_lessen_73 ?_
            refine x_iload C d_V_lessen_76 6 rfl ?_
            refine x_iload C d_V_lessen_78 0 rfl ?_
            refine x_isub C d_V_lessen_80 ?_
            refine x_istore (lv' := [(5, .int (x5 - (if (M ((k0 + 2) + 1 + z2) 3) < x5 then (M ((k0 + 2) + 1 + z2) 3) else x5))), (8, .int (if (M ((k0 + 2) + 1 + z2) 3) < x5 then (M ((k0 + 2) + 1 + z2) 3) else x5)), (7, .ref (ad ((k0 + 2) + 1 + z2))), (0, .ref (ad k0)), (1, .int x1), (2, .int x2), (3, .int x3), (6, .int x6)]) C d_V_lessen_81 (by decide) rfl ?_
            refine x_iinc (v := (x6 + 1)) (lv' := [(6, .int (x6 + 1)), (5, .int (x5 - (if (M ((k0 + 2) + 1 + z2) 3) < x5 then (M ((k0 + 2) + 1 + z2) 3) else x5))), (8, .int (if (M ((k0 + 2) + 1 + z2) 3) < x5 then (M ((k0 + 2) + 1 + z2) 3) else x5)), (7, .ref (ad ((k0 + 2) + 1 + z2))), (0, .ref (ad k0)), (1, .int x1), (2, .int x2), (3, .int x3)]) C d_V_lessen_83 7 rfl rfl (by decide) rfl ?_
            refine x_goto C 7 d_V_lessen_86 (by decide) ?_
            refine x_sub [4, 5, 6, 7, 1, 0] rfl ?_
            exact ih _ _ _ _ hf K
set_option maxHeartbeats 4000000 in
set_option maxRecDepth 100000 in
theorem ct_V_lessen {l : Launch} {D : va_G} {ad : Nat → Nat} {cs : Nat → ClassId} {A : Nat → Prop} (E : Ev ad cs A LX) (F : Nat) (M : Mem) (k0 : Nat) (x1 : Int32) (x2 : Int32) (x3 : Int32) (x4 : Int32) (R : Mem) (hm0 : k0 ∈ LX) (hk0 : kd k0 = 12) (hf : V_lessen F M k0 x1 x2 x3 x4 = some R) : Met l y_V_lessen (Cond.code y_V_lessen b_V_lessen 9 none :: wl) (rmD 1) (PX D ad cs A LX [.ref (ad k0), .int x1, .int x2, .int x3, .int x4] M) (QX D ad cs A LX (none) R) 0 0 A := by
  refine x_enter (lv := [(0, .ref (ad k0)), (1, .int x1), (2, .int x2), (3, .int x3), (4, .int x4)]) E mi_V_lessen.1 (Nat.le_of_ble_eq_true rfl) rfl (fun p e s m args below meth c C => ?_)
  unfold V_lessen at hf
  refine x_iload C d_V_lessen_0 4 rfl ?_
  refine x_istore (lv' := [(5, .int x4), (0, .ref (ad k0)), (1, .int x1), (2, .int x2), (3, .int x3), (4, .int x4)]) C d_V_lessen_2 (by decide) rfl ?_
  refine x_iconst (v := 0) C d_V_lessen_4 rfl ?_
  refine x_istore (lv' := [(6, .int 0), (5, .int x4), (0, .ref (ad k0)), (1, .int x1), (2, .int x2), (3, .int x3), (4, .int x4)]) C d_V_lessen_5 (by decide) rfl ?_
  obtain ⟨u6, hu6, hf⟩ := bs hf
  refine x_sub [2, 3, 4, 5, 1, 0] rfl ?_
  refine lw_V_lessen_7 E C F _ _ _ _ hm0 hk0 _ _ _ _ _ hu6 ?_
  cases hf
  exact x_vret C d_V_lessen_89 rfl rfl
set_option maxHeartbeats 4000000 in
set_option maxRecDepth 100000 in
theorem lw_V_netOwing_5 {p : Program} {l : Launch} {e : Env} {s : State} {m : MethodId} {args : Array Value} {below : List Frame} {meth : Method} {c : Code} {D : va_G} {ad : Nat → Nat} {cs : Nat → ClassId} {A : Nat → Prop} {V : Option Value} {N : Mem} (E : Ev ad cs A LX) (C : Cx p s m args meth c "KissClearing$Village" b_V_netOwing 5 (some .int) D ad cs A LX) (F : Nat) (M : Mem) (k0 : Nat) (x1 : Int32) (x2 : Int32) (hm0 : k0 ∈ LX) (hk0 : kd k0 = 12) : ∀ (n : Nat) (x3 : Int32) (x4 : Int32) (u : Int32), L_V_netOwing_5 F M k0 x1 x2 n x3 x4 = some u → X p l e 0 s m args below meth c 5 D ad cs A LX V N M 96 [(3, .int u)] [] → X p l e 0 s m args below meth c 5 D ad cs A LX V N M 5 [(0, .ref (ad k0)), (1, .int x1), (2, .int x2), (3, .int x3), (4, .int x4)] [] := by
  intro n
  induction n with
  | zero => intro x3 x4 u hf; cases hf
  | succ n ih =>
    intro x3 x4 u hf K
    replace hf : B_V_netOwing_5 F M k0 x1 x2 (L_V_netOwing_5 F M k0 x1 x2 n) x3 x4 = some u := hf
    unfold B_V_netOwing_5 at hf
    refine x_iload C d_V_netOwing_5 4 rfl ?_
    refine x_aload_n C d_V_netOwing_7 0 rfl ?_
    refine xg_V_draftCount C wF_V_15 hm0 hk0 d_V_netOwing_8 ?_
    refine x_icmp_ge C 96 d_V_netOwing_11 (by decide) (fun g1 => ?_) (fun g1 => ?_)
    · replace hf := it g1 hf
      cases hf
      exact x_sub [3] rfl K
    · replace hf := ie g1 hf
      refine x_aload_n C d_V_netOwing_14 0 rfl ?_
      refine xg_V_drafts C wF_V_24 hm0 hk0 d_V_netOwing_15 ?_
      refine x_iload C d_V_netOwing_18 4 rfl ?_
      obtain ⟨z2, hz2, hf⟩ := bs hf
      refine x_aald2 C hz2 (m_V_drafts hk0) (k_V_drafts hk0) d_V_netOwing_20 ?_
      refine xg_D_sort C wF_V_72 (ma_D (k_V_drafts hk0) hz2) (ka_D (k_V_drafts hk0) hz2) d_V_netOwing_21 ?_
      refine x_iload_n C d_V_netOwing_24 2 rfl ?_
      refine x_icmp_ne C 90 d_V_netOwing_25 (by decide) (fun g3 => ?_) (fun g3 => ?_)
      · replace hf := ie g3 hf
        refine x_iinc (v := (x4 + 1)) (lv' := [(4, .int (x4 + 1)), (0, .ref (ad k0)), (1, .int x1), (2, .int x2), (3, .int x3)]) C d_V_netOwing_90 4 rfl rfl (by decide) rfl ?_
        refine x_goto C 5 d_V_netOwing_93 (by decide) ?_
        refine x_sub [1, 2, 3, 4, 0] rfl ?_
        exact ih _ _ _ hf K
      · replace hf := it g3 hf
        refine x_iload_n C d_V_netOwing_28 3 rfl ?_
        refine x_aload_n C d_V_netOwing_29 0 rfl ?_
        refine xg_V_drafts C wF_V_24 hm0 hk0 d_V_netOwing_30 ?_
        refine x_iload C d_V_netOwing_33 4 rfl ?_
        obtain ⟨z4, hz4, hf⟩ := bs hf
        refine x_aald2 C hz4 (m_V_drafts hk0) (k_V_drafts hk0) d_V_netOwing_35 ?_
        refine xg_D_who C wF_V_58 (ma_D (k_V_drafts hk0) hz4) (ka_D (k_V_drafts hk0) hz4) d_V_netOwing_36 ?_
        refine x_iload_n C d_V_netOwing_39 1 rfl ?_
        obtain ⟨j5, hj5, hf⟩ := bs hf
        have Jj5 : X p l e 0 s m args below meth c 5 D ad cs A LX V N M 57 [(0, .ref (ad k0)), (1, .int x1), (2, .int x2), (4, .int x4)] [.int j5, .int x3] := by
          refine x_iadd C d_V_netOwing_57 ?_
          refine x_istore_n (lv' := [(3, .int (x3 + j5)), (0, .ref (ad k0)), (1, .int x1), (2, .int x2), (4, .int x4)]) C d_V_netOwing_58 (by decide) rfl ?_
          refine x_iload_n C d_V_netOwing_59 0 rfl ?_
          refine x_aload_n C d_V_netOwing_60 1 rfl ?_
          refine xg_V_drafts C wF_V_24 hm0 hk0 d_V_netOwing_61 ?_
          refine x_iload C d_V_netOwing_64 4 rfl ?_
          obtain ⟨z6, hz6, hf⟩ := bs hf
          refine x_aald2 C hz6 (m_V_drafts hk0) (k_V_drafts hk0) d_V_netOwing_66 ?_
          refine xg_D_whom C wF_V_65 (ma_D (k_V_drafts hk0) hz6) (ka_D (k_V_drafts hk0) hz6) d_V_netOwing_67 ?_
          refine x_iload_n C d_V_netOwing_70 2 rfl ?_
          refine x_icmp_ne C 87 d_V_netOwing_71 (by decide) (fun g7 => ?_) (fun g7 => ?_)
          · replace hf := ie g7 hf
            refine x_iconst (v := 0) C d_V_netOwing_87 rfl ?_
            refine x_isub C d_V_netOwing_88 ?_
            refine x_istore_n (lv' := [(3, .int ((x3 + j5) - 0)), (0, .ref (ad k0)), (1, .int x1), (2, .int x2), (4, .int x4)]) C d_V_netOwing_89 (by decide) rfl ?_
            refine x_iinc (v := (x4 + 1)) (lv' := [(4, .int (x4 + 1)), (3, .int ((x3 + j5) - 0)), (0, .ref (ad k0)), (1, .int x1), (2, .int x2)]) C d_V_netOwing_90 4 rfl rfl (by decide) rfl ?_
            refine x_goto C 5 d_V_netOwing_93 (by decide) ?_
            refine x_sub [2, 3, 4, 1, 0] rfl ?_
            exact ih _ _ _ hf K
          · replace hf := it g7 hf
            refine x_aload_n C d_V_netOwing_74 1 rfl ?_
            refine xg_V_drafts C wF_V_24 hm0 hk0 d_V_netOwing_75 ?_
            refine x_iload C d_V_netOwing_78 4 rfl ?_
            obtain ⟨z8, hz8, hf⟩ := bs hf
            refine x_aald2 C hz8 (m_V_drafts hk0) (k_V_drafts hk0) d_V_netOwing_80 ?_
            refine xg_D_kisses C wF_V_78 (ma_D (k_V_drafts hk0) hz8) (ka_D (k_V_drafts hk0) hz8) d_V_netOwing_81 ?_
            refine x_goto C 88 d_V_netOwing_84 (by decide) ?_
            refine x_isub C d_V_netOwing_88 ?_
            refine x_istore_n (lv' := [(3, .int ((x3 + j5) - (M ((k0 + 2) + 1 + z8) 3))), (0, .ref (ad k0)), (1, .int x1), (2, .int x2), (4, .int x4)]) C d_V_netOwing_89 (by decide) rfl ?_
            refine x_iinc (v := (x4 + 1)) (lv' := [(4, .int (x4 + 1)), (3, .int ((x3 + j5) - (M ((k0 + 2) + 1 + z8) 3))), (0, .ref (ad k0)), (1, .int x1), (2, .int x2)]) C d_V_netOwing_90 4 rfl rfl (by decide) rfl ?_
            refine x_goto C 5 d_V_netOwing_93 (by decide) ?_
            refine x_sub [2, 3, 4, 1, 0] rfl ?_
            exact ih _ _ _ hf K
        replace hf := hj5
        refine x_icmp_ne C 56 d_V_netOwing_40 (by decide) (fun g9 => ?_) (fun g9 => ?_)
        · replace hf := ie g9 hf
          refine x_iconst (v := 0) C d_V_netOwing_56 rfl ?_
          cases hf
          exact x_sub [0, 1, 2, 4] rfl Jj5
        · replace hf := it g9 hf
          refine x_aload_n C d_V_netOwing_43 0 rfl ?_
          refine xg_V_drafts C wF_V_24 hm0 hk0 d_V_netOwing_44 ?_
          refine x_iload C d_V_netOwing_47 4 rfl ?_
          obtain ⟨z10, hz10, hf⟩ := bs hf
          refine x_aald2 C hz10 (m_V_drafts hk0) (k_V_drafts hk0) d_V_netOwing_49 ?_
          refine xg_D_kisses C wF_V_78 (ma_D (k_V_drafts hk0) hz10) (ka_D (k_V_drafts hk0) hz10) d_V_netOwing_50 ?_
          refine x_goto C 57 d_V_netOwing_53 (by decide) ?_
          cases hf
          exact x_sub [0, 1, 2, 4] rfl Jj5
set_option maxHeartbeats 4000000 in
set_option maxRecDepth 100000 in
theorem ct_V_netOwing {l : Launch} {D : va_G} {ad : Nat → Nat} {cs : Nat → ClassId} {A : Nat → Prop} (E : Ev ad cs A LX) (F : Nat) (M : Mem) (k0 : Nat) (x1 : Int32) (x2 : Int32) (R : Int32) (hm0 : k0 ∈ LX) (hk0 : kd k0 = 12) (hf : V_netOwing F M k0 x1 x2 = some R) : Met l y_V_netOwing (Cond.code y_V_netOwing b_V_netOwing 5 (some .int) :: wl) (rmD 0) (PX D ad cs A LX [.ref (ad k0), .int x1, .int x2] M) (QX D ad cs A LX (some (.int R)) M) 0 0 A := by
  refine x_enter (lv := [(0, .ref (ad k0)), (1, .int x1), (2, .int x2)]) E mi_V_netOwing.1 (Nat.le_of_ble_eq_true rfl) rfl (fun p e s m args below meth c C => ?_)
  unfold V_netOwing at hf
  refine x_iconst (v := 0) C d_V_netOwing_0 rfl ?_
  refine x_istore_n (lv' := [(3, .int 0), (0, .ref (ad k0)), (1, .int x1), (2, .int x2)]) C d_V_netOwing_1 (by decide) rfl ?_
  refine x_iconst (v := 0) C d_V_netOwing_2 rfl ?_
  refine x_istore (lv' := [(4, .int 0), (3, .int 0), (0, .ref (ad k0)), (1, .int x1), (2, .int x2)]) C d_V_netOwing_3 (by decide) rfl ?_
  obtain ⟨u11, hu11, hf⟩ := bs hf
  refine x_sub [2, 3, 4, 1, 0] rfl ?_
  refine lw_V_netOwing_5 E C F _ _ _ _ hm0 hk0 _ _ _ _ hu11 ?_
  refine x_iload_n C d_V_netOwing_96 0 rfl ?_
  cases hf
  exact x_iret C d_V_netOwing_97 rfl rfl
set_option maxHeartbeats 4000000 in
set_option maxRecDepth 100000 in
theorem lw_V_netTwo_5 {p : Program} {l : Launch} {e : Env} {s : State} {m : MethodId} {args : Array Value} {below : List Frame} {meth : Method} {c : Code} {D : va_G} {ad : Nat → Nat} {cs : Nat → ClassId} {A : Nat → Prop} {V : Option Value} {N : Mem} (E : Ev ad cs A LX) (C : Cx p s m args meth c "KissClearing$Village" b_V_netTwo 6 (some .int) D ad cs A LX) (F : Nat) (k0 : Nat) (x1 : Int32) (x2 : Int32) (hm0 : k0 ∈ LX) (hk0 : kd k0 = 12) : ∀ (n : Nat) (M : Mem) (x3 : Int32) (x4 : Int32) (u : (Int32 × Mem)), L_V_netTwo_5 F k0 x1 x2 n M x3 x4 = some u → X p l e 2 s m args below meth c 6 D ad cs A LX V N u.2 63 [(3, .int u.1)] [] → X p l e 2 s m args below meth c 6 D ad cs A LX V N M 5 [(0, .ref (ad k0)), (1, .int x1), (2, .int x2), (3, .int x3), (4, .int x4)] [] := by
  intro n
  induction n with
  | zero => intro M x3 x4 u hf; cases hf
  | succ n ih =>
    intro M x3 x4 u hf K
    replace hf : B_V_netTwo_5 F k0 x1 x2 (L_V_netTwo_5 F k0 x1 x2 n) M x3 x4 = some u := hf
    unfold B_V_netTwo_5 at hf
    refine x_iload C d_V_netTwo_5 4 rfl ?_
    refine x_iconst (v := 1) C d_V_netTwo_7 rfl ?_
    refine x_icmp_gt C 63 d_V_netTwo_8 (by decide) (fun g1 => ?_) (fun g1 => ?_)
    · replace hf := it g1 hf
      cases hf
      exact x_sub [3] rfl K
    · replace hf := ie g1 hf
      refine x_aload_n C d_V_netTwo_11 0 rfl ?_
      refine x_iload_n C d_V_netTwo_12 1 rfl ?_
      refine x_iload_n C d_V_netTwo_13 2 rfl ?_
      refine x_iload C d_V_netTwo_14 4 rfl ?_
      obtain ⟨c2, hc2, hf⟩ := bs hf
      refine x_callV (rest := []) (n := 3) C (ct_V_kissesBetween E F _ _ _ _ _ _ hm0 hk0 hc2) mi_V_kissesBetween (by decide) hm0 ⟨_, cel_V hk0⟩ rfl rfl wL_V_81 d_V_netTwo_16 rfl rfl (Nat.le_of_ble_eq_true rfl) ?_
      show X _ _ _ _ _ _ _ _ _ _ _ _ _ _ _ _ _ _ _ _ _ [.int c2]
      refine x_aload_n C d_V_netTwo_19 0 rfl ?_
      refine x_iload_n C d_V_netTwo_20 2 rfl ?_
      refine x_iload_n C d_V_netTwo_21 1 rfl ?_
      refine x_iload C d_V_netTwo_22 4 rfl ?_
      obtain ⟨c3, hc3, hf⟩ := bs hf
      refine x_callV (rest := [.int c2]) (n := 3) C (ct_V_kissesBetween E F _ _ _ _ _ _ hm0 hk0 hc3) mi_V_kissesBetween (by decide) hm0 ⟨_, cel_V hk0⟩ rfl rfl wL_V_81 d_V_netTwo_24 rfl rfl (Nat.le_of_ble_eq_true rfl) ?_
      show X _ _ _ _ _ _ _ _ _ _ _ _ _ _ _ _ _ _ _ _ _ [.int c3, .int c2]
      refine x_min C wL_V_85 (by decide) (Nat.le_of_ble_eq_true rfl) d_V_netTwo_27 ?_
      refine x_istore (lv' := [(5, .int (if c3 < c2 then c3 else c2)), (0, .ref (ad k0)), (1, .int x1), (2, .int x2), (3, .int x3), (4, .int x4)]) C d_V_netTwo_30 (by decide) rfl ?_
      refine x_aload_n C d_V_netTwo_32 1 rfl ?_
      refine x_iload_n C d_V_netTwo_33 2 rfl ?_
      refine x_iload_n C d_V_netTwo_34 3 rfl ?_
      refine x_iload C d_V_netTwo_35 5 rfl ?_
      refine x_iload C d_V_netTwo_37 0 rfl ?_
      obtain ⟨c4, hc4, hf⟩ := bs hf
      refine x_callV (rest := []) (n := 4) C (ct_V_lessen E F _ _ _ _ _ _ _ hm0 hk0 hc4) mi_V_lessen (by decide) hm0 ⟨_, cel_V hk0⟩ rfl rfl wL_V_91 d_V_netTwo_39 rfl rfl (Nat.le_of_ble_eq_true rfl) ?_
      show X _ _ _ _ _ _ _ _ _ _ _ _ _ _ _ _ _ _ _ _ _ []
      refine x_aload_n C d_V_netTwo_42 1 rfl ?_
      refine x_iload_n C d_V_netTwo_43 3 rfl ?_
      refine x_iload_n C d_V_netTwo_44 2 rfl ?_
      refine x_iload C d_V_netTwo_45 5 rfl ?_
      refine x_iload C d_V_netTwo_47 0 rfl ?_
      obtain ⟨c5, hc5, hf⟩ := bs hf
      refine x_callV (rest := []) (n := 4) C (ct_V_lessen E F _ _ _ _ _ _ _ hm0 hk0 hc5) mi_V_lessen (by decide) hm0 ⟨_, cel_V hk0⟩ rfl rfl wL_V_91 d_V_netTwo_49 rfl rfl (Nat.le_of_ble_eq_true rfl) ?_
      show X _ _ _ _ _ _ _ _ _ _ _ _ _ _ _ _ _ _ _ _ _ []
      refine x_iload_n C d_V_netTwo_52 4 rfl ?_
      refine x_iload C d_V_netTwo_53 0 rfl ?_
      refine x_iadd C d_V_netTwo_55 ?_
      refine x_istore_n (lv' := [(3, .int (x3 + (if c3 < c2 then c3 else c2))), (5, .int (if c3 < c2 then c3 else c2)), (0, .ref (ad k0)), (1, .int x1), (2, .int x2), (4, .int x4)]) C d_V_netTwo_56 (by decide) rfl ?_
      refine x_iinc (v := (x4 + 1)) (lv' := [(4, .int (x4 + 1)), (3, .int (x3 + (if c3 < c2 then c3 else c2))), (5, .int (if c3 < c2 then c3 else c2)), (0, .ref (ad k0)), (1, .int x1), (2, .int x2)]) C d_V_netTwo_57 5 rfl rfl (by decide) rfl ?_
      refine x_goto C 5 d_V_netTwo_60 (by decide) ?_
      refine x_sub [3, 4, 5, 1, 0] rfl ?_
      exact ih _ _ _ _ hf K
set_option maxHeartbeats 4000000 in
set_option maxRecDepth 100000 in
theorem ct_V_netTwo {l : Launch} {D : va_G} {ad : Nat → Nat} {cs : Nat → ClassId} {A : Nat → Prop} (E : Ev ad cs A LX) (F : Nat) (M : Mem) (k0 : Nat) (x1 : Int32) (x2 : Int32) (R : (Int32 × Mem)) (hm0 : k0 ∈ LX) (hk0 : kd k0 = 12) (hf : V_netTwo F M k0 x1 x2 = some R) : Met l y_V_netTwo (Cond.code y_V_netTwo b_V_netTwo 6 (some .int) :: wl) (rmD 2) (PX D ad cs A LX [.ref (ad k0), .int x1, .int x2] M) (QX D ad cs A LX (some (.int R.1)) R.2) 0 0 A := by
  refine x_enter (lv := [(0, .ref (ad k0)), (1, .int x1), (2, .int x2)]) E mi_V_netTwo.1 (Nat.le_of_ble_eq_true rfl) rfl (fun p e s m args below meth c C => ?_)
  unfold V_netTwo at hf
  refine x_iconst (v := 0) C d_V_netTwo_0 rfl ?_
  refine x_istore_n (lv' := [(3, .int 0), (0, .ref (ad k0)), (1, .int x1), (2, .int x2)]) C d_V_netTwo_1 (by decide) rfl ?_
  refine x_iconst (v := 0) C d_V_netTwo_2 rfl ?_
  refine x_istore (lv' := [(4, .int 0), (3, .int 0), (0, .ref (ad k0)), (1, .int x1), (2, .int x2)]) C d_V_netTwo_3 (by decide) rfl ?_
  obtain ⟨u6, hu6, hf⟩ := bs hf
  refine x_sub [2, 3, 4, 1, 0] rfl ?_
  refine lw_V_netTwo_5 E C F _ _ _ hm0 hk0 _ _ _ _ _ hu6 ?_
  refine x_iload_n C d_V_netTwo_63 0 rfl ?_
  cases hf
  exact x_iret C d_V_netTwo_64 rfl rfl
set_option maxHeartbeats 4000000 in
set_option maxRecDepth 100000 in
theorem lw_V_openDrafts_4 {p : Program} {l : Launch} {e : Env} {s : State} {m : MethodId} {args : Array Value} {below : List Frame} {meth : Method} {c : Code} {D : va_G} {ad : Nat → Nat} {cs : Nat → ClassId} {A : Nat → Prop} {V : Option Value} {N : Mem} (E : Ev ad cs A LX) (C : Cx p s m args meth c "KissClearing$Village" b_V_openDrafts 3 (some .int) D ad cs A LX) (F : Nat) (M : Mem) (k0 : Nat) (hm0 : k0 ∈ LX) (hk0 : kd k0 = 12) : ∀ (n : Nat) (x1 : Int32) (x2 : Int32) (u : Int32), L_V_openDrafts_4 F M k0 n x1 x2 = some u → X p l e 1 s m args below meth c 3 D ad cs A LX V N M 33 [(1, .int u)] [] → X p l e 1 s m args below meth c 3 D ad cs A LX V N M 4 [(0, .ref (ad k0)), (1, .int x1), (2, .int x2)] [] := by
  intro n
  induction n with
  | zero => intro x1 x2 u hf; cases hf
  | succ n ih =>
    intro x1 x2 u hf K
    replace hf : B_V_openDrafts_4 F M k0 (L_V_openDrafts_4 F M k0 n) x1 x2 = some u := hf
    unfold B_V_openDrafts_4 at hf
    refine x_iload_n C d_V_openDrafts_4 2 rfl ?_
    refine x_aload_n C d_V_openDrafts_5 0 rfl ?_
    refine xg_V_draftCount C wF_V_15 hm0 hk0 d_V_openDrafts_6 ?_
    refine x_icmp_ge C 33 d_V_openDrafts_9 (by decide) (fun g1 => ?_) (fun g1 => ?_)
    · replace hf := it g1 hf
      cases hf
      exact x_sub [1] rfl K
    · replace hf := ie g1 hf
      refine x_aload_n C d_V_openDrafts_12 0 rfl ?_
      refine xg_V_drafts C wF_V_24 hm0 hk0 d_V_openDrafts_13 ?_
      refine x_iload_n C d_V_openDrafts_16 2 rfl ?_
      obtain ⟨z2, hz2, hf⟩ := bs hf
      refine x_aald2 C hz2 (m_V_drafts hk0) (k_V_drafts hk0) d_V_openDrafts_17 ?_
      obtain ⟨c3, hc3, hf⟩ := bs hf
      refine x_callV (rest := []) (n := 0) C (ct_D_isOpen E F _ _ _ (ma_D (k_V_drafts hk0) hz2) (ka_D (k_V_drafts hk0) hz2) hc3) mi_D_isOpen (by decide) (ma_D (k_V_drafts hk0) hz2) ⟨_, cel_D (ka_D (k_V_drafts hk0) hz2)⟩ rfl rfl wL_V_68 d_V_openDrafts_18 rfl rfl (Nat.le_of_ble_eq_true rfl) ?_
      show X _ _ _ _ _ _ _ _ _ _ _ _ _ _ _ _ _ _ _ _ _ [.int c3]
      refine x_if_eq C 27 d_V_openDrafts_21 (by decide) (fun g4 => ?_) (fun g4 => ?_)
      · replace hf := it g4 hf
        refine x_iinc (v := (x2 + 1)) (lv' := [(2, .int (x2 + 1)), (0, .ref (ad k0)), (1, .int x1)]) C d_V_openDrafts_27 2 rfl rfl (by decide) rfl ?_
        refine x_goto C 4 d_V_openDrafts_30 (by decide) ?_
        refine x_sub [1, 2, 0] rfl ?_
        exact ih _ _ _ hf K
      · replace hf := ie g4 hf
        refine x_iinc (v := (x1 + 1)) (lv' := [(1, .int (x1 + 1)), (0, .ref (ad k0)), (2, .int x2)]) C d_V_openDrafts_24 1 rfl rfl (by decide) rfl ?_
        refine x_iinc (v := (x2 + 1)) (lv' := [(2, .int (x2 + 1)), (1, .int (x1 + 1)), (0, .ref (ad k0))]) C d_V_openDrafts_27 2 rfl rfl (by decide) rfl ?_
        refine x_goto C 4 d_V_openDrafts_30 (by decide) ?_
        refine x_sub [2, 1, 0] rfl ?_
        exact ih _ _ _ hf K
set_option maxHeartbeats 4000000 in
set_option maxRecDepth 100000 in
theorem ct_V_openDrafts {l : Launch} {D : va_G} {ad : Nat → Nat} {cs : Nat → ClassId} {A : Nat → Prop} (E : Ev ad cs A LX) (F : Nat) (M : Mem) (k0 : Nat) (R : Int32) (hm0 : k0 ∈ LX) (hk0 : kd k0 = 12) (hf : V_openDrafts F M k0 = some R) : Met l y_V_openDrafts (Cond.code y_V_openDrafts b_V_openDrafts 3 (some .int) :: wl) (rmD 1) (PX D ad cs A LX [.ref (ad k0)] M) (QX D ad cs A LX (some (.int R)) M) 0 0 A := by
  refine x_enter (lv := [(0, .ref (ad k0))]) E mi_V_openDrafts.1 (Nat.le_of_ble_eq_true rfl) rfl (fun p e s m args below meth c C => ?_)
  unfold V_openDrafts at hf
  refine x_iconst (v := 0) C d_V_openDrafts_0 rfl ?_
  refine x_istore_n (lv' := [(1, .int 0), (0, .ref (ad k0))]) C d_V_openDrafts_1 (by decide) rfl ?_
  refine x_iconst (v := 0) C d_V_openDrafts_2 rfl ?_
  refine x_istore_n (lv' := [(2, .int 0), (1, .int 0), (0, .ref (ad k0))]) C d_V_openDrafts_3 (by decide) rfl ?_
  obtain ⟨u5, hu5, hf⟩ := bs hf
  refine x_sub [2, 1, 0] rfl ?_
  refine lw_V_openDrafts_4 E C F _ _ hm0 hk0 _ _ _ _ hu5 ?_
  refine x_iload_n C d_V_openDrafts_33 0 rfl ?_
  cases hf
  exact x_iret C d_V_openDrafts_34 rfl rfl
set_option maxHeartbeats 4000000 in
set_option maxRecDepth 100000 in
theorem lw_V_openOn_4 {p : Program} {l : Launch} {e : Env} {s : State} {m : MethodId} {args : Array Value} {below : List Frame} {meth : Method} {c : Code} {D : va_G} {ad : Nat → Nat} {cs : Nat → ClassId} {A : Nat → Prop} {V : Option Value} {N : Mem} (E : Ev ad cs A LX) (C : Cx p s m args meth c "KissClearing$Village" b_V_openOn 4 (some .int) D ad cs A LX) (F : Nat) (M : Mem) (k0 : Nat) (x1 : Int32) (hm0 : k0 ∈ LX) (hk0 : kd k0 = 12) : ∀ (n : Nat) (x2 : Int32) (x3 : Int32) (u : Int32), L_V_openOn_4 F M k0 x1 n x2 x3 = some u → X p l e 1 s m args below meth c 4 D ad cs A LX V N M 46 [(2, .int u)] [] → X p l e 1 s m args below meth c 4 D ad cs A LX V N M 4 [(0, .ref (ad k0)), (1, .int x1), (2, .int x2), (3, .int x3)] [] := by
  intro n
  induction n with
  | zero => intro x2 x3 u hf; cases hf
  | succ n ih =>
    intro x2 x3 u hf K
    replace hf : B_V_openOn_4 F M k0 x1 (L_V_openOn_4 F M k0 x1 n) x2 x3 = some u := hf
    unfold B_V_openOn_4 at hf
    refine x_iload_n C d_V_openOn_4 3 rfl ?_
    refine x_aload_n C d_V_openOn_5 0 rfl ?_
    refine xg_V_draftCount C wF_V_15 hm0 hk0 d_V_openOn_6 ?_
    refine x_icmp_ge C 46 d_V_openOn_9 (by decide) (fun g1 => ?_) (fun g1 => ?_)
    · replace hf := it g1 hf
      cases hf
      exact x_sub [2] rfl K
    · replace hf := ie g1 hf
      refine x_aload_n C d_V_openOn_12 0 rfl ?_
      refine xg_V_drafts C wF_V_24 hm0 hk0 d_V_openOn_13 ?_
      refine x_iload_n C d_V_openOn_16 3 rfl ?_
      obtain ⟨z2, hz2, hf⟩ := bs hf
      refine x_aald2 C hz2 (m_V_drafts hk0) (k_V_drafts hk0) d_V_openOn_17 ?_
      obtain ⟨c3, hc3, hf⟩ := bs hf
      refine x_callV (rest := []) (n := 0) C (ct_D_isOpen E F _ _ _ (ma_D (k_V_drafts hk0) hz2) (ka_D (k_V_drafts hk0) hz2) hc3) mi_D_isOpen (by decide) (ma_D (k_V_drafts hk0) hz2) ⟨_, cel_D (ka_D (k_V_drafts hk0) hz2)⟩ rfl rfl wL_V_68 d_V_openOn_18 rfl rfl (Nat.le_of_ble_eq_true rfl) ?_
      show X _ _ _ _ _ _ _ _ _ _ _ _ _ _ _ _ _ _ _ _ _ [.int c3]
      refine x_if_eq C 40 d_V_openOn_21 (by decide) (fun g4 => ?_) (fun g4 => ?_)
      · replace hf := it g4 hf
        refine x_iinc (v := (x3 + 1)) (lv' := [(3, .int (x3 + 1)), (0, .ref (ad k0)), (1, .int x1), (2, .int x2)]) C d_V_openOn_40 3 rfl rfl (by decide) rfl ?_
        refine x_goto C 4 d_V_openOn_43 (by decide) ?_
        refine x_sub [1, 2, 3, 0] rfl ?_
        exact ih _ _ _ hf K
      · replace hf := ie g4 hf
        refine x_aload_n C d_V_openOn_24 0 rfl ?_
        refine xg_V_drafts C wF_V_24 hm0 hk0 d_V_openOn_25 ?_
        refine x_iload_n C d_V_openOn_28 3 rfl ?_
        obtain ⟨z5, hz5, hf⟩ := bs hf
        refine x_aald2 C hz5 (m_V_drafts hk0) (k_V_drafts hk0) d_V_openOn_29 ?_
        refine xg_D_who C wF_V_58 (ma_D (k_V_drafts hk0) hz5) (ka_D (k_V_drafts hk0) hz5) d_V_openOn_30 ?_
        refine x_iload_n C d_V_openOn_33 1 rfl ?_
        refine x_icmp_ne C 40 d_V_openOn_34 (by decide) (fun g6 => ?_) (fun g6 => ?_)
        · replace hf := ie g6 hf
          refine x_iinc (v := (x3 + 1)) (lv' := [(3, .int (x3 + 1)), (0, .ref (ad k0)), (1, .int x1), (2, .int x2)]) C d_V_openOn_40 3 rfl rfl (by decide) rfl ?_
          refine x_goto C 4 d_V_openOn_43 (by decide) ?_
          refine x_sub [1, 2, 3, 0] rfl ?_
          exact ih _ _ _ hf K
        · replace hf := it g6 hf
          refine x_iinc (v := (x2 + 1)) (lv' := [(2, .int (x2 + 1)), (0, .ref (ad k0)), (1, .int x1), (3, .int x3)]) C d_V_openOn_37 2 rfl rfl (by decide) rfl ?_
          refine x_iinc (v := (x3 + 1)) (lv' := [(3, .int (x3 + 1)), (2, .int (x2 + 1)), (0, .ref (ad k0)), (1, .int x1)]) C d_V_openOn_40 3 rfl rfl (by decide) rfl ?_
          refine x_goto C 4 d_V_openOn_43 (by decide) ?_
          refine x_sub [2, 3, 1, 0] rfl ?_
          exact ih _ _ _ hf K
set_option maxHeartbeats 4000000 in
set_option maxRecDepth 100000 in
theorem ct_V_openOn {l : Launch} {D : va_G} {ad : Nat → Nat} {cs : Nat → ClassId} {A : Nat → Prop} (E : Ev ad cs A LX) (F : Nat) (M : Mem) (k0 : Nat) (x1 : Int32) (R : Int32) (hm0 : k0 ∈ LX) (hk0 : kd k0 = 12) (hf : V_openOn F M k0 x1 = some R) : Met l y_V_openOn (Cond.code y_V_openOn b_V_openOn 4 (some .int) :: wl) (rmD 1) (PX D ad cs A LX [.ref (ad k0), .int x1] M) (QX D ad cs A LX (some (.int R)) M) 0 0 A := by
  refine x_enter (lv := [(0, .ref (ad k0)), (1, .int x1)]) E mi_V_openOn.1 (Nat.le_of_ble_eq_true rfl) rfl (fun p e s m args below meth c C => ?_)
  unfold V_openOn at hf
  refine x_iconst (v := 0) C d_V_openOn_0 rfl ?_
  refine x_istore_n (lv' := [(2, .int 0), (0, .ref (ad k0)), (1, .int x1)]) C d_V_openOn_1 (by decide) rfl ?_
  refine x_iconst (v := 0) C d_V_openOn_2 rfl ?_
  refine x_istore_n (lv' := [(3, .int 0), (2, .int 0), (0, .ref (ad k0)), (1, .int x1)]) C d_V_openOn_3 (by decide) rfl ?_
  obtain ⟨u7, hu7, hf⟩ := bs hf
  refine x_sub [2, 3, 1, 0] rfl ?_
  refine lw_V_openOn_4 E C F _ _ _ hm0 hk0 _ _ _ _ hu7 ?_
  refine x_iload_n C d_V_openOn_46 0 rfl ?_
  cases hf
  exact x_iret C d_V_openOn_47 rfl rfl
set_option maxHeartbeats 4000000 in
set_option maxRecDepth 100000 in
theorem lw_V_openOwedTo_4 {p : Program} {l : Launch} {e : Env} {s : State} {m : MethodId} {args : Array Value} {below : List Frame} {meth : Method} {c : Code} {D : va_G} {ad : Nat → Nat} {cs : Nat → ClassId} {A : Nat → Prop} {V : Option Value} {N : Mem} (E : Ev ad cs A LX) (C : Cx p s m args meth c "KissClearing$Village" b_V_openOwedTo 4 (some .int) D ad cs A LX) (F : Nat) (M : Mem) (k0 : Nat) (x1 : Int32) (hm0 : k0 ∈ LX) (hk0 : kd k0 = 12) : ∀ (n : Nat) (x2 : Int32) (x3 : Int32) (u : Int32), L_V_openOwedTo_4 F M k0 x1 n x2 x3 = some u → X p l e 1 s m args below meth c 4 D ad cs A LX V N M 46 [(2, .int u)] [] → X p l e 1 s m args below meth c 4 D ad cs A LX V N M 4 [(0, .ref (ad k0)), (1, .int x1), (2, .int x2), (3, .int x3)] [] := by
  intro n
  induction n with
  | zero => intro x2 x3 u hf; cases hf
  | succ n ih =>
    intro x2 x3 u hf K
    replace hf : B_V_openOwedTo_4 F M k0 x1 (L_V_openOwedTo_4 F M k0 x1 n) x2 x3 = some u := hf
    unfold B_V_openOwedTo_4 at hf
    refine x_iload_n C d_V_openOwedTo_4 3 rfl ?_
    refine x_aload_n C d_V_openOwedTo_5 0 rfl ?_
    refine xg_V_draftCount C wF_V_15 hm0 hk0 d_V_openOwedTo_6 ?_
    refine x_icmp_ge C 46 d_V_openOwedTo_9 (by decide) (fun g1 => ?_) (fun g1 => ?_)
    · replace hf := it g1 hf
      cases hf
      exact x_sub [2] rfl K
    · replace hf := ie g1 hf
      refine x_aload_n C d_V_openOwedTo_12 0 rfl ?_
      refine xg_V_drafts C wF_V_24 hm0 hk0 d_V_openOwedTo_13 ?_
      refine x_iload_n C d_V_openOwedTo_16 3 rfl ?_
      obtain ⟨z2, hz2, hf⟩ := bs hf
      refine x_aald2 C hz2 (m_V_drafts hk0) (k_V_drafts hk0) d_V_openOwedTo_17 ?_
      obtain ⟨c3, hc3, hf⟩ := bs hf
      refine x_callV (rest := []) (n := 0) C (ct_D_isOpen E F _ _ _ (ma_D (k_V_drafts hk0) hz2) (ka_D (k_V_drafts hk0) hz2) hc3) mi_D_isOpen (by decide) (ma_D (k_V_drafts hk0) hz2) ⟨_, cel_D (ka_D (k_V_drafts hk0) hz2)⟩ rfl rfl wL_V_68 d_V_openOwedTo_18 rfl rfl (Nat.le_of_ble_eq_true rfl) ?_
      show X _ _ _ _ _ _ _ _ _ _ _ _ _ _ _ _ _ _ _ _ _ [.int c3]
      refine x_if_eq C 40 d_V_openOwedTo_21 (by decide) (fun g4 => ?_) (fun g4 => ?_)
      · replace hf := it g4 hf
        refine x_iinc (v := (x3 + 1)) (lv' := [(3, .int (x3 + 1)), (0, .ref (ad k0)), (1, .int x1), (2, .int x2)]) C d_V_openOwedTo_40 3 rfl rfl (by decide) rfl ?_
        refine x_goto C 4 d_V_openOwedTo_43 (by decide) ?_
        refine x_sub [1, 2, 3, 0] rfl ?_
        exact ih _ _ _ hf K
      · replace hf := ie g4 hf
        refine x_aload_n C d_V_openOwedTo_24 0 rfl ?_
        refine xg_V_drafts C wF_V_24 hm0 hk0 d_V_openOwedTo_25 ?_
        refine x_iload_n C d_V_openOwedTo_28 3 rfl ?_
        obtain ⟨z5, hz5, hf⟩ := bs hf
        refine x_aald2 C hz5 (m_V_drafts hk0) (k_V_drafts hk0) d_V_openOwedTo_29 ?_
        refine xg_D_whom C wF_V_65 (ma_D (k_V_drafts hk0) hz5) (ka_D (k_V_drafts hk0) hz5) d_V_openOwedTo_30 ?_
        refine x_iload_n C d_V_openOwedTo_33 1 rfl ?_
        refine x_icmp_ne C 40 d_V_openOwedTo_34 (by decide) (fun g6 => ?_) (fun g6 => ?_)
        · replace hf := ie g6 hf
          refine x_iinc (v := (x3 + 1)) (lv' := [(3, .int (x3 + 1)), (0, .ref (ad k0)), (1, .int x1), (2, .int x2)]) C d_V_openOwedTo_40 3 rfl rfl (by decide) rfl ?_
          refine x_goto C 4 d_V_openOwedTo_43 (by decide) ?_
          refine x_sub [1, 2, 3, 0] rfl ?_
          exact ih _ _ _ hf K
        · replace hf := it g6 hf
          refine x_iinc (v := (x2 + 1)) (lv' := [(2, .int (x2 + 1)), (0, .ref (ad k0)), (1, .int x1), (3, .int x3)]) C d_V_openOwedTo_37 2 rfl rfl (by decide) rfl ?_
          refine x_iinc (v := (x3 + 1)) (lv' := [(3, .int (x3 + 1)), (2, .int (x2 + 1)), (0, .ref (ad k0)), (1, .int x1)]) C d_V_openOwedTo_40 3 rfl rfl (by decide) rfl ?_
          refine x_goto C 4 d_V_openOwedTo_43 (by decide) ?_
          refine x_sub [2, 3, 1, 0] rfl ?_
          exact ih _ _ _ hf K
set_option maxHeartbeats 4000000 in
set_option maxRecDepth 100000 in
theorem ct_V_openOwedTo {l : Launch} {D : va_G} {ad : Nat → Nat} {cs : Nat → ClassId} {A : Nat → Prop} (E : Ev ad cs A LX) (F : Nat) (M : Mem) (k0 : Nat) (x1 : Int32) (R : Int32) (hm0 : k0 ∈ LX) (hk0 : kd k0 = 12) (hf : V_openOwedTo F M k0 x1 = some R) : Met l y_V_openOwedTo (Cond.code y_V_openOwedTo b_V_openOwedTo 4 (some .int) :: wl) (rmD 1) (PX D ad cs A LX [.ref (ad k0), .int x1] M) (QX D ad cs A LX (some (.int R)) M) 0 0 A := by
  refine x_enter (lv := [(0, .ref (ad k0)), (1, .int x1)]) E mi_V_openOwedTo.1 (Nat.le_of_ble_eq_true rfl) rfl (fun p e s m args below meth c C => ?_)
  unfold V_openOwedTo at hf
  refine x_iconst (v := 0) C d_V_openOwedTo_0 rfl ?_
  refine x_istore_n (lv' := [(2, .int 0), (0, .ref (ad k0)), (1, .int x1)]) C d_V_openOwedTo_1 (by decide) rfl ?_
  refine x_iconst (v := 0) C d_V_openOwedTo_2 rfl ?_
  refine x_istore_n (lv' := [(3, .int 0), (2, .int 0), (0, .ref (ad k0)), (1, .int x1)]) C d_V_openOwedTo_3 (by decide) rfl ?_
  obtain ⟨u7, hu7, hf⟩ := bs hf
  refine x_sub [2, 3, 1, 0] rfl ?_
  refine lw_V_openOwedTo_4 E C F _ _ _ hm0 hk0 _ _ _ _ hu7 ?_
  refine x_iload_n C d_V_openOwedTo_46 0 rfl ?_
  cases hf
  exact x_iret C d_V_openOwedTo_47 rfl rfl
set_option maxHeartbeats 4000000 in
set_option maxRecDepth 100000 in
theorem lw_V_owedByAny_4 {p : Program} {l : Launch} {e : Env} {s : State} {m : MethodId} {args : Array Value} {below : List Frame} {meth : Method} {c : Code} {D : va_G} {ad : Nat → Nat} {cs : Nat → ClassId} {A : Nat → Prop} {V : Option Value} {N : Mem} (E : Ev ad cs A LX) (C : Cx p s m args meth c "KissClearing$Village" b_V_owedByAny 4 (some .int) D ad cs A LX) (F : Nat) (M : Mem) (k0 : Nat) (x1 : Int32) (hm0 : k0 ∈ LX) (hk0 : kd k0 = 12) : ∀ (n : Nat) (x2 : Int32) (x3 : Int32) (u : Int32), L_V_owedByAny_4 F M k0 x1 n x2 x3 = some u → X p l e 1 s m args below meth c 4 D ad cs A LX V N M 60 [(2, .int u)] [] → X p l e 1 s m args below meth c 4 D ad cs A LX V N M 4 [(0, .ref (ad k0)), (1, .int x1), (2, .int x2), (3, .int x3)] [] := by
  intro n
  induction n with
  | zero => intro x2 x3 u hf; cases hf
  | succ n ih =>
    intro x2 x3 u hf K
    replace hf : B_V_owedByAny_4 F M k0 x1 (L_V_owedByAny_4 F M k0 x1 n) x2 x3 = some u := hf
    unfold B_V_owedByAny_4 at hf
    refine x_iload_n C d_V_owedByAny_4 3 rfl ?_
    refine x_aload_n C d_V_owedByAny_5 0 rfl ?_
    refine xg_V_draftCount C wF_V_15 hm0 hk0 d_V_owedByAny_6 ?_
    refine x_icmp_ge C 60 d_V_owedByAny_9 (by decide) (fun g1 => ?_) (fun g1 => ?_)
    · replace hf := it g1 hf
      cases hf
      exact x_sub [2] rfl K
    · replace hf := ie g1 hf
      refine x_aload_n C d_V_owedByAny_12 0 rfl ?_
      refine xg_V_drafts C wF_V_24 hm0 hk0 d_V_owedByAny_13 ?_
      refine x_iload_n C d_V_owedByAny_16 3 rfl ?_
      obtain ⟨z2, hz2, hf⟩ := bs hf
      refine x_aald2 C hz2 (m_V_drafts hk0) (k_V_drafts hk0) d_V_owedByAny_17 ?_
      obtain ⟨c3, hc3, hf⟩ := bs hf
      refine x_callV (rest := []) (n := 0) C (ct_D_isOpen E F _ _ _ (ma_D (k_V_drafts hk0) hz2) (ka_D (k_V_drafts hk0) hz2) hc3) mi_D_isOpen (by decide) (ma_D (k_V_drafts hk0) hz2) ⟨_, cel_D (ka_D (k_V_drafts hk0) hz2)⟩ rfl rfl wL_V_68 d_V_owedByAny_18 rfl rfl (Nat.le_of_ble_eq_true rfl) ?_
      show X _ _ _ _ _ _ _ _ _ _ _ _ _ _ _ _ _ _ _ _ _ [.int c3]
      refine x_if_eq C 54 d_V_owedByAny_21 (by decide) (fun g4 => ?_) (fun g4 => ?_)
      · replace hf := it g4 hf
        refine x_iinc (v := (x3 + 1)) (lv' := [(3, .int (x3 + 1)), (0, .ref (ad k0)), (1, .int x1), (2, .int x2)]) C d_V_owedByAny_54 3 rfl rfl (by decide) rfl ?_
        refine x_goto C 4 d_V_owedByAny_57 (by decide) ?_
        refine x_sub [1, 2, 3, 0] rfl ?_
        exact ih _ _ _ hf K
      · replace hf := ie g4 hf
        refine x_iload_n C d_V_owedByAny_24 1 rfl ?_
        refine x_iconst (v := 1) C d_V_owedByAny_25 rfl ?_
        refine x_aload_n C d_V_owedByAny_26 0 rfl ?_
        refine xg_V_drafts C wF_V_24 hm0 hk0 d_V_owedByAny_27 ?_
        refine x_iload_n C d_V_owedByAny_30 3 rfl ?_
        obtain ⟨z5, hz5, hf⟩ := bs hf
        refine x_aald2 C hz5 (m_V_drafts hk0) (k_V_drafts hk0) d_V_owedByAny_31 ?_
        refine xg_D_who C wF_V_58 (ma_D (k_V_drafts hk0) hz5) (ka_D (k_V_drafts hk0) hz5) d_V_owedByAny_32 ?_
        refine x_ishl C d_V_owedByAny_35 ?_
        refine x_iand C d_V_owedByAny_36 ?_
        refine x_if_eq C 54 d_V_owedByAny_37 (by decide) (fun g6 => ?_) (fun g6 => ?_)
        · replace hf := it g6 hf
          refine x_iinc (v := (x3 + 1)) (lv' := [(3, .int (x3 + 1)), (0, .ref (ad k0)), (1, .int x1), (2, .int x2)]) C d_V_owedByAny_54 3 rfl rfl (by decide) rfl ?_
          refine x_goto C 4 d_V_owedByAny_57 (by decide) ?_
          refine x_sub [1, 2, 3, 0] rfl ?_
          exact ih _ _ _ hf K
        · replace hf := ie g6 hf
          refine x_iload_n C d_V_owedByAny_40 2 rfl ?_
          refine x_iconst (v := 1) C d_V_owedByAny_41 rfl ?_
          refine x_aload_n C d_V_owedByAny_42 0 rfl ?_
          refine xg_V_drafts C wF_V_24 hm0 hk0 d_V_owedByAny_43 ?_
          refine x_iload_n C d_V_owedByAny_46 3 rfl ?_
          obtain ⟨z7, hz7, hf⟩ := bs hf
          refine x_aald2 C hz7 (m_V_drafts hk0) (k_V_drafts hk0) d_V_owedByAny_47 ?_
          refine xg_D_whom C wF_V_65 (ma_D (k_V_drafts hk0) hz7) (ka_D (k_V_drafts hk0) hz7) d_V_owedByAny_48 ?_
          refine x_ishl C d_V_owedByAny_51 ?_
          refine x_ior C d_V_owedByAny_52 ?_
          refine x_istore_n (lv' := [(2, .int (x2 ||| (1 <<< ((M ((k0 + 2) + 1 + z7) 1) &&& 31)))), (0, .ref (ad k0)), (1, .int x1), (3, .int x3)]) C d_V_owedByAny_53 (by decide) rfl ?_
          refine x_iinc (v := (x3 + 1)) (lv' := [(3, .int (x3 + 1)), (2, .int (x2 ||| (1 <<< ((M ((k0 + 2) + 1 + z7) 1) &&& 31)))), (0, .ref (ad k0)), (1, .int x1)]) C d_V_owedByAny_54 3 rfl rfl (by decide) rfl ?_
          refine x_goto C 4 d_V_owedByAny_57 (by decide) ?_
          refine x_sub [2, 3, 1, 0] rfl ?_
          exact ih _ _ _ hf K
set_option maxHeartbeats 4000000 in
set_option maxRecDepth 100000 in
theorem ct_V_owedByAny {l : Launch} {D : va_G} {ad : Nat → Nat} {cs : Nat → ClassId} {A : Nat → Prop} (E : Ev ad cs A LX) (F : Nat) (M : Mem) (k0 : Nat) (x1 : Int32) (R : Int32) (hm0 : k0 ∈ LX) (hk0 : kd k0 = 12) (hf : V_owedByAny F M k0 x1 = some R) : Met l y_V_owedByAny (Cond.code y_V_owedByAny b_V_owedByAny 4 (some .int) :: wl) (rmD 1) (PX D ad cs A LX [.ref (ad k0), .int x1] M) (QX D ad cs A LX (some (.int R)) M) 0 0 A := by
  refine x_enter (lv := [(0, .ref (ad k0)), (1, .int x1)]) E mi_V_owedByAny.1 (Nat.le_of_ble_eq_true rfl) rfl (fun p e s m args below meth c C => ?_)
  unfold V_owedByAny at hf
  refine x_iconst (v := 0) C d_V_owedByAny_0 rfl ?_
  refine x_istore_n (lv' := [(2, .int 0), (0, .ref (ad k0)), (1, .int x1)]) C d_V_owedByAny_1 (by decide) rfl ?_
  refine x_iconst (v := 0) C d_V_owedByAny_2 rfl ?_
  refine x_istore_n (lv' := [(3, .int 0), (2, .int 0), (0, .ref (ad k0)), (1, .int x1)]) C d_V_owedByAny_3 (by decide) rfl ?_
  obtain ⟨u8, hu8, hf⟩ := bs hf
  refine x_sub [2, 3, 1, 0] rfl ?_
  refine lw_V_owedByAny_4 E C F _ _ _ hm0 hk0 _ _ _ _ hu8 ?_
  refine x_iload_n C d_V_owedByAny_60 0 rfl ?_
  cases hf
  exact x_iret C d_V_owedByAny_61 rfl rfl
set_option maxHeartbeats 4000000 in
set_option maxRecDepth 100000 in
theorem lw_V_passWeek_4 {p : Program} {l : Launch} {e : Env} {s : State} {m : MethodId} {args : Array Value} {below : List Frame} {meth : Method} {c : Code} {D : va_G} {ad : Nat → Nat} {cs : Nat → ClassId} {A : Nat → Prop} {V : Option Value} {N : Mem} (E : Ev ad cs A LX) (C : Cx p s m args meth c "KissClearing$Village" b_V_passWeek 4 (some .int) D ad cs A LX) (F : Nat) (k0 : Nat) (hm0 : k0 ∈ LX) (hk0 : kd k0 = 12) : ∀ (n : Nat) (M : Mem) (x1 : Int32) (x2 : Int32) (u : (Int32 × Mem)), L_V_passWeek_4 F k0 n M x1 x2 = some u → X p l e 3 s m args below meth c 4 D ad cs A LX V N u.2 92 [(1, .int u.1)] [] → X p l e 3 s m args below meth c 4 D ad cs A LX V N M 4 [(0, .ref (ad k0)), (1, .int x1), (2, .int x2)] [] := by
  intro n
  induction n with
  | zero => intro M x1 x2 u hf; cases hf
  | succ n ih =>
    intro M x1 x2 u hf K
    replace hf : B_V_passWeek_4 F k0 (L_V_passWeek_4 F k0 n) M x1 x2 = some u := hf
    unfold B_V_passWeek_4 at hf
    refine x_iload_n C d_V_passWeek_4 2 rfl ?_
    refine x_aload_n C d_V_passWeek_5 0 rfl ?_
    refine xg_V_draftCount C wF_V_15 hm0 hk0 d_V_passWeek_6 ?_
    refine x_icmp_ge C 92 d_V_passWeek_9 (by decide) (fun g1 => ?_) (fun g1 => ?_)
    · replace hf := it g1 hf
      cases hf
      exact x_sub [1] rfl K
    · replace hf := ie g1 hf
      refine x_aload_n C d_V_passWeek_12 0 rfl ?_
      refine xg_V_drafts C wF_V_24 hm0 hk0 d_V_passWeek_13 ?_
      refine x_iload_n C d_V_passWeek_16 2 rfl ?_
      obtain ⟨z2, hz2, hf⟩ := bs hf
      refine x_aald2 C hz2 (m_V_drafts hk0) (k_V_drafts hk0) d_V_passWeek_17 ?_
      refine x_astore_n (lv' := [(3, .ref (ad ((k0 + 2) + 1 + z2))), (0, .ref (ad k0)), (1, .int x1), (2, .int x2)]) C d_V_passWeek_18 (by decide) rfl ?_
      refine x_aload_n C d_V_passWeek_19 0 rfl ?_
      obtain ⟨c3, hc3, hf⟩ := bs hf
      refine x_callV (rest := []) (n := 0) C (ct_D_isOpen E F _ _ _ (ma_D (k_V_drafts hk0) hz2) (ka_D (k_V_drafts hk0) hz2) hc3) mi_D_isOpen (by decide) (ma_D (k_V_drafts hk0) hz2) ⟨_, cel_D (ka_D (k_V_drafts hk0) hz2)⟩ rfl rfl wL_V_68 d_V_passWeek_20 rfl rfl (Nat.le_of_ble_eq_true rfl) ?_
      show X _ _ _ _ _ _ _ _ _ _ _ _ _ _ _ _ _ _ _ _ _ [.int c3]
      refine x_if_eq C 86 d_V_passWeek_23 (by decide) (fun g4 => ?_) (fun g4 => ?_)
      · replace hf := it g4 hf
        refine x_iinc (v := (x2 + 1)) (lv' := [(2, .int (x2 + 1)), (3, .ref (ad ((k0 + 2) + 1 + z2))), (0, .ref (ad k0)), (1, .int x1)]) C d_V_passWeek_86 3 rfl rfl (by decide) rfl ?_
        refine x_goto C 4 d_V_passWeek_89 (by decide) ?_
        refine x_sub [2, 3, 0] rfl ?_
        exact ih _ _ _ _ hf K
      · replace hf := ie g4 hf
        refine x_aload_n C d_V_passWeek_26 0 rfl ?_
        refine x_dup C d_V_passWeek_27 rfl ?_
        refine xg_D_weeks C wF_V_75 (ma_D (k_V_drafts hk0) hz2) (ka_D (k_V_drafts hk0) hz2) d_V_passWeek_28 ?_
        refine x_iconst (v := 1) C d_V_passWeek_31 rfl ?_
        refine x_iadd C d_V_passWeek_32 ?_
        refine xp_D_weeks (x := ((M ((k0 + 2) + 1 + z2) 4) + 1)) C wF_V_75 (ma_D (k_V_drafts hk0) hz2) (ka_D (k_V_drafts hk0) hz2) d_V_passWeek_33 ?_
        refine x_aload_n C d_V_passWeek_36 0 rfl ?_
        refine x_bipush (v := 99) C d_V_passWeek_37 rfl ?_
        refine x_aload_n C d_V_passWeek_39 0 rfl ?_
        refine xg_D_kisses C wF_V_78 (ma_D (k_V_drafts hk0) hz2) (ka_D (k_V_drafts hk0) hz2) d_V_passWeek_40 ?_
        refine x_aload_n C d_V_passWeek_43 1 rfl ?_
        refine x_aload_n C d_V_passWeek_44 0 rfl ?_
        refine xg_D_whom C wF_V_65 (ma_D (k_V_drafts hk0) hz2) (ka_D (k_V_drafts hk0) hz2) d_V_passWeek_45 ?_
        obtain ⟨c5, hc5, hf⟩ := bs hf
        refine x_callV (rest := [.int ((up M ((k0 + 2) + 1 + z2) 4 ((M ((k0 + 2) + 1 + z2) 4) + 1)) ((k0 + 2) + 1 + z2) 3), .int 99, .ref (ad ((k0 + 2) + 1 + z2))]) (n := 1) C (ct_V_growthFor E F _ _ _ _ hm0 hk0 hc5) mi_V_growthFor (by decide) hm0 ⟨_, cel_V hk0⟩ rfl rfl wL_V_104 d_V_passWeek_48 rfl rfl (Nat.le_of_ble_eq_true rfl) ?_
        show X _ _ _ _ _ _ _ _ _ _ _ _ _ _ _ _ _ _ _ _ _ [.int c5, .int ((up M ((k0 + 2) + 1 + z2) 4 ((M ((k0 + 2) + 1 + z2) 4) + 1)) ((k0 + 2) + 1 + z2) 3), .int 99, .ref (ad ((k0 + 2) + 1 + z2))]
        refine x_iadd C d_V_passWeek_51 ?_
        refine x_min C wL_V_85 (by decide) (Nat.le_of_ble_eq_true rfl) d_V_passWeek_52 ?_
        refine xp_D_kisses (x := (if (((up M ((k0 + 2) + 1 + z2) 4 ((M ((k0 + 2) + 1 + z2) 4) + 1)) ((k0 + 2) + 1 + z2) 3) + c5) < 99 then (((up M ((k0 + 2) + 1 + z2) 4 ((M ((k0 + 2) + 1 + z2) 4) + 1)) ((k0 + 2) + 1 + z2) 3) + c5) else 99)) C wF_V_78 (ma_D (k_V_drafts hk0) hz2) (ka_D (k_V_drafts hk0) hz2) d_V_passWeek_55 ?_
        refine x_aload_n C d_V_passWeek_58 0 rfl ?_
        refine xg_D_weeks C wF_V_75 (ma_D (k_V_drafts hk0) hz2) (ka_D (k_V_drafts hk0) hz2) d_V_passWeek_59 ?_
        refine x_iconst (v := 4) C d_V_passWeek_62 rfl ?_
        refine x_icmp_lt C 86 d_V_passWeek_63 (by decide) (fun g6 => ?_) (fun g6 => ?_)
        · replace hf := it g6 hf
          refine x_iinc (v := (x2 + 1)) (lv' := [(2, .int (x2 + 1)), (3, .ref (ad ((k0 + 2) + 1 + z2))), (0, .ref (ad k0)), (1, .int x1)]) C d_V_passWeek_86 3 rfl rfl (by decide) rfl ?_
          refine x_goto C 4 d_V_passWeek_89 (by decide) ?_
          refine x_sub [2, 3, 0] rfl ?_
          exact ih _ _ _ _ hf K
        · replace hf := ie g6 hf
          refine x_aload_n C d_V_passWeek_66 0 rfl ?_
          refine xg_D_sort C wF_V_72 (ma_D (k_V_drafts hk0) hz2) (ka_D (k_V_drafts hk0) hz2) d_V_passWeek_67 ?_
          refine x_iconst (v := 2) C d_V_passWeek_70 rfl ?_
          refine x_icmp_eq C 86 d_V_passWeek_71 (by decide) (fun g7 => ?_) (fun g7 => ?_)
          · replace hf := it g7 hf
            refine x_iinc (v := (x2 + 1)) (lv' := [(2, .int (x2 + 1)), (3, .ref (ad ((k0 + 2) + 1 + z2))), (0, .ref (ad k0)), (1, .int x1)]) C d_V_passWeek_86 3 rfl rfl (by decide) rfl ?_
            refine x_goto C 4 d_V_passWeek_89 (by decide) ?_
            refine x_sub [2, 3, 0] rfl ?_
            exact ih _ _ _ _ hf K
          · replace hf := ie g7 hf
            refine x_iload_n C d_V_passWeek_74 2 rfl ?_
            refine x_aload_n C d_V_passWeek_75 0 rfl ?_
            refine xg_D_kisses C wF_V_78 (ma_D (k_V_drafts hk0) hz2) (ka_D (k_V_drafts hk0) hz2) d_V_passWeek_76 ?_
            refine x_iadd C d_V_passWeek_79 ?_
            refine x_istore_n (lv' := [(1, .int (x1 + ((up (up M ((k0 + 2) + 1 + z2) 4 ((M ((k0 + 2) + 1 + z2) 4) + 1)) ((k0 + 2) + 1 + z2) 3 (if (((up M ((k0 + 2) + 1 + z2) 4 ((M ((k0 + 2) + 1 + z2) 4) + 1)) ((k0 + 2) + 1 + z2) 3) + c5) < 99 then (((up M ((k0 + 2) + 1 + z2) 4 ((M ((k0 + 2) + 1 + z2) 4) + 1)) ((k0 + 2) + 1 + z2) 3) + c5) else 99)) ((k0 + 2) + 1 + z2) 3))), (3, .ref (ad ((k0 + 2) + 1 + z2))), (0, .ref (ad k0)), (2, .int x2)]) C d_V_passWeek_80 (by decide) rfl ?_
            refine x_aload_n C d_V_passWeek_81 1 rfl ?_
            refine x_iconst (v := 0) C d_V_passWeek_82 rfl ?_
            refine xp_D_kisses (x := 0) C wF_V_78 (ma_D (k_V_drafts hk0) hz2) (ka_D (k_V_drafts hk0) hz2) d_V_passWeek_83 ?_
            refine x_iinc (v := (x2 + 1)) (lv' := [(2, .int (x2 + 1)), (1, .int (x1 + ((up (up M ((k0 + 2) + 1 + z2) 4 ((M ((k0 + 2) + 1 + z2) 4) + 1)) ((k0 + 2) + 1 + z2) 3 (if (((up M ((k0 + 2) + 1 + z2) 4 ((M ((k0 + 2) + 1 + z2) 4) + 1)) ((k0 + 2) + 1 + z2) 3) + c5) < 99 then (((up M ((k0 + 2) + 1 + z2) 4 ((M ((k0 + 2) + 1 + z2) 4) + 1)) ((k0 + 2) + 1 + z2) 3) + c5) else 99)) ((k0 + 2) + 1 + z2) 3))), (3, .ref (ad ((k0 + 2) + 1 + z2))), (0, .ref (ad k0))]) C d_V_passWeek_86 3 rfl rfl (by decide) rfl ?_
            refine x_goto C 4 d_V_passWeek_89 (by decide) ?_
            refine x_sub [3, 1, 0] rfl ?_
            exact ih _ _ _ _ hf K
set_option maxHeartbeats 4000000 in
set_option maxRecDepth 100000 in
theorem ct_V_passWeek {l : Launch} {D : va_G} {ad : Nat → Nat} {cs : Nat → ClassId} {A : Nat → Prop} (E : Ev ad cs A LX) (F : Nat) (M : Mem) (k0 : Nat) (R : (Int32 × Mem)) (hm0 : k0 ∈ LX) (hk0 : kd k0 = 12) (hf : V_passWeek F M k0 = some R) : Met l y_V_passWeek (Cond.code y_V_passWeek b_V_passWeek 4 (some .int) :: wl) (rmD 3) (PX D ad cs A LX [.ref (ad k0)] M) (QX D ad cs A LX (some (.int R.1)) R.2) 0 0 A := by
  refine x_enter (lv := [(0, .ref (ad k0))]) E mi_V_passWeek.1 (Nat.le_of_ble_eq_true rfl) rfl (fun p e s m args below meth c C => ?_)
  unfold V_passWeek at hf
  refine x_iconst (v := 0) C d_V_passWeek_0 rfl ?_
  refine x_istore_n (lv' := [(1, .int 0), (0, .ref (ad k0))]) C d_V_passWeek_1 (by decide) rfl ?_
  refine x_iconst (v := 0) C d_V_passWeek_2 rfl ?_
  refine x_istore_n (lv' := [(2, .int 0), (1, .int 0), (0, .ref (ad k0))]) C d_V_passWeek_3 (by decide) rfl ?_
  obtain ⟨u8, hu8, hf⟩ := bs hf
  refine x_sub [2, 1, 0] rfl ?_
  refine lw_V_passWeek_4 E C F _ hm0 hk0 _ _ _ _ _ hu8 ?_
  refine x_iload_n C d_V_passWeek_92 0 rfl ?_
  cases hf
  exact x_iret C d_V_passWeek_93 rfl rfl
set_option maxHeartbeats 4000000 in
set_option maxRecDepth 100000 in
theorem lw_V_payTwo_5 {p : Program} {l : Launch} {e : Env} {s : State} {m : MethodId} {args : Array Value} {below : List Frame} {meth : Method} {c : Code} {D : va_G} {ad : Nat → Nat} {cs : Nat → ClassId} {A : Nat → Prop} {V : Option Value} {N : Mem} (E : Ev ad cs A LX) (C : Cx p s m args meth c "KissClearing$Village" b_V_payTwo 7 (some .int) D ad cs A LX) (F : Nat) (k0 : Nat) (x1 : Int32) (x2 : Int32) (hm0 : k0 ∈ LX) (hk0 : kd k0 = 12) : ∀ (n : Nat) (M : Mem) (x3 : Int32) (x4 : Int32) (u : (Int32 × Mem)), L_V_payTwo_5 F k0 x1 x2 n M x3 x4 = some u → X p l e 3 s m args below meth c 7 D ad cs A LX V N u.2 104 [(3, .int u.1)] [] → X p l e 3 s m args below meth c 7 D ad cs A LX V N M 5 [(0, .ref (ad k0)), (1, .int x1), (2, .int x2), (3, .int x3), (4, .int x4)] [] := by
  intro n
  induction n with
  | zero => intro M x3 x4 u hf; cases hf
  | succ n ih =>
    intro M x3 x4 u hf K
    replace hf : B_V_payTwo_5 F k0 x1 x2 (L_V_payTwo_5 F k0 x1 x2 n) M x3 x4 = some u := hf
    unfold B_V_payTwo_5 at hf
    refine x_iload C d_V_payTwo_5 4 rfl ?_
    refine x_aload_n C d_V_payTwo_7 0 rfl ?_
    refine xg_V_draftCount C wF_V_15 hm0 hk0 d_V_payTwo_8 ?_
    refine x_icmp_ge C 104 d_V_payTwo_11 (by decide) (fun g1 => ?_) (fun g1 => ?_)
    · replace hf := it g1 hf
      cases hf
      exact x_sub [3] rfl K
    · replace hf := ie g1 hf
      refine x_aload_n C d_V_payTwo_14 0 rfl ?_
      refine xg_V_drafts C wF_V_24 hm0 hk0 d_V_payTwo_15 ?_
      refine x_iload C d_V_payTwo_18 4 rfl ?_
      obtain ⟨z2, hz2, hf⟩ := bs hf
      refine x_aald2 C hz2 (m_V_drafts hk0) (k_V_drafts hk0) d_V_payTwo_20 ?_
      refine x_astore (lv' := [(5, .ref (ad ((k0 + 2) + 1 + z2))), (0, .ref (ad k0)), (1, .int x1), (2, .int x2), (3, .int x3), (4, .int x4)]) C d_V_payTwo_21 (by decide) rfl ?_
      refine x_aload C d_V_payTwo_23 0 rfl ?_
      refine xg_D_who C wF_V_58 (ma_D (k_V_drafts hk0) hz2) (ka_D (k_V_drafts hk0) hz2) d_V_payTwo_25 ?_
      refine x_iload_n C d_V_payTwo_28 2 rfl ?_
      obtain ⟨j3, hj3, hf⟩ := bs hf
      have Jj3 : X p l e 3 s m args below meth c 7 D ad cs A LX V N M 64 [(0, .ref (ad k0)), (1, .int x1), (2, .int x2), (3, .int x3), (4, .int x4), (5, .ref (ad ((k0 + 2) + 1 + z2)))] [.int j3] := by
        refine x_istore (lv' := [(6, .int j3), (0, .ref (ad k0)), (1, .int x1), (2, .int x2), (3, .int x3), (4, .int x4), (5, .ref (ad ((k0 + 2) + 1 + z2)))]) C d_V_payTwo_64 (by decide) rfl ?_
        refine x_iload C d_V_payTwo_66 0 rfl ?_
        refine x_if_eq C 98 d_V_payTwo_68 (by decide) (fun g4 => ?_) (fun g4 => ?_)
        · replace hf := it g4 hf
          refine x_iinc (v := (x4 + 1)) (lv' := [(4, .int (x4 + 1)), (6, .int j3), (0, .ref (ad k0)), (1, .int x1), (2, .int x2), (3, .int x3), (5, .ref (ad ((k0 + 2) + 1 + z2)))]) C d_V_payTwo_98 5 rfl rfl (by decide) rfl ?_
          refine x_goto C 5 d_V_payTwo_101 (by decide) ?_
          refine x_sub [2, 3, 4, 5, 0] rfl ?_
          exact ih _ _ _ _ hf K
        · replace hf := ie g4 hf
          refine x_aload_n C d_V_payTwo_71 1 rfl ?_
          refine x_aload C d_V_payTwo_72 6 rfl ?_
          refine xg_D_who C wF_V_58 (ma_D (k_V_drafts hk0) hz2) (ka_D (k_V_drafts hk0) hz2) d_V_payTwo_74 ?_
          refine x_iconst (v := 2) C d_V_payTwo_77 rfl ?_
          obtain ⟨c5, hc5, hf⟩ := bs hf
          refine x_callV (rest := []) (n := 2) C (ct_V_isOfKind E F _ _ _ _ _ hm0 hk0 hc5) mi_V_isOfKind (by decide) hm0 ⟨_, cel_V hk0⟩ rfl rfl wL_V_48 d_V_payTwo_78 rfl rfl (Nat.le_of_ble_eq_true rfl) ?_
          show X _ _ _ _ _ _ _ _ _ _ _ _ _ _ _ _ _ _ _ _ _ [.int c5]
          refine x_if_ne C 98 d_V_payTwo_81 (by decide) (fun g6 => ?_) (fun g6 => ?_)
          · replace hf := ie g6 hf
            refine x_iinc (v := (x4 + 1)) (lv' := [(4, .int (x4 + 1)), (6, .int j3), (0, .ref (ad k0)), (1, .int x1), (2, .int x2), (3, .int x3), (5, .ref (ad ((k0 + 2) + 1 + z2)))]) C d_V_payTwo_98 5 rfl rfl (by decide) rfl ?_
            refine x_goto C 5 d_V_payTwo_101 (by decide) ?_
            refine x_sub [2, 3, 4, 5, 0] rfl ?_
            exact ih _ _ _ _ hf K
          · replace hf := it g6 hf
            refine x_iload_n C d_V_payTwo_84 4 rfl ?_
            refine x_aload C d_V_payTwo_85 6 rfl ?_
            refine xg_D_kisses C wF_V_78 (ma_D (k_V_drafts hk0) hz2) (ka_D (k_V_drafts hk0) hz2) d_V_payTwo_87 ?_
            refine x_iadd C d_V_payTwo_90 ?_
            refine x_istore_n (lv' := [(3, .int (x3 + (M ((k0 + 2) + 1 + z2) 3))), (6, .int j3), (0, .ref (ad k0)), (1, .int x1), (2, .int x2), (4, .int x4), (5, .ref (ad ((k0 + 2) + 1 + z2)))]) C d_V_payTwo_91 (by decide) rfl ?_
            refine x_aload C d_V_payTwo_92 6 rfl ?_
            refine x_iconst (v := 0) C d_V_payTwo_94 rfl ?_
            refine xp_D_kisses (x := 0) C wF_V_78 (ma_D (k_V_drafts hk0) hz2) (ka_D (k_V_drafts hk0) hz2) d_V_payTwo_95 ?_
            refine x_iinc (v := (x4 + 1)) (lv' := [(4, .int (x4 + 1)), (3, .int (x3 + (M ((k0 + 2) + 1 + z2) 3))), (6, .int j3), (0, .ref (ad k0)), (1, .int x1), (2, .int x2), (5, .ref (ad ((k0 + 2) + 1 + z2)))]) C d_V_payTwo_98 5 rfl rfl (by decide) rfl ?_
            refine x_goto C 5 d_V_payTwo_101 (by decide) ?_
            refine x_sub [3, 4, 5, 1, 0] rfl ?_
            exact ih _ _ _ _ hf K
      replace hf := hj3
      refine x_icmp_ne C 41 d_V_payTwo_29 (by decide) (fun g7 => ?_) (fun g7 => ?_)
      · replace hf := ie g7 hf
        refine x_aload C d_V_payTwo_41 0 rfl ?_
        refine xg_D_who C wF_V_58 (ma_D (k_V_drafts hk0) hz2) (ka_D (k_V_drafts hk0) hz2) d_V_payTwo_43 ?_
        refine x_iload_n C d_V_payTwo_46 3 rfl ?_
        refine x_icmp_ne C 63 d_V_payTwo_47 (by decide) (fun g8 => ?_) (fun g8 => ?_)
        · replace hf := ie g8 hf
          refine x_iconst (v := 0) C d_V_payTwo_63 rfl ?_
          cases hf
          exact x_sub [1, 2, 3, 4, 5, 0] rfl Jj3
        · replace hf := it g8 hf
          refine x_aload C d_V_payTwo_50 0 rfl ?_
          refine xg_D_whom C wF_V_65 (ma_D (k_V_drafts hk0) hz2) (ka_D (k_V_drafts hk0) hz2) d_V_payTwo_52 ?_
          refine x_iload_n C d_V_payTwo_55 2 rfl ?_
          refine x_icmp_ne C 63 d_V_payTwo_56 (by decide) (fun g9 => ?_) (fun g9 => ?_)
          · replace hf := ie g9 hf
            refine x_iconst (v := 0) C d_V_payTwo_63 rfl ?_
            cases hf
            exact x_sub [1, 2, 3, 4, 5, 0] rfl Jj3
          · replace hf := it g9 hf
            refine x_iconst (v := 1) C d_V_payTwo_59 rfl ?_
            refine x_goto C 64 d_V_payTwo_60 (by decide) ?_
            cases hf
            exact x_sub [1, 2, 3, 4, 5, 0] rfl Jj3
      · replace hf := it g7 hf
        refine x_aload C d_V_payTwo_32 0 rfl ?_
        refine xg_D_whom C wF_V_65 (ma_D (k_V_drafts hk0) hz2) (ka_D (k_V_drafts hk0) hz2) d_V_payTwo_34 ?_
        refine x_iload_n C d_V_payTwo_37 3 rfl ?_
        refine x_icmp_eq C 59 d_V_payTwo_38 (by decide) (fun g10 => ?_) (fun g10 => ?_)
        · replace hf := it g10 hf
          refine x_iconst (v := 1) C d_V_payTwo_59 rfl ?_
          refine x_goto C 64 d_V_payTwo_60 (by decide) ?_
          cases hf
          exact x_sub [1, 2, 3, 4, 5, 0] rfl Jj3
        · replace hf := ie g10 hf
          refine x_aload C d_V_payTwo_41 0 rfl ?_
          refine xg_D_who C wF_V_58 (ma_D (k_V_drafts hk0) hz2) (ka_D (k_V_drafts hk0) hz2) d_V_payTwo_43 ?_
          refine x_iload_n C d_V_payTwo_46 3 rfl ?_
          refine x_icmp_ne C 63 d_V_payTwo_47 (by decide) (fun g11 => ?_) (fun g11 => ?_)
          · replace hf := ie g11 hf
            refine x_iconst (v := 0) C d_V_payTwo_63 rfl ?_
            cases hf
            exact x_sub [1, 2, 3, 4, 5, 0] rfl Jj3
          · replace hf := it g11 hf
            refine x_aload C d_V_payTwo_50 0 rfl ?_
            refine xg_D_whom C wF_V_65 (ma_D (k_V_drafts hk0) hz2) (ka_D (k_V_drafts hk0) hz2) d_V_payTwo_52 ?_
            refine x_iload_n C d_V_payTwo_55 2 rfl ?_
            refine x_icmp_ne C 63 d_V_payTwo_56 (by decide) (fun g12 => ?_) (fun g12 => ?_)
            · replace hf := ie g12 hf
              refine x_iconst (v := 0) C d_V_payTwo_63 rfl ?_
              cases hf
              exact x_sub [1, 2, 3, 4, 5, 0] rfl Jj3
            · replace hf := it g12 hf
              refine x_iconst (v := 1) C d_V_payTwo_59 rfl ?_
              refine x_goto C 64 d_V_payTwo_60 (by decide) ?_
              cases hf
              exact x_sub [1, 2, 3, 4, 5, 0] rfl Jj3
set_option maxHeartbeats 4000000 in
set_option maxRecDepth 100000 in
theorem ct_V_payTwo {l : Launch} {D : va_G} {ad : Nat → Nat} {cs : Nat → ClassId} {A : Nat → Prop} (E : Ev ad cs A LX) (F : Nat) (M : Mem) (k0 : Nat) (x1 : Int32) (x2 : Int32) (R : (Int32 × Mem)) (hm0 : k0 ∈ LX) (hk0 : kd k0 = 12) (hf : V_payTwo F M k0 x1 x2 = some R) : Met l y_V_payTwo (Cond.code y_V_payTwo b_V_payTwo 7 (some .int) :: wl) (rmD 3) (PX D ad cs A LX [.ref (ad k0), .int x1, .int x2] M) (QX D ad cs A LX (some (.int R.1)) R.2) 0 0 A := by
  refine x_enter (lv := [(0, .ref (ad k0)), (1, .int x1), (2, .int x2)]) E mi_V_payTwo.1 (Nat.le_of_ble_eq_true rfl) rfl (fun p e s m args below meth c C => ?_)
  unfold V_payTwo at hf
  refine x_iconst (v := 0) C d_V_payTwo_0 rfl ?_
  refine x_istore_n (lv' := [(3, .int 0), (0, .ref (ad k0)), (1, .int x1), (2, .int x2)]) C d_V_payTwo_1 (by decide) rfl ?_
  refine x_iconst (v := 0) C d_V_payTwo_2 rfl ?_
  refine x_istore (lv' := [(4, .int 0), (3, .int 0), (0, .ref (ad k0)), (1, .int x1), (2, .int x2)]) C d_V_payTwo_3 (by decide) rfl ?_
  obtain ⟨u13, hu13, hf⟩ := bs hf
  refine x_sub [2, 3, 4, 1, 0] rfl ?_
  refine lw_V_payTwo_5 E C F _ _ _ hm0 hk0 _ _ _ _ _ hu13 ?_
  refine x_iload_n C d_V_payTwo_104 0 rfl ?_
  cases hf
  exact x_iret C d_V_payTwo_105 rfl rfl
set_option maxHeartbeats 4000000 in
set_option maxRecDepth 100000 in
theorem lw_V_personsOfKind_4 {p : Program} {l : Launch} {e : Env} {s : State} {m : MethodId} {args : Array Value} {below : List Frame} {meth : Method} {c : Code} {D : va_G} {ad : Nat → Nat} {cs : Nat → ClassId} {A : Nat → Prop} {V : Option Value} {N : Mem} (E : Ev ad cs A LX) (C : Cx p s m args meth c "KissClearing$Village" b_V_personsOfKind 4 (some .int) D ad cs A LX) (F : Nat) (M : Mem) (k0 : Nat) (x1 : Int32) (hm0 : k0 ∈ LX) (hk0 : kd k0 = 12) : ∀ (n : Nat) (x2 : Int32) (x3 : Int32) (u : Int32), L_V_personsOfKind_4 F M k0 x1 n x2 x3 = some u → X p l e 3 s m args below meth c 4 D ad cs A LX V N M 30 [(2, .int u)] [] → X p l e 3 s m args below meth c 4 D ad cs A LX V N M 4 [(0, .ref (ad k0)), (1, .int x1), (2, .int x2), (3, .int x3)] [] := by
  intro n
  induction n with
  | zero => intro x2 x3 u hf; cases hf
  | succ n ih =>
    intro x2 x3 u hf K
    replace hf : B_V_personsOfKind_4 F M k0 x1 (L_V_personsOfKind_4 F M k0 x1 n) x2 x3 = some u := hf
    unfold B_V_personsOfKind_4 at hf
    refine x_iload_n C d_V_personsOfKind_4 3 rfl ?_
    refine x_aload_n C d_V_personsOfKind_5 0 rfl ?_
    refine xg_V_personCount C wF_V_9 hm0 hk0 d_V_personsOfKind_6 ?_
    refine x_icmp_ge C 30 d_V_personsOfKind_9 (by decide) (fun g1 => ?_) (fun g1 => ?_)
    · replace hf := it g1 hf
      cases hf
      exact x_sub [2] rfl K
    · replace hf := ie g1 hf
      refine x_aload_n C d_V_personsOfKind_12 0 rfl ?_
      refine x_iload_n C d_V_personsOfKind_13 3 rfl ?_
      refine x_iload_n C d_V_personsOfKind_14 1 rfl ?_
      obtain ⟨c2, hc2, hf⟩ := bs hf
      refine x_callV (rest := []) (n := 2) C (ct_V_isOfKind E F _ _ _ _ _ hm0 hk0 hc2) mi_V_isOfKind (by decide) hm0 ⟨_, cel_V hk0⟩ rfl rfl wL_V_48 d_V_personsOfKind_15 rfl rfl (Nat.le_of_ble_eq_true rfl) ?_
      show X _ _ _ _ _ _ _ _ _ _ _ _ _ _ _ _ _ _ _ _ _ [.int c2]
      refine x_if_eq C 24 d_V_personsOfKind_18 (by decide) (fun g3 => ?_) (fun g3 => ?_)
      · replace hf := it g3 hf
        refine x_iinc (v := (x3 + 1)) (lv' := [(3, .int (x3 + 1)), (0, .ref (ad k0)), (1, .int x1), (2, .int x2)]) C d_V_personsOfKind_24 3 rfl rfl (by decide) rfl ?_
        refine x_goto C 4 d_V_personsOfKind_27 (by decide) ?_
        refine x_sub [1, 2, 3, 0] rfl ?_
        exact ih _ _ _ hf K
      · replace hf := ie g3 hf
        refine x_iinc (v := (x2 + 1)) (lv' := [(2, .int (x2 + 1)), (0, .ref (ad k0)), (1, .int x1), (3, .int x3)]) C d_V_personsOfKind_21 2 rfl rfl (by decide) rfl ?_
        refine x_iinc (v := (x3 + 1)) (lv' := [(3, .int (x3 + 1)), (2, .int (x2 + 1)), (0, .ref (ad k0)), (1, .int x1)]) C d_V_personsOfKind_24 3 rfl rfl (by decide) rfl ?_
        refine x_goto C 4 d_V_personsOfKind_27 (by decide) ?_
        refine x_sub [2, 3, 1, 0] rfl ?_
        exact ih _ _ _ hf K
set_option maxHeartbeats 4000000 in
set_option maxRecDepth 100000 in
theorem ct_V_personsOfKind {l : Launch} {D : va_G} {ad : Nat → Nat} {cs : Nat → ClassId} {A : Nat → Prop} (E : Ev ad cs A LX) (F : Nat) (M : Mem) (k0 : Nat) (x1 : Int32) (R : Int32) (hm0 : k0 ∈ LX) (hk0 : kd k0 = 12) (hf : V_personsOfKind F M k0 x1 = some R) : Met l y_V_personsOfKind (Cond.code y_V_personsOfKind b_V_personsOfKind 4 (some .int) :: wl) (rmD 3) (PX D ad cs A LX [.ref (ad k0), .int x1] M) (QX D ad cs A LX (some (.int R)) M) 0 0 A := by
  refine x_enter (lv := [(0, .ref (ad k0)), (1, .int x1)]) E mi_V_personsOfKind.1 (Nat.le_of_ble_eq_true rfl) rfl (fun p e s m args below meth c C => ?_)
  unfold V_personsOfKind at hf
  refine x_iconst (v := 0) C d_V_personsOfKind_0 rfl ?_
  refine x_istore_n (lv' := [(2, .int 0), (0, .ref (ad k0)), (1, .int x1)]) C d_V_personsOfKind_1 (by decide) rfl ?_
  refine x_iconst (v := 0) C d_V_personsOfKind_2 rfl ?_
  refine x_istore_n (lv' := [(3, .int 0), (2, .int 0), (0, .ref (ad k0)), (1, .int x1)]) C d_V_personsOfKind_3 (by decide) rfl ?_
  obtain ⟨u4, hu4, hf⟩ := bs hf
  refine x_sub [2, 3, 1, 0] rfl ?_
  refine lw_V_personsOfKind_4 E C F _ _ _ hm0 hk0 _ _ _ _ hu4 ?_
  refine x_iload_n C d_V_personsOfKind_30 0 rfl ?_
  cases hf
  exact x_iret C d_V_personsOfKind_31 rfl rfl
set_option maxHeartbeats 4000000 in
set_option maxRecDepth 100000 in
theorem lw_V_souringFor_4 {p : Program} {l : Launch} {e : Env} {s : State} {m : MethodId} {args : Array Value} {below : List Frame} {meth : Method} {c : Code} {D : va_G} {ad : Nat → Nat} {cs : Nat → ClassId} {A : Nat → Prop} {V : Option Value} {N : Mem} (E : Ev ad cs A LX) (C : Cx p s m args meth c "KissClearing$Village" b_V_souringFor 5 (some .int) D ad cs A LX) (F : Nat) (M : Mem) (k0 : Nat) (x1 : Int32) (hm0 : k0 ∈ LX) (hk0 : kd k0 = 12) : ∀ (n : Nat) (x2 : Int32) (x3 : Int32) (u : Int32), L_V_souringFor_4 F M k0 x1 n x2 x3 = some u → X p l e 1 s m args below meth c 5 D ad cs A LX V N M 66 [(2, .int u)] [] → X p l e 1 s m args below meth c 5 D ad cs A LX V N M 4 [(0, .ref (ad k0)), (1, .int x1), (2, .int x2), (3, .int x3)] [] := by
  intro n
  induction n with
  | zero => intro x2 x3 u hf; cases hf
  | succ n ih =>
    intro x2 x3 u hf K
    replace hf : B_V_souringFor_4 F M k0 x1 (L_V_souringFor_4 F M k0 x1 n) x2 x3 = some u := hf
    unfold B_V_souringFor_4 at hf
    refine x_iload_n C d_V_souringFor_4 3 rfl ?_
    refine x_aload_n C d_V_souringFor_5 0 rfl ?_
    refine xg_V_draftCount C wF_V_15 hm0 hk0 d_V_souringFor_6 ?_
    refine x_icmp_ge C 66 d_V_souringFor_9 (by decide) (fun g1 => ?_) (fun g1 => ?_)
    · replace hf := it g1 hf
      cases hf
      exact x_sub [2] rfl K
    · replace hf := ie g1 hf
      refine x_aload_n C d_V_souringFor_12 0 rfl ?_
      refine xg_V_drafts C wF_V_24 hm0 hk0 d_V_souringFor_13 ?_
      refine x_iload_n C d_V_souringFor_16 3 rfl ?_
      obtain ⟨z2, hz2, hf⟩ := bs hf
      refine x_aald2 C hz2 (m_V_drafts hk0) (k_V_drafts hk0) d_V_souringFor_17 ?_
      refine x_astore (lv' := [(4, .ref (ad ((k0 + 2) + 1 + z2))), (0, .ref (ad k0)), (1, .int x1), (2, .int x2), (3, .int x3)]) C d_V_souringFor_18 (by decide) rfl ?_
      refine x_aload C d_V_souringFor_20 0 rfl ?_
      obtain ⟨c3, hc3, hf⟩ := bs hf
      refine x_callV (rest := []) (n := 0) C (ct_D_isOpen E F _ _ _ (ma_D (k_V_drafts hk0) hz2) (ka_D (k_V_drafts hk0) hz2) hc3) mi_D_isOpen (by decide) (ma_D (k_V_drafts hk0) hz2) ⟨_, cel_D (ka_D (k_V_drafts hk0) hz2)⟩ rfl rfl wL_V_68 d_V_souringFor_22 rfl rfl (Nat.le_of_ble_eq_true rfl) ?_
      show X _ _ _ _ _ _ _ _ _ _ _ _ _ _ _ _ _ _ _ _ _ [.int c3]
      refine x_if_eq C 60 d_V_souringFor_25 (by decide) (fun g4 => ?_) (fun g4 => ?_)
      · replace hf := it g4 hf
        refine x_iinc (v := (x3 + 1)) (lv' := [(3, .int (x3 + 1)), (4, .ref (ad ((k0 + 2) + 1 + z2))), (0, .ref (ad k0)), (1, .int x1), (2, .int x2)]) C d_V_souringFor_60 4 rfl rfl (by decide) rfl ?_
        refine x_goto C 4 d_V_souringFor_63 (by decide) ?_
        refine x_sub [2, 3, 4, 0] rfl ?_
        exact ih _ _ _ hf K
      · replace hf := ie g4 hf
        refine x_aload C d_V_souringFor_28 0 rfl ?_
        refine xg_D_whom C wF_V_65 (ma_D (k_V_drafts hk0) hz2) (ka_D (k_V_drafts hk0) hz2) d_V_souringFor_30 ?_
        refine x_iload_n C d_V_souringFor_33 2 rfl ?_
        refine x_icmp_ne C 60 d_V_souringFor_34 (by decide) (fun g5 => ?_) (fun g5 => ?_)
        · replace hf := ie g5 hf
          refine x_iinc (v := (x3 + 1)) (lv' := [(3, .int (x3 + 1)), (4, .ref (ad ((k0 + 2) + 1 + z2))), (0, .ref (ad k0)), (1, .int x1), (2, .int x2)]) C d_V_souringFor_60 4 rfl rfl (by decide) rfl ?_
          refine x_goto C 4 d_V_souringFor_63 (by decide) ?_
          refine x_sub [2, 3, 4, 0] rfl ?_
          exact ih _ _ _ hf K
        · replace hf := it g5 hf
          refine x_aload C d_V_souringFor_37 0 rfl ?_
          refine xg_D_sort C wF_V_72 (ma_D (k_V_drafts hk0) hz2) (ka_D (k_V_drafts hk0) hz2) d_V_souringFor_39 ?_
          refine x_iconst (v := 2) C d_V_souringFor_42 rfl ?_
          refine x_icmp_eq C 60 d_V_souringFor_43 (by decide) (fun g6 => ?_) (fun g6 => ?_)
          · replace hf := it g6 hf
            refine x_iinc (v := (x3 + 1)) (lv' := [(3, .int (x3 + 1)), (4, .ref (ad ((k0 + 2) + 1 + z2))), (0, .ref (ad k0)), (1, .int x1), (2, .int x2)]) C d_V_souringFor_60 4 rfl rfl (by decide) rfl ?_
            refine x_goto C 4 d_V_souringFor_63 (by decide) ?_
            refine x_sub [2, 3, 4, 0] rfl ?_
            exact ih _ _ _ hf K
          · replace hf := ie g6 hf
            refine x_aload C d_V_souringFor_46 0 rfl ?_
            refine xg_D_weeks C wF_V_75 (ma_D (k_V_drafts hk0) hz2) (ka_D (k_V_drafts hk0) hz2) d_V_souringFor_48 ?_
            refine x_iconst (v := 1) C d_V_souringFor_51 rfl ?_
            refine x_iadd C d_V_souringFor_52 ?_
            refine x_iconst (v := 4) C d_V_souringFor_53 rfl ?_
            refine x_icmp_lt C 60 d_V_souringFor_54 (by decide) (fun g7 => ?_) (fun g7 => ?_)
            · replace hf := it g7 hf
              refine x_iinc (v := (x3 + 1)) (lv' := [(3, .int (x3 + 1)), (4, .ref (ad ((k0 + 2) + 1 + z2))), (0, .ref (ad k0)), (1, .int x1), (2, .int x2)]) C d_V_souringFor_60 4 rfl rfl (by decide) rfl ?_
              refine x_goto C 4 d_V_souringFor_63 (by decide) ?_
              refine x_sub [2, 3, 4, 0] rfl ?_
              exact ih _ _ _ hf K
            · replace hf := ie g7 hf
              refine x_iinc (v := (x2 + 1)) (lv' := [(2, .int (x2 + 1)), (4, .ref (ad ((k0 + 2) + 1 + z2))), (0, .ref (ad k0)), (1, .int x1), (3, .int x3)]) C d_V_souringFor_57 3 rfl rfl (by decide) rfl ?_
              refine x_iinc (v := (x3 + 1)) (lv' := [(3, .int (x3 + 1)), (2, .int (x2 + 1)), (4, .ref (ad ((k0 + 2) + 1 + z2))), (0, .ref (ad k0)), (1, .int x1)]) C d_V_souringFor_60 4 rfl rfl (by decide) rfl ?_
              refine x_goto C 4 d_V_souringFor_63 (by decide) ?_
              refine x_sub [3, 4, 1, 0] rfl ?_
              exact ih _ _ _ hf K
set_option maxHeartbeats 4000000 in
set_option maxRecDepth 100000 in
theorem ct_V_souringFor {l : Launch} {D : va_G} {ad : Nat → Nat} {cs : Nat → ClassId} {A : Nat → Prop} (E : Ev ad cs A LX) (F : Nat) (M : Mem) (k0 : Nat) (x1 : Int32) (R : Int32) (hm0 : k0 ∈ LX) (hk0 : kd k0 = 12) (hf : V_souringFor F M k0 x1 = some R) : Met l y_V_souringFor (Cond.code y_V_souringFor b_V_souringFor 5 (some .int) :: wl) (rmD 1) (PX D ad cs A LX [.ref (ad k0), .int x1] M) (QX D ad cs A LX (some (.int R)) M) 0 0 A := by
  refine x_enter (lv := [(0, .ref (ad k0)), (1, .int x1)]) E mi_V_souringFor.1 (Nat.le_of_ble_eq_true rfl) rfl (fun p e s m args below meth c C => ?_)
  unfold V_souringFor at hf
  refine x_iconst (v := 0) C d_V_souringFor_0 rfl ?_
  refine x_istore_n (lv' := [(2, .int 0), (0, .ref (ad k0)), (1, .int x1)]) C d_V_souringFor_1 (by decide) rfl ?_
  refine x_iconst (v := 0) C d_V_souringFor_2 rfl ?_
  refine x_istore_n (lv' := [(3, .int 0), (2, .int 0), (0, .ref (ad k0)), (1, .int x1)]) C d_V_souringFor_3 (by decide) rfl ?_
  obtain ⟨u8, hu8, hf⟩ := bs hf
  refine x_sub [2, 3, 1, 0] rfl ?_
  refine lw_V_souringFor_4 E C F _ _ _ hm0 hk0 _ _ _ _ hu8 ?_
  refine x_iload_n C d_V_souringFor_66 0 rfl ?_
  cases hf
  exact x_iret C d_V_souringFor_67 rfl rfl
