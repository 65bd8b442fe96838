/-! constructors (by program: wip/whole/gen_ctor.py) -/
def Φ_D (cs : Nat → ClassId) (h0 : Nat) (w : va_W) : Prop := w = [(h0, .inr (1, [.int 0, .int 0, .int 0, .int 0, .int 0, .int 0]))]
set_option maxHeartbeats 8000000 in
set_option maxRecDepth 100000 in
theorem cn_D {l : Launch} (D : va_G) (cs : Nat → ClassId) (h0 : Nat) (sz : Nat) : Met l y_D_init (Cond.code y_D_init b_D_init 1 none :: wl) (rmC 1 0 0 32) (PC D cs [(h0, .inr (1, [.int 0, .int 0, .int 0, .int 0, .int 0, .int 0]))] sz [.ref h0]) (QC D [(h0, .inr (1, [.int 0, .int 0, .int 0, .int 0, .int 0, .int 0]))] sz (Φ_D cs h0)) 0 0 (va_A [(h0, .inr (1, [.int 0, .int 0, .int 0, .int 0, .int 0, .int 0]))] sz) := by
  refine z_enter (lv := [(0, .ref h0)]) mi_D_init (Nat.le_of_ble_eq_true rfl) rfl rfl (fun p e s m args below meth c A C hrr hlk hin hA _ => ?_)
  refine z_aload_n C d_D_init_0 0 rfl ?_
  refine z_obj C wL_D_1 (Nat.le_of_ble_eq_true rfl) (Nat.le_of_ble_eq_true rfl) d_D_init_1 ?_
  exact z_ret C hrr hlk hA rfl d_D_init_4
def Φ_S (cs : Nat → ClassId) (h0 nS : Nat) (w : va_W) : Prop := ∃ q1 : Nat, w = [(h0, .inr (5, [.ref q1, .int (-1)])), (q1, .inl (cs 0, nS, .inl (fun _ => 0)))]
set_option maxHeartbeats 8000000 in
set_option maxRecDepth 100000 in
theorem cn_S {l : Launch} (D : va_G) (cs : Nat → ClassId) (h0 : Nat) (nS : Nat) (x1 : Int32) (sz : Nat) (hx0 : decide (x1 < 0) = false) (hxN : x1.toNatClampNeg = nS) (hby : nS * 4 ≤ 536870912) : Met l y_S_init (Cond.code y_S_init b_S_init 2 none :: wl) (rmC 1 1 nS 32) (PC D cs [(h0, .inr (5, [.null, .int 0]))] sz [.ref h0, .int x1]) (QC D [(h0, .inr (5, [.null, .int 0]))] sz (Φ_S cs h0 nS)) 1 nS (va_A [(h0, .inr (5, [.null, .int 0]))] sz) := by
  have hx0 : ¬ x1 < 0 := by simpa using hx0
  refine z_enter (lv := [(0, .ref h0), (1, .int x1)]) mi_S_init (Nat.le_of_ble_eq_true rfl) rfl rfl (fun p e s m args below meth c A C hrr hlk hin hA _ => ?_)
  refine z_aload_n C d_S_init_0 0 rfl ?_
  refine z_obj C wL_S_3 (Nat.le_of_ble_eq_true rfl) (Nat.le_of_ble_eq_true rfl) d_S_init_1 ?_
  refine z_aload_n C d_S_init_4 0 rfl ?_
  refine z_iconst (v := (-1)) C d_S_init_5 rfl ?_
  refine zp_S (v := .int (-1)) (ty := .int) (ws' := [(h0, .inr (5, [.null, .int (-1)]))]) C 0 1 rfl (by decide) wF_S_9 rfl rfl (by decide +kernel) rfl rfl (Nat.le_of_ble_eq_true rfl) d_S_init_6 rfl ?_
  refine z_aload_n C d_S_init_9 0 rfl ?_
  refine z_iload_n C d_S_init_10 1 rfl ?_
  refine z_newa C nS hx0 hxN hby (Nat.le_of_ble_eq_true rfl) (by show 0 + nS ≤ nS; omega) d_S_init_11 (fun q1 => ?_)
  refine z_eqs (slots2 := nS) (by omega) ?_
  refine z_cast (ws' := [(h0, .inr (5, [.null, .int (-1)])), (q1, .inl (cs 0, nS, .inl (fun _ => 0)))]) rfl ?_
  refine zf_S (v := .ref q1) (ty := (.array .int)) (ws' := [(h0, .inr (5, [.ref q1, .int (-1)])), (q1, .inl (cs 0, nS, .inl (fun _ => 0)))]) C 0 0 hin rfl (by decide) wF_S_15 rfl rfl (by decide +kernel) rfl rfl (Nat.le_of_ble_eq_true rfl) d_S_init_13 rfl ?_
  exact z_ret C hrr hlk hA ⟨q1, rfl⟩ d_S_init_16
def Φ_H (cs : Nat → ClassId) (h0 : Nat) (w : va_W) : Prop := ∃ q1 q2 : Nat, w = [(h0, .inr (2, [.int 0, .ref q1, .ref q2])), (q1, .inl (cs 0, 41, .inl (fun _ => 0))), (q2, .inl (cs 0, 492, .inl (fun _ => 0)))]
set_option maxHeartbeats 8000000 in
set_option maxRecDepth 100000 in
theorem cn_H {l : Launch} (D : va_G) (cs : Nat → ClassId) (h0 : Nat) (sz : Nat) : Met l y_H_init (Cond.code y_H_init b_H_init 1 none :: wl) (rmC 1 2 533 32) (PC D cs [(h0, .inr (2, [.int 0, .null, .null]))] sz [.ref h0]) (QC D [(h0, .inr (2, [.int 0, .null, .null]))] sz (Φ_H cs h0)) 2 533 (va_A [(h0, .inr (2, [.int 0, .null, .null]))] sz) := by
  refine z_enter (lv := [(0, .ref h0)]) mi_H_init (Nat.le_of_ble_eq_true rfl) rfl rfl (fun p e s m args below meth c A C hrr hlk hin hA _ => ?_)
  refine z_aload_n C d_H_init_0 0 rfl ?_
  refine z_obj C wL_H_3 (Nat.le_of_ble_eq_true rfl) (Nat.le_of_ble_eq_true rfl) d_H_init_1 ?_
  refine z_aload_n C d_H_init_4 0 rfl ?_
  refine z_iconst (v := 0) C d_H_init_5 rfl ?_
  refine zp_H (v := .int 0) (ty := .int) (ws' := [(h0, .inr (2, [.int 0, .null, .null]))]) C 0 0 rfl (by decide) wF_H_9 rfl rfl (by decide +kernel) rfl rfl (Nat.le_of_ble_eq_true rfl) d_H_init_6 rfl ?_
  refine z_aload_n C d_H_init_9 0 rfl ?_
  refine z_bipush (v := 41) C d_H_init_10 rfl ?_
  refine z_newa C 41 (by decide) rfl (by decide) (Nat.le_of_ble_eq_true rfl) (Nat.le_of_ble_eq_true rfl) d_H_init_12 (fun q1 => ?_)
  refine z_cast (ws' := [(h0, .inr (2, [.int 0, .null, .null])), (q1, .inl (cs 0, 41, .inl (fun _ => 0)))]) rfl ?_
  refine zf_H (v := .ref q1) (ty := (.array .int)) (ws' := [(h0, .inr (2, [.int 0, .ref q1, .null])), (q1, .inl (cs 0, 41, .inl (fun _ => 0)))]) C 0 1 hin rfl (by decide) wF_H_15 rfl rfl (by decide +kernel) rfl rfl (Nat.le_of_ble_eq_true rfl) d_H_init_14 rfl ?_
  refine z_aload_n C d_H_init_17 0 rfl ?_
  refine z_sipush (v := 492) C d_H_init_18 rfl ?_
  refine z_newa C 492 (by decide) rfl (by decide) (Nat.le_of_ble_eq_true rfl) (Nat.le_of_ble_eq_true rfl) d_H_init_21 (fun q2 => ?_)
  refine z_cast (ws' := [(h0, .inr (2, [.int 0, .ref q1, .null])), (q1, .inl (cs 0, 41, .inl (fun _ => 0))), (q2, .inl (cs 0, 492, .inl (fun _ => 0)))]) rfl ?_
  refine zf_H (v := .ref q2) (ty := (.array .int)) (ws' := [(h0, .inr (2, [.int 0, .ref q1, .ref q2])), (q1, .inl (cs 0, 41, .inl (fun _ => 0))), (q2, .inl (cs 0, 492, .inl (fun _ => 0)))]) C 0 2 hin rfl (by decide) wF_H_19 rfl rfl (by decide +kernel) rfl rfl (Nat.le_of_ble_eq_true rfl) d_H_init_23 rfl ?_
  exact z_ret C hrr hlk hA ⟨q1, q2, rfl⟩ d_H_init_26
def Φ_G (cs : Nat → ClassId) (h0 : Nat) (w : va_W) : Prop := ∃ q1 q2 q3 : Nat, w = [(h0, .inr (3, [.int 0, .int 0, .int 0, .int 0, .ref q1, .ref q2, .ref q3])), (q1, .inl (cs 0, 6, .inl (fun _ => 0))), (q2, .inl (cs 0, 6, .inl (fun _ => 0))), (q3, .inl (cs 0, 6, .inl (fun _ => 0)))]
set_option maxHeartbeats 8000000 in
set_option maxRecDepth 100000 in
theorem cn_G {l : Launch} (D : va_G) (cs : Nat → ClassId) (h0 : Nat) (sz : Nat) : Met l y_G_init (Cond.code y_G_init b_G_init 1 none :: wl) (rmC 1 3 18 32) (PC D cs [(h0, .inr (3, [.int 0, .int 0, .int 0, .int 0, .null, .null, .null]))] sz [.ref h0]) (QC D [(h0, .inr (3, [.int 0, .int 0, .int 0, .int 0, .null, .null, .null]))] sz (Φ_G cs h0)) 3 18 (va_A [(h0, .inr (3, [.int 0, .int 0, .int 0, .int 0, .null, .null, .null]))] sz) := by
  refine z_enter (lv := [(0, .ref h0)]) mi_G_init (Nat.le_of_ble_eq_true rfl) rfl rfl (fun p e s m args below meth c A C hrr hlk hin hA _ => ?_)
  refine z_aload_n C d_G_init_0 0 rfl ?_
  refine z_obj C wL_G_3 (Nat.le_of_ble_eq_true rfl) (Nat.le_of_ble_eq_true rfl) d_G_init_1 ?_
  refine z_aload_n C d_G_init_4 0 rfl ?_
  refine z_iconst (v := 0) C d_G_init_5 rfl ?_
  refine zp_G (v := .int 0) (ty := .int) (ws' := [(h0, .inr (3, [.int 0, .int 0, .int 0, .int 0, .null, .null, .null]))]) C 0 0 rfl (by decide) wF_G_9 rfl rfl (by decide +kernel) rfl rfl (Nat.le_of_ble_eq_true rfl) d_G_init_6 rfl ?_
  refine z_aload_n C d_G_init_9 0 rfl ?_
  refine z_iconst (v := 0) C d_G_init_10 rfl ?_
  refine zp_G (v := .int 0) (ty := .int) (ws' := [(h0, .inr (3, [.int 0, .int 0, .int 0, .int 0, .null, .null, .null]))]) C 0 1 rfl (by decide) wF_G_15 rfl rfl (by decide +kernel) rfl rfl (Nat.le_of_ble_eq_true rfl) d_G_init_11 rfl ?_
  refine z_aload_n C d_G_init_14 0 rfl ?_
  refine z_iconst (v := 0) C d_G_init_15 rfl ?_
  refine zp_G (v := .int 0) (ty := .int) (ws' := [(h0, .inr (3, [.int 0, .int 0, .int 0, .int 0, .null, .null, .null]))]) C 0 2 rfl (by decide) wF_G_18 rfl rfl (by decide +kernel) rfl rfl (Nat.le_of_ble_eq_true rfl) d_G_init_16 rfl ?_
  refine z_aload_n C d_G_init_19 0 rfl ?_
  refine z_iconst (v := 0) C d_G_init_20 rfl ?_
  refine zp_G (v := .int 0) (ty := .int) (ws' := [(h0, .inr (3, [.int 0, .int 0, .int 0, .int 0, .null, .null, .null]))]) C 0 3 rfl (by decide) wF_G_21 rfl rfl (by decide +kernel) rfl rfl (Nat.le_of_ble_eq_true rfl) d_G_init_21 rfl ?_
  refine z_aload_n C d_G_init_24 0 rfl ?_
  refine z_bipush (v := 6) C d_G_init_25 rfl ?_
  refine z_newa C 6 (by decide) rfl (by decide) (Nat.le_of_ble_eq_true rfl) (Nat.le_of_ble_eq_true rfl) d_G_init_27 (fun q1 => ?_)
  refine z_cast (ws' := [(h0, .inr (3, [.int 0, .int 0, .int 0, .int 0, .null, .null, .null])), (q1, .inl (cs 0, 6, .inl (fun _ => 0)))]) rfl ?_
  refine zf_G (v := .ref q1) (ty := (.array .int)) (ws' := [(h0, .inr (3, [.int 0, .int 0, .int 0, .int 0, .ref q1, .null, .null])), (q1, .inl (cs 0, 6, .inl (fun _ => 0)))]) C 0 4 hin rfl (by decide) wF_G_24 rfl rfl (by decide +kernel) rfl rfl (Nat.le_of_ble_eq_true rfl) d_G_init_29 rfl ?_
  refine z_aload_n C d_G_init_32 0 rfl ?_
  refine z_bipush (v := 6) C d_G_init_33 rfl ?_
  refine z_newa C 6 (by decide) rfl (by decide) (Nat.le_of_ble_eq_true rfl) (Nat.le_of_ble_eq_true rfl) d_G_init_35 (fun q2 => ?_)
  refine z_cast (ws' := [(h0, .inr (3, [.int 0, .int 0, .int 0, .int 0, .ref q1, .null, .null])), (q1, .inl (cs 0, 6, .inl (fun _ => 0))), (q2, .inl (cs 0, 6, .inl (fun _ => 0)))]) rfl ?_
  refine zf_G (v := .ref q2) (ty := (.array .int)) (ws' := [(h0, .inr (3, [.int 0, .int 0, .int 0, .int 0, .ref q1, .ref q2, .null])), (q1, .inl (cs 0, 6, .inl (fun _ => 0))), (q2, .inl (cs 0, 6, .inl (fun _ => 0)))]) C 0 5 hin rfl (by decide) wF_G_28 rfl rfl (by decide +kernel) rfl rfl (Nat.le_of_ble_eq_true rfl) d_G_init_37 rfl ?_
  refine z_aload_n C d_G_init_40 0 rfl ?_
  refine z_bipush (v := 6) C d_G_init_41 rfl ?_
  refine z_newa C 6 (by decide) rfl (by decide) (Nat.le_of_ble_eq_true rfl) (Nat.le_of_ble_eq_true rfl) d_G_init_43 (fun q3 => ?_)
  refine z_cast (ws' := [(h0, .inr (3, [.int 0, .int 0, .int 0, .int 0, .ref q1, .ref q2, .null])), (q1, .inl (cs 0, 6, .inl (fun _ => 0))), (q2, .inl (cs 0, 6, .inl (fun _ => 0))), (q3, .inl (cs 0, 6, .inl (fun _ => 0)))]) rfl ?_
  refine zf_G (v := .ref q3) (ty := (.array .int)) (ws' := [(h0, .inr (3, [.int 0, .int 0, .int 0, .int 0, .ref q1, .ref q2, .ref q3])), (q1, .inl (cs 0, 6, .inl (fun _ => 0))), (q2, .inl (cs 0, 6, .inl (fun _ => 0))), (q3, .inl (cs 0, 6, .inl (fun _ => 0)))]) C 0 6 hin rfl (by decide) wF_G_31 rfl rfl (by decide +kernel) rfl rfl (Nat.le_of_ble_eq_true rfl) d_G_init_45 rfl ?_
  exact z_ret C hrr hlk hA ⟨q1, q2, q3, rfl⟩ d_G_init_48
def Φ_O (cs : Nat → ClassId) (h0 : Nat) (w : va_W) : Prop := ∃ q1 q2 q3 : Nat, w = [(h0, .inr (4, [.int 0, .ref q1, .ref q2, .ref q3])), (q1, .inl (cs 0, 15, .inl (fun _ => 0))), (q2, .inl (cs 0, 15, .inl (fun _ => 0))), (q3, .inl (cs 0, 6, .inl (fun _ => 0)))]
set_option maxHeartbeats 8000000 in
set_option maxRecDepth 100000 in
theorem cn_O {l : Launch} (D : va_G) (cs : Nat → ClassId) (h0 : Nat) (sz : Nat) : Met l y_O_init (Cond.code y_O_init b_O_init 1 none :: wl) (rmC 1 3 36 32) (PC D cs [(h0, .inr (4, [.int 0, .null, .null, .null]))] sz [.ref h0]) (QC D [(h0, .inr (4, [.int 0, .null, .null, .null]))] sz (Φ_O cs h0)) 3 36 (va_A [(h0, .inr (4, [.int 0, .null, .null, .null]))] sz) := by
  refine z_enter (lv := [(0, .ref h0)]) mi_O_init (Nat.le_of_ble_eq_true rfl) rfl rfl (fun p e s m args below meth c A C hrr hlk hin hA _ => ?_)
  refine z_aload_n C d_O_init_0 0 rfl ?_
  refine z_obj C wL_O_3 (Nat.le_of_ble_eq_true rfl) (Nat.le_of_ble_eq_true rfl) d_O_init_1 ?_
  refine z_aload_n C d_O_init_4 0 rfl ?_
  refine z_iconst (v := 0) C d_O_init_5 rfl ?_
  refine zp_O (v := .int 0) (ty := .int) (ws' := [(h0, .inr (4, [.int 0, .null, .null, .null]))]) C 0 0 rfl (by decide) wF_O_9 rfl rfl (by decide +kernel) rfl rfl (Nat.le_of_ble_eq_true rfl) d_O_init_6 rfl ?_
  refine z_aload_n C d_O_init_9 0 rfl ?_
  refine z_bipush (v := 15) C d_O_init_10 rfl ?_
  refine z_newa C 15 (by decide) rfl (by decide) (Nat.le_of_ble_eq_true rfl) (Nat.le_of_ble_eq_true rfl) d_O_init_12 (fun q1 => ?_)
  refine z_cast (ws' := [(h0, .inr (4, [.int 0, .null, .null, .null])), (q1, .inl (cs 0, 15, .inl (fun _ => 0)))]) rfl ?_
  refine zf_O (v := .ref q1) (ty := (.array .int)) (ws' := [(h0, .inr (4, [.int 0, .ref q1, .null, .null])), (q1, .inl (cs 0, 15, .inl (fun _ => 0)))]) C 0 1 hin rfl (by decide) wF_O_15 rfl rfl (by decide +kernel) rfl rfl (Nat.le_of_ble_eq_true rfl) d_O_init_14 rfl ?_
  refine z_aload_n C d_O_init_17 0 rfl ?_
  refine z_bipush (v := 15) C d_O_init_18 rfl ?_
  refine z_newa C 15 (by decide) rfl (by decide) (Nat.le_of_ble_eq_true rfl) (Nat.le_of_ble_eq_true rfl) d_O_init_20 (fun q2 => ?_)
  refine z_cast (ws' := [(h0, .inr (4, [.int 0, .ref q1, .null, .null])), (q1, .inl (cs 0, 15, .inl (fun _ => 0))), (q2, .inl (cs 0, 15, .inl (fun _ => 0)))]) rfl ?_
  refine zf_O (v := .ref q2) (ty := (.array .int)) (ws' := [(h0, .inr (4, [.int 0, .ref q1, .ref q2, .null])), (q1, .inl (cs 0, 15, .inl (fun _ => 0))), (q2, .inl (cs 0, 15, .inl (fun _ => 0)))]) C 0 2 hin rfl (by decide) wF_O_19 rfl rfl (by decide +kernel) rfl rfl (Nat.le_of_ble_eq_true rfl) d_O_init_22 rfl ?_
  refine z_aload_n C d_O_init_25 0 rfl ?_
  refine z_bipush (v := 6) C d_O_init_26 rfl ?_
  refine z_newa C 6 (by decide) rfl (by decide) (Nat.le_of_ble_eq_true rfl) (Nat.le_of_ble_eq_true rfl) d_O_init_28 (fun q3 => ?_)
  refine z_cast (ws' := [(h0, .inr (4, [.int 0, .ref q1, .ref q2, .null])), (q1, .inl (cs 0, 15, .inl (fun _ => 0))), (q2, .inl (cs 0, 15, .inl (fun _ => 0))), (q3, .inl (cs 0, 6, .inl (fun _ => 0)))]) rfl ?_
  refine zf_O (v := .ref q3) (ty := (.array .int)) (ws' := [(h0, .inr (4, [.int 0, .ref q1, .ref q2, .ref q3])), (q1, .inl (cs 0, 15, .inl (fun _ => 0))), (q2, .inl (cs 0, 15, .inl (fun _ => 0))), (q3, .inl (cs 0, 6, .inl (fun _ => 0)))]) C 0 3 hin rfl (by decide) wF_O_22 rfl rfl (by decide +kernel) rfl rfl (Nat.le_of_ble_eq_true rfl) d_O_init_30 rfl ?_
  exact z_ret C hrr hlk hA ⟨q1, q2, q3, rfl⟩ d_O_init_33
def Φ_B (cs : Nat → ClassId) (h0 : Nat) (w : va_W) : Prop := ∃ q1 : Nat, w = [(h0, .inr (0, [.int 0, .int (-9), .int 0, .ref q1])), (q1, .inl (cs 0, 6, .inl (fun _ => 0)))]
set_option maxHeartbeats 8000000 in
set_option maxRecDepth 100000 in
theorem cn_B {l : Launch} (D : va_G) (cs : Nat → ClassId) (h0 : Nat) (sz : Nat) : Met l y_B_init (Cond.code y_B_init b_B_init 1 none :: wl) (rmC 1 1 6 32) (PC D cs [(h0, .inr (0, [.int 0, .int 0, .int 0, .null]))] sz [.ref h0]) (QC D [(h0, .inr (0, [.int 0, .int 0, .int 0, .null]))] sz (Φ_B cs h0)) 1 6 (va_A [(h0, .inr (0, [.int 0, .int 0, .int 0, .null]))] sz) := by
  refine z_enter (lv := [(0, .ref h0)]) mi_B_init (Nat.le_of_ble_eq_true rfl) rfl rfl (fun p e s m args below meth c A C hrr hlk hin hA _ => ?_)
  refine z_aload_n C d_B_init_0 0 rfl ?_
  refine z_obj C wL_B_3 (Nat.le_of_ble_eq_true rfl) (Nat.le_of_ble_eq_true rfl) d_B_init_1 ?_
  refine z_aload_n C d_B_init_4 0 rfl ?_
  refine z_iconst (v := 0) C d_B_init_5 rfl ?_
  refine zp_B (v := .int 0) (ty := .int) (ws' := [(h0, .inr (0, [.int 0, .int 0, .int 0, .null]))]) C 0 0 rfl (by decide) wF_B_9 rfl rfl (by decide +kernel) rfl rfl (Nat.le_of_ble_eq_true rfl) d_B_init_6 rfl ?_
  refine z_aload_n C d_B_init_9 0 rfl ?_
  refine z_bipush (v := (-9)) C d_B_init_10 rfl ?_
  refine zp_B (v := .int (-9)) (ty := .int) (ws' := [(h0, .inr (0, [.int 0, .int (-9), .int 0, .null]))]) C 0 1 rfl (by decide) wF_B_15 rfl rfl (by decide +kernel) rfl rfl (Nat.le_of_ble_eq_true rfl) d_B_init_12 rfl ?_
  refine z_aload_n C d_B_init_15 0 rfl ?_
  refine z_iconst (v := 0) C d_B_init_16 rfl ?_
  refine zp_B (v := .int 0) (ty := .int) (ws' := [(h0, .inr (0, [.int 0, .int (-9), .int 0, .null]))]) C 0 2 rfl (by decide) wF_B_18 rfl rfl (by decide +kernel) rfl rfl (Nat.le_of_ble_eq_true rfl) d_B_init_17 rfl ?_
  refine z_aload_n C d_B_init_20 0 rfl ?_
  refine z_bipush (v := 6) C d_B_init_21 rfl ?_
  refine z_newa C 6 (by decide) rfl (by decide) (Nat.le_of_ble_eq_true rfl) (Nat.le_of_ble_eq_true rfl) d_B_init_23 (fun q1 => ?_)
  refine z_cast (ws' := [(h0, .inr (0, [.int 0, .int (-9), .int 0, .null])), (q1, .inl (cs 0, 6, .inl (fun _ => 0)))]) rfl ?_
  refine zf_B (v := .ref q1) (ty := (.array .int)) (ws' := [(h0, .inr (0, [.int 0, .int (-9), .int 0, .ref q1])), (q1, .inl (cs 0, 6, .inl (fun _ => 0)))]) C 0 3 hin rfl (by decide) wF_B_21 rfl rfl (by decide +kernel) rfl rfl (Nat.le_of_ble_eq_true rfl) d_B_init_25 rfl ?_
  exact z_ret C hrr hlk hA ⟨q1, rfl⟩ d_B_init_28
def Φ_V (cs : Nat → ClassId) (h0 : Nat) (w : va_W) : Prop := ∃ q1 q2 q3 q6 q9 q12 q15 q18 q21 q24 q27 q30 q33 q36 : Nat, w = [(h0, .inr (6, [.int 0, .int 0, .ref q1, .ref q2])), (q1, .inl (cs 0, 6, .inl (fun _ => 0))), (q2, .inl (cs 2, 12, .inr (.inr (.inr (.inr (va_up (va_up (va_up (va_up (va_up (va_up (va_up (va_up (va_up (va_up (va_up (va_up (fun _ => none) 0 (some q3)) 1 (some q6)) 2 (some q9)) 3 (some q12)) 4 (some q15)) 5 (some q18)) 6 (some q21)) 7 (some q24)) 8 (some q27)) 9 (some q30)) 10 (some q33)) 11 (some q36))))))), (q3, .inr (1, [.int 0, .int 0, .int 0, .int 0, .int 0, .int 0])), (q6, .inr (1, [.int 0, .int 0, .int 0, .int 0, .int 0, .int 0])), (q9, .inr (1, [.int 0, .int 0, .int 0, .int 0, .int 0, .int 0])), (q12, .inr (1, [.int 0, .int 0, .int 0, .int 0, .int 0, .int 0])), (q15, .inr (1, [.int 0, .int 0, .int 0, .int 0, .int 0, .int 0])), (q18, .inr (1, [.int 0, .int 0, .int 0, .int 0, .int 0, .int 0])), (q21, .inr (1, [.int 0, .int 0, .int 0, .int 0, .int 0, .int 0])), (q24, .inr (1, [.int 0, .int 0, .int 0, .int 0, .int 0, .int 0])), (q27, .inr (1, [.int 0, .int 0, .int 0, .int 0, .int 0, .int 0])), (q30, .inr (1, [.int 0, .int 0, .int 0, .int 0, .int 0, .int 0])), (q33, .inr (1, [.int 0, .int 0, .int 0, .int 0, .int 0, .int 0])), (q36, .inr (1, [.int 0, .int 0, .int 0, .int 0, .int 0, .int 0]))]
set_option maxHeartbeats 8000000 in
set_option maxRecDepth 100000 in
theorem cn_V {l : Launch} (D : va_G) (cs : Nat → ClassId) (h0 : Nat) (sz : Nat) : Met l y_V_init (Cond.code y_V_init b_V_init 2 none :: wl) (rmC 2 14 90 52) (PC D cs [(h0, .inr (6, [.int 0, .int 0, .null, .null]))] sz [.ref h0]) (QC D [(h0, .inr (6, [.int 0, .int 0, .null, .null]))] sz (Φ_V cs h0)) 14 90 (va_A [(h0, .inr (6, [.int 0, .int 0, .null, .null]))] sz) := by
  refine z_enter (lv := [(0, .ref h0)]) mi_V_init (Nat.le_of_ble_eq_true rfl) rfl rfl (fun p e s m args below meth c A C hrr hlk hin hA _ => ?_)
  refine z_aload_n C d_V_init_0 0 rfl ?_
  refine z_obj C wL_V_3 (Nat.le_of_ble_eq_true rfl) (Nat.le_of_ble_eq_true rfl) d_V_init_1 ?_
  refine z_aload_n C d_V_init_4 0 rfl ?_
  refine z_iconst (v := 0) C d_V_init_5 rfl ?_
  refine zp_V (v := .int 0) (ty := .int) (ws' := [(h0, .inr (6, [.int 0, .int 0, .null, .null]))]) C 0 0 rfl (by decide) wF_V_9 rfl rfl (by decide +kernel) rfl rfl (Nat.le_of_ble_eq_true rfl) d_V_init_6 rfl ?_
  refine z_aload_n C d_V_init_9 0 rfl ?_
  refine z_iconst (v := 0) C d_V_init_10 rfl ?_
  refine zp_V (v := .int 0) (ty := .int) (ws' := [(h0, .inr (6, [.int 0, .int 0, .null, .null]))]) C 0 1 rfl (by decide) wF_V_15 rfl rfl (by decide +kernel) rfl rfl (Nat.le_of_ble_eq_true rfl) d_V_init_11 rfl ?_
  refine z_aload_n C d_V_init_14 0 rfl ?_
  refine z_bipush (v := 6) C d_V_init_15 rfl ?_
  refine z_newa C 6 (by decide) rfl (by decide) (Nat.le_of_ble_eq_true rfl) (Nat.le_of_ble_eq_true rfl) d_V_init_17 (fun q1 => ?_)
  refine z_cast (ws' := [(h0, .inr (6, [.int 0, .int 0, .null, .null])), (q1, .inl (cs 0, 6, .inl (fun _ => 0)))]) rfl ?_
  refine zf_V (v := .ref q1) (ty := (.array .int)) (ws' := [(h0, .inr (6, [.int 0, .int 0, .ref q1, .null])), (q1, .inl (cs 0, 6, .inl (fun _ => 0)))]) C 0 2 hin rfl (by decide) wF_V_18 rfl rfl (by decide +kernel) rfl rfl (Nat.le_of_ble_eq_true rfl) d_V_init_19 rfl ?_
  refine z_aload_n C d_V_init_22 0 rfl ?_
  refine z_bipush (v := 12) C d_V_init_23 rfl ?_
  refine z_newqD C 12 wK_V_22 (by decide) rfl (by decide) (Nat.le_of_ble_eq_true rfl) (Nat.le_of_ble_eq_true rfl) d_V_init_25 (fun q2 => ?_)
  refine z_cast (ws' := [(h0, .inr (6, [.int 0, .int 0, .ref q1, .null])), (q1, .inl (cs 0, 6, .inl (fun _ => 0))), (q2, .inl (cs 2, 12, .inr (.inr (.inr (.inr (fun _ => none))))))]) rfl ?_
  refine zf_V (v := .ref q2) (ty := (.array (.object "KissClearing$Draft"))) (ws' := [(h0, .inr (6, [.int 0, .int 0, .ref q1, .ref q2])), (q1, .inl (cs 0, 6, .inl (fun _ => 0))), (q2, .inl (cs 2, 12, .inr (.inr (.inr (.inr (fun _ => none))))))]) C 0 3 hin rfl (by decide) wF_V_24 rfl rfl (by decide +kernel) rfl rfl (Nat.le_of_ble_eq_true rfl) d_V_init_28 rfl ?_
  refine z_iconst (v := 0) C d_V_init_31 rfl ?_
  refine z_istore_n (lv' := [(1, .int 0), (0, .ref h0)]) C d_V_init_32 (by decide) rfl ?_
  refine z_iload_n C d_V_init_33 0 rfl ?_
  refine z_bipush (v := 12) C d_V_init_34 rfl ?_
  refine z_icmp_geF C 58 d_V_init_36 (by decide) (by decide) ?_
  refine z_aload_n C d_V_init_39 1 rfl ?_
  refine zg_V (v := .ref q2) C 0 3 rfl (by decide) wF_V_24 rfl rfl d_V_init_40 ?_
  refine z_iload_n C d_V_init_43 0 rfl ?_
  refine zn_D C [.int 0, .int 0, .int 0, .int 0, .int 0, .int 0] wK_V_22 (by decide) (Nat.le_of_ble_eq_true rfl) (Nat.le_of_ble_eq_true rfl) d_V_init_44 (fun q3 => ?_)
  refine z_dup C d_V_init_47 rfl ?_
  refine z_ctorN (cells := 3) (slots := 24) (R := (rmC 2 14 90 52)) (rest := [.ref q3, .int 0, .ref q2]) (wr := [(h0, .inr (6, [.int 0, .int 0, .ref q1, .ref q2])), (q1, .inl (cs 0, 6, .inl (fun _ => 0))), (q2, .inl (cs 2, 12, .inr (.inr (.inr (.inr (fun _ => none))))))]) C (fun sz => cn_D D cs q3 sz) mi_D_init rfl wI_D_init 4 (by decide) rfl rfl rfl rfl rfl ⟨Nat.le_of_ble_eq_true rfl, Nat.le_of_ble_eq_true rfl⟩ rfl rfl (Nat.le_of_ble_eq_true rfl) ⟨Nat.le_of_ble_eq_true rfl, Nat.le_of_ble_eq_true rfl⟩ d_V_init_48 (fun w4 e5 => ?_)
  obtain ⟨rfl⟩ := e5
  refine z_cast (ws' := [(h0, .inr (6, [.int 0, .int 0, .ref q1, .ref q2])), (q1, .inl (cs 0, 6, .inl (fun _ => 0))), (q2, .inl (cs 2, 12, .inr (.inr (.inr (.inr (fun _ => none)))))), (q3, .inr (1, [.int 0, .int 0, .int 0, .int 0, .int 0, .int 0]))]) rfl ?_
  refine z_aastD (ws' := [(h0, .inr (6, [.int 0, .int 0, .ref q1, .ref q2])), (q1, .inl (cs 0, 6, .inl (fun _ => 0))), (q2, .inl (cs 2, 12, .inr (.inr (.inr (.inr (va_up (fun _ => none) 0 (some q3))))))), (q3, .inr (1, [.int 0, .int 0, .int 0, .int 0, .int 0, .int 0]))]) C 2 3 rfl rfl rfl d_V_init_51 rfl ?_
  refine z_iinc (v := 1) (lv' := [(1, .int 1), (0, .ref h0)]) C d_V_init_52 0 rfl rfl (by decide) rfl ?_
  refine z_goto C 33 d_V_init_55 (by decide) ?_
  refine z_iload_n C d_V_init_33 0 rfl ?_
  refine z_bipush (v := 12) C d_V_init_34 rfl ?_
  refine z_icmp_geF C 58 d_V_init_36 (by decide) (by decide) ?_
  refine z_aload_n C d_V_init_39 1 rfl ?_
  refine zg_V (v := .ref q2) C 0 3 rfl (by decide) wF_V_24 rfl rfl d_V_init_40 ?_
  refine z_iload_n C d_V_init_43 0 rfl ?_
  refine zn_D C [.int 0, .int 0, .int 0, .int 0, .int 0, .int 0] wK_V_22 (by decide) (Nat.le_of_ble_eq_true rfl) (Nat.le_of_ble_eq_true rfl) d_V_init_44 (fun q6 => ?_)
  refine z_dup C d_V_init_47 rfl ?_
  refine z_ctorN (cells := 4) (slots := 30) (R := (rmC 2 14 90 52)) (rest := [.ref q6, .int 1, .ref q2]) (wr := [(h0, .inr (6, [.int 0, .int 0, .ref q1, .ref q2])), (q1, .inl (cs 0, 6, .inl (fun _ => 0))), (q2, .inl (cs 2, 12, .inr (.inr (.inr (.inr (va_up (fun _ => none) 0 (some q3))))))), (q3, .inr (1, [.int 0, .int 0, .int 0, .int 0, .int 0, .int 0]))]) C (fun sz => cn_D D cs q6 sz) mi_D_init rfl wI_D_init 4 (by decide) rfl rfl rfl rfl rfl ⟨Nat.le_of_ble_eq_true rfl, Nat.le_of_ble_eq_true rfl⟩ rfl rfl (Nat.le_of_ble_eq_true rfl) ⟨Nat.le_of_ble_eq_true rfl, Nat.le_of_ble_eq_true rfl⟩ d_V_init_48 (fun w7 e8 => ?_)
  obtain ⟨rfl⟩ := e8
  refine z_cast (ws' := [(h0, .inr (6, [.int 0, .int 0, .ref q1, .ref q2])), (q1, .inl (cs 0, 6, .inl (fun _ => 0))), (q2, .inl (cs 2, 12, .inr (.inr (.inr (.inr (va_up (fun _ => none) 0 (some q3))))))), (q3, .inr (1, [.int 0, .int 0, .int 0, .int 0, .int 0, .int 0])), (q6, .inr (1, [.int 0, .int 0, .int 0, .int 0, .int 0, .int 0]))]) rfl ?_
  refine z_aastD (ws' := [(h0, .inr (6, [.int 0, .int 0, .ref q1, .ref q2])), (q1, .inl (cs 0, 6, .inl (fun _ => 0))), (q2, .inl (cs 2, 12, .inr (.inr (.inr (.inr (va_up (va_up (fun _ => none) 0 (some q3)) 1 (some q6))))))), (q3, .inr (1, [.int 0, .int 0, .int 0, .int 0, .int 0, .int 0])), (q6, .inr (1, [.int 0, .int 0, .int 0, .int 0, .int 0, .int 0]))]) C 2 4 rfl rfl rfl d_V_init_51 rfl ?_
  refine z_iinc (v := 2) (lv' := [(1, .int 2), (0, .ref h0)]) C d_V_init_52 0 rfl rfl (by decide) rfl ?_
  refine z_goto C 33 d_V_init_55 (by decide) ?_
  refine z_iload_n C d_V_init_33 0 rfl ?_
  refine z_bipush (v := 12) C d_V_init_34 rfl ?_
  refine z_icmp_geF C 58 d_V_init_36 (by decide) (by decide) ?_
  refine z_aload_n C d_V_init_39 1 rfl ?_
  refine zg_V (v := .ref q2) C 0 3 rfl (by decide) wF_V_24 rfl rfl d_V_init_40 ?_
  refine z_iload_n C d_V_init_43 0 rfl ?_
  refine zn_D C [.int 0, .int 0, .int 0, .int 0, .int 0, .int 0] wK_V_22 (by decide) (Nat.le_of_ble_eq_true rfl) (Nat.le_of_ble_eq_true rfl) d_V_init_44 (fun q9 => ?_)
  refine z_dup C d_V_init_47 rfl ?_
  refine z_ctorN (cells := 5) (slots := 36) (R := (rmC 2 14 90 52)) (rest := [.ref q9, .int 2, .ref q2]) (wr := [(h0, .inr (6, [.int 0, .int 0, .ref q1, .ref q2])), (q1, .inl (cs 0, 6, .inl (fun _ => 0))), (q2, .inl (cs 2, 12, .inr (.inr (.inr (.inr (va_up (va_up (fun _ => none) 0 (some q3)) 1 (some q6))))))), (q3, .inr (1, [.int 0, .int 0, .int 0, .int 0, .int 0, .int 0])), (q6, .inr (1, [.int 0, .int 0, .int 0, .int 0, .int 0, .int 0]))]) C (fun sz => cn_D D cs q9 sz) mi_D_init rfl wI_D_init 4 (by decide) rfl rfl rfl rfl rfl ⟨Nat.le_of_ble_eq_true rfl, Nat.le_of_ble_eq_true rfl⟩ rfl rfl (Nat.le_of_ble_eq_true rfl) ⟨Nat.le_of_ble_eq_true rfl, Nat.le_of_ble_eq_true rfl⟩ d_V_init_48 (fun w10 e11 => ?_)
  obtain ⟨rfl⟩ := e11
  refine z_cast (ws' := [(h0, .inr (6, [.int 0, .int 0, .ref q1, .ref q2])), (q1, .inl (cs 0, 6, .inl (fun _ => 0))), (q2, .inl (cs 2, 12, .inr (.inr (.inr (.inr (va_up (va_up (fun _ => none) 0 (some q3)) 1 (some q6))))))), (q3, .inr (1, [.int 0, .int 0, .int 0, .int 0, .int 0, .int 0])), (q6, .inr (1, [.int 0, .int 0, .int 0, .int 0, .int 0, .int 0])), (q9, .inr (1, [.int 0, .int 0, .int 0, .int 0, .int 0, .int 0]))]) rfl ?_
  refine z_aastD (ws' := [(h0, .inr (6, [.int 0, .int 0, .ref q1, .ref q2])), (q1, .inl (cs 0, 6, .inl (fun _ => 0))), (q2, .inl (cs 2, 12, .inr (.inr (.inr (.inr (va_up (va_up (va_up (fun _ => none) 0 (some q3)) 1 (some q6)) 2 (some q9))))))), (q3, .inr (1, [.int 0, .int 0, .int 0, .int 0, .int 0, .int 0])), (q6, .inr (1, [.int 0, .int 0, .int 0, .int 0, .int 0, .int 0])), (q9, .inr (1, [.int 0, .int 0, .int 0, .int 0, .int 0, .int 0]))]) C 2 5 rfl rfl rfl d_V_init_51 rfl ?_
  refine z_iinc (v := 3) (lv' := [(1, .int 3), (0, .ref h0)]) C d_V_init_52 0 rfl rfl (by decide) rfl ?_
  refine z_goto C 33 d_V_init_55 (by decide) ?_
  refine z_iload_n C d_V_init_33 0 rfl ?_
  refine z_bipush (v := 12) C d_V_init_34 rfl ?_
  refine z_icmp_geF C 58 d_V_init_36 (by decide) (by decide) ?_
  refine z_aload_n C d_V_init_39 1 rfl ?_
  refine zg_V (v := .ref q2) C 0 3 rfl (by decide) wF_V_24 rfl rfl d_V_init_40 ?_
  refine z_iload_n C d_V_init_43 0 rfl ?_
  refine zn_D C [.int 0, .int 0, .int 0, .int 0, .int 0, .int 0] wK_V_22 (by decide) (Nat.le_of_ble_eq_true rfl) (Nat.le_of_ble_eq_true rfl) d_V_init_44 (fun q12 => ?_)
  refine z_dup C d_V_init_47 rfl ?_
  refine z_ctorN (cells := 6) (slots := 42) (R := (rmC 2 14 90 52)) (rest := [.ref q12, .int 3, .ref q2]) (wr := [(h0, .inr (6, [.int 0, .int 0, .ref q1, .ref q2])), (q1, .inl (cs 0, 6, .inl (fun _ => 0))), (q2, .inl (cs 2, 12, .inr (.inr (.inr (.inr (va_up (va_up (va_up (fun _ => none) 0 (some q3)) 1 (some q6)) 2 (some q9))))))), (q3, .inr (1, [.int 0, .int 0, .int 0, .int 0, .int 0, .int 0])), (q6, .inr (1, [.int 0, .int 0, .int 0, .int 0, .int 0, .int 0])), (q9, .inr (1, [.int 0, .int 0, .int 0, .int 0, .int 0, .int 0]))]) C (fun sz => cn_D D cs q12 sz) mi_D_init rfl wI_D_init 4 (by decide) rfl rfl rfl rfl rfl ⟨Nat.le_of_ble_eq_true rfl, Nat.le_of_ble_eq_true rfl⟩ rfl rfl (Nat.le_of_ble_eq_true rfl) ⟨Nat.le_of_ble_eq_true rfl, Nat.le_of_ble_eq_true rfl⟩ d_V_init_48 (fun w13 e14 => ?_)
  obtain ⟨rfl⟩ := e14
  refine z_cast (ws' := [(h0, .inr (6, [.int 0, .int 0, .ref q1, .ref q2])), (q1, .inl (cs 0, 6, .inl (fun _ => 0))), (q2, .inl (cs 2, 12, .inr (.inr (.inr (.inr (va_up (va_up (va_up (fun _ => none) 0 (some q3)) 1 (some q6)) 2 (some q9))))))), (q3, .inr (1, [.int 0, .int 0, .int 0, .int 0, .int 0, .int 0])), (q6, .inr (1, [.int 0, .int 0, .int 0, .int 0, .int 0, .int 0])), (q9, .inr (1, [.int 0, .int 0, .int 0, .int 0, .int 0, .int 0])), (q12, .inr (1, [.int 0, .int 0, .int 0, .int 0, .int 0, .int 0]))]) rfl ?_
  refine z_aastD (ws' := [(h0, .inr (6, [.int 0, .int 0, .ref q1, .ref q2])), (q1, .inl (cs 0, 6, .inl (fun _ => 0))), (q2, .inl (cs 2, 12, .inr (.inr (.inr (.inr (va_up (va_up (va_up (va_up (fun _ => none) 0 (some q3)) 1 (some q6)) 2 (some q9)) 3 (some q12))))))), (q3, .inr (1, [.int 0, .int 0, .int 0, .int 0, .int 0, .int 0])), (q6, .inr (1, [.int 0, .int 0, .int 0, .int 0, .int 0, .int 0])), (q9, .inr (1, [.int 0, .int 0, .int 0, .int 0, .int 0, .int 0])), (q12, .inr (1, [.int 0, .int 0, .int 0, .int 0, .int 0, .int 0]))]) C 2 6 rfl rfl rfl d_V_init_51 rfl ?_
  refine z_iinc (v := 4) (lv' := [(1, .int 4), (0, .ref h0)]) C d_V_init_52 0 rfl rfl (by decide) rfl ?_
  refine z_goto C 33 d_V_init_55 (by decide) ?_
  refine z_iload_n C d_V_init_33 0 rfl ?_
  refine z_bipush (v := 12) C d_V_init_34 rfl ?_
  refine z_icmp_geF C 58 d_V_init_36 (by decide) (by decide) ?_
  refine z_aload_n C d_V_init_39 1 rfl ?_
  refine zg_V (v := .ref q2) C 0 3 rfl (by decide) wF_V_24 rfl rfl d_V_init_40 ?_
  refine z_iload_n C d_V_init_43 0 rfl ?_
  refine zn_D C [.int 0, .int 0, .int 0, .int 0, .int 0, .int 0] wK_V_22 (by decide) (Nat.le_of_ble_eq_true rfl) (Nat.le_of_ble_eq_true rfl) d_V_init_44 (fun q15 => ?_)
  refine z_dup C d_V_init_47 rfl ?_
  refine z_ctorN (cells := 7) (slots := 48) (R := (rmC 2 14 90 52)) (rest := [.ref q15, .int 4, .ref q2]) (wr := [(h0, .inr (6, [.int 0, .int 0, .ref q1, .ref q2])), (q1, .inl (cs 0, 6, .inl (fun _ => 0))), (q2, .inl (cs 2, 12, .inr (.inr (.inr (.inr (va_up (va_up (va_up (va_up (fun _ => none) 0 (some q3)) 1 (some q6)) 2 (some q9)) 3 (some q12))))))), (q3, .inr (1, [.int 0, .int 0, .int 0, .int 0, .int 0, .int 0])), (q6, .inr (1, [.int 0, .int 0, .int 0, .int 0, .int 0, .int 0])), (q9, .inr (1, [.int 0, .int 0, .int 0, .int 0, .int 0, .int 0])), (q12, .inr (1, [.int 0, .int 0, .int 0, .int 0, .int 0, .int 0]))]) C (fun sz => cn_D D cs q15 sz) mi_D_init rfl wI_D_init 4 (by decide) rfl rfl rfl rfl rfl ⟨Nat.le_of_ble_eq_true rfl, Nat.le_of_ble_eq_true rfl⟩ rfl rfl (Nat.le_of_ble_eq_true rfl) ⟨Nat.le_of_ble_eq_true rfl, Nat.le_of_ble_eq_true rfl⟩ d_V_init_48 (fun w16 e17 => ?_)
  obtain ⟨rfl⟩ := e17
  refine z_cast (ws' := [(h0, .inr (6, [.int 0, .int 0, .ref q1, .ref q2])), (q1, .inl (cs 0, 6, .inl (fun _ => 0))), (q2, .inl (cs 2, 12, .inr (.inr (.inr (.inr (va_up (va_up (va_up (va_up (fun _ => none) 0 (some q3)) 1 (some q6)) 2 (some q9)) 3 (some q12))))))), (q3, .inr (1, [.int 0, .int 0, .int 0, .int 0, .int 0, .int 0])), (q6, .inr (1, [.int 0, .int 0, .int 0, .int 0, .int 0, .int 0])), (q9, .inr (1, [.int 0, .int 0, .int 0, .int 0, .int 0, .int 0])), (q12, .inr (1, [.int 0, .int 0, .int 0, .int 0, .int 0, .int 0])), (q15, .inr (1, [.int 0, .int 0, .int 0, .int 0, .int 0, .int 0]))]) rfl ?_
  refine z_aastD (ws' := [(h0, .inr (6, [.int 0, .int 0, .ref q1, .ref q2])), (q1, .inl (cs 0, 6, .inl (fun _ => 0))), (q2, .inl (cs 2, 12, .inr (.inr (.inr (.inr (va_up (va_up (va_up (va_up (va_up (fun _ => none) 0 (some q3)) 1 (some q6)) 2 (some q9)) 3 (some q12)) 4 (some q15))))))), (q3, .inr (1, [.int 0, .int 0, .int 0, .int 0, .int 0, .int 0])), (q6, .inr (1, [.int 0, .int 0, .int 0, .int 0, .int 0, .int 0])), (q9, .inr (1, [.int 0, .int 0, .int 0, .int 0, .int 0, .int 0])), (q12, .inr (1, [.int 0, .int 0, .int 0, .int 0, .int 0, .int 0])), (q15, .inr (1, [.int 0, .int 0, .int 0, .int 0, .int 0, .int 0]))]) C 2 7 rfl rfl rfl d_V_init_51 rfl ?_
  refine z_iinc (v := 5) (lv' := [(1, .int 5), (0, .ref h0)]) C d_V_init_52 0 rfl rfl (by decide) rfl ?_
  refine z_goto C 33 d_V_init_55 (by decide) ?_
  refine z_iload_n C d_V_init_33 0 rfl ?_
  refine z_bipush (v := 12) C d_V_init_34 rfl ?_
  refine z_icmp_geF C 58 d_V_init_36 (by decide) (by decide) ?_
  refine z_aload_n C d_V_init_39 1 rfl ?_
  refine zg_V (v := .ref q2) C 0 3 rfl (by decide) wF_V_24 rfl rfl d_V_init_40 ?_
  refine z_iload_n C d_V_init_43 0 rfl ?_
  refine zn_D C [.int 0, .int 0, .int 0, .int 0, .int 0, .int 0] wK_V_22 (by decide) (Nat.le_of_ble_eq_true rfl) (Nat.le_of_ble_eq_true rfl) d_V_init_44 (fun q18 => ?_)
  refine z_dup C d_V_init_47 rfl ?_
  refine z_ctorN (cells := 8) (slots := 54) (R := (rmC 2 14 90 52)) (rest := [.ref q18, .int 5, .ref q2]) (wr := [(h0, .inr (6, [.int 0, .int 0, .ref q1, .ref q2])), (q1, .inl (cs 0, 6, .inl (fun _ => 0))), (q2, .inl (cs 2, 12, .inr (.inr (.inr (.inr (va_up (va_up (va_up (va_up (va_up (fun _ => none) 0 (some q3)) 1 (some q6)) 2 (some q9)) 3 (some q12)) 4 (some q15))))))), (q3, .inr (1, [.int 0, .int 0, .int 0, .int 0, .int 0, .int 0])), (q6, .inr (1, [.int 0, .int 0, .int 0, .int 0, .int 0, .int 0])), (q9, .inr (1, [.int 0, .int 0, .int 0, .int 0, .int 0, .int 0])), (q12, .inr (1, [.int 0, .int 0, .int 0, .int 0, .int 0, .int 0])), (q15, .inr (1, [.int 0, .int 0, .int 0, .int 0, .int 0, .int 0]))]) C (fun sz => cn_D D cs q18 sz) mi_D_init rfl wI_D_init 4 (by decide) rfl rfl rfl rfl rfl ⟨Nat.le_of_ble_eq_true rfl, Nat.le_of_ble_eq_true rfl⟩ rfl rfl (Nat.le_of_ble_eq_true rfl) ⟨Nat.le_of_ble_eq_true rfl, Nat.le_of_ble_eq_true rfl⟩ d_V_init_48 (fun w19 e20 => ?_)
  obtain ⟨rfl⟩ := e20
  refine z_cast (ws' := [(h0, .inr (6, [.int 0, .int 0, .ref q1, .ref q2])), (q1, .inl (cs 0, 6, .inl (fun _ => 0))), (q2, .inl (cs 2, 12, .inr (.inr (.inr (.inr (va_up (va_up (va_up (va_up (va_up (fun _ => none) 0 (some q3)) 1 (some q6)) 2 (some q9)) 3 (some q12)) 4 (some q15))))))), (q3, .inr (1, [.int 0, .int 0, .int 0, .int 0, .int 0, .int 0])), (q6, .inr (1, [.int 0, .int 0, .int 0, .int 0, .int 0, .int 0])), (q9, .inr (1, [.int 0, .int 0, .int 0, .int 0, .int 0, .int 0])), (q12, .inr (1, [.int 0, .int 0, .int 0, .int 0, .int 0, .int 0])), (q15, .inr (1, [.int 0, .int 0, .int 0, .int 0, .int 0, .int 0])), (q18, .inr (1, [.int 0, .int 0, .int 0, .int 0, .int 0, .int 0]))]) rfl ?_
  refine z_aastD (ws' := [(h0, .inr (6, [.int 0, .int 0, .ref q1, .ref q2])), (q1, .inl (cs 0, 6, .inl (fun _ => 0))), (q2, .inl (cs 2, 12, .inr (.inr (.inr (.inr (va_up (va_up (va_up (va_up (va_up (va_up (fun _ => none) 0 (some q3)) 1 (some q6)) 2 (some q9)) 3 (some q12)) 4 (some q15)) 5 (some q18))))))), (q3, .inr (1, [.int 0, .int 0, .int 0, .int 0, .int 0, .int 0])), (q6, .inr (1, [.int 0, .int 0, .int 0, .int 0, .int 0, .int 0])), (q9, .inr (1, [.int 0, .int 0, .int 0, .int 0, .int 0, .int 0])), (q12, .inr (1, [.int 0, .int 0, .int 0, .int 0, .int 0, .int 0])), (q15, .inr (1, [.int 0, .int 0, .int 0, .int 0, .int 0, .int 0])), (q18, .inr (1, [.int 0, .int 0, .int 0, .int 0, .int 0, .int 0]))]) C 2 8 rfl rfl rfl d_V_init_51 rfl ?_
  refine z_iinc (v := 6) (lv' := [(1, .int 6), (0, .ref h0)]) C d_V_init_52 0 rfl rfl (by decide) rfl ?_
  refine z_goto C 33 d_V_init_55 (by decide) ?_
  refine z_iload_n C d_V_init_33 0 rfl ?_
  refine z_bipush (v := 12) C d_V_init_34 rfl ?_
  refine z_icmp_geF C 58 d_V_init_36 (by decide) (by decide) ?_
  refine z_aload_n C d_V_init_39 1 rfl ?_
  refine zg_V (v := .ref q2) C 0 3 rfl (by decide) wF_V_24 rfl rfl d_V_init_40 ?_
  refine z_iload_n C d_V_init_43 0 rfl ?_
  refine zn_D C [.int 0, .int 0, .int 0, .int 0, .int 0, .int 0] wK_V_22 (by decide) (Nat.le_of_ble_eq_true rfl) (Nat.le_of_ble_eq_true rfl) d_V_init_44 (fun q21 => ?_)
  refine z_dup C d_V_init_47 rfl ?_
  refine z_ctorN (cells := 9) (slots := 60) (R := (rmC 2 14 90 52)) (rest := [.ref q21, .int 6, .ref q2]) (wr := [(h0, .inr (6, [.int 0, .int 0, .ref q1, .ref q2])), (q1, .inl (cs 0, 6, .inl (fun _ => 0))), (q2, .inl (cs 2, 12, .inr (.inr (.inr (.inr (va_up (va_up (va_up (va_up (va_up (va_up (fun _ => none) 0 (some q3)) 1 (some q6)) 2 (some q9)) 3 (some q12)) 4 (some q15)) 5 (some q18))))))), (q3, .inr (1, [.int 0, .int 0, .int 0, .int 0, .int 0, .int 0])), (q6, .inr (1, [.int 0, .int 0, .int 0, .int 0, .int 0, .int 0])), (q9, .inr (1, [.int 0, .int 0, .int 0, .int 0, .int 0, .int 0])), (q12, .inr (1, [.int 0, .int 0, .int 0, .int 0, .int 0, .int 0])), (q15, .inr (1, [.int 0, .int 0, .int 0, .int 0, .int 0, .int 0])), (q18, .inr (1, [.int 0, .int 0, .int 0, .int 0, .int 0, .int 0]))]) C (fun sz => cn_D D cs q21 sz) mi_D_init rfl wI_D_init 4 (by decide) rfl rfl rfl rfl rfl ⟨Nat.le_of_ble_eq_true rfl, Nat.le_of_ble_eq_true rfl⟩ rfl rfl (Nat.le_of_ble_eq_true rfl) ⟨Nat.le_of_ble_eq_true rfl, Nat.le_of_ble_eq_true rfl⟩ d_V_init_48 (fun w22 e23 => ?_)
  obtain ⟨rfl⟩ := e23
  refine z_cast (ws' := [(h0, .inr (6, [.int 0, .int 0, .ref q1, .ref q2])), (q1, .inl (cs 0, 6, .inl (fun _ => 0))), (q2, .inl (cs 2, 12, .inr (.inr (.inr (.inr (va_up (va_up (va_up (va_up (va_up (va_up (fun _ => none) 0 (some q3)) 1 (some q6)) 2 (some q9)) 3 (some q12)) 4 (some q15)) 5 (some q18))))))), (q3, .inr (1, [.int 0, .int 0, .int 0, .int 0, .int 0, .int 0])), (q6, .inr (1, [.int 0, .int 0, .int 0, .int 0, .int 0, .int 0])), (q9, .inr (1, [.int 0, .int 0, .int 0, .int 0, .int 0, .int 0])), (q12, .inr (1, [.int 0, .int 0, .int 0, .int 0, .int 0, .int 0])), (q15, .inr (1, [.int 0, .int 0, .int 0, .int 0, .int 0, .int 0])), (q18, .inr (1, [.int 0, .int 0, .int 0, .int 0, .int 0, .int 0])), (q21, .inr (1, [.int 0, .int 0, .int 0, .int 0, .int 0, .int 0]))]) rfl ?_
  refine z_aastD (ws' := [(h0, .inr (6, [.int 0, .int 0, .ref q1, .ref q2])), (q1, .inl (cs 0, 6, .inl (fun _ => 0))), (q2, .inl (cs 2, 12, .inr (.inr (.inr (.inr (va_up (va_up (va_up (va_up (va_up (va_up (va_up (fun _ => none) 0 (some q3)) 1 (some q6)) 2 (some q9)) 3 (some q12)) 4 (some q15)) 5 (some q18)) 6 (some q21))))))), (q3, .inr (1, [.int 0, .int 0, .int 0, .int 0, .int 0, .int 0])), (q6, .inr (1, [.int 0, .int 0, .int 0, .int 0, .int 0, .int 0])), (q9, .inr (1, [.int 0, .int 0, .int 0, .int 0, .int 0, .int 0])), (q12, .inr (1, [.int 0, .int 0, .int 0, .int 0, .int 0, .int 0])), (q15, .inr (1, [.int 0, .int 0, .int 0, .int 0, .int 0, .int 0])), (q18, .inr (1, [.int 0, .int 0, .int 0, .int 0, .int 0, .int 0])), (q21, .inr (1, [.int 0, .int 0, .int 0, .int 0, .int 0, .int 0]))]) C 2 9 rfl rfl rfl d_V_init_51 rfl ?_
  refine z_iinc (v := 7) (lv' := [(1, .int 7), (0, .ref h0)]) C d_V_init_52 0 rfl rfl (by decide) rfl ?_
  refine z_goto C 33 d_V_init_55 (by decide) ?_
  refine z_iload_n C d_V_init_33 0 rfl ?_
  refine z_bipush (v := 12) C d_V_init_34 rfl ?_
  refine z_icmp_geF C 58 d_V_init_36 (by decide) (by decide) ?_
  refine z_aload_n C d_V_init_39 1 rfl ?_
  refine zg_V (v := .ref q2) C 0 3 rfl (by decide) wF_V_24 rfl rfl d_V_init_40 ?_
  refine z_iload_n C d_V_init_43 0 rfl ?_
  refine zn_D C [.int 0, .int 0, .int 0, .int 0, .int 0, .int 0] wK_V_22 (by decide) (Nat.le_of_ble_eq_true rfl) (Nat.le_of_ble_eq_true rfl) d_V_init_44 (fun q24 => ?_)
  refine z_dup C d_V_init_47 rfl ?_
  refine z_ctorN (cells := 10) (slots := 66) (R := (rmC 2 14 90 52)) (rest := [.ref q24, .int 7, .ref q2]) (wr := [(h0, .inr (6, [.int 0, .int 0, .ref q1, .ref q2])), (q1, .inl (cs 0, 6, .inl (fun _ => 0))), (q2, .inl (cs 2, 12, .inr (.inr (.inr (.inr (va_up (va_up (va_up (va_up (va_up (va_up (va_up (fun _ => none) 0 (some q3)) 1 (some q6)) 2 (some q9)) 3 (some q12)) 4 (some q15)) 5 (some q18)) 6 (some q21))))))), (q3, .inr (1, [.int 0, .int 0, .int 0, .int 0, .int 0, .int 0])), (q6, .inr (1, [.int 0, .int 0, .int 0, .int 0, .int 0, .int 0])), (q9, .inr (1, [.int 0, .int 0, .int 0, .int 0, .int 0, .int 0])), (q12, .inr (1, [.int 0, .int 0, .int 0, .int 0, .int 0, .int 0])), (q15, .inr (1, [.int 0, .int 0, .int 0, .int 0, .int 0, .int 0])), (q18, .inr (1, [.int 0, .int 0, .int 0, .int 0, .int 0, .int 0])), (q21, .inr (1, [.int 0, .int 0, .int 0, .int 0, .int 0, .int 0]))]) C (fun sz => cn_D D cs q24 sz) mi_D_init rfl wI_D_init 4 (by decide) rfl rfl rfl rfl rfl ⟨Nat.le_of_ble_eq_true rfl, Nat.le_of_ble_eq_true rfl⟩ rfl rfl (Nat.le_of_ble_eq_true rfl) ⟨Nat.le_of_ble_eq_true rfl, Nat.le_of_ble_eq_true rfl⟩ d_V_init_48 (fun w25 e26 => ?_)
  obtain ⟨rfl⟩ := e26
  refine z_cast (ws' := [(h0, .inr (6, [.int 0, .int 0, .ref q1, .ref q2])), (q1, .inl (cs 0, 6, .inl (fun _ => 0))), (q2, .inl (cs 2, 12, .inr (.inr (.inr (.inr (va_up (va_up (va_up (va_up (va_up (va_up (va_up (fun _ => none) 0 (some q3)) 1 (some q6)) 2 (some q9)) 3 (some q12)) 4 (some q15)) 5 (some q18)) 6 (some q21))))))), (q3, .inr (1, [.int 0, .int 0, .int 0, .int 0, .int 0, .int 0])), (q6, .inr (1, [.int 0, .int 0, .int 0, .int 0, .int 0, .int 0])), (q9, .inr (1, [.int 0, .int 0, .int 0, .int 0, .int 0, .int 0])), (q12, .inr (1, [.int 0, .int 0, .int 0, .int 0, .int 0, .int 0])), (q15, .inr (1, [.int 0, .int 0, .int 0, .int 0, .int 0, .int 0])), (q18, .inr (1, [.int 0, .int 0, .int 0, .int 0, .int 0, .int 0])), (q21, .inr (1, [.int 0, .int 0, .int 0, .int 0, .int 0, .int 0])), (q24, .inr (1, [.int 0, .int 0, .int 0, .int 0, .int 0, .int 0]))]) rfl ?_
  refine z_aastD (ws' := [(h0, .inr (6, [.int 0, .int 0, .ref q1, .ref q2])), (q1, .inl (cs 0, 6, .inl (fun _ => 0))), (q2, .inl (cs 2, 12, .inr (.inr (.inr (.inr (va_up (va_up (va_up (va_up (va_up (va_up (va_up (va_up (fun _ => none) 0 (some q3)) 1 (some q6)) 2 (some q9)) 3 (some q12)) 4 (some q15)) 5 (some q18)) 6 (some q21)) 7 (some q24))))))), (q3, .inr (1, [.int 0, .int 0, .int 0, .int 0, .int 0, .int 0])), (q6, .inr (1, [.int 0, .int 0, .int 0, .int 0, .int 0, .int 0])), (q9, .inr (1, [.int 0, .int 0, .int 0, .int 0, .int 0, .int 0])), (q12, .inr (1, [.int 0, .int 0, .int 0, .int 0, .int 0, .int 0])), (q15, .inr (1, [.int 0, .int 0, .int 0, .int 0, .int 0, .int 0])), (q18, .inr (1, [.int 0, .int 0, .int 0, .int 0, .int 0, .int 0])), (q21, .inr (1, [.int 0, .int 0, .int 0, .int 0, .int 0, .int 0])), (q24, .inr (1, [.int 0, .int 0, .int 0, .int 0, .int 0, .int 0]))]) C 2 10 rfl rfl rfl d_V_init_51 rfl ?_
  refine z_iinc (v := 8) (lv' := [(1, .int 8), (0, .ref h0)]) C d_V_init_52 0 rfl rfl (by decide) rfl ?_
  refine z_goto C 33 d_V_init_55 (by decide) ?_
  refine z_iload_n C d_V_init_33 0 rfl ?_
  refine z_bipush (v := 12) C d_V_init_34 rfl ?_
  refine z_icmp_geF C 58 d_V_init_36 (by decide) (by decide) ?_
  refine z_aload_n C d_V_init_39 1 rfl ?_
  refine zg_V (v := .ref q2) C 0 3 rfl (by decide) wF_V_24 rfl rfl d_V_init_40 ?_
  refine z_iload_n C d_V_init_43 0 rfl ?_
  refine zn_D C [.int 0, .int 0, .int 0, .int 0, .int 0, .int 0] wK_V_22 (by decide) (Nat.le_of_ble_eq_true rfl) (Nat.le_of_ble_eq_true rfl) d_V_init_44 (fun q27 => ?_)
  refine z_dup C d_V_init_47 rfl ?_
  refine z_ctorN (cells := 11) (slots := 72) (R := (rmC 2 14 90 52)) (rest := [.ref q27, .int 8, .ref q2]) (wr := [(h0, .inr (6, [.int 0, .int 0, .ref q1, .ref q2])), (q1, .inl (cs 0, 6, .inl (fun _ => 0))), (q2, .inl (cs 2, 12, .inr (.inr (.inr (.inr (va_up (va_up (va_up (va_up (va_up (va_up (va_up (va_up (fun _ => none) 0 (some q3)) 1 (some q6)) 2 (some q9)) 3 (some q12)) 4 (some q15)) 5 (some q18)) 6 (some q21)) 7 (some q24))))))), (q3, .inr (1, [.int 0, .int 0, .int 0, .int 0, .int 0, .int 0])), (q6, .inr (1, [.int 0, .int 0, .int 0, .int 0, .int 0, .int 0])), (q9, .inr (1, [.int 0, .int 0, .int 0, .int 0, .int 0, .int 0])), (q12, .inr (1, [.int 0, .int 0, .int 0, .int 0, .int 0, .int 0])), (q15, .inr (1, [.int 0, .int 0, .int 0, .int 0, .int 0, .int 0])), (q18, .inr (1, [.int 0, .int 0, .int 0, .int 0, .int 0, .int 0])), (q21, .inr (1, [.int 0, .int 0, .int 0, .int 0, .int 0, .int 0])), (q24, .inr (1, [.int 0, .int 0, .int 0, .int 0, .int 0, .int 0]))]) C (fun sz => cn_D D cs q27 sz) mi_D_init rfl wI_D_init 4 (by decide) rfl rfl rfl rfl rfl ⟨Nat.le_of_ble_eq_true rfl, Nat.le_of_ble_eq_true rfl⟩ rfl rfl (Nat.le_of_ble_eq_true rfl) ⟨Nat.le_of_ble_eq_true rfl, Nat.le_of_ble_eq_true rfl⟩ d_V_init_48 (fun w28 e29 => ?_)
  obtain ⟨rfl⟩ := e29
  refine z_cast (ws' := [(h0, .inr (6, [.int 0, .int 0, .ref q1, .ref q2])), (q1, .inl (cs 0, 6, .inl (fun _ => 0))), (q2, .inl (cs 2, 12, .inr (.inr (.inr (.inr (va_up (va_up (va_up (va_up (va_up (va_up (va_up (va_up (fun _ => none) 0 (some q3)) 1 (some q6)) 2 (some q9)) 3 (some q12)) 4 (some q15)) 5 (some q18)) 6 (some q21)) 7 (some q24))))))), (q3, .inr (1, [.int 0, .int 0, .int 0, .int 0, .int 0, .int 0])), (q6, .inr (1, [.int 0, .int 0, .int 0, .int 0, .int 0, .int 0])), (q9, .inr (1, [.int 0, .int 0, .int 0, .int 0, .int 0, .int 0])), (q12, .inr (1, [.int 0, .int 0, .int 0, .int 0, .int 0, .int 0])), (q15, .inr (1, [.int 0, .int 0, .int 0, .int 0, .int 0, .int 0])), (q18, .inr (1, [.int 0, .int 0, .int 0, .int 0, .int 0, .int 0])), (q21, .inr (1, [.int 0, .int 0, .int 0, .int 0, .int 0, .int 0])), (q24, .inr (1, [.int 0, .int 0, .int 0, .int 0, .int 0, .int 0])), (q27, .inr (1, [.int 0, .int 0, .int 0, .int 0, .int 0, .int 0]))]) rfl ?_
  refine z_aastD (ws' := [(h0, .inr (6, [.int 0, .int 0, .ref q1, .ref q2])), (q1, .inl (cs 0, 6, .inl (fun _ => 0))), (q2, .inl (cs 2, 12, .inr (.inr (.inr (.inr (va_up (va_up (va_up (va_up (va_up (va_up (va_up (va_up (va_up (fun _ => none) 0 (some q3)) 1 (some q6)) 2 (some q9)) 3 (some q12)) 4 (some q15)) 5 (some q18)) 6 (some q21)) 7 (some q24)) 8 (some q27))))))), (q3, .inr (1, [.int 0, .int 0, .int 0, .int 0, .int 0, .int 0])), (q6, .inr (1, [.int 0, .int 0, .int 0, .int 0, .int 0, .int 0])), (q9, .inr (1, [.int 0, .int 0, .int 0, .int 0, .int 0, .int 0])), (q12, .inr (1, [.int 0, .int 0, .int 0, .int 0, .int 0, .int 0])), (q15, .inr (1, [.int 0, .int 0, .int 0, .int 0, .int 0, .int 0])), (q18, .inr (1, [.int 0, .int 0, .int 0, .int 0, .int 0, .int 0])), (q21, .inr (1, [.int 0, .int 0, .int 0, .int 0, .int 0, .int 0])), (q24, .inr (1, [.int 0, .int 0, .int 0, .int 0, .int 0, .int 0])), (q27, .inr (1, [.int 0, .int 0, .int 0, .int 0, .int 0, .int 0]))]) C 2 11 rfl rfl rfl d_V_init_51 rfl ?_
  refine z_iinc (v := 9) (lv' := [(1, .int 9), (0, .ref h0)]) C d_V_init_52 0 rfl rfl (by decide) rfl ?_
  refine z_goto C 33 d_V_init_55 (by decide) ?_
  refine z_iload_n C d_V_init_33 0 rfl ?_
  refine z_bipush (v := 12) C d_V_init_34 rfl ?_
  refine z_icmp_geF C 58 d_V_init_36 (by decide) (by decide) ?_
  refine z_aload_n C d_V_init_39 1 rfl ?_
  refine zg_V (v := .ref q2) C 0 3 rfl (by decide) wF_V_24 rfl rfl d_V_init_40 ?_
  refine z_iload_n C d_V_init_43 0 rfl ?_
  refine zn_D C [.int 0, .int 0, .int 0, .int 0, .int 0, .int 0] wK_V_22 (by decide) (Nat.le_of_ble_eq_true rfl) (Nat.le_of_ble_eq_true rfl) d_V_init_44 (fun q30 => ?_)
  refine z_dup C d_V_init_47 rfl ?_
  refine z_ctorN (cells := 12) (slots := 78) (R := (rmC 2 14 90 52)) (rest := [.ref q30, .int 9, .ref q2]) (wr := [(h0, .inr (6, [.int 0, .int 0, .ref q1, .ref q2])), (q1, .inl (cs 0, 6, .inl (fun _ => 0))), (q2, .inl (cs 2, 12, .inr (.inr (.inr (.inr (va_up (va_up (va_up (va_up (va_up (va_up (va_up (va_up (va_up (fun _ => none) 0 (some q3)) 1 (some q6)) 2 (some q9)) 3 (some q12)) 4 (some q15)) 5 (some q18)) 6 (some q21)) 7 (some q24)) 8 (some q27))))))), (q3, .inr (1, [.int 0, .int 0, .int 0, .int 0, .int 0, .int 0])), (q6, .inr (1, [.int 0, .int 0, .int 0, .int 0, .int 0, .int 0])), (q9, .inr (1, [.int 0, .int 0, .int 0, .int 0, .int 0, .int 0])), (q12, .inr (1, [.int 0, .int 0, .int 0, .int 0, .int 0, .int 0])), (q15, .inr (1, [.int 0, .int 0, .int 0, .int 0, .int 0, .int 0])), (q18, .inr (1, [.int 0, .int 0, .int 0, .int 0, .int 0, .int 0])), (q21, .inr (1, [.int 0, .int 0, .int 0, .int 0, .int 0, .int 0])), (q24, .inr (1, [.int 0, .int 0, .int 0, .int 0, .int 0, .int 0])), (q27, .inr (1, [.int 0, .int 0, .int 0, .int 0, .int 0, .int 0]))]) C (fun sz => cn_D D cs q30 sz) mi_D_init rfl wI_D_init 4 (by decide) rfl rfl rfl rfl rfl ⟨Nat.le_of_ble_eq_true rfl, Nat.le_of_ble_eq_true rfl⟩ rfl rfl (Nat.le_of_ble_eq_true rfl) ⟨Nat.le_of_ble_eq_true rfl, Nat.le_of_ble_eq_true rfl⟩ d_V_init_48 (fun w31 e32 => ?_)
  obtain ⟨rfl⟩ := e32
  refine z_cast (ws' := [(h0, .inr (6, [.int 0, .int 0, .ref q1, .ref q2])), (q1, .inl (cs 0, 6, .inl (fun _ => 0))), (q2, .inl (cs 2, 12, .inr (.inr (.inr (.inr (va_up (va_up (va_up (va_up (va_up (va_up (va_up (va_up (va_up (fun _ => none) 0 (some q3)) 1 (some q6)) 2 (some q9)) 3 (some q12)) 4 (some q15)) 5 (some q18)) 6 (some q21)) 7 (some q24)) 8 (some q27))))))), (q3, .inr (1, [.int 0, .int 0, .int 0, .int 0, .int 0, .int 0])), (q6, .inr (1, [.int 0, .int 0, .int 0, .int 0, .int 0, .int 0])), (q9, .inr (1, [.int 0, .int 0, .int 0, .int 0, .int 0, .int 0])), (q12, .inr (1, [.int 0, .int 0, .int 0, .int 0, .int 0, .int 0])), (q15, .inr (1, [.int 0, .int 0, .int 0, .int 0, .int 0, .int 0])), (q18, .inr (1, [.int 0, .int 0, .int 0, .int 0, .int 0, .int 0])), (q21, .inr (1, [.int 0, .int 0, .int 0, .int 0, .int 0, .int 0])), (q24, .inr (1, [.int 0, .int 0, .int 0, .int 0, .int 0, .int 0])), (q27, .inr (1, [.int 0, .int 0, .int 0, .int 0, .int 0, .int 0])), (q30, .inr (1, [.int 0, .int 0, .int 0, .int 0, .int 0, .int 0]))]) rfl ?_
  refine z_aastD (ws' := [(h0, .inr (6, [.int 0, .int 0, .ref q1, .ref q2])), (q1, .inl (cs 0, 6, .inl (fun _ => 0))), (q2, .inl (cs 2, 12, .inr (.inr (.inr (.inr (va_up (va_up (va_up (va_up (va_up (va_up (va_up (va_up (va_up (va_up (fun _ => none) 0 (some q3)) 1 (some q6)) 2 (some q9)) 3 (some q12)) 4 (some q15)) 5 (some q18)) 6 (some q21)) 7 (some q24)) 8 (some q27)) 9 (some q30))))))), (q3, .inr (1, [.int 0, .int 0, .int 0, .int 0, .int 0, .int 0])), (q6, .inr (1, [.int 0, .int 0, .int 0, .int 0, .int 0, .int 0])), (q9, .inr (1, [.int 0, .int 0, .int 0, .int 0, .int 0, .int 0])), (q12, .inr (1, [.int 0, .int 0, .int 0, .int 0, .int 0, .int 0])), (q15, .inr (1, [.int 0, .int 0, .int 0, .int 0, .int 0, .int 0])), (q18, .inr (1, [.int 0, .int 0, .int 0, .int 0, .int 0, .int 0])), (q21, .inr (1, [.int 0, .int 0, .int 0, .int 0, .int 0, .int 0])), (q24, .inr (1, [.int 0, .int 0, .int 0, .int 0, .int 0, .int 0])), (q27, .inr (1, [.int 0, .int 0, .int 0, .int 0, .int 0, .int 0])), (q30, .inr (1, [.int 0, .int 0, .int 0, .int 0, .int 0, .int 0]))]) C 2 12 rfl rfl rfl d_V_init_51 rfl ?_
  refine z_iinc (v := 10) (lv' := [(1, .int 10), (0, .ref h0)]) C d_V_init_52 0 rfl rfl (by decide) rfl ?_
  refine z_goto C 33 d_V_init_55 (by decide) ?_
  refine z_iload_n C d_V_init_33 0 rfl ?_
  refine z_bipush (v := 12) C d_V_init_34 rfl ?_
  refine z_icmp_geF C 58 d_V_init_36 (by decide) (by decide) ?_
  refine z_aload_n C d_V_init_39 1 rfl ?_
  refine zg_V (v := .ref q2) C 0 3 rfl (by decide) wF_V_24 rfl rfl d_V_init_40 ?_
  refine z_iload_n C d_V_init_43 0 rfl ?_
  refine zn_D C [.int 0, .int 0, .int 0, .int 0, .int 0, .int 0] wK_V_22 (by decide) (Nat.le_of_ble_eq_true rfl) (Nat.le_of_ble_eq_true rfl) d_V_init_44 (fun q33 => ?_)
  refine z_dup C d_V_init_47 rfl ?_
  refine z_ctorN (cells := 13) (slots := 84) (R := (rmC 2 14 90 52)) (rest := [.ref q33, .int 10, .ref q2]) (wr := [(h0, .inr (6, [.int 0, .int 0, .ref q1, .ref q2])), (q1, .inl (cs 0, 6, .inl (fun _ => 0))), (q2, .inl (cs 2, 12, .inr (.inr (.inr (.inr (va_up (va_up (va_up (va_up (va_up (va_up (va_up (va_up (va_up (va_up (fun _ => none) 0 (some q3)) 1 (some q6)) 2 (some q9)) 3 (some q12)) 4 (some q15)) 5 (some q18)) 6 (some q21)) 7 (some q24)) 8 (some q27)) 9 (some q30))))))), (q3, .inr (1, [.int 0, .int 0, .int 0, .int 0, .int 0, .int 0])), (q6, .inr (1, [.int 0, .int 0, .int 0, .int 0, .int 0, .int 0])), (q9, .inr (1, [.int 0, .int 0, .int 0, .int 0, .int 0, .int 0])), (q12, .inr (1, [.int 0, .int 0, .int 0, .int 0, .int 0, .int 0])), (q15, .inr (1, [.int 0, .int 0, .int 0, .int 0, .int 0, .int 0])), (q18, .inr (1, [.int 0, .int 0, .int 0, .int 0, .int 0, .int 0])), (q21, .inr (1, [.int 0, .int 0, .int 0, .int 0, .int 0, .int 0])), (q24, .inr (1, [.int 0, .int 0, .int 0, .int 0, .int 0, .int 0])), (q27, .inr (1, [.int 0, .int 0, .int 0, .int 0, .int 0, .int 0])), (q30, .inr (1, [.int 0, .int 0, .int 0, .int 0, .int 0, .int 0]))]) C (fun sz => cn_D D cs q33 sz) mi_D_init rfl wI_D_init 4 (by decide) rfl rfl rfl rfl rfl ⟨Nat.le_of_ble_eq_true rfl, Nat.le_of_ble_eq_true rfl⟩ rfl rfl (Nat.le_of_ble_eq_true rfl) ⟨Nat.le_of_ble_eq_true rfl, Nat.le_of_ble_eq_true rfl⟩ d_V_init_48 (fun w34 e35 => ?_)
  obtain ⟨rfl⟩ := e35
  refine z_cast (ws' := [(h0, .inr (6, [.int 0, .int 0, .ref q1, .ref q2])), (q1, .inl (cs 0, 6, .inl (fun _ => 0))), (q2, .inl (cs 2, 12, .inr (.inr (.inr (.inr (va_up (va_up (va_up (va_up (va_up (va_up (va_up (va_up (va_up (va_up (fun _ => none) 0 (some q3)) 1 (some q6)) 2 (some q9)) 3 (some q12)) 4 (some q15)) 5 (some q18)) 6 (some q21)) 7 (some q24)) 8 (some q27)) 9 (some q30))))))), (q3, .inr (1, [.int 0, .int 0, .int 0, .int 0, .int 0, .int 0])), (q6, .inr (1, [.int 0, .int 0, .int 0, .int 0, .int 0, .int 0])), (q9, .inr (1, [.int 0, .int 0, .int 0, .int 0, .int 0, .int 0])), (q12, .inr (1, [.int 0, .int 0, .int 0, .int 0, .int 0, .int 0])), (q15, .inr (1, [.int 0, .int 0, .int 0, .int 0, .int 0, .int 0])), (q18, .inr (1, [.int 0, .int 0, .int 0, .int 0, .int 0, .int 0])), (q21, .inr (1, [.int 0, .int 0, .int 0, .int 0, .int 0, .int 0])), (q24, .inr (1, [.int 0, .int 0, .int 0, .int 0, .int 0, .int 0])), (q27, .inr (1, [.int 0, .int 0, .int 0, .int 0, .int 0, .int 0])), (q30, .inr (1, [.int 0, .int 0, .int 0, .int 0, .int 0, .int 0])), (q33, .inr (1, [.int 0, .int 0, .int 0, .int 0, .int 0, .int 0]))]) rfl ?_
  refine z_aastD (ws' := [(h0, .inr (6, [.int 0, .int 0, .ref q1, .ref q2])), (q1, .inl (cs 0, 6, .inl (fun _ => 0))), (q2, .inl (cs 2, 12, .inr (.inr (.inr (.inr (va_up (va_up (va_up (va_up (va_up (va_up (va_up (va_up (va_up (va_up (va_up (fun _ => none) 0 (some q3)) 1 (some q6)) 2 (some q9)) 3 (some q12)) 4 (some q15)) 5 (some q18)) 6 (some q21)) 7 (some q24)) 8 (some q27)) 9 (some q30)) 10 (some q33))))))), (q3, .inr (1, [.int 0, .int 0, .int 0, .int 0, .int 0, .int 0])), (q6, .inr (1, [.int 0, .int 0, .int 0, .int 0, .int 0, .int 0])), (q9, .inr (1, [.int 0, .int 0, .int 0, .int 0, .int 0, .int 0])), (q12, .inr (1, [.int 0, .int 0, .int 0, .int 0, .int 0, .int 0])), (q15, .inr (1, [.int 0, .int 0, .int 0, .int 0, .int 0, .int 0])), (q18, .inr (1, [.int 0, .int 0, .int 0, .int 0, .int 0, .int 0])), (q21, .inr (1, [.int 0, .int 0, .int 0, .int 0, .int 0, .int 0])), (q24, .inr (1, [.int 0, .int 0, .int 0, .int 0, .int 0, .int 0])), (q27, .inr (1, [.int 0, .int 0, .int 0, .int 0, .int 0, .int 0])), (q30, .inr (1, [.int 0, .int 0, .int 0, .int 0, .int 0, .int 0])), (q33, .inr (1, [.int 0, .int 0, .int 0, .int 0, .int 0, .int 0]))]) C 2 13 rfl rfl rfl d_V_init_51 rfl ?_
  refine z_iinc (v := 11) (lv' := [(1, .int 11), (0, .ref h0)]) C d_V_init_52 0 rfl rfl (by decide) rfl ?_
  refine z_goto C 33 d_V_init_55 (by decide) ?_
  refine z_iload_n C d_V_init_33 0 rfl ?_
  refine z_bipush (v := 12) C d_V_init_34 rfl ?_
  refine z_icmp_geF C 58 d_V_init_36 (by decide) (by decide) ?_
  refine z_aload_n C d_V_init_39 1 rfl ?_
  refine zg_V (v := .ref q2) C 0 3 rfl (by decide) wF_V_24 rfl rfl d_V_init_40 ?_
  refine z_iload_n C d_V_init_43 0 rfl ?_
  refine zn_D C [.int 0, .int 0, .int 0, .int 0, .int 0, .int 0] wK_V_22 (by decide) (Nat.le_of_ble_eq_true rfl) (Nat.le_of_ble_eq_true rfl) d_V_init_44 (fun q36 => ?_)
  refine z_dup C d_V_init_47 rfl ?_
  refine z_ctorN (cells := 14) (slots := 90) (R := (rmC 2 14 90 52)) (rest := [.ref q36, .int 11, .ref q2]) (wr := [(h0, .inr (6, [.int 0, .int 0, .ref q1, .ref q2])), (q1, .inl (cs 0, 6, .inl (fun _ => 0))), (q2, .inl (cs 2, 12, .inr (.inr (.inr (.inr (va_up (va_up (va_up (va_up (va_up (va_up (va_up (va_up (va_up (va_up (va_up (fun _ => none) 0 (some q3)) 1 (some q6)) 2 (some q9)) 3 (some q12)) 4 (some q15)) 5 (some q18)) 6 (some q21)) 7 (some q24)) 8 (some q27)) 9 (some q30)) 10 (some q33))))))), (q3, .inr (1, [.int 0, .int 0, .int 0, .int 0, .int 0, .int 0])), (q6, .inr (1, [.int 0, .int 0, .int 0, .int 0, .int 0, .int 0])), (q9, .inr (1, [.int 0, .int 0, .int 0, .int 0, .int 0, .int 0])), (q12, .inr (1, [.int 0, .int 0, .int 0, .int 0, .int 0, .int 0])), (q15, .inr (1, [.int 0, .int 0, .int 0, .int 0, .int 0, .int 0])), (q18, .inr (1, [.int 0, .int 0, .int 0, .int 0, .int 0, .int 0])), (q21, .inr (1, [.int 0, .int 0, .int 0, .int 0, .int 0, .int 0])), (q24, .inr (1, [.int 0, .int 0, .int 0, .int 0, .int 0, .int 0])), (q27, .inr (1, [.int 0, .int 0, .int 0, .int 0, .int 0, .int 0])), (q30, .inr (1, [.int 0, .int 0, .int 0, .int 0, .int 0, .int 0])), (q33, .inr (1, [.int 0, .int 0, .int 0, .int 0, .int 0, .int 0]))]) C (fun sz => cn_D D cs q36 sz) mi_D_init rfl wI_D_init 4 (by decide) rfl rfl rfl rfl rfl ⟨Nat.le_of_ble_eq_true rfl, Nat.le_of_ble_eq_true rfl⟩ rfl rfl (Nat.le_of_ble_eq_true rfl) ⟨Nat.le_of_ble_eq_true rfl, Nat.le_of_ble_eq_true rfl⟩ d_V_init_48 (fun w37 e38 => ?_)
  obtain ⟨rfl⟩ := e38
  refine z_cast (ws' := [(h0, .inr (6, [.int 0, .int 0, .ref q1, .ref q2])), (q1, .inl (cs 0, 6, .inl (fun _ => 0))), (q2, .inl (cs 2, 12, .inr (.inr (.inr (.inr (va_up (va_up (va_up (va_up (va_up (va_up (va_up (va_up (va_up (va_up (va_up (fun _ => none) 0 (some q3)) 1 (some q6)) 2 (some q9)) 3 (some q12)) 4 (some q15)) 5 (some q18)) 6 (some q21)) 7 (some q24)) 8 (some q27)) 9 (some q30)) 10 (some q33))))))), (q3, .inr (1, [.int 0, .int 0, .int 0, .int 0, .int 0, .int 0])), (q6, .inr (1, [.int 0, .int 0, .int 0, .int 0, .int 0, .int 0])), (q9, .inr (1, [.int 0, .int 0, .int 0, .int 0, .int 0, .int 0])), (q12, .inr (1, [.int 0, .int 0, .int 0, .int 0, .int 0, .int 0])), (q15, .inr (1, [.int 0, .int 0, .int 0, .int 0, .int 0, .int 0])), (q18, .inr (1, [.int 0, .int 0, .int 0, .int 0, .int 0, .int 0])), (q21, .inr (1, [.int 0, .int 0, .int 0, .int 0, .int 0, .int 0])), (q24, .inr (1, [.int 0, .int 0, .int 0, .int 0, .int 0, .int 0])), (q27, .inr (1, [.int 0, .int 0, .int 0, .int 0, .int 0, .int 0])), (q30, .inr (1, [.int 0, .int 0, .int 0, .int 0, .int 0, .int 0])), (q33, .inr (1, [.int 0, .int 0, .int 0, .int 0, .int 0, .int 0])), (q36, .inr (1, [.int 0, .int 0, .int 0, .int 0, .int 0, .int 0]))]) rfl ?_
  refine z_aastD (ws' := [(h0, .inr (6, [.int 0, .int 0, .ref q1, .ref q2])), (q1, .inl (cs 0, 6, .inl (fun _ => 0))), (q2, .inl (cs 2, 12, .inr (.inr (.inr (.inr (va_up (va_up (va_up (va_up (va_up (va_up (va_up (va_up (va_up (va_up (va_up (va_up (fun _ => none) 0 (some q3)) 1 (some q6)) 2 (some q9)) 3 (some q12)) 4 (some q15)) 5 (some q18)) 6 (some q21)) 7 (some q24)) 8 (some q27)) 9 (some q30)) 10 (some q33)) 11 (some q36))))))), (q3, .inr (1, [.int 0, .int 0, .int 0, .int 0, .int 0, .int 0])), (q6, .inr (1, [.int 0, .int 0, .int 0, .int 0, .int 0, .int 0])), (q9, .inr (1, [.int 0, .int 0, .int 0, .int 0, .int 0, .int 0])), (q12, .inr (1, [.int 0, .int 0, .int 0, .int 0, .int 0, .int 0])), (q15, .inr (1, [.int 0, .int 0, .int 0, .int 0, .int 0, .int 0])), (q18, .inr (1, [.int 0, .int 0, .int 0, .int 0, .int 0, .int 0])), (q21, .inr (1, [.int 0, .int 0, .int 0, .int 0, .int 0, .int 0])), (q24, .inr (1, [.int 0, .int 0, .int 0, .int 0, .int 0, .int 0])), (q27, .inr (1, [.int 0, .int 0, .int 0, .int 0, .int 0, .int 0])), (q30, .inr (1, [.int 0, .int 0, .int 0, .int 0, .int 0, .int 0])), (q33, .inr (1, [.int 0, .int 0, .int 0, .int 0, .int 0, .int 0])), (q36, .inr (1, [.int 0, .int 0, .int 0, .int 0, .int 0, .int 0]))]) C 2 14 rfl rfl rfl d_V_init_51 rfl ?_
  refine z_iinc (v := 12) (lv' := [(1, .int 12), (0, .ref h0)]) C d_V_init_52 0 rfl rfl (by decide) rfl ?_
  refine z_goto C 33 d_V_init_55 (by decide) ?_
  refine z_iload_n C d_V_init_33 0 rfl ?_
  refine z_bipush (v := 12) C d_V_init_34 rfl ?_
  refine z_icmp_geT C 58 d_V_init_36 (by decide) (by decide) ?_
  exact z_ret C hrr hlk hA ⟨q1, q2, q3, q6, q9, q12, q15, q18, q21, q24, q27, q30, q33, q36, rfl⟩ d_V_init_58
