set_option maxRecDepth 4000 in
theorem c_X11_multiply  (μ : ZMem) (Φ : Int32 → ZMem → Prop) (h : w_X11_multiply μ Φ) : zM SX yX11_multiply cX11_multiply 3 (some FieldType.int) 3 [.ref 0] μ (zzI Φ) := by
  refine zM_go (own := RX11) rfl (by decide) (Nat.le_of_ble_eq_true rfl) (fun E hE => ?_)
  show zZ E (zzI Φ) 0 [(0, .ref 0)] [] μ
  unfold w_X11_multiply at h
  refine z_aload_n hE dX11_multiply_0 rfl 0 rfl ?_
  refine z_getR (t := 1) hE dX11_multiply_1 lF_X11_14 sX_0 rfl ?_
  refine z_callV hE dX11_multiply_4 lV_X11_294 (c_X3_factorsSize  μ _ h) sX_1 rfl (Nat.le_of_ble_eq_true rfl) (by decide) rfl (zk_PI (fun r_1 h => ?_))
  refine z_istore_n (lv' := [(1, .int r_1), (0, .ref 0)]) hE dX11_multiply_7 rfl (by decide) rfl ?_
  refine z_iload_n hE dX11_multiply_8 rfl 0 rfl ?_
  refine z_bipush (v := 7) hE dX11_multiply_9 zv_b_7 ?_
  refine z_icmp_lt (tgt := 17) hE dX11_multiply_11 (by decide) h (fun h => ?_) (fun h => ?_)
  · refine z_aload_n hE dX11_multiply_17 rfl 1 rfl ?_
    refine z_getR (t := 1) hE dX11_multiply_18 lF_X11_14 sX_0 rfl ?_
    refine z_aload_n hE dX11_multiply_21 rfl 1 rfl ?_
    refine z_getR (t := 85) hE dX11_multiply_22 lF_X11_74 sX_0 rfl ?_
    refine z_callV hE dX11_multiply_25 lV_X11_297 (c_X3_productInto _ _ sX_85 μ _ h) sX_1 rfl (Nat.le_of_ble_eq_true rfl) (by decide) rfl (zk_V (fun μ_4 h => ?_))
    refine z_iconst (v := 0) hE dX11_multiply_28 zv_i_0 ?_
    refine z_istore_n (lv' := [(2, .int (0 : Int32)), (1, .int r_1), (0, .ref 0)]) hE dX11_multiply_29 rfl (by decide) rfl ?_
    refine z_join (P := fun (J_5 : Prop) => J_5 → zZ E (zzI Φ) 71 [(0, .ref 0), (1, .int r_1)] [] μ_4) h (fun  h => ?_) (fun J_5 hJ_5 h => ?_)
    · refine z_aload_n hE dX11_multiply_71 rfl 0 rfl ?_
      refine z_getR (t := 85) hE dX11_multiply_72 lF_X11_74 sX_0 rfl ?_
      refine z_iconst (v := 0) hE dX11_multiply_75 zv_i_0 ?_
      refine z_aload_n hE dX11_multiply_76 rfl 0 rfl ?_
      refine z_getR (t := 1) hE dX11_multiply_77 lF_X11_14 sX_0 rfl ?_
      refine z_getR (t := 2) hE dX11_multiply_80 lF_X11_78 sX_1 rfl ?_
      refine z_iconst (v := 0) hE dX11_multiply_83 zv_i_0 ?_
      refine z_bipush (v := 7) hE dX11_multiply_84 zv_b_7 ?_
      refine z_copyJ hE dX11_multiply_86 lA_X11_119 sX_85 sX_2 (by decide) (Nat.le_of_ble_eq_true rfl) ?_
      refine zn (G := fun μ_6 => zZ E (zzI Φ) 89 [(0, .ref 0), (1, .int r_1)] [] μ_6) h (fun μ_6 h => ?_)
      refine z_aload_n hE dX11_multiply_89 rfl 0 rfl ?_
      refine z_callV hE dX11_multiply_90 lV_X11_95 (c_X11_forgetSurveys  μ_6 _ h) sX_0 rfl (Nat.le_of_ble_eq_true rfl) (by decide) rfl (zk_V (fun μ_8 h => ?_))
      refine z_iload_n hE dX11_multiply_93 rfl 1 rfl ?_
      exact z_iret (st := []) hE dX11_multiply_94 rfl ⟨_, rfl, h⟩
    refine z_sub [2, 1, 0] rfl ?_
    obtain ⟨n30, h⟩ := h
    refine z_loop1 (P := fun (v2_9 : Int32) => zZ E (zzI Φ) 30 [(0, .ref 0), (1, .int r_1), (2, .int v2_9)] [] μ_4) (fun k30_9 hk30_9 v2_9 h => ?_) n30 _ h
    refine z_iload_n hE dX11_multiply_30 rfl 2 rfl ?_
    refine z_bipush (v := 7) hE dX11_multiply_31 zv_b_7 ?_
    refine z_icmp_ge (tgt := 71) hE dX11_multiply_33 (by decide) h (fun h => ?_) (fun h => ?_)
    · exact z_sub [0, 1] rfl (hJ_5 h)
    · refine z_aload_n hE dX11_multiply_36 rfl 0 rfl ?_
      refine z_getR (t := 85) hE dX11_multiply_37 lF_X11_74 sX_0 rfl ?_
      refine z_iload_n hE dX11_multiply_40 rfl 2 rfl ?_
      obtain ⟨q_10, h⟩ := h
      refine z_lald hE dX11_multiply_41 sX_85 q_10 ?_
      refine z_ldc2 (v := -99) hE dX11_multiply_42 lK_X11_301 ?_
      refine z_ljmp_lt (tgt := 62) hE dX11_multiply_45 dX11_multiply_46 (by decide) h (fun h => ?_) (fun h => ?_)
      · refine z_bipush (v := -7) hE dX11_multiply_62 zv_b_m7 ?_
        exact z_iret (st := []) hE dX11_multiply_64 rfl ⟨_, rfl, h⟩
      · refine z_aload_n hE dX11_multiply_49 rfl 0 rfl ?_
        refine z_getR (t := 85) hE dX11_multiply_50 lF_X11_74 sX_0 rfl ?_
        refine z_iload_n hE dX11_multiply_53 rfl 2 rfl ?_
        obtain ⟨q_11, h⟩ := h
        refine z_lald hE dX11_multiply_54 sX_85 q_11 ?_
        refine z_ldc2 (v := 99) hE dX11_multiply_55 lK_X11_303 ?_
        refine z_ljmp_le (tgt := 65) hE dX11_multiply_58 dX11_multiply_59 (by decide) h (fun h => ?_) (fun h => ?_)
        · refine z_iinc (j := 2) (c := 1) (lv' := [(2, .int (v2_9 + (1 : Int32))), (0, .ref 0), (1, .int r_1)]) hE dX11_multiply_65 rfl zv_i_1 (by decide) rfl ?_
          refine z_goto (tgt := 30) hE dX11_multiply_68 (by decide) ?_
          exact z_sub [1, 2, 0] rfl (hk30_9 _ h)
        · refine z_bipush (v := -7) hE dX11_multiply_62 zv_b_m7 ?_
          exact z_iret (st := []) hE dX11_multiply_64 rfl ⟨_, rfl, h⟩
  · refine z_bipush (v := -3) hE dX11_multiply_14 zv_b_m3 ?_
    exact z_iret (st := []) hE dX11_multiply_16 rfl ⟨_, rfl, h⟩
set_option maxRecDepth 4000 in
theorem c_X11_tableOf (a1 : Int32) (μ : ZMem) (Φ : Nat → ZMem → Prop) (h : w_X11_tableOf a1 μ Φ) : zM SX yX11_tableOf cX11_tableOf 2 (Option.some (Jvm.ClassFile.FieldType.object "SignTables$Table")) 3 [.ref 0, .int a1] μ (zzR Φ) := by
  refine zM_go (own := RX11) rfl (by decide) (Nat.le_of_ble_eq_true rfl) (fun E hE => ?_)
  show zZ E (zzR Φ) 0 [(0, .ref 0), (1, .int a1)] [] μ
  unfold w_X11_tableOf at h
  refine z_aload_n hE dX11_tableOf_0 rfl 0 rfl ?_
  refine z_getR (t := 28) hE dX11_tableOf_1 lF_X11_37 sX_0 rfl ?_
  refine z_aload_n hE dX11_tableOf_4 rfl 0 rfl ?_
  refine z_callV hE dX11_tableOf_5 lV_X11_98 (c_X11_currentC  μ _ h) sX_0 rfl (Nat.le_of_ble_eq_true rfl) (by decide) rfl (zk_R (fun r_1 μ_2 h => ?_))
  obtain ⟨er_1, h⟩ := h
  refine z_iload_n hE dX11_tableOf_8 rfl 1 rfl ?_
  refine z_callV hE dX11_tableOf_9 lV_X11_135 (c_X8_shape _ _ _ _ zcX_28 er_1 μ_2 _ h) sX_28 rfl (Nat.le_of_ble_eq_true rfl) (by decide) rfl (zk_V (fun μ_4 h => ?_))
  refine z_aload_n hE dX11_tableOf_12 rfl 0 rfl ?_
  refine z_getR (t := 28) hE dX11_tableOf_13 lF_X11_37 sX_0 rfl ?_
  refine z_callV hE dX11_tableOf_16 lV_X11_367 (c_X8_build _ zcX_28 μ_4 _ h) sX_28 rfl (Nat.le_of_ble_eq_true rfl) (by decide) rfl (zk_V (fun μ_6 h => ?_))
  refine z_aload_n hE dX11_tableOf_19 rfl 0 rfl ?_
  refine z_getR (t := 28) hE dX11_tableOf_20 lF_X11_37 sX_0 rfl ?_
  exact z_aret (st := []) hE dX11_tableOf_23 rfl (Or.inl ⟨_, rfl⟩) ⟨_, rfl, h⟩
set_option maxRecDepth 4000 in
theorem c_X12_chain (a1 : Int32) (μ : ZMem) (Φ : Int32 → ZMem → Prop) (h : w_X12_chain a1 μ Φ) : zM SM yX12_chain cX12_chain 4 (some FieldType.int) 3 [.ref 0, .int a1] μ (zzI Φ) := by
  refine zM_go (own := RX12) rfl (by decide) (Nat.le_of_ble_eq_true rfl) (fun E hE => ?_)
  show zZ E (zzI Φ) 0 [(0, .ref 0), (1, .int a1)] [] μ
  unfold w_X12_chain at h
  refine z_iload_n hE dX12_chain_0 rfl 1 rfl ?_
  refine z_callS hE dX12_chain_1 lS_X12_201 (c_X12_isFar _ μ _ h) rfl (Nat.le_of_ble_eq_true rfl) (by decide) rfl (zk_PI (fun r_1 h => ?_))
  refine z_join (P := fun (J_5 : Int32 → ZMem → Prop) => ∀ (x_3 : Int32) (μ_4 : ZMem), J_5 x_3 μ_4 → zZ E (zzI Φ) 16 [(0, .ref 0), (1, .int a1)] [.int x_3] μ_4) h (fun x_3 μ_4 h => ?_) (fun J_5 hJ_5 h => ?_)
  · refine z_istore_n (lv' := [(2, .int x_3), (0, .ref 0), (1, .int a1)]) hE dX12_chain_16 rfl (by decide) rfl ?_
    refine z_iload_n hE dX12_chain_17 rfl 0 rfl ?_
    refine z_if_ge (tgt := 23) hE dX12_chain_18 (by decide) h (fun h => ?_) (fun h => ?_)
    · refine z_aload_n hE dX12_chain_23 rfl 1 rfl ?_
      refine z_iload_n hE dX12_chain_24 rfl 2 rfl ?_
      refine z_callV hE dX12_chain_25 lV_X12_248 (c_X12_changesAt _ μ_4 _ h) sM_0 rfl (Nat.le_of_ble_eq_true rfl) (by decide) rfl (zk_I (fun r_6 μ_7 h => ?_))
      refine z_istore_n (lv' := [(3, .int r_6), (2, .int x_3), (0, .ref 0), (1, .int a1)]) hE dX12_chain_28 rfl (by decide) rfl ?_
      refine z_aload_n hE dX12_chain_29 rfl 2 rfl ?_
      refine z_getI hE dX12_chain_30 lF_X12_69 sM_0 rfl ?_
      refine z_if_eq (tgt := 41) hE dX12_chain_33 (by decide) h (fun h => ?_) (fun h => ?_)
      · refine z_iload_n hE dX12_chain_41 rfl 0 rfl ?_
        exact z_iret (st := []) hE dX12_chain_42 rfl ⟨_, rfl, h⟩
      · refine z_bipush (v := -7) hE dX12_chain_36 zv_b_m7 ?_
        refine z_goto (tgt := 42) hE dX12_chain_38 (by decide) ?_
        exact z_iret (st := []) hE dX12_chain_42 rfl ⟨_, rfl, h⟩
    · refine z_iload_n hE dX12_chain_21 rfl 0 rfl ?_
      exact z_iret (st := []) hE dX12_chain_22 rfl ⟨_, rfl, h⟩
  refine z_if_eq (tgt := 14) hE dX12_chain_4 (by decide) h (fun h => ?_) (fun h => ?_)
  · refine z_bipush (v := -2) hE dX12_chain_14 zv_b_m2 ?_
    exact hJ_5 _ _ h
  · refine z_aload_n hE dX12_chain_7 rfl 0 rfl ?_
    refine z_callV hE dX12_chain_8 lV_X12_242 (c_X12_laysChain  μ _ h) sM_0 rfl (Nat.le_of_ble_eq_true rfl) (by decide) rfl (zk_I (fun r_8 μ_9 h => ?_))
    refine z_goto (tgt := 16) hE dX12_chain_11 (by decide) ?_
    exact hJ_5 _ _ h
set_option maxRecDepth 4000 in
theorem c_X12_known (a1 : Int32) (μ : ZMem) (Φ : Int32 → Prop) (h : w_X12_known a1 μ Φ) : zM SM yX12_known cX12_known 2 (some FieldType.int) 3 [.ref 0, .int a1] μ (zzPI Φ μ) := by
  refine zM_go (own := RX12) rfl (by decide) (Nat.le_of_ble_eq_true rfl) (fun E hE => ?_)
  show zZ E (zzPI Φ μ) 0 [(0, .ref 0), (1, .int a1)] [] μ
  unfold w_X12_known at h
  refine z_iload_n hE dX12_known_0 rfl 1 rfl ?_
  refine z_i2l hE dX12_known_1 ?_
  refine z_lconst (v := 0) hE dX12_known_2 zv_l_0 ?_
  refine z_ldc2 (v := 3) hE dX12_known_3 lK_X12_105 ?_
  refine z_callS hE dX12_known_6 lS_X12_83 (c_X12_in _ _ _ μ _ h) rfl (Nat.le_of_ble_eq_true rfl) (by decide) rfl (zk_PI (fun r_1 h => ?_))
  refine z_if_eq (tgt := 20) hE dX12_known_9 (by decide) h (fun h => ?_) (fun h => ?_)
  · refine z_bipush (v := -2) hE dX12_known_20 zv_b_m2 ?_
    exact z_iret (st := []) hE dX12_known_22 rfl ⟨_, rfl, rfl, h⟩
  · refine z_aload_n hE dX12_known_12 rfl 0 rfl ?_
    refine z_iload_n hE dX12_known_13 rfl 1 rfl ?_
    refine z_callV hE dX12_known_14 lV_X12_328 (c_X12_knownAll _ μ _ h) sM_0 rfl (Nat.le_of_ble_eq_true rfl) (by decide) rfl (zk_PI (fun r_3 h => ?_))
    refine z_goto (tgt := 22) hE dX12_known_17 (by decide) ?_
    exact z_iret (st := []) hE dX12_known_22 rfl ⟨_, rfl, rfl, h⟩
set_option maxRecDepth 4000 in
theorem c_X12_laysForm (a1 : Int32) (μ : ZMem) (Φ : ZMem → Prop) (h : w_X12_laysForm a1 μ Φ) : zM SM yX12_laysForm cX12_laysForm 2 (none) 3 [.ref 0, .int a1] μ (zzV Φ) := by
  refine zM_go (own := RX12) rfl (by decide) (Nat.le_of_ble_eq_true rfl) (fun E hE => ?_)
  show zZ E (zzV Φ) 0 [(0, .ref 0), (1, .int a1)] [] μ
  unfold w_X12_laysForm at h
  refine z_aload_n hE dX12_laysForm_0 rfl 0 rfl ?_
  refine z_iconst (v := 1) hE dX12_laysForm_1 zv_i_1 ?_
  refine z_aload_n hE dX12_laysForm_2 rfl 0 rfl ?_
  refine z_getR (t := 1) hE dX12_laysForm_3 lF_X12_11 sM_0 rfl ?_
  refine z_bipush (v := 14) hE dX12_laysForm_6 zv_b_14 ?_
  refine z_iald hE dX12_laysForm_8 sM_1 (zin (by decide)) ?_
  refine z_callV hE dX12_laysForm_9 lV_X12_97 (c_X12_takes _ _ μ _ h) sM_0 rfl (Nat.le_of_ble_eq_true rfl) (by decide) rfl (zk_V (fun μ_2 h => ?_))
  refine z_aload_n hE dX12_laysForm_12 rfl 0 rfl ?_
  refine z_iload_n hE dX12_laysForm_13 rfl 1 rfl ?_
  refine z_callV hE dX12_laysForm_14 lV_X12_127 (c_X12_forms _ μ_2 _ h) sM_0 rfl (Nat.le_of_ble_eq_true rfl) (by decide) rfl (zk_V (fun μ_4 h => ?_))
  exact z_vret (st := []) hE dX12_laysForm_17 rfl ⟨rfl, h⟩
set_option maxRecDepth 4000 in
theorem c_X12_laysRows  (μ : ZMem) (Φ : ZMem → Prop) (h : w_X12_laysRows μ Φ) : zM SM yX12_laysRows cX12_laysRows 3 (none) 3 [.ref 0] μ (zzV Φ) := by
  refine zM_go (own := RX12) rfl (by decide) (Nat.le_of_ble_eq_true rfl) (fun E hE => ?_)
  show zZ E (zzV Φ) 0 [(0, .ref 0)] [] μ
  unfold w_X12_laysRows at h
  refine z_aload_n hE dX12_laysRows_0 rfl 0 rfl ?_
  refine z_iconst (v := 0) hE dX12_laysRows_1 zv_i_0 ?_
  refine z_put hE dX12_laysRows_2 lF_X12_69 sM_0 rfl (by decide) (by decide) ?_
  refine zn (G := fun μ_1 => zZ E (zzV Φ) 5 [(0, .ref 0)] [] μ_1) h (fun μ_1 h => ?_)
  refine z_iconst (v := 0) hE dX12_laysRows_5 zv_i_0 ?_
  refine z_istore_n (lv' := [(1, .int (0 : Int32)), (0, .ref 0)]) hE dX12_laysRows_6 rfl (by decide) rfl ?_
  refine z_join (P := fun (J_3 : ZMem → Prop) => ∀ (μ_2 : ZMem), J_3 μ_2 → zZ E (zzV Φ) 26 [(0, .ref 0)] [] μ_2) h (fun μ_2 h => ?_) (fun J_3 hJ_3 h => ?_)
  · refine z_iconst (v := 0) hE dX12_laysRows_26 zv_i_0 ?_
    refine z_istore_n (lv' := [(1, .int (0 : Int32)), (0, .ref 0)]) hE dX12_laysRows_27 rfl (by decide) rfl ?_
    refine z_sub [1, 0] rfl ?_
    obtain ⟨n28, h⟩ := h
    refine z_loop2 (P := fun (v1_4 : Int32) (μ_5 : ZMem) => zZ E (zzV Φ) 28 [(0, .ref 0), (1, .int v1_4)] [] μ_5) (fun k28_5 hk28_5 v1_4 μ_5 h => ?_) n28 _ _ h
    refine z_iload_n hE dX12_laysRows_28 rfl 1 rfl ?_
    refine z_aload_n hE dX12_laysRows_29 rfl 0 rfl ?_
    refine z_getI hE dX12_laysRows_30 lF_X12_121 sM_0 rfl ?_
    refine z_icmp_gt (tgt := 119) hE dX12_laysRows_33 (by decide) h (fun h => ?_) (fun h => ?_)
    · exact z_vret (st := []) hE dX12_laysRows_119 rfl ⟨rfl, h⟩
    · refine z_aload_n hE dX12_laysRows_36 rfl 0 rfl ?_
      refine z_getI hE dX12_laysRows_37 lF_X12_69 sM_0 rfl ?_
      refine z_if_ne (tgt := 119) hE dX12_laysRows_40 (by decide) h (fun h => ?_) (fun h => ?_)
      · exact z_vret (st := []) hE dX12_laysRows_119 rfl ⟨rfl, h⟩
      · refine z_iconst (v := 0) hE dX12_laysRows_43 zv_i_0 ?_
        refine z_istore_n (lv' := [(2, .int (0 : Int32)), (0, .ref 0), (1, .int v1_4)]) hE dX12_laysRows_44 rfl (by decide) rfl ?_
        refine z_join (P := fun (J_7 : ZMem → Prop) => ∀ (μ_6 : ZMem), J_7 μ_6 → zZ E (zzV Φ) 91 [(0, .ref 0), (1, .int v1_4)] [] μ_6) h (fun μ_6 h => ?_) (fun J_7 hJ_7 h => ?_)
        · refine z_iload_n hE dX12_laysRows_91 rfl 1 rfl ?_
          refine z_iconst (v := 1) hE dX12_laysRows_92 zv_i_1 ?_
          refine z_join (P := fun (J_9 : ZMem → Prop) => ∀ (μ_8 : ZMem), J_9 μ_8 → zZ E (zzV Φ) 101 [(0, .ref 0), (1, .int v1_4)] [] μ_8) h (fun μ_8 h => ?_) (fun J_9 hJ_9 h => ?_)
          · refine z_aload_n hE dX12_laysRows_101 rfl 0 rfl ?_
            refine z_getI hE dX12_laysRows_102 lF_X12_69 sM_0 rfl ?_
            refine z_join (P := fun (J_11 : ZMem → Prop) => ∀ (μ_10 : ZMem), J_11 μ_10 → zZ E (zzV Φ) 113 [(0, .ref 0), (1, .int v1_4)] [] μ_10) h (fun μ_10 h => ?_) (fun J_11 hJ_11 h => ?_)
            · refine z_iinc (j := 1) (c := 1) (lv' := [(1, .int (v1_4 + (1 : Int32))), (0, .ref 0)]) hE dX12_laysRows_113 rfl zv_i_1 (by decide) rfl ?_
              refine z_goto (tgt := 28) hE dX12_laysRows_116 (by decide) ?_
              exact z_sub [1, 0] rfl (hk28_5 _ _ h)
            refine z_if_ne (tgt := 113) hE dX12_laysRows_105 (by decide) h (fun h => ?_) (fun h => ?_)
            · exact hJ_11 _ h
            · refine z_aload_n hE dX12_laysRows_108 rfl 0 rfl ?_
              refine z_iload_n hE dX12_laysRows_109 rfl 1 rfl ?_
              refine z_callV hE dX12_laysRows_110 lV_X12_167 (c_X12_mends _ μ_8 _ h) sM_0 rfl (Nat.le_of_ble_eq_true rfl) (by decide) rfl (zk_V (fun μ_13 h => ?_))
              exact hJ_11 _ h
          refine z_icmp_le (tgt := 101) hE dX12_laysRows_93 (by decide) h (fun h => ?_) (fun h => ?_)
          · exact hJ_9 _ h
          · refine z_aload_n hE dX12_laysRows_96 rfl 0 rfl ?_
            refine z_iload_n hE dX12_laysRows_97 rfl 1 rfl ?_
            refine z_callV hE dX12_laysRows_98 lV_X12_164 (c_X12_works _ μ_6 _ h) sM_0 rfl (Nat.le_of_ble_eq_true rfl) (by decide) rfl (zk_V (fun μ_15 h => ?_))
            exact hJ_9 _ h
        refine z_sub [1, 2, 0] rfl ?_
        obtain ⟨n45, h⟩ := h
        refine z_loop2 (P := fun (v2_16 : Int32) (μ_17 : ZMem) => zZ E (zzV Φ) 45 [(0, .ref 0), (1, .int v1_4), (2, .int v2_16)] [] μ_17) (fun k45_17 hk45_17 v2_16 μ_17 h => ?_) n45 _ _ h
        refine z_iload_n hE dX12_laysRows_45 rfl 2 rfl ?_
        refine z_aload_n hE dX12_laysRows_46 rfl 0 rfl ?_
        refine z_iload_n hE dX12_laysRows_47 rfl 1 rfl ?_
        refine z_callV hE dX12_laysRows_48 lV_X12_136 (c_X12_itemMany _ μ_17 _ h) sM_0 rfl (Nat.le_of_ble_eq_true rfl) (by decide) rfl (zk_PI (fun r_18 h => ?_))
        refine z_icmp_ge (tgt := 91) hE dX12_laysRows_51 (by decide) h (fun h => ?_) (fun h => ?_)
        · exact z_sub [0, 1] rfl (hJ_7 _ h)
        · refine z_iload_n hE dX12_laysRows_54 rfl 1 rfl ?_
          refine z_iconst (v := 2) hE dX12_laysRows_55 zv_i_2 ?_
          refine z_icmp_ge (tgt := 91) hE dX12_laysRows_56 (by decide) h (fun h => ?_) (fun h => ?_)
          · exact z_sub [0, 1] rfl (hJ_7 _ h)
          · refine z_aload_n hE dX12_laysRows_59 rfl 0 rfl ?_
            refine z_getR (t := 6) hE dX12_laysRows_60 lF_X12_28 sM_0 rfl ?_
            refine z_bipush (v := 6) hE dX12_laysRows_63 zv_b_6 ?_
            refine z_iload_n hE dX12_laysRows_65 rfl 1 rfl ?_
            refine z_imul hE dX12_laysRows_66 ?_
            refine z_iload_n hE dX12_laysRows_67 rfl 2 rfl ?_
            refine z_iadd hE dX12_laysRows_68 ?_
            refine z_aload_n hE dX12_laysRows_69 rfl 0 rfl ?_
            refine z_getR (t := 4) hE dX12_laysRows_70 lF_X12_22 sM_0 rfl ?_
            refine z_aload_n hE dX12_laysRows_73 rfl 0 rfl ?_
            refine z_getI hE dX12_laysRows_74 lF_X12_121 sM_0 rfl ?_
            refine z_iload_n hE dX12_laysRows_77 rfl 1 rfl ?_
            refine z_isub hE dX12_laysRows_78 ?_
            refine z_iconst (v := 2) hE dX12_laysRows_79 zv_i_2 ?_
            refine z_iload_n hE dX12_laysRows_80 rfl 2 rfl ?_
            refine z_imul hE dX12_laysRows_81 ?_
            refine z_isub hE dX12_laysRows_82 ?_
            obtain ⟨q_20, h⟩ := h
            refine z_lald hE dX12_laysRows_83 sM_4 q_20 ?_
            obtain ⟨q_21, h⟩ := h
            refine z_last hE dX12_laysRows_84 sM_6 q_21 ?_
            refine zn (G := fun μ_22 => zZ E (zzV Φ) 85 [(0, .ref 0), (1, .int v1_4), (2, .int v2_16)] [] μ_22) h (fun μ_22 h => ?_)
            refine z_iinc (j := 2) (c := 1) (lv' := [(2, .int (v2_16 + (1 : Int32))), (0, .ref 0), (1, .int v1_4)]) hE dX12_laysRows_85 rfl zv_i_1 (by decide) rfl ?_
            refine z_goto (tgt := 45) hE dX12_laysRows_88 (by decide) ?_
            exact z_sub [1, 2, 0] rfl (hk45_17 _ _ h)
  refine z_sub [1, 0] rfl ?_
  obtain ⟨n7, h⟩ := h
  refine z_loop2 (P := fun (v1_23 : Int32) (μ_24 : ZMem) => zZ E (zzV Φ) 7 [(0, .ref 0), (1, .int v1_23)] [] μ_24) (fun k7_24 hk7_24 v1_23 μ_24 h => ?_) n7 _ _ h
  refine z_iload_n hE dX12_laysRows_7 rfl 1 rfl ?_
  refine z_bipush (v := 42) hE dX12_laysRows_8 zv_b_42 ?_
  refine z_icmp_ge (tgt := 26) hE dX12_laysRows_10 (by decide) h (fun h => ?_) (fun h => ?_)
  · exact z_sub [0] rfl (hJ_3 _ h)
  · refine z_aload_n hE dX12_laysRows_13 rfl 0 rfl ?_
    refine z_getR (t := 6) hE dX12_laysRows_14 lF_X12_28 sM_0 rfl ?_
    refine z_iload_n hE dX12_laysRows_17 rfl 1 rfl ?_
    refine z_lconst (v := 0) hE dX12_laysRows_18 zv_l_0 ?_
    obtain ⟨q_25, h⟩ := h
    refine z_last hE dX12_laysRows_19 sM_6 q_25 ?_
    refine zn (G := fun μ_26 => zZ E (zzV Φ) 20 [(0, .ref 0), (1, .int v1_23)] [] μ_26) h (fun μ_26 h => ?_)
    refine z_iinc (j := 1) (c := 1) (lv' := [(1, .int (v1_23 + (1 : Int32))), (0, .ref 0)]) hE dX12_laysRows_20 rfl zv_i_1 (by decide) rfl ?_
    refine z_goto (tgt := 7) hE dX12_laysRows_23 (by decide) ?_
    exact z_sub [1, 0] rfl (hk7_24 _ _ h)
set_option maxRecDepth 4000 in
theorem c_X12_left  (μ : ZMem) (Φ : Int32 → Prop) (h : w_X12_left μ Φ) : zM SM yX12_left cX12_left 1 (some FieldType.int) 3 [.ref 0] μ (zzPI Φ μ) := by
  refine zM_go (own := RX12) rfl (by decide) (Nat.le_of_ble_eq_true rfl) (fun E hE => ?_)
  show zZ E (zzPI Φ μ) 0 [(0, .ref 0)] [] μ
  unfold w_X12_left at h
  refine z_aload_n hE dX12_left_0 rfl 0 rfl ?_
  refine z_getI hE dX12_left_1 lF_X12_121 sM_0 rfl ?_
  refine z_if_ge (tgt := 11) hE dX12_left_4 (by decide) h (fun h => ?_) (fun h => ?_)
  · refine z_aload_n hE dX12_left_11 rfl 0 rfl ?_
    refine z_getI hE dX12_left_12 lF_X12_121 sM_0 rfl ?_
    refine z_aload_n hE dX12_left_15 rfl 0 rfl ?_
    refine z_callV hE dX12_left_16 lV_X12_187 (c_X12_right  μ _ h) sM_0 rfl (Nat.le_of_ble_eq_true rfl) (by decide) rfl (zk_PI (fun r_1 h => ?_))
    refine z_isub hE dX12_left_19 ?_
    refine z_aload_n hE dX12_left_20 rfl 0 rfl ?_
    refine z_callV hE dX12_left_21 lV_X12_190 (c_X12_axis  μ _ h) sM_0 rfl (Nat.le_of_ble_eq_true rfl) (by decide) rfl (zk_PI (fun r_3 h => ?_))
    refine z_isub hE dX12_left_24 ?_
    exact z_iret (st := []) hE dX12_left_25 rfl ⟨_, rfl, rfl, h⟩
  · refine z_iconst (v := 0) hE dX12_left_7 zv_i_0 ?_
    refine z_goto (tgt := 25) hE dX12_left_8 (by decide) ?_
    exact z_iret (st := []) hE dX12_left_25 rfl ⟨_, rfl, rfl, h⟩
set_option maxRecDepth 4000 in
theorem c_X12_link (a1 : Int32) (a2 : Int32) (μ : ZMem) (Φ : Int64 → ZMem → Prop) (h : w_X12_link a1 a2 μ Φ) : zM SM yX12_link cX12_link 3 (some FieldType.long) 3 [.ref 0, .int a1, .int a2] μ (zzJ Φ) := by
  refine zM_go (own := RX12) rfl (by decide) (Nat.le_of_ble_eq_true rfl) (fun E hE => ?_)
  show zZ E (zzJ Φ) 0 [(0, .ref 0), (1, .int a1), (2, .int a2)] [] μ
  unfold w_X12_link at h
  refine z_aload_n hE dX12_link_0 rfl 0 rfl ?_
  refine z_callV hE dX12_link_1 lV_X12_242 (c_X12_laysChain  μ _ h) sM_0 rfl (Nat.le_of_ble_eq_true rfl) (by decide) rfl (zk_I (fun r_1 μ_2 h => ?_))
  refine z_if_lt (tgt := 30) hE dX12_link_4 (by decide) h (fun h => ?_) (fun h => ?_)
  · refine z_ldc2 (v := -9223372036854775808) hE dX12_link_30 lK_X12_67 ?_
    refine z_goto (tgt := 47) hE dX12_link_33 (by decide) ?_
    exact z_lret (st := []) hE dX12_link_47 rfl ⟨_, rfl, h⟩
  · refine z_iload_n hE dX12_link_7 rfl 1 rfl ?_
    refine z_i2l hE dX12_link_8 ?_
    refine z_lconst (v := 0) hE dX12_link_9 zv_l_0 ?_
    refine z_aload_n hE dX12_link_10 rfl 0 rfl ?_
    refine z_getI hE dX12_link_11 lF_X12_229 sM_0 rfl ?_
    refine z_iconst (v := 1) hE dX12_link_14 zv_i_1 ?_
    refine z_isub hE dX12_link_15 ?_
    refine z_i2l hE dX12_link_16 ?_
    refine z_callS hE dX12_link_17 lS_X12_83 (c_X12_in _ _ _ μ_2 _ h) rfl (Nat.le_of_ble_eq_true rfl) (by decide) rfl (zk_PI (fun r_3 h => ?_))
    refine z_if_eq (tgt := 30) hE dX12_link_20 (by decide) h (fun h => ?_) (fun h => ?_)
    · refine z_ldc2 (v := -9223372036854775808) hE dX12_link_30 lK_X12_67 ?_
      refine z_goto (tgt := 47) hE dX12_link_33 (by decide) ?_
      exact z_lret (st := []) hE dX12_link_47 rfl ⟨_, rfl, h⟩
    · refine z_iload_n hE dX12_link_23 rfl 2 rfl ?_
      refine z_callS hE dX12_link_24 lS_X12_87 (c_X12_isPower _ μ_2 _ h) rfl (Nat.le_of_ble_eq_true rfl) (by decide) rfl (zk_PI (fun r_5 h => ?_))
      refine z_if_ne (tgt := 36) hE dX12_link_27 (by decide) h (fun h => ?_) (fun h => ?_)
      · refine z_aload_n hE dX12_link_36 rfl 0 rfl ?_
        refine z_getR (t := 11) hE dX12_link_37 lF_X12_43 sM_0 rfl ?_
        refine z_bipush (v := 7) hE dX12_link_40 zv_b_7 ?_
        refine z_iload_n hE dX12_link_42 rfl 1 rfl ?_
        refine z_imul hE dX12_link_43 ?_
        refine z_iload_n hE dX12_link_44 rfl 2 rfl ?_
        refine z_iadd hE dX12_link_45 ?_
        obtain ⟨q_7, h⟩ := h
        refine z_lald hE dX12_link_46 sM_11 q_7 ?_
        exact z_lret (st := []) hE dX12_link_47 rfl ⟨_, rfl, h⟩
      · refine z_ldc2 (v := -9223372036854775808) hE dX12_link_30 lK_X12_67 ?_
        refine z_goto (tgt := 47) hE dX12_link_33 (by decide) ?_
        exact z_lret (st := []) hE dX12_link_47 rfl ⟨_, rfl, h⟩
set_option maxRecDepth 4000 in
theorem c_X12_links  (μ : ZMem) (Φ : Int32 → ZMem → Prop) (h : w_X12_links μ Φ) : zM SM yX12_links cX12_links 2 (some FieldType.int) 3 [.ref 0] μ (zzI Φ) := by
  refine zM_go (own := RX12) rfl (by decide) (Nat.le_of_ble_eq_true rfl) (fun E hE => ?_)
  show zZ E (zzI Φ) 0 [(0, .ref 0)] [] μ
  unfold w_X12_links at h
  refine z_aload_n hE dX12_links_0 rfl 0 rfl ?_
  refine z_callV hE dX12_links_1 lV_X12_242 (c_X12_laysChain  μ _ h) sM_0 rfl (Nat.le_of_ble_eq_true rfl) (by decide) rfl (zk_I (fun r_1 μ_2 h => ?_))
  refine z_istore_n (lv' := [(1, .int r_1), (0, .ref 0)]) hE dX12_links_4 rfl (by decide) rfl ?_
  refine z_iload_n hE dX12_links_5 rfl 0 rfl ?_
  refine z_if_ge (tgt := 13) hE dX12_links_6 (by decide) h (fun h => ?_) (fun h => ?_)
  · refine z_aload_n hE dX12_links_13 rfl 1 rfl ?_
    refine z_getI hE dX12_links_14 lF_X12_229 sM_0 rfl ?_
    exact z_iret (st := []) hE dX12_links_17 rfl ⟨_, rfl, h⟩
  · refine z_iload_n hE dX12_links_9 rfl 0 rfl ?_
    refine z_goto (tgt := 17) hE dX12_links_10 (by decide) ?_
    exact z_iret (st := []) hE dX12_links_17 rfl ⟨_, rfl, h⟩
set_option maxRecDepth 4000 in
theorem c_X12_multiply  (μ : ZMem) (Φ : Int32 → ZMem → Prop) (h : w_X12_multiply μ Φ) : zM SM yX12_multiply cX12_multiply 12 (some FieldType.int) 3 [.ref 0] μ (zzI Φ) := by
  refine zM_go (own := RX12) rfl (by decide) (Nat.le_of_ble_eq_true rfl) (fun E hE => ?_)
  show zZ E (zzI Φ) 0 [(0, .ref 0)] [] μ
  unfold w_X12_multiply at h
  refine z_aload_n hE dX12_multiply_0 rfl 0 rfl ?_
  refine z_iconst (v := 3) hE dX12_multiply_1 zv_i_3 ?_
  refine z_callV hE dX12_multiply_2 lV_X12_328 (c_X12_knownAll _ μ _ h) sM_0 rfl (Nat.le_of_ble_eq_true rfl) (by decide) rfl (zk_PI (fun r_1 h => ?_))
  refine z_istore_n (lv' := [(1, .int r_1), (0, .ref 0)]) hE dX12_multiply_5 rfl (by decide) rfl ?_
  refine z_iload_n hE dX12_multiply_6 rfl 0 rfl ?_
  refine z_bipush (v := 6) hE dX12_multiply_7 zv_b_6 ?_
  refine z_icmp_le (tgt := 15) hE dX12_multiply_9 (by decide) h (fun h => ?_) (fun h => ?_)
  · refine z_iconst (v := 0) hE dX12_multiply_15 zv_i_0 ?_
    refine z_istore_n (lv' := [(2, .int (0 : Int32)), (1, .int r_1), (0, .ref 0)]) hE dX12_multiply_16 rfl (by decide) rfl ?_
    refine z_join (P := fun (J_4 : ZMem → Prop) => ∀ (μ_3 : ZMem), J_4 μ_3 → zZ E (zzI Φ) 44 [(0, .ref 0), (1, .int r_1)] [] μ_3) h (fun μ_3 h => ?_) (fun J_4 hJ_4 h => ?_)
    · refine z_iconst (v := 0) hE dX12_multiply_44 zv_i_0 ?_
      refine z_istore_n (lv' := [(2, .int (0 : Int32)), (0, .ref 0), (1, .int r_1)]) hE dX12_multiply_45 rfl (by decide) rfl ?_
      refine z_join (P := fun (J_6 : ZMem → Prop) => ∀ (μ_5 : ZMem), J_6 μ_5 → zZ E (zzI Φ) 185 [(0, .ref 0), (1, .int r_1)] [] μ_5) h (fun μ_5 h => ?_) (fun J_6 hJ_6 h => ?_)
      · refine z_iconst (v := 1) hE dX12_multiply_185 zv_i_1 ?_
        refine z_istore_n (lv' := [(2, .int (1 : Int32)), (0, .ref 0), (1, .int r_1)]) hE dX12_multiply_186 rfl (by decide) rfl ?_
        refine z_iconst (v := 0) hE dX12_multiply_187 zv_i_0 ?_
        refine z_istore_n (lv' := [(3, .int (0 : Int32)), (2, .int (1 : Int32)), (0, .ref 0), (1, .int r_1)]) hE dX12_multiply_188 rfl (by decide) rfl ?_
        refine z_join (P := fun (J_8 : Int32 → Prop) => ∀ (v2_7 : Int32), J_8 v2_7 → zZ E (zzI Φ) 229 [(0, .ref 0), (1, .int r_1), (2, .int v2_7)] [] μ_5) h (fun v2_7 h => ?_) (fun J_8 hJ_8 h => ?_)
        · refine z_iconst (v := 0) hE dX12_multiply_229 zv_i_0 ?_
          refine z_istore_n (lv' := [(3, .int (0 : Int32)), (0, .ref 0), (1, .int r_1), (2, .int v2_7)]) hE dX12_multiply_230 rfl (by decide) rfl ?_
          refine z_join (P := fun (J_10 : ZMem → Prop) => ∀ (μ_9 : ZMem), J_10 μ_9 → zZ E (zzI Φ) 262 [(1, .int r_1), (2, .int v2_7)] [] μ_9) h (fun μ_9 h => ?_) (fun J_10 hJ_10 h => ?_)
          · refine z_iload_n hE dX12_multiply_262 rfl 1 rfl ?_
            refine z_if_eq (tgt := 270) hE dX12_multiply_263 (by decide) h (fun h => ?_) (fun h => ?_)
            · refine z_bipush (v := -7) hE dX12_multiply_270 zv_b_m7 ?_
              exact z_iret (st := []) hE dX12_multiply_272 rfl ⟨_, rfl, h⟩
            · refine z_iload_n hE dX12_multiply_266 rfl 0 rfl ?_
              refine z_goto (tgt := 272) hE dX12_multiply_267 (by decide) ?_
              exact z_iret (st := []) hE dX12_multiply_272 rfl ⟨_, rfl, h⟩
          refine z_sub [1, 2, 3, 0] rfl ?_
          obtain ⟨n231, h⟩ := h
          refine z_loop2 (P := fun (v3_11 : Int32) (μ_12 : ZMem) => zZ E (zzI Φ) 231 [(0, .ref 0), (1, .int r_1), (2, .int v2_7), (3, .int v3_11)] [] μ_12) (fun k231_12 hk231_12 v3_11 μ_12 h => ?_) n231 _ _ h
          refine z_iload_n hE dX12_multiply_231 rfl 3 rfl ?_
          refine z_bipush (v := 7) hE dX12_multiply_232 zv_b_7 ?_
          refine z_icmp_ge (tgt := 262) hE dX12_multiply_234 (by decide) h (fun h => ?_) (fun h => ?_)
          · exact z_sub [1, 2] rfl (hJ_10 _ h)
          · refine z_iload_n hE dX12_multiply_237 rfl 2 rfl ?_
            refine z_if_eq (tgt := 262) hE dX12_multiply_238 (by decide) h (fun h => ?_) (fun h => ?_)
            · exact z_sub [1, 2] rfl (hJ_10 _ h)
            · refine z_aload_n hE dX12_multiply_241 rfl 0 rfl ?_
              refine z_getR (t := 1) hE dX12_multiply_242 lF_X12_11 sM_0 rfl ?_
              refine z_iconst (v := 0) hE dX12_multiply_245 zv_i_0 ?_
              refine z_iload_n hE dX12_multiply_246 rfl 3 rfl ?_
              refine z_iadd hE dX12_multiply_247 ?_
              refine z_aload_n hE dX12_multiply_248 rfl 0 rfl ?_
              refine z_getR (t := 5) hE dX12_multiply_249 lF_X12_25 sM_0 rfl ?_
              refine z_iload_n hE dX12_multiply_252 rfl 3 rfl ?_
              obtain ⟨q_13, h⟩ := h
              refine z_lald hE dX12_multiply_253 sM_5 q_13 ?_
              refine z_l2i hE dX12_multiply_254 ?_
              obtain ⟨q_14, h⟩ := h
              refine z_iast hE dX12_multiply_255 sM_1 q_14 ?_
              refine zn (G := fun μ_15 => zZ E (zzI Φ) 256 [(0, .ref 0), (1, .int r_1), (2, .int v2_7), (3, .int v3_11)] [] μ_15) h (fun μ_15 h => ?_)
              refine z_iinc (j := 3) (c := 1) (lv' := [(3, .int (v3_11 + (1 : Int32))), (0, .ref 0), (1, .int r_1), (2, .int v2_7)]) hE dX12_multiply_256 rfl zv_i_1 (by decide) rfl ?_
              refine z_goto (tgt := 231) hE dX12_multiply_259 (by decide) ?_
              exact z_sub [1, 2, 3, 0] rfl (hk231_12 _ _ h)
        refine z_sub [2, 3, 1, 0] rfl ?_
        obtain ⟨n189, h⟩ := h
        refine z_loop2 (P := fun (v2_16 : Int32) (v3_17 : Int32) => zZ E (zzI Φ) 189 [(0, .ref 0), (1, .int r_1), (2, .int v2_16), (3, .int v3_17)] [] μ_5) (fun k189_17 hk189_17 v2_16 v3_17 h => ?_) n189 _ _ h
        refine z_iload_n hE dX12_multiply_189 rfl 3 rfl ?_
        refine z_bipush (v := 7) hE dX12_multiply_190 zv_b_7 ?_
        refine z_icmp_ge (tgt := 229) hE dX12_multiply_192 (by decide) h (fun h => ?_) (fun h => ?_)
        · exact z_sub [0, 1, 2] rfl (hJ_8 _ h)
        · refine z_iload_n hE dX12_multiply_195 rfl 2 rfl ?_
          refine z_join (P := fun (J_19 : Int32 → Prop) => ∀ (x_18 : Int32), J_19 x_18 → zZ E (zzI Φ) 222 [(0, .ref 0), (1, .int r_1), (3, .int v3_17)] [.int x_18] μ_5) h (fun x_18 h => ?_) (fun J_19 hJ_19 h => ?_)
          · refine z_istore_n (lv' := [(2, .int x_18), (0, .ref 0), (1, .int r_1), (3, .int v3_17)]) hE dX12_multiply_222 rfl (by decide) rfl ?_
            refine z_iinc (j := 3) (c := 1) (lv' := [(3, .int (v3_17 + (1 : Int32))), (2, .int x_18), (0, .ref 0), (1, .int r_1)]) hE dX12_multiply_223 rfl zv_i_1 (by decide) rfl ?_
            refine z_goto (tgt := 189) hE dX12_multiply_226 (by decide) ?_
            exact z_sub [2, 3, 1, 0] rfl (hk189_17 _ _ h)
          refine z_join (P := fun (J_20 : Prop) => J_20 → zZ E (zzI Φ) 221 [(0, .ref 0), (1, .int r_1), (3, .int v3_17)] [] μ_5) h (fun  h => ?_) (fun J_20 hJ_20 h => ?_)
          · refine z_iconst (v := 0) hE dX12_multiply_221 zv_i_0 ?_
            exact hJ_19 _ h
          refine z_if_eq (tgt := 221) hE dX12_multiply_196 (by decide) h (fun h => ?_) (fun h => ?_)
          · exact z_sub [0, 1, 3] rfl (hJ_20 h)
          · refine z_aload_n hE dX12_multiply_199 rfl 0 rfl ?_
            refine z_getR (t := 5) hE dX12_multiply_200 lF_X12_25 sM_0 rfl ?_
            refine z_iload_n hE dX12_multiply_203 rfl 3 rfl ?_
            obtain ⟨q_21, h⟩ := h
            refine z_lald hE dX12_multiply_204 sM_5 q_21 ?_
            refine z_ldc2 (v := -99) hE dX12_multiply_205 lK_X12_91 ?_
            refine z_ldc2 (v := 99) hE dX12_multiply_208 lK_X12_93 ?_
            refine z_callS hE dX12_multiply_211 lS_X12_83 (c_X12_in _ _ _ μ_5 _ h) rfl (Nat.le_of_ble_eq_true rfl) (by decide) rfl (zk_PI (fun r_22 h => ?_))
            refine z_if_eq (tgt := 221) hE dX12_multiply_214 (by decide) h (fun h => ?_) (fun h => ?_)
            · exact z_sub [0, 1, 3] rfl (hJ_20 h)
            · refine z_iconst (v := 1) hE dX12_multiply_217 zv_i_1 ?_
              refine z_goto (tgt := 222) hE dX12_multiply_218 (by decide) ?_
              exact z_sub [0, 1, 3] rfl (hJ_19 _ h)
      refine z_sub [1, 2, 0] rfl ?_
      obtain ⟨n46, h⟩ := h
      refine z_loop2 (P := fun (v2_24 : Int32) (μ_25 : ZMem) => zZ E (zzI Φ) 46 [(0, .ref 0), (1, .int r_1), (2, .int v2_24)] [] μ_25) (fun k46_25 hk46_25 v2_24 μ_25 h => ?_) n46 _ _ h
      refine z_iload_n hE dX12_multiply_46 rfl 2 rfl ?_
      refine z_aload_n hE dX12_multiply_47 rfl 0 rfl ?_
      refine z_getR (t := 1) hE dX12_multiply_48 lF_X12_11 sM_0 rfl ?_
      refine z_bipush (v := 32) hE dX12_multiply_51 zv_b_32 ?_
      refine z_iald hE dX12_multiply_53 sM_1 (zin (by decide)) ?_
      refine z_icmp_ge (tgt := 185) hE dX12_multiply_54 (by decide) h (fun h => ?_) (fun h => ?_)
      · exact z_sub [0, 1] rfl (hJ_6 _ h)
      · refine z_bipush (v := 6) hE dX12_multiply_57 zv_b_6 ?_
        refine z_istore_n (lv' := [(3, .int (6 : Int32)), (0, .ref 0), (1, .int r_1), (2, .int v2_24)]) hE dX12_multiply_59 rfl (by decide) rfl ?_
        refine z_join (P := fun (J_27 : ZMem → Prop) => ∀ (μ_26 : ZMem), J_27 μ_26 → zZ E (zzI Φ) 179 [(0, .ref 0), (1, .int r_1), (2, .int v2_24)] [] μ_26) h (fun μ_26 h => ?_) (fun J_27 hJ_27 h => ?_)
        · refine z_iinc (j := 2) (c := 1) (lv' := [(2, .int (v2_24 + (1 : Int32))), (0, .ref 0), (1, .int r_1)]) hE dX12_multiply_179 rfl zv_i_1 (by decide) rfl ?_
          refine z_goto (tgt := 46) hE dX12_multiply_182 (by decide) ?_
          exact z_sub [1, 2, 0] rfl (hk46_25 _ _ h)
        refine z_sub [1, 2, 3, 0] rfl ?_
        obtain ⟨n60, h⟩ := h
        refine z_loop2 (P := fun (v3_28 : Int32) (μ_29 : ZMem) => zZ E (zzI Φ) 60 [(0, .ref 0), (1, .int r_1), (2, .int v2_24), (3, .int v3_28)] [] μ_29) (fun k60_29 hk60_29 v3_28 μ_29 h => ?_) n60 _ _ h
        refine z_iload_n hE dX12_multiply_60 rfl 3 rfl ?_
        refine z_if_lt (tgt := 179) hE dX12_multiply_61 (by decide) h (fun h => ?_) (fun h => ?_)
        · exact z_sub [0, 1, 2] rfl (hJ_27 _ h)
        · refine z_iload_n hE dX12_multiply_64 rfl 3 rfl ?_
          refine z_join (P := fun (J_31 : Int64 → Prop) => ∀ (x_30 : Int64), J_31 x_30 → zZ E (zzI Φ) 80 [(0, .ref 0), (1, .int r_1), (2, .int v2_24), (3, .int v3_28)] [.long x_30] μ_29) h (fun x_30 h => ?_) (fun J_31 hJ_31 h => ?_)
          · refine z_lstore (lv' := [(4, .long x_30), (0, .ref 0), (1, .int r_1), (2, .int v2_24), (3, .int v3_28)]) hE dX12_multiply_80 (by decide) rfl ?_
            refine z_iload_n hE dX12_multiply_82 rfl 4 rfl ?_
            refine z_iconst (v := 1) hE dX12_multiply_83 zv_i_1 ?_
            refine z_join (P := fun (J_33 : Int64 → Prop) => ∀ (x_32 : Int64), J_33 x_32 → zZ E (zzI Φ) 99 [(0, .ref 0), (1, .int r_1), (2, .int v2_24), (3, .int v3_28), (4, .long x_30)] [.long x_32] μ_29) h (fun x_32 h => ?_) (fun J_33 hJ_33 h => ?_)
            · refine z_lstore (lv' := [(6, .long x_32), (0, .ref 0), (1, .int r_1), (2, .int v2_24), (3, .int v3_28), (4, .long x_30)]) hE dX12_multiply_99 (by decide) rfl ?_
              refine z_aload_n hE dX12_multiply_101 rfl 1 rfl ?_
              refine z_getR (t := 1) hE dX12_multiply_102 lF_X12_11 sM_0 rfl ?_
              refine z_bipush (v := 39) hE dX12_multiply_105 zv_b_39 ?_
              refine z_iload_n hE dX12_multiply_107 rfl 3 rfl ?_
              refine z_iadd hE dX12_multiply_108 ?_
              obtain ⟨q_34, h⟩ := h
              refine z_iald hE dX12_multiply_109 sM_1 q_34 ?_
              refine z_i2l hE dX12_multiply_110 ?_
              refine z_lstore (lv' := [(8, .long (Int32.toInt64 (μ_29.1 1 (Int32.toNatClampNeg ((39 : Int32) + v2_24))))), (6, .long x_32), (0, .ref 0), (1, .int r_1), (2, .int v2_24), (3, .int v3_28), (4, .long x_30)]) hE dX12_multiply_111 (by decide) rfl ?_
              refine zn (G := fun v8_35 => zZ E (zzI Φ) 113 [(8, .long v8_35), (6, .long x_32), (0, .ref 0), (1, .int r_1), (2, .int v2_24), (3, .int v3_28), (4, .long x_30)] [] μ_29) h (fun v8_35 h => ?_)
              refine z_aload_n hE dX12_multiply_113 rfl 2 rfl ?_
              refine z_getR (t := 1) hE dX12_multiply_114 lF_X12_11 sM_0 rfl ?_
              refine z_bipush (v := 45) hE dX12_multiply_117 zv_b_45 ?_
              refine z_iload_n hE dX12_multiply_119 rfl 4 rfl ?_
              refine z_iadd hE dX12_multiply_120 ?_
              obtain ⟨q_36, h⟩ := h
              refine z_iald hE dX12_multiply_121 sM_1 q_36 ?_
              refine z_i2l hE dX12_multiply_122 ?_
              refine z_lstore (lv' := [(10, .long (Int32.toInt64 (μ_29.1 1 (Int32.toNatClampNeg ((45 : Int32) + v2_24))))), (8, .long v8_35), (6, .long x_32), (0, .ref 0), (1, .int r_1), (2, .int v2_24), (3, .int v3_28), (4, .long x_30)]) hE dX12_multiply_123 (by decide) rfl ?_
              refine zn (G := fun v10_37 => zZ E (zzI Φ) 125 [(10, .long v10_37), (8, .long v8_35), (6, .long x_32), (0, .ref 0), (1, .int r_1), (2, .int v2_24), (3, .int v3_28), (4, .long x_30)] [] μ_29) h (fun v10_37 h => ?_)
              refine z_aload_n hE dX12_multiply_125 rfl 3 rfl ?_
              refine z_getR (t := 5) hE dX12_multiply_126 lF_X12_25 sM_0 rfl ?_
              refine z_iload_n hE dX12_multiply_129 rfl 6 rfl ?_
              refine z_aload_n hE dX12_multiply_130 rfl 3 rfl ?_
              refine z_iload_n hE dX12_multiply_131 rfl 5 rfl ?_
              refine z_callV hE dX12_multiply_132 lV_X12_322 (c_X12_sizeOf _ μ_29 _ h) sM_0 rfl (Nat.le_of_ble_eq_true rfl) (by decide) rfl (zk_PI (fun r_38 h => ?_))
              refine z_iconst (v := 1) hE dX12_multiply_135 zv_i_1 ?_
              refine z_join (P := fun (J_41 : Int64 → Prop) => ∀ (x_40 : Int64), J_41 x_40 → zZ E (zzI Φ) 172 [(0, .ref 0), (1, .int r_1), (2, .int v2_24), (3, .int v3_28)] [.long x_40, .int v3_28, .ref 5] μ_29) h (fun x_40 h => ?_) (fun J_41 hJ_41 h => ?_)
              · obtain ⟨q_42, h⟩ := h
                refine z_last hE dX12_multiply_172 sM_5 q_42 ?_
                refine zn (G := fun μ_43 => zZ E (zzI Φ) 173 [(0, .ref 0), (1, .int r_1), (2, .int v2_24), (3, .int v3_28)] [] μ_43) h (fun μ_43 h => ?_)
                refine z_iinc (j := 3) (c := -1) (lv' := [(3, .int (v3_28 + (-1 : Int32))), (0, .ref 0), (1, .int r_1), (2, .int v2_24)]) hE dX12_multiply_173 rfl zv_i_m1 (by decide) rfl ?_
                refine z_goto (tgt := 60) hE dX12_multiply_176 (by decide) ?_
                exact z_sub [1, 2, 3, 0] rfl (hk60_29 _ _ h)
              refine z_icmp_ne (tgt := 154) hE dX12_multiply_136 (by decide) h (fun h => ?_) (fun h => ?_)
              · refine z_lload hE dX12_multiply_154 2 rfl ?_
                refine z_lload hE dX12_multiply_156 1 rfl ?_
                refine z_lload hE dX12_multiply_158 7 rfl ?_
                refine z_lmul hE dX12_multiply_160 ?_
                refine z_ladd hE dX12_multiply_161 ?_
                refine z_lload hE dX12_multiply_162 0 rfl ?_
                refine z_aload_n hE dX12_multiply_164 rfl 3 rfl ?_
                refine z_getR (t := 5) hE dX12_multiply_165 lF_X12_25 sM_0 rfl ?_
                refine z_iload_n hE dX12_multiply_168 rfl 6 rfl ?_
                obtain ⟨q_44, h⟩ := h
                refine z_lald hE dX12_multiply_169 sM_5 q_44 ?_
                refine z_lmul hE dX12_multiply_170 ?_
                refine z_ladd hE dX12_multiply_171 ?_
                exact z_sub [3, 4, 5, 6] rfl (hJ_41 _ h)
              · refine z_lload hE dX12_multiply_139 7 rfl ?_
                refine z_lload hE dX12_multiply_141 1 rfl ?_
                refine z_aload_n hE dX12_multiply_143 rfl 3 rfl ?_
                refine z_getR (t := 5) hE dX12_multiply_144 lF_X12_25 sM_0 rfl ?_
                refine z_iload_n hE dX12_multiply_147 rfl 6 rfl ?_
                obtain ⟨q_45, h⟩ := h
                refine z_lald hE dX12_multiply_148 sM_5 q_45 ?_
                refine z_lmul hE dX12_multiply_149 ?_
                refine z_ladd hE dX12_multiply_150 ?_
                refine z_goto (tgt := 172) hE dX12_multiply_151 (by decide) ?_
                exact z_sub [3, 4, 5, 6] rfl (hJ_41 _ h)
            refine z_icmp_le (tgt := 98) hE dX12_multiply_84 (by decide) h (fun h => ?_) (fun h => ?_)
            · refine z_lconst (v := 0) hE dX12_multiply_98 zv_l_0 ?_
              exact z_sub [1, 2, 3, 4, 0] rfl (hJ_33 _ h)
            · refine z_aload_n hE dX12_multiply_87 rfl 1 rfl ?_
              refine z_getR (t := 5) hE dX12_multiply_88 lF_X12_25 sM_0 rfl ?_
              refine z_iload_n hE dX12_multiply_91 rfl 4 rfl ?_
              refine z_iconst (v := 2) hE dX12_multiply_92 zv_i_2 ?_
              refine z_isub hE dX12_multiply_93 ?_
              obtain ⟨q_46, h⟩ := h
              refine z_lald hE dX12_multiply_94 sM_5 q_46 ?_
              refine z_goto (tgt := 99) hE dX12_multiply_95 (by decide) ?_
              exact z_sub [1, 2, 3, 4, 0] rfl (hJ_33 _ h)
          refine z_if_le (tgt := 79) hE dX12_multiply_65 (by decide) h (fun h => ?_) (fun h => ?_)
          · refine z_lconst (v := 0) hE dX12_multiply_79 zv_l_0 ?_
            exact hJ_31 _ h
          · refine z_aload_n hE dX12_multiply_68 rfl 0 rfl ?_
            refine z_getR (t := 5) hE dX12_multiply_69 lF_X12_25 sM_0 rfl ?_
            refine z_iload_n hE dX12_multiply_72 rfl 3 rfl ?_
            refine z_iconst (v := 1) hE dX12_multiply_73 zv_i_1 ?_
            refine z_isub hE dX12_multiply_74 ?_
            obtain ⟨q_47, h⟩ := h
            refine z_lald hE dX12_multiply_75 sM_5 q_47 ?_
            refine z_goto (tgt := 80) hE dX12_multiply_76 (by decide) ?_
            exact hJ_31 _ h
    refine z_sub [2, 1, 0] rfl ?_
    obtain ⟨n17, h⟩ := h
    refine z_loop2 (P := fun (v2_48 : Int32) (μ_49 : ZMem) => zZ E (zzI Φ) 17 [(0, .ref 0), (1, .int r_1), (2, .int v2_48)] [] μ_49) (fun k17_49 hk17_49 v2_48 μ_49 h => ?_) n17 _ _ h
    refine z_iload_n hE dX12_multiply_17 rfl 2 rfl ?_
    refine z_bipush (v := 7) hE dX12_multiply_18 zv_b_7 ?_
    refine z_icmp_ge (tgt := 44) hE dX12_multiply_20 (by decide) h (fun h => ?_) (fun h => ?_)
    · exact z_sub [0, 1] rfl (hJ_4 _ h)
    · refine z_aload_n hE dX12_multiply_23 rfl 0 rfl ?_
      refine z_getR (t := 5) hE dX12_multiply_24 lF_X12_25 sM_0 rfl ?_
      refine z_iload_n hE dX12_multiply_27 rfl 2 rfl ?_
      refine z_iload_n hE dX12_multiply_28 rfl 2 rfl ?_
      refine z_join (P := fun (J_51 : Int64 → Prop) => ∀ (x_50 : Int64), J_51 x_50 → zZ E (zzI Φ) 37 [(0, .ref 0), (1, .int r_1), (2, .int v2_48)] [.long x_50, .int v2_48, .ref 5] μ_49) h (fun x_50 h => ?_) (fun J_51 hJ_51 h => ?_)
      · obtain ⟨q_52, h⟩ := h
        refine z_last hE dX12_multiply_37 sM_5 q_52 ?_
        refine zn (G := fun μ_53 => zZ E (zzI Φ) 38 [(0, .ref 0), (1, .int r_1), (2, .int v2_48)] [] μ_53) h (fun μ_53 h => ?_)
        refine z_iinc (j := 2) (c := 1) (lv' := [(2, .int (v2_48 + (1 : Int32))), (0, .ref 0), (1, .int r_1)]) hE dX12_multiply_38 rfl zv_i_1 (by decide) rfl ?_
        refine z_goto (tgt := 17) hE dX12_multiply_41 (by decide) ?_
        exact z_sub [1, 2, 0] rfl (hk17_49 _ _ h)
      refine z_if_ne (tgt := 36) hE dX12_multiply_29 (by decide) h (fun h => ?_) (fun h => ?_)
      · refine z_lconst (v := 0) hE dX12_multiply_36 zv_l_0 ?_
        exact hJ_51 _ h
      · refine z_lconst (v := 1) hE dX12_multiply_32 zv_l_1 ?_
        refine z_goto (tgt := 37) hE dX12_multiply_33 (by decide) ?_
        exact hJ_51 _ h
  · refine z_bipush (v := -3) hE dX12_multiply_12 zv_b_m3 ?_
    exact z_iret (st := []) hE dX12_multiply_14 rfl ⟨_, rfl, h⟩
set_option maxRecDepth 4000 in
theorem c_X12_real (a1 : Int32) (a2 : Int32) (μ : ZMem) (Φ : Int32 → ZMem → Prop) (h : w_X12_real a1 a2 μ Φ) : zM SM yX12_real cX12_real 5 (some FieldType.int) 3 [.ref 0, .int a1, .int a2] μ (zzI Φ) := by
  refine zM_go (own := RX12) rfl (by decide) (Nat.le_of_ble_eq_true rfl) (fun E hE => ?_)
  show zZ E (zzI Φ) 0 [(0, .ref 0), (1, .int a1), (2, .int a2)] [] μ
  unfold w_X12_real at h
  refine z_iload_n hE dX12_real_0 rfl 1 rfl ?_
  refine z_callS hE dX12_real_1 lS_X12_201 (c_X12_isFar _ μ _ h) rfl (Nat.le_of_ble_eq_true rfl) (by decide) rfl (zk_PI (fun r_1 h => ?_))
  refine z_join (P := fun (J_5 : Int32 → ZMem → Prop) => ∀ (x_3 : Int32) (μ_4 : ZMem), J_5 x_3 μ_4 → zZ E (zzI Φ) 28 [(0, .ref 0), (1, .int a1), (2, .int a2)] [.int x_3] μ_4) h (fun x_3 μ_4 h => ?_) (fun J_5 hJ_5 h => ?_)
  · refine z_istore_n (lv' := [(3, .int x_3), (0, .ref 0), (1, .int a1), (2, .int a2)]) hE dX12_real_28 rfl (by decide) rfl ?_
    refine z_iload_n hE dX12_real_29 rfl 0 rfl ?_
    refine z_if_ge (tgt := 35) hE dX12_real_30 (by decide) h (fun h => ?_) (fun h => ?_)
    · refine z_aload_n hE dX12_real_35 rfl 1 rfl ?_
      refine z_iload_n hE dX12_real_36 rfl 2 rfl ?_
      refine z_callV hE dX12_real_37 lV_X12_248 (c_X12_changesAt _ μ_4 _ h) sM_0 rfl (Nat.le_of_ble_eq_true rfl) (by decide) rfl (zk_I (fun r_6 μ_7 h => ?_))
      refine z_aload_n hE dX12_real_40 rfl 1 rfl ?_
      refine z_iload_n hE dX12_real_41 rfl 3 rfl ?_
      refine z_callV hE dX12_real_42 lV_X12_248 (c_X12_changesAt _ μ_7 _ h) sM_0 rfl (Nat.le_of_ble_eq_true rfl) (by decide) rfl (zk_I (fun r_8 μ_9 h => ?_))
      refine z_isub hE dX12_real_45 ?_
      refine z_bipush (v := 100) hE dX12_real_46 zv_b_100 ?_
      refine z_iadd hE dX12_real_48 ?_
      refine z_istore (lv' := [(4, .int ((r_6 - r_8) + (100 : Int32))), (3, .int x_3), (0, .ref 0), (1, .int a1), (2, .int a2)]) hE dX12_real_49 (by decide) rfl ?_
      refine zn (G := fun v4_10 => zZ E (zzI Φ) 51 [(4, .int v4_10), (3, .int x_3), (0, .ref 0), (1, .int a1), (2, .int a2)] [] μ_9) h (fun v4_10 h => ?_)
      refine z_aload_n hE dX12_real_51 rfl 2 rfl ?_
      refine z_getI hE dX12_real_52 lF_X12_69 sM_0 rfl ?_
      refine z_if_eq (tgt := 63) hE dX12_real_55 (by decide) h (fun h => ?_) (fun h => ?_)
      · refine z_iload hE dX12_real_63 0 rfl ?_
        exact z_iret (st := []) hE dX12_real_65 rfl ⟨_, rfl, h⟩
      · refine z_bipush (v := -7) hE dX12_real_58 zv_b_m7 ?_
        refine z_goto (tgt := 65) hE dX12_real_60 (by decide) ?_
        exact z_iret (st := []) hE dX12_real_65 rfl ⟨_, rfl, h⟩
    · refine z_iload_n hE dX12_real_33 rfl 0 rfl ?_
      exact z_iret (st := []) hE dX12_real_34 rfl ⟨_, rfl, h⟩
  refine z_join (P := fun (J_11 : Prop) => J_11 → zZ E (zzI Φ) 26 [(0, .ref 0), (1, .int a1), (2, .int a2)] [] μ) h (fun  h => ?_) (fun J_11 hJ_11 h => ?_)
  · refine z_bipush (v := -2) hE dX12_real_26 zv_b_m2 ?_
    exact hJ_5 _ _ h
  refine z_if_eq (tgt := 26) hE dX12_real_4 (by decide) h (fun h => ?_) (fun h => ?_)
  · exact hJ_11 h
  · refine z_iload_n hE dX12_real_7 rfl 2 rfl ?_
    refine z_callS hE dX12_real_8 lS_X12_201 (c_X12_isFar _ μ _ h) rfl (Nat.le_of_ble_eq_true rfl) (by decide) rfl (zk_PI (fun r_12 h => ?_))
    refine z_if_eq (tgt := 26) hE dX12_real_11 (by decide) h (fun h => ?_) (fun h => ?_)
    · exact hJ_11 h
    · refine z_iload_n hE dX12_real_14 rfl 2 rfl ?_
      refine z_iload_n hE dX12_real_15 rfl 1 rfl ?_
      refine z_icmp_le (tgt := 26) hE dX12_real_16 (by decide) h (fun h => ?_) (fun h => ?_)
      · exact hJ_11 h
      · refine z_aload_n hE dX12_real_19 rfl 0 rfl ?_
        refine z_callV hE dX12_real_20 lV_X12_242 (c_X12_laysChain  μ _ h) sM_0 rfl (Nat.le_of_ble_eq_true rfl) (by decide) rfl (zk_I (fun r_14 μ_15 h => ?_))
        refine z_goto (tgt := 28) hE dX12_real_23 (by decide) ?_
        exact hJ_5 _ _ h
set_option maxRecDepth 4000 in
theorem c_X12_terms (a1 : Int32) (μ : ZMem) (Φ : ZMem → Prop) (h : w_X12_terms a1 μ Φ) : zM SM yX12_terms cX12_terms 3 (none) 3 [.ref 0, .int a1] μ (zzV Φ) := by
  refine zM_go (own := RX12) rfl (by decide) (Nat.le_of_ble_eq_true rfl) (fun E hE => ?_)
  show zZ E (zzV Φ) 0 [(0, .ref 0), (1, .int a1)] [] μ
  unfold w_X12_terms at h
  refine z_aload_n hE dX12_terms_0 rfl 0 rfl ?_
  refine z_callV hE dX12_terms_1 lV_X12_259 (c_X12_here  μ _ h) sM_0 rfl (Nat.le_of_ble_eq_true rfl) (by decide) rfl (zk_PI (fun r_1 h => ?_))
  refine z_bipush (v := 45) hE dX12_terms_4 zv_b_45 ?_
  refine z_join (P := fun (J_4 : Int32 → Prop) => ∀ (x_3 : Int32), J_4 x_3 → zZ E (zzV Φ) 14 [(0, .ref 0), (1, .int a1)] [.int x_3] μ) h (fun x_3 h => ?_) (fun J_4 hJ_4 h => ?_)
  · refine z_istore_n (lv' := [(2, .int x_3), (0, .ref 0), (1, .int a1)]) hE dX12_terms_14 rfl (by decide) rfl ?_
    refine z_aload_n hE dX12_terms_15 rfl 1 rfl ?_
    refine z_dup hE dX12_terms_16 rfl ?_
    refine z_getI hE dX12_terms_17 lF_X12_256 sM_0 rfl ?_
    refine z_iload_n hE dX12_terms_20 rfl 0 rfl ?_
    refine z_join (P := fun (J_6 : Int32 → Prop) => ∀ (x_5 : Int32), J_6 x_5 → zZ E (zzV Φ) 29 [(0, .ref 0), (1, .int a1), (2, .int x_3)] [.int x_5, .int (μ.1 0 23), .ref 0] μ) h (fun x_5 h => ?_) (fun J_6 hJ_6 h => ?_)
    · refine z_iadd hE dX12_terms_29 ?_
      refine z_put hE dX12_terms_30 lF_X12_256 sM_0 rfl rfl rfl ?_
      refine zn (G := fun μ_7 => zZ E (zzV Φ) 33 [(0, .ref 0), (1, .int a1), (2, .int x_3)] [] μ_7) h (fun μ_7 h => ?_)
      refine z_aload_n hE dX12_terms_33 rfl 0 rfl ?_
      refine z_iload_n hE dX12_terms_34 rfl 1 rfl ?_
      refine z_iload_n hE dX12_terms_35 rfl 2 rfl ?_
      refine z_callV hE dX12_terms_36 lV_X12_279 (c_X12_term _ _ μ_7 _ h) sM_0 rfl (Nat.le_of_ble_eq_true rfl) (by decide) rfl (zk_V (fun μ_9 h => ?_))
      refine z_sub [0, 1] rfl ?_
      obtain ⟨n39, h⟩ := h
      refine z_loop1 (P := fun (μ_10 : ZMem) => zZ E (zzV Φ) 39 [(0, .ref 0), (1, .int a1)] [] μ_10) (fun k39_10 hk39_10 μ_10 h => ?_) n39 _ h
      refine z_aload_n hE dX12_terms_39 rfl 0 rfl ?_
      refine z_getI hE dX12_terms_40 lF_X12_269 sM_0 rfl ?_
      refine z_if_ge (tgt := 120) hE dX12_terms_43 (by decide) h (fun h => ?_) (fun h => ?_)
      · exact z_vret (st := []) hE dX12_terms_120 rfl ⟨rfl, h⟩
      · refine z_aload_n hE dX12_terms_46 rfl 0 rfl ?_
        refine z_callV hE dX12_terms_47 lV_X12_283 (c_X12_isSign  μ_10 _ h) sM_0 rfl (Nat.le_of_ble_eq_true rfl) (by decide) rfl (zk_PI (fun r_11 h => ?_))
        refine z_if_eq (tgt := 120) hE dX12_terms_50 (by decide) h (fun h => ?_) (fun h => ?_)
        · exact z_vret (st := []) hE dX12_terms_120 rfl ⟨rfl, h⟩
        · refine z_iload_n hE dX12_terms_53 rfl 1 rfl ?_
          refine z_join (P := fun (J_13 : Prop) => J_13 → zZ E (zzV Φ) 86 [(0, .ref 0), (1, .int a1)] [] μ_10) h (fun  h => ?_) (fun J_13 hJ_13 h => ?_)
          · refine z_aload_n hE dX12_terms_86 rfl 0 rfl ?_
            refine z_callV hE dX12_terms_87 lV_X12_259 (c_X12_here  μ_10 _ h) sM_0 rfl (Nat.le_of_ble_eq_true rfl) (by decide) rfl (zk_PI (fun r_14 h => ?_))
            refine z_bipush (v := 45) hE dX12_terms_90 zv_b_45 ?_
            refine z_join (P := fun (J_17 : Int32 → Prop) => ∀ (x_16 : Int32), J_17 x_16 → zZ E (zzV Φ) 100 [(0, .ref 0), (1, .int a1)] [.int x_16] μ_10) h (fun x_16 h => ?_) (fun J_17 hJ_17 h => ?_)
            · refine z_istore_n (lv' := [(2, .int x_16), (0, .ref 0), (1, .int a1)]) hE dX12_terms_100 rfl (by decide) rfl ?_
              refine z_aload_n hE dX12_terms_101 rfl 1 rfl ?_
              refine z_dup hE dX12_terms_102 rfl ?_
              refine z_getI hE dX12_terms_103 lF_X12_256 sM_0 rfl ?_
              refine z_iconst (v := 1) hE dX12_terms_106 zv_i_1 ?_
              refine z_iadd hE dX12_terms_107 ?_
              refine z_put hE dX12_terms_108 lF_X12_256 sM_0 rfl rfl rfl ?_
              refine zn (G := fun μ_18 => zZ E (zzV Φ) 111 [(2, .int x_16), (0, .ref 0), (1, .int a1)] [] μ_18) h (fun μ_18 h => ?_)
              refine z_aload_n hE dX12_terms_111 rfl 1 rfl ?_
              refine z_iload_n hE dX12_terms_112 rfl 2 rfl ?_
              refine z_iload_n hE dX12_terms_113 rfl 0 rfl ?_
              refine z_callV hE dX12_terms_114 lV_X12_279 (c_X12_term _ _ μ_18 _ h) sM_0 rfl (Nat.le_of_ble_eq_true rfl) (by decide) rfl (zk_V (fun μ_20 h => ?_))
              refine z_goto (tgt := 39) hE dX12_terms_117 (by decide) ?_
              exact z_sub [1, 2] rfl (hk39_10 _ h)
            refine z_icmp_ne (tgt := 99) hE dX12_terms_92 (by decide) h (fun h => ?_) (fun h => ?_)
            · refine z_iconst (v := 0) hE dX12_terms_99 zv_i_0 ?_
              exact hJ_17 _ h
            · refine z_iconst (v := 1) hE dX12_terms_95 zv_i_1 ?_
              refine z_goto (tgt := 100) hE dX12_terms_96 (by decide) ?_
              exact hJ_17 _ h
          refine z_if_ne (tgt := 86) hE dX12_terms_54 (by decide) h (fun h => ?_) (fun h => ?_)
          · exact hJ_13 h
          · refine z_aload_n hE dX12_terms_57 rfl 0 rfl ?_
            refine z_getI hE dX12_terms_58 lF_X12_256 sM_0 rfl ?_
            refine z_iconst (v := 1) hE dX12_terms_61 zv_i_1 ?_
            refine z_iadd hE dX12_terms_62 ?_
            refine z_aload_n hE dX12_terms_63 rfl 0 rfl ?_
            refine z_getI hE dX12_terms_64 lF_X12_253 sM_0 rfl ?_
            refine z_icmp_ge (tgt := 86) hE dX12_terms_67 (by decide) h (fun h => ?_) (fun h => ?_)
            · exact hJ_13 h
            · refine z_aload_n hE dX12_terms_70 rfl 0 rfl ?_
              refine z_getR (t := 13) hE dX12_terms_71 lF_X12_49 sM_0 rfl ?_
              refine z_aload_n hE dX12_terms_74 rfl 0 rfl ?_
              refine z_getI hE dX12_terms_75 lF_X12_256 sM_0 rfl ?_
              refine z_iconst (v := 1) hE dX12_terms_78 zv_i_1 ?_
              refine z_iadd hE dX12_terms_79 ?_
              obtain ⟨q_21, h⟩ := h
              refine z_iald hE dX12_terms_80 sM_13 q_21 ?_
              refine z_bipush (v := 75) hE dX12_terms_81 zv_b_75 ?_
              refine z_icmp_eq (tgt := 120) hE dX12_terms_83 (by decide) h (fun h => ?_) (fun h => ?_)
              · exact z_vret (st := []) hE dX12_terms_120 rfl ⟨rfl, h⟩
              · exact hJ_13 h
    refine z_if_eq (tgt := 28) hE dX12_terms_21 (by decide) h (fun h => ?_) (fun h => ?_)
    · refine z_iconst (v := 0) hE dX12_terms_28 zv_i_0 ?_
      exact z_sub [1, 2, 0] rfl (hJ_6 _ h)
    · refine z_iconst (v := 1) hE dX12_terms_24 zv_i_1 ?_
      refine z_goto (tgt := 29) hE dX12_terms_25 (by decide) ?_
      exact z_sub [1, 2, 0] rfl (hJ_6 _ h)
  refine z_icmp_ne (tgt := 13) hE dX12_terms_6 (by decide) h (fun h => ?_) (fun h => ?_)
  · refine z_iconst (v := 0) hE dX12_terms_13 zv_i_0 ?_
    exact hJ_4 _ h
  · refine z_iconst (v := 1) hE dX12_terms_9 zv_i_1 ?_
    refine z_goto (tgt := 14) hE dX12_terms_10 (by decide) ?_
    exact hJ_4 _ h
set_option maxRecDepth 4000 in
theorem c_X3_factorsLeft  (μ : ZMem) (Φ : Int32 → Prop) (h : w_X3_factorsLeft μ Φ) : zM SX yX3_factorsLeft cX3_factorsLeft 1 (some FieldType.int) 3 [.ref 1] μ (zzPI Φ μ) := by
  refine zM_go (own := RX3) rfl (by decide) (Nat.le_of_ble_eq_true rfl) (fun E hE => ?_)
  show zZ E (zzPI Φ μ) 0 [(0, .ref 1)] [] μ
  unfold w_X3_factorsLeft at h
  refine z_aload_n hE dX3_factorsLeft_0 rfl 0 rfl ?_
  refine z_callV hE dX3_factorsLeft_1 lV_X3_69 (c_X3_factorsSize  μ _ h) sX_1 rfl (Nat.le_of_ble_eq_true rfl) (by decide) rfl (zk_PI (fun r_1 h => ?_))
  refine z_aload_n hE dX3_factorsLeft_4 rfl 0 rfl ?_
  refine z_callV hE dX3_factorsLeft_5 lV_X3_72 (c_X3_factorsRight  μ _ h) sX_1 rfl (Nat.le_of_ble_eq_true rfl) (by decide) rfl (zk_PI (fun r_3 h => ?_))
  refine z_isub hE dX3_factorsLeft_8 ?_
  refine z_aload_n hE dX3_factorsLeft_9 rfl 0 rfl ?_
  refine z_callV hE dX3_factorsLeft_10 lV_X3_75 (c_X3_factorsAxis  μ _ h) sX_1 rfl (Nat.le_of_ble_eq_true rfl) (by decide) rfl (zk_PI (fun r_5 h => ?_))
  refine z_isub hE dX3_factorsLeft_13 ?_
  exact z_iret (st := []) hE dX3_factorsLeft_14 rfl ⟨_, rfl, rfl, h⟩
set_option maxRecDepth 4000 in
theorem c_X5_survey  (μ : ZMem) (Φ : ZMem → Prop) (h : w_X5_survey μ Φ) : zM SX yX5_survey cX5_survey 3 (none) 3 [.ref 70, .ref 1] μ (zzV Φ) := by
  refine zM_go (own := RX5) rfl (by decide) (Nat.le_of_ble_eq_true rfl) (fun E hE => ?_)
  show zZ E (zzV Φ) 0 [(0, .ref 70), (1, .ref 1)] [] μ
  unfold w_X5_survey at h
  refine z_aload_n hE dX5_survey_0 rfl 0 rfl ?_
  refine z_getI hE dX5_survey_1 lF_X5_26 sX_70 rfl ?_
  refine z_if_eq (tgt := 8) hE dX5_survey_4 (by decide) h (fun h => ?_) (fun h => ?_)
  · refine z_bipush (v := -100) hE dX5_survey_8 zv_b_m100 ?_
    refine z_istore_n (lv' := [(2, .int (-100 : Int32)), (0, .ref 70), (1, .ref 1)]) hE dX5_survey_10 rfl (by decide) rfl ?_
    refine z_join (P := fun (J_2 : ZMem → Prop) => ∀ (μ_1 : ZMem), J_2 μ_1 → zZ E (zzV Φ) 90 [(0, .ref 70)] [] μ_1) h (fun μ_1 h => ?_) (fun J_2 hJ_2 h => ?_)
    · refine z_aload_n hE dX5_survey_90 rfl 0 rfl ?_
      refine z_iconst (v := 1) hE dX5_survey_91 zv_i_1 ?_
      refine z_put hE dX5_survey_92 lF_X5_26 sX_70 rfl (by decide) (by decide) ?_
      refine zn (G := fun μ_3 => zZ E (zzV Φ) 95 [(0, .ref 70)] [] μ_3) h (fun μ_3 h => ?_)
      exact z_vret (st := []) hE dX5_survey_95 rfl ⟨rfl, h⟩
    refine z_sub [1, 2, 0] rfl ?_
    obtain ⟨n11, h⟩ := h
    refine z_loop2 (P := fun (v2_4 : Int32) (μ_5 : ZMem) => zZ E (zzV Φ) 11 [(0, .ref 70), (1, .ref 1), (2, .int v2_4)] [] μ_5) (fun k11_5 hk11_5 v2_4 μ_5 h => ?_) n11 _ _ h
    refine z_iload_n hE dX5_survey_11 rfl 2 rfl ?_
    refine z_bipush (v := 100) hE dX5_survey_12 zv_b_100 ?_
    refine z_icmp_gt (tgt := 90) hE dX5_survey_14 (by decide) h (fun h => ?_) (fun h => ?_)
    · exact z_sub [0] rfl (hJ_2 _ h)
    · refine z_aload_n hE dX5_survey_17 rfl 1 rfl ?_
      refine z_getR (t := 2) hE dX5_survey_18 lF_X5_30 sX_1 rfl ?_
      refine z_iconst (v := 1) hE dX5_survey_21 zv_i_1 ?_
      refine z_aload_n hE dX5_survey_22 rfl 1 rfl ?_
      refine z_getR (t := 3) hE dX5_survey_23 lF_X5_35 sX_1 rfl ?_
      refine z_iload_n hE dX5_survey_26 rfl 2 rfl ?_
      refine z_aload_n hE dX5_survey_27 rfl 0 rfl ?_
      refine z_getR (t := 71) hE dX5_survey_28 lF_X5_9 sX_70 rfl ?_
      refine z_callS hE dX5_survey_31 lS_X5_38 (c_X4_mix _ _ _ _ _ _ _ _ sX_2 sX_3 sX_71 μ_5 _ h) rfl (Nat.le_of_ble_eq_true rfl) (by decide) rfl (zk_V (fun μ_7 h => ?_))
      refine z_aload_n hE dX5_survey_34 rfl 0 rfl ?_
      refine z_getR (t := 72) hE dX5_survey_35 lF_X5_18 sX_70 rfl ?_
      refine z_aload_n hE dX5_survey_38 rfl 0 rfl ?_
      refine z_getR (t := 71) hE dX5_survey_39 lF_X5_9 sX_70 rfl ?_
      refine z_iconst (v := 0) hE dX5_survey_42 zv_i_0 ?_
      refine z_callV hE dX5_survey_43 lV_X5_44 (c_X8_shape _ _ _ _ zcX_72 sX_71 μ_7 _ h) sX_72 rfl (Nat.le_of_ble_eq_true rfl) (by decide) rfl (zk_V (fun μ_9 h => ?_))
      refine z_aload_n hE dX5_survey_46 rfl 0 rfl ?_
      refine z_getR (t := 72) hE dX5_survey_47 lF_X5_18 sX_70 rfl ?_
      refine z_callV hE dX5_survey_50 lV_X5_48 (c_X8_build _ zcX_72 μ_9 _ h) sX_72 rfl (Nat.le_of_ble_eq_true rfl) (by decide) rfl (zk_V (fun μ_11 h => ?_))
      refine z_aload_n hE dX5_survey_53 rfl 0 rfl ?_
      refine z_getR (t := 84) hE dX5_survey_54 lF_X5_22 sX_70 rfl ?_
      refine z_iload_n hE dX5_survey_57 rfl 2 rfl ?_
      refine z_bipush (v := 100) hE dX5_survey_58 zv_b_100 ?_
      refine z_iadd hE dX5_survey_60 ?_
      refine z_aload_n hE dX5_survey_61 rfl 0 rfl ?_
      refine z_getR (t := 72) hE dX5_survey_62 lF_X5_18 sX_70 rfl ?_
      refine z_getI hE dX5_survey_65 lF_X5_51 sX_72 rfl ?_
      refine z_join (P := fun (J_13 : Int32 → Prop) => ∀ (x_12 : Int32), J_13 x_12 → zZ E (zzV Φ) 83 [(0, .ref 70), (1, .ref 1), (2, .int v2_4)] [.int x_12, .int (v2_4 + (100 : Int32)), .ref 84] μ_11) h (fun x_12 h => ?_) (fun J_13 hJ_13 h => ?_)
      · obtain ⟨q_14, h⟩ := h
        refine z_iast hE dX5_survey_83 sX_84 q_14 ?_
        refine zn (G := fun μ_15 => zZ E (zzV Φ) 84 [(0, .ref 70), (1, .ref 1), (2, .int v2_4)] [] μ_15) h (fun μ_15 h => ?_)
        refine z_iinc (j := 2) (c := 1) (lv' := [(2, .int (v2_4 + (1 : Int32))), (0, .ref 70), (1, .ref 1)]) hE dX5_survey_84 rfl zv_i_1 (by decide) rfl ?_
        refine z_goto (tgt := 11) hE dX5_survey_87 (by decide) ?_
        exact z_sub [1, 2, 0] rfl (hk11_5 _ _ h)
      refine z_if_eq (tgt := 76) hE dX5_survey_68 (by decide) h (fun h => ?_) (fun h => ?_)
      · refine z_aload_n hE dX5_survey_76 rfl 0 rfl ?_
        refine z_getR (t := 72) hE dX5_survey_77 lF_X5_18 sX_70 rfl ?_
        refine z_callV hE dX5_survey_80 lV_X5_54 (c_X8_rightCount _ zcX_72 μ_11 _ h) sX_72 rfl (Nat.le_of_ble_eq_true rfl) (by decide) rfl (zk_PI (fun r_16 h => ?_))
        exact hJ_13 _ h
      · refine z_bipush (v := -7) hE dX5_survey_71 zv_b_m7 ?_
        refine z_goto (tgt := 83) hE dX5_survey_73 (by decide) ?_
        exact hJ_13 _ h
  · exact z_vret (st := []) hE dX5_survey_7 rfl ⟨rfl, h⟩
set_option maxRecDepth 4000 in
theorem c_X7_holds (a2 : Int32) (a3 : Int32) (a4 : Int32) (μ : ZMem) (Φ : Int32 → ZMem → Prop) (h : w_X7_holds a2 a3 a4 μ Φ) : zM SX yX7_holds cX7_holds 6 (some FieldType.boolean) 3 [.ref 50, .ref 1, .int a2, .int a3, .int a4] μ (zzI Φ) := by
  refine zM_go (own := RX7) rfl (by decide) (Nat.le_of_ble_eq_true rfl) (fun E hE => ?_)
  show zZ E (zzI Φ) 0 [(0, .ref 50), (1, .ref 1), (2, .int a2), (3, .int a3), (4, .int a4)] [] μ
  unfold w_X7_holds at h
  refine z_aload_n hE dX7_holds_0 rfl 1 rfl ?_
  refine z_getR (t := 2) hE dX7_holds_1 lF_X7_22 sX_1 rfl ?_
  refine z_callS hE dX7_holds_4 lS_X7_27 (c_X4_highest _ _ sX_2 μ _ h) rfl (Nat.le_of_ble_eq_true rfl) (by decide) rfl (zk_PI (fun r_1 h => ?_))
  refine z_aload_n hE dX7_holds_7 rfl 1 rfl ?_
  refine z_getR (t := 3) hE dX7_holds_8 lF_X7_33 sX_1 rfl ?_
  refine z_callS hE dX7_holds_11 lS_X7_27 (c_X4_highest _ _ sX_3 μ _ h) rfl (Nat.le_of_ble_eq_true rfl) (by decide) rfl (zk_PI (fun r_3 h => ?_))
  refine z_mmax hE dX7_holds_14 lM_X7_36 (Nat.le_of_ble_eq_true rfl) ?_
  refine z_istore (lv' := [(5, .int (if r_1 < r_3 then r_3 else r_1)), (0, .ref 50), (1, .ref 1), (2, .int a2), (3, .int a3), (4, .int a4)]) hE dX7_holds_17 (by decide) rfl ?_
  refine zn (G := fun v5_5 => zZ E (zzI Φ) 19 [(5, .int v5_5), (0, .ref 50), (1, .ref 1), (2, .int a2), (3, .int a3), (4, .int a4)] [] μ) h (fun v5_5 h => ?_)
  refine z_aload_n hE dX7_holds_19 rfl 2 rfl ?_
  refine z_getR (t := 2) hE dX7_holds_20 lF_X7_22 sX_1 rfl ?_
  refine z_iload_n hE dX7_holds_23 rfl 4 rfl ?_
  refine z_aload_n hE dX7_holds_24 rfl 2 rfl ?_
  refine z_getR (t := 3) hE dX7_holds_25 lF_X7_33 sX_1 rfl ?_
  refine z_iload hE dX7_holds_28 5 rfl ?_
  refine z_aload_n hE dX7_holds_30 rfl 1 rfl ?_
  refine z_getR (t := 51) hE dX7_holds_31 lF_X7_9 sX_50 rfl ?_
  refine z_callS hE dX7_holds_34 lS_X7_42 (c_X4_mix _ _ _ _ _ _ _ _ sX_2 sX_3 sX_51 μ _ h) rfl (Nat.le_of_ble_eq_true rfl) (by decide) rfl (zk_V (fun μ_7 h => ?_))
  refine z_iload hE dX7_holds_37 0 rfl ?_
  refine z_iconst (v := 1) hE dX7_holds_39 zv_i_1 ?_
  refine z_icmp_lt (tgt := 55) hE dX7_holds_40 (by decide) h (fun h => ?_) (fun h => ?_)
  · refine z_iconst (v := 0) hE dX7_holds_55 zv_i_0 ?_
    exact z_zret (st := []) hE dX7_holds_56 rfl (by decide) ⟨_, rfl, h⟩
  · refine z_aload_n hE dX7_holds_43 rfl 1 rfl ?_
    refine z_getR (t := 51) hE dX7_holds_44 lF_X7_9 sX_50 rfl ?_
    refine z_callS hE dX7_holds_47 lS_X7_27 (c_X4_highest _ _ sX_51 μ_7 _ h) rfl (Nat.le_of_ble_eq_true rfl) (by decide) rfl (zk_PI (fun r_8 h => ?_))
    refine z_iload hE dX7_holds_50 0 rfl ?_
    refine z_icmp_eq (tgt := 57) hE dX7_holds_52 (by decide) h (fun h => ?_) (fun h => ?_)
    · refine z_aload_n hE dX7_holds_57 rfl 1 rfl ?_
      refine z_getR (t := 52) hE dX7_holds_58 lF_X7_18 sX_50 rfl ?_
      refine z_aload_n hE dX7_holds_61 rfl 1 rfl ?_
      refine z_getR (t := 51) hE dX7_holds_62 lF_X7_9 sX_50 rfl ?_
      refine z_iload_n hE dX7_holds_65 rfl 3 rfl ?_
      refine z_join (P := fun (J_11 : Int32 → Prop) => ∀ (x_10 : Int32), J_11 x_10 → zZ E (zzI Φ) 74 [(0, .ref 50)] [.int x_10, .ref 51, .ref 52] μ_7) h (fun x_10 h => ?_) (fun J_11 hJ_11 h => ?_)
      · refine z_callV hE dX7_holds_74 lV_X7_46 (c_X8_shape _ _ _ _ zcX_52 sX_51 μ_7 _ h) sX_52 rfl (Nat.le_of_ble_eq_true rfl) (by decide) rfl (zk_V (fun μ_13 h => ?_))
        refine z_aload_n hE dX7_holds_77 rfl 0 rfl ?_
        refine z_getR (t := 52) hE dX7_holds_78 lF_X7_18 sX_50 rfl ?_
        refine z_callV hE dX7_holds_81 lV_X7_50 (c_X8_build _ zcX_52 μ_13 _ h) sX_52 rfl (Nat.le_of_ble_eq_true rfl) (by decide) rfl (zk_V (fun μ_15 h => ?_))
        refine z_aload_n hE dX7_holds_84 rfl 0 rfl ?_
        refine z_getR (t := 52) hE dX7_holds_85 lF_X7_18 sX_50 rfl ?_
        refine z_getI hE dX7_holds_88 lF_X7_53 sX_52 rfl ?_
        refine z_if_ne (tgt := 104) hE dX7_holds_91 (by decide) h (fun h => ?_) (fun h => ?_)
        · refine z_iconst (v := 0) hE dX7_holds_104 zv_i_0 ?_
          exact z_zret (st := []) hE dX7_holds_105 rfl (by decide) ⟨_, rfl, h⟩
        · refine z_aload_n hE dX7_holds_94 rfl 0 rfl ?_
          refine z_getR (t := 52) hE dX7_holds_95 lF_X7_18 sX_50 rfl ?_
          refine z_getI hE dX7_holds_98 lF_X7_57 sX_52 rfl ?_
          refine z_if_eq (tgt := 106) hE dX7_holds_101 (by decide) h (fun h => ?_) (fun h => ?_)
          · refine z_aload_n hE dX7_holds_106 rfl 0 rfl ?_
            refine z_getR (t := 52) hE dX7_holds_107 lF_X7_18 sX_50 rfl ?_
            refine z_callV hE dX7_holds_110 lV_X7_61 (c_X8_rightCount _ zcX_52 μ_15 _ h) sX_52 rfl (Nat.le_of_ble_eq_true rfl) (by decide) rfl (zk_PI (fun r_16 h => ?_))
            refine z_if_ne (tgt := 130) hE dX7_holds_113 (by decide) h (fun h => ?_) (fun h => ?_)
            · refine z_iconst (v := 0) hE dX7_holds_130 zv_i_0 ?_
              exact z_zret (st := []) hE dX7_holds_131 rfl (by decide) ⟨_, rfl, h⟩
            · refine z_aload_n hE dX7_holds_116 rfl 0 rfl ?_
              refine z_getR (t := 52) hE dX7_holds_117 lF_X7_18 sX_50 rfl ?_
              refine z_callV hE dX7_holds_120 lV_X7_65 (c_X8_axisCount _ zcX_52 μ_15 _ h) sX_52 rfl (Nat.le_of_ble_eq_true rfl) (by decide) rfl (zk_PI (fun r_18 h => ?_))
              refine z_if_ne (tgt := 130) hE dX7_holds_123 (by decide) h (fun h => ?_) (fun h => ?_)
              · refine z_iconst (v := 0) hE dX7_holds_130 zv_i_0 ?_
                exact z_zret (st := []) hE dX7_holds_131 rfl (by decide) ⟨_, rfl, h⟩
              · refine z_iconst (v := 1) hE dX7_holds_126 zv_i_1 ?_
                refine z_goto (tgt := 131) hE dX7_holds_127 (by decide) ?_
                exact z_zret (st := []) hE dX7_holds_131 rfl (by decide) ⟨_, rfl, h⟩
          · refine z_iconst (v := 0) hE dX7_holds_104 zv_i_0 ?_
            exact z_zret (st := []) hE dX7_holds_105 rfl (by decide) ⟨_, rfl, h⟩
      refine z_if_ne (tgt := 73) hE dX7_holds_66 (by decide) h (fun h => ?_) (fun h => ?_)
      · refine z_iconst (v := 3) hE dX7_holds_73 zv_i_3 ?_
        exact z_sub [1] rfl (hJ_11 _ h)
      · refine z_iconst (v := 0) hE dX7_holds_69 zv_i_0 ?_
        refine z_goto (tgt := 74) hE dX7_holds_70 (by decide) ?_
        exact z_sub [1] rfl (hJ_11 _ h)
    · refine z_iconst (v := 0) hE dX7_holds_55 zv_i_0 ?_
      exact z_zret (st := []) hE dX7_holds_56 rfl (by decide) ⟨_, rfl, h⟩
set_option maxRecDepth 4000 in
theorem c_X9_takeTerms (k1 n1 : Nat) (a2 : Int32) (h1 : SX[k1]? = some (2, n1, [])) (μ : ZMem) (Φ : ZMem → Prop) (h : w_X9_takeTerms k1 n1 a2 μ Φ) : zM SX yX9_takeTerms cX9_takeTerms 5 (none) 3 [.ref 23, .ref k1, .int a2] μ (zzV Φ) := by
  refine zM_go (own := RX9) rfl (by decide) (Nat.le_of_ble_eq_true rfl) (fun E hE => ?_)
  show zZ E (zzV Φ) 0 [(0, .ref 23), (1, .ref k1), (2, .int a2)] [] μ
  unfold w_X9_takeTerms at h
  refine z_iconst (v := 1) hE dX9_takeTerms_0 zv_i_1 ?_
  refine z_istore_n (lv' := [(3, .int (1 : Int32)), (0, .ref 23), (1, .ref k1), (2, .int a2)]) hE dX9_takeTerms_1 rfl (by decide) rfl ?_
  refine z_aload_n hE dX9_takeTerms_2 rfl 1 rfl ?_
  refine z_aload_n hE dX9_takeTerms_3 rfl 1 rfl ?_
  refine z_getI hE dX9_takeTerms_4 lF_X9_32 sX_23 rfl ?_
  refine z_callV hE dX9_takeTerms_7 lV_X9_50 (c_X9_letterAt _ μ _ h) sX_23 rfl (Nat.le_of_ble_eq_true rfl) (by decide) rfl (zk_PI (fun r_1 h => ?_))
  refine z_bipush (v := 45) hE dX9_takeTerms_10 zv_b_45 ?_
  refine z_join (P := fun (J_5 : Int32 → ZMem → Prop) => ∀ (v3_3 : Int32) (μ_4 : ZMem), J_5 v3_3 μ_4 → zZ E (zzV Φ) 27 [(0, .ref 23), (1, .ref k1), (2, .int a2), (3, .int v3_3)] [] μ_4) h (fun v3_3 μ_4 h => ?_) (fun J_5 hJ_5 h => ?_)
  · refine z_aload_n hE dX9_takeTerms_27 rfl 0 rfl ?_
    refine z_aload_n hE dX9_takeTerms_28 rfl 1 rfl ?_
    refine z_iload_n hE dX9_takeTerms_29 rfl 3 rfl ?_
    refine z_callV hE dX9_takeTerms_30 lV_X9_53 (c_X9_takeTerm _ _ _ h1 μ_4 _ h) sX_23 rfl (Nat.le_of_ble_eq_true rfl) (by decide) rfl (zk_V (fun μ_7 h => ?_))
    refine z_iconst (v := 0) hE dX9_takeTerms_33 zv_i_0 ?_
    refine z_istore (lv' := [(4, .int (0 : Int32)), (0, .ref 23), (1, .ref k1), (2, .int a2), (3, .int v3_3)]) hE dX9_takeTerms_34 (by decide) rfl ?_
    refine z_sub [1, 2, 3, 0] rfl ?_
    obtain ⟨n36, h⟩ := h
    refine z_loop2 (P := fun (v4_8 : Int32) (μ_9 : ZMem) => zZ E (zzV Φ) 36 [(0, .ref 23), (1, .ref k1), (2, .int a2), (4, .int v4_8)] [] μ_9) (fun k36_9 hk36_9 v4_8 μ_9 h => ?_) n36 _ _ h
    refine z_iload hE dX9_takeTerms_36 3 rfl ?_
    refine z_bipush (v := 60) hE dX9_takeTerms_38 zv_b_60 ?_
    refine z_icmp_ge (tgt := 106) hE dX9_takeTerms_40 (by decide) h (fun h => ?_) (fun h => ?_)
    · exact z_vret (st := []) hE dX9_takeTerms_106 rfl ⟨rfl, h⟩
    · refine z_aload_n hE dX9_takeTerms_43 rfl 0 rfl ?_
      refine z_getI hE dX9_takeTerms_44 lF_X9_29 sX_23 rfl ?_
      refine z_iconst (v := -1) hE dX9_takeTerms_47 zv_i_m1 ?_
      refine z_icmp_ne (tgt := 106) hE dX9_takeTerms_48 (by decide) h (fun h => ?_) (fun h => ?_)
      · exact z_vret (st := []) hE dX9_takeTerms_106 rfl ⟨rfl, h⟩
      · refine z_aload_n hE dX9_takeTerms_51 rfl 0 rfl ?_
        refine z_aload_n hE dX9_takeTerms_52 rfl 0 rfl ?_
        refine z_getI hE dX9_takeTerms_53 lF_X9_32 sX_23 rfl ?_
        refine z_callV hE dX9_takeTerms_56 lV_X9_39 (c_X9_signAt _ μ_9 _ h) sX_23 rfl (Nat.le_of_ble_eq_true rfl) (by decide) rfl (zk_PI (fun r_10 h => ?_))
        refine z_istore_n (lv' := [(3, .int r_10), (0, .ref 23), (1, .ref k1), (2, .int a2), (4, .int v4_8)]) hE dX9_takeTerms_59 rfl (by decide) rfl ?_
        refine z_iload_n hE dX9_takeTerms_60 rfl 0 rfl ?_
        refine z_if_eq (tgt := 83) hE dX9_takeTerms_61 (by decide) h (fun h => ?_) (fun h => ?_)
        · exact z_vret (st := []) hE dX9_takeTerms_83 rfl ⟨rfl, h⟩
        · refine z_iload_n hE dX9_takeTerms_64 rfl 3 rfl ?_
          refine z_join (P := fun (J_12 : Prop) => J_12 → zZ E (zzV Φ) 84 [(0, .ref 23), (1, .ref k1), (2, .int a2), (3, .int r_10), (4, .int v4_8)] [] μ_9) h (fun  h => ?_) (fun J_12 hJ_12 h => ?_)
          · refine z_aload_n hE dX9_takeTerms_84 rfl 0 rfl ?_
            refine z_dup hE dX9_takeTerms_85 rfl ?_
            refine z_getI hE dX9_takeTerms_86 lF_X9_32 sX_23 rfl ?_
            refine z_iconst (v := 1) hE dX9_takeTerms_89 zv_i_1 ?_
            refine z_iadd hE dX9_takeTerms_90 ?_
            refine z_put hE dX9_takeTerms_91 lF_X9_32 sX_23 rfl rfl rfl ?_
            refine zn (G := fun μ_13 => zZ E (zzV Φ) 94 [(0, .ref 23), (1, .ref k1), (2, .int a2), (3, .int r_10), (4, .int v4_8)] [] μ_13) h (fun μ_13 h => ?_)
            refine z_aload_n hE dX9_takeTerms_94 rfl 0 rfl ?_
            refine z_aload_n hE dX9_takeTerms_95 rfl 1 rfl ?_
            refine z_iload_n hE dX9_takeTerms_96 rfl 3 rfl ?_
            refine z_callV hE dX9_takeTerms_97 lV_X9_53 (c_X9_takeTerm _ _ _ h1 μ_13 _ h) sX_23 rfl (Nat.le_of_ble_eq_true rfl) (by decide) rfl (zk_V (fun μ_15 h => ?_))
            refine z_iinc (j := 4) (c := 1) (lv' := [(4, .int (v4_8 + (1 : Int32))), (0, .ref 23), (1, .ref k1), (2, .int a2), (3, .int r_10)]) hE dX9_takeTerms_100 rfl zv_i_1 (by decide) rfl ?_
            refine z_goto (tgt := 36) hE dX9_takeTerms_103 (by decide) ?_
            exact z_sub [1, 2, 3, 0] rfl (hk36_9 _ _ h)
          refine z_if_eq (tgt := 84) hE dX9_takeTerms_65 (by decide) h (fun h => ?_) (fun h => ?_)
          · exact z_sub [1, 2, 3, 0, 4] rfl (hJ_12 h)
          · refine z_aload_n hE dX9_takeTerms_68 rfl 1 rfl ?_
            refine z_aload_n hE dX9_takeTerms_69 rfl 1 rfl ?_
            refine z_getI hE dX9_takeTerms_70 lF_X9_32 sX_23 rfl ?_
            refine z_iconst (v := 1) hE dX9_takeTerms_73 zv_i_1 ?_
            refine z_iadd hE dX9_takeTerms_74 ?_
            refine z_callV hE dX9_takeTerms_75 lV_X9_50 (c_X9_letterAt _ μ_9 _ h) sX_23 rfl (Nat.le_of_ble_eq_true rfl) (by decide) rfl (zk_PI (fun r_16 h => ?_))
            refine z_bipush (v := 75) hE dX9_takeTerms_78 zv_b_75 ?_
            refine z_icmp_ne (tgt := 84) hE dX9_takeTerms_80 (by decide) h (fun h => ?_) (fun h => ?_)
            · exact z_sub [1, 2, 3, 0, 4] rfl (hJ_12 h)
            · exact z_vret (st := []) hE dX9_takeTerms_83 rfl ⟨rfl, h⟩
  refine z_icmp_ne (tgt := 27) hE dX9_takeTerms_12 (by decide) h (fun h => ?_) (fun h => ?_)
  · exact z_sub [1, 2, 3, 0] rfl (hJ_5 _ _ h)
  · refine z_iconst (v := -1) hE dX9_takeTerms_15 zv_i_m1 ?_
    refine z_istore_n (lv' := [(3, .int (-1 : Int32)), (0, .ref 23), (1, .ref k1), (2, .int a2)]) hE dX9_takeTerms_16 rfl (by decide) rfl ?_
    refine z_aload_n hE dX9_takeTerms_17 rfl 1 rfl ?_
    refine z_dup hE dX9_takeTerms_18 rfl ?_
    refine z_getI hE dX9_takeTerms_19 lF_X9_32 sX_23 rfl ?_
    refine z_iconst (v := 1) hE dX9_takeTerms_22 zv_i_1 ?_
    refine z_iadd hE dX9_takeTerms_23 ?_
    refine z_put hE dX9_takeTerms_24 lF_X9_32 sX_23 rfl rfl rfl ?_
    refine zn (G := fun μ_18 => zZ E (zzV Φ) 27 [(3, .int (-1 : Int32)), (0, .ref 23), (1, .ref k1), (2, .int a2)] [] μ_18) h (fun μ_18 h => ?_)
    exact z_sub [1, 2, 3, 0] rfl (hJ_5 _ _ h)
set_option maxRecDepth 4000 in
theorem c_X11_best  (μ : ZMem) (Φ : Int32 → ZMem → Prop) (h : w_X11_best μ Φ) : zM SX yX11_best cX11_best 1 (some FieldType.int) 4 [.ref 0] μ (zzI Φ) := by
  refine zM_go (own := RX11) rfl (by decide) (Nat.le_of_ble_eq_true rfl) (fun E hE => ?_)
  show zZ E (zzI Φ) 0 [(0, .ref 0)] [] μ
  unfold w_X11_best at h
  refine z_aload_n hE dX11_best_0 rfl 0 rfl ?_
  refine z_getR (t := 70) hE dX11_best_1 lF_X11_70 sX_0 rfl ?_
  refine z_aload_n hE dX11_best_4 rfl 0 rfl ?_
  refine z_getR (t := 1) hE dX11_best_5 lF_X11_14 sX_0 rfl ?_
  refine z_callV hE dX11_best_8 lV_X11_305 (c_X5_survey  μ _ h) sX_70 rfl (Nat.le_of_ble_eq_true rfl) (by decide) rfl (zk_V (fun μ_2 h => ?_))
  refine z_aload_n hE dX11_best_11 rfl 0 rfl ?_
  refine z_getR (t := 70) hE dX11_best_12 lF_X11_70 sX_0 rfl ?_
  refine z_callV hE dX11_best_15 lV_X11_318 (c_X5_hasBest  μ_2 _ h) sX_70 rfl (Nat.le_of_ble_eq_true rfl) (by decide) rfl (zk_PI (fun r_3 h => ?_))
  refine z_if_eq (tgt := 35) hE dX11_best_18 (by decide) h (fun h => ?_) (fun h => ?_)
  · refine z_iconst (v := -1) hE dX11_best_35 zv_i_m1 ?_
    exact z_iret (st := []) hE dX11_best_36 rfl ⟨_, rfl, h⟩
  · refine z_aload_n hE dX11_best_21 rfl 0 rfl ?_
    refine z_getR (t := 70) hE dX11_best_22 lF_X11_70 sX_0 rfl ?_
    refine z_callV hE dX11_best_25 lV_X11_322 (c_X5_bestGain  μ_2 _ h) sX_70 rfl (Nat.le_of_ble_eq_true rfl) (by decide) rfl (zk_PI (fun r_5 h => ?_))
    refine z_sipush (v := 1000) hE dX11_best_28 zv_s_1000 ?_
    refine z_iadd hE dX11_best_31 ?_
    refine z_goto (tgt := 36) hE dX11_best_32 (by decide) ?_
    exact z_iret (st := []) hE dX11_best_36 rfl ⟨_, rfl, h⟩
set_option maxRecDepth 4000 in
theorem c_X11_caseOf (a1 : Int32) (a2 : Int32) (μ : ZMem) (Φ : Int32 → ZMem → Prop) (h : w_X11_caseOf a1 a2 μ Φ) : zM SX yX11_caseOf cX11_caseOf 4 (some FieldType.int) 4 [.ref 0, .int a1, .int a2] μ (zzI Φ) := by
  refine zM_go (own := RX11) rfl (by decide) (Nat.le_of_ble_eq_true rfl) (fun E hE => ?_)
  show zZ E (zzI Φ) 0 [(0, .ref 0), (1, .int a1), (2, .int a2)] [] μ
  unfold w_X11_caseOf at h
  refine z_iload_n hE dX11_caseOf_0 rfl 1 rfl ?_
  refine z_callS hE dX11_caseOf_1 lS_X11_132 (c_X11_isForm _ μ _ h) rfl (Nat.le_of_ble_eq_true rfl) (by decide) rfl (zk_PI (fun r_1 h => ?_))
  refine z_if_ne (tgt := 10) hE dX11_caseOf_4 (by decide) h (fun h => ?_) (fun h => ?_)
  · refine z_aload_n hE dX11_caseOf_10 rfl 0 rfl ?_
    refine z_iload_n hE dX11_caseOf_11 rfl 1 rfl ?_
    refine z_callV hE dX11_caseOf_12 lV_X11_148 (c_X11_tableOf _ μ _ h) sX_0 rfl (Nat.le_of_ble_eq_true rfl) (by decide) rfl (zk_R (fun r_3 μ_4 h => ?_))
    obtain ⟨er_3, h⟩ := h
    refine z_astore_n (lv' := [(3, .ref r_3), (0, .ref 0), (1, .int a1), (2, .int a2)]) hE dX11_caseOf_15 rfl (by decide) rfl ?_
    refine z_aload_n hE dX11_caseOf_16 rfl 0 rfl ?_
    refine z_iload_n hE dX11_caseOf_17 rfl 3 rfl ?_
    refine z_callV hE dX11_caseOf_18 lV_X11_156 (c_X8_hasRow _ _ er_3 μ_4 _ h) er_3.1 rfl (Nat.le_of_ble_eq_true rfl) (by decide) rfl (zk_PI (fun r_5 h => ?_))
    refine z_if_ne (tgt := 26) hE dX11_caseOf_21 (by decide) h (fun h => ?_) (fun h => ?_)
    · refine z_aload_n hE dX11_caseOf_26 rfl 0 rfl ?_
      refine z_getI hE dX11_caseOf_27 lF_X11_152 er_3.1 rfl ?_
      refine z_if_eq (tgt := 38) hE dX11_caseOf_30 (by decide) h (fun h => ?_) (fun h => ?_)
      · refine z_aload_n hE dX11_caseOf_38 rfl 0 rfl ?_
        refine z_iload_n hE dX11_caseOf_39 rfl 3 rfl ?_
        refine z_callV hE dX11_caseOf_40 lV_X11_167 (c_X8_mending _ _ er_3 μ_4 _ h) er_3.1 rfl (Nat.le_of_ble_eq_true rfl) (by decide) rfl (zk_PI (fun r_7 h => ?_))
        exact z_iret (st := []) hE dX11_caseOf_43 rfl ⟨_, rfl, h⟩
      · refine z_bipush (v := -7) hE dX11_caseOf_33 zv_b_m7 ?_
        refine z_goto (tgt := 43) hE dX11_caseOf_35 (by decide) ?_
        exact z_iret (st := []) hE dX11_caseOf_43 rfl ⟨_, rfl, h⟩
    · refine z_iconst (v := -1) hE dX11_caseOf_24 zv_i_m1 ?_
      exact z_iret (st := []) hE dX11_caseOf_25 rfl ⟨_, rfl, h⟩
  · refine z_bipush (v := -2) hE dX11_caseOf_7 zv_b_m2 ?_
    exact z_iret (st := []) hE dX11_caseOf_9 rfl ⟨_, rfl, h⟩
set_option maxRecDepth 4000 in
theorem c_X11_chain (a1 : Int32) (μ : ZMem) (Φ : Int32 → ZMem → Prop) (h : w_X11_chain a1 μ Φ) : zM SX yX11_chain cX11_chain 2 (some FieldType.int) 4 [.ref 0, .int a1] μ (zzI Φ) := by
  refine zM_go (own := RX11) rfl (by decide) (Nat.le_of_ble_eq_true rfl) (fun E hE => ?_)
  show zZ E (zzI Φ) 0 [(0, .ref 0), (1, .int a1)] [] μ
  unfold w_X11_chain at h
  refine z_iload_n hE dX11_chain_0 rfl 1 rfl ?_
  refine z_bipush (v := 20) hE dX11_chain_1 zv_b_20 ?_
  refine z_callS hE dX11_chain_3 lS_X11_86 (c_X11_isWithin _ _ μ _ h) rfl (Nat.le_of_ble_eq_true rfl) (by decide) rfl (zk_PI (fun r_1 h => ?_))
  refine z_if_eq (tgt := 23) hE dX11_chain_6 (by decide) h (fun h => ?_) (fun h => ?_)
  · refine z_bipush (v := -2) hE dX11_chain_23 zv_b_m2 ?_
    exact z_iret (st := []) hE dX11_chain_25 rfl ⟨_, rfl, h⟩
  · refine z_aload_n hE dX11_chain_9 rfl 0 rfl ?_
    refine z_getR (t := 40) hE dX11_chain_10 lF_X11_44 sX_0 rfl ?_
    refine z_aload_n hE dX11_chain_13 rfl 0 rfl ?_
    refine z_callV hE dX11_chain_14 lV_X11_98 (c_X11_currentC  μ _ h) sX_0 rfl (Nat.le_of_ble_eq_true rfl) (by decide) rfl (zk_R (fun r_3 μ_4 h => ?_))
    obtain ⟨er_3, h⟩ := h
    refine z_callV hE dX11_chain_17 lV_X11_222 (c_X0_build _ _ er_3 μ_4 _ h) sX_40 rfl (Nat.le_of_ble_eq_true rfl) (by decide) rfl (zk_I (fun r_5 μ_6 h => ?_))
    refine z_if_ne (tgt := 26) hE dX11_chain_20 (by decide) h (fun h => ?_) (fun h => ?_)
    · refine z_aload_n hE dX11_chain_26 rfl 0 rfl ?_
      refine z_getR (t := 40) hE dX11_chain_27 lF_X11_44 sX_0 rfl ?_
      refine z_iload_n hE dX11_chain_30 rfl 1 rfl ?_
      refine z_callV hE dX11_chain_31 lV_X11_231 (c_X0_changesAt _ μ_6 _ h) sX_40 rfl (Nat.le_of_ble_eq_true rfl) (by decide) rfl (zk_PI (fun r_7 h => ?_))
      exact z_iret (st := []) hE dX11_chain_34 rfl ⟨_, rfl, h⟩
    · refine z_bipush (v := -2) hE dX11_chain_23 zv_b_m2 ?_
      exact z_iret (st := []) hE dX11_chain_25 rfl ⟨_, rfl, h⟩
set_option maxRecDepth 4000 in
theorem c_X11_changes (a1 : Int32) (a2 : Int32) (a3 : Int32) (μ : ZMem) (Φ : Int32 → ZMem → Prop) (h : w_X11_changes a1 a2 a3 μ Φ) : zM SX yX11_changes cX11_changes 5 (some FieldType.int) 4 [.ref 0, .int a1, .int a2, .int a3] μ (zzI Φ) := by
  refine zM_go (own := RX11) rfl (by decide) (Nat.le_of_ble_eq_true rfl) (fun E hE => ?_)
  show zZ E (zzI Φ) 0 [(0, .ref 0), (1, .int a1), (2, .int a2), (3, .int a3)] [] μ
  unfold w_X11_changes at h
  refine z_iload_n hE dX11_changes_0 rfl 1 rfl ?_
  refine z_callS hE dX11_changes_1 lS_X11_132 (c_X11_isForm _ μ _ h) rfl (Nat.le_of_ble_eq_true rfl) (by decide) rfl (zk_PI (fun r_1 h => ?_))
  refine z_if_ne (tgt := 10) hE dX11_changes_4 (by decide) h (fun h => ?_) (fun h => ?_)
  · refine z_aload_n hE dX11_changes_10 rfl 0 rfl ?_
    refine z_iload_n hE dX11_changes_11 rfl 1 rfl ?_
    refine z_callV hE dX11_changes_12 lV_X11_148 (c_X11_tableOf _ μ _ h) sX_0 rfl (Nat.le_of_ble_eq_true rfl) (by decide) rfl (zk_R (fun r_3 μ_4 h => ?_))
    obtain ⟨er_3, h⟩ := h
    refine z_astore (lv' := [(4, .ref r_3), (0, .ref 0), (1, .int a1), (2, .int a2), (3, .int a3)]) hE dX11_changes_15 (by decide) rfl ?_
    refine z_aload hE dX11_changes_17 0 rfl ?_
    refine z_iload_n hE dX11_changes_19 rfl 3 rfl ?_
    refine z_callV hE dX11_changes_20 lV_X11_156 (c_X8_hasRow _ _ er_3 μ_4 _ h) er_3.1 rfl (Nat.le_of_ble_eq_true rfl) (by decide) rfl (zk_PI (fun r_5 h => ?_))
    refine z_if_eq (tgt := 40) hE dX11_changes_23 (by decide) h (fun h => ?_) (fun h => ?_)
    · refine z_iconst (v := -1) hE dX11_changes_40 zv_i_m1 ?_
      exact z_iret (st := []) hE dX11_changes_41 rfl ⟨_, rfl, h⟩
    · refine z_aload hE dX11_changes_26 0 rfl ?_
      refine z_iload_n hE dX11_changes_28 rfl 4 rfl ?_
      refine z_callV hE dX11_changes_29 lV_X11_156 (c_X8_hasRow _ _ er_3 μ_4 _ h) er_3.1 rfl (Nat.le_of_ble_eq_true rfl) (by decide) rfl (zk_PI (fun r_7 h => ?_))
      refine z_if_eq (tgt := 40) hE dX11_changes_32 (by decide) h (fun h => ?_) (fun h => ?_)
      · refine z_iconst (v := -1) hE dX11_changes_40 zv_i_m1 ?_
        exact z_iret (st := []) hE dX11_changes_41 rfl ⟨_, rfl, h⟩
      · refine z_iload_n hE dX11_changes_35 rfl 4 rfl ?_
        refine z_iload_n hE dX11_changes_36 rfl 3 rfl ?_
        refine z_icmp_ge (tgt := 42) hE dX11_changes_37 (by decide) h (fun h => ?_) (fun h => ?_)
        · refine z_aload hE dX11_changes_42 0 rfl ?_
          refine z_getI hE dX11_changes_44 lF_X11_152 er_3.1 rfl ?_
          refine z_if_eq (tgt := 55) hE dX11_changes_47 (by decide) h (fun h => ?_) (fun h => ?_)
          · refine z_aload hE dX11_changes_55 0 rfl ?_
            refine z_iload_n hE dX11_changes_57 rfl 3 rfl ?_
            refine z_iload_n hE dX11_changes_58 rfl 4 rfl ?_
            refine z_callV hE dX11_changes_59 lV_X11_183 (c_X8_signChanges _ _ _ er_3 μ_4 _ h) er_3.1 rfl (Nat.le_of_ble_eq_true rfl) (by decide) rfl (zk_PI (fun r_9 h => ?_))
            exact z_iret (st := []) hE dX11_changes_62 rfl ⟨_, rfl, h⟩
          · refine z_bipush (v := -7) hE dX11_changes_50 zv_b_m7 ?_
            refine z_goto (tgt := 62) hE dX11_changes_52 (by decide) ?_
            exact z_iret (st := []) hE dX11_changes_62 rfl ⟨_, rfl, h⟩
        · refine z_iconst (v := -1) hE dX11_changes_40 zv_i_m1 ?_
          exact z_iret (st := []) hE dX11_changes_41 rfl ⟨_, rfl, h⟩
  · refine z_bipush (v := -2) hE dX11_changes_7 zv_b_m2 ?_
    exact z_iret (st := []) hE dX11_changes_9 rfl ⟨_, rfl, h⟩
set_option maxRecDepth 4000 in
theorem c_X11_jump (a1 : Int32) (μ : ZMem) (Φ : Int32 → ZMem → Prop) (h : w_X11_jump a1 μ Φ) : zM SX yX11_jump cX11_jump 2 (some FieldType.int) 4 [.ref 0, .int a1] μ (zzI Φ) := by
  refine zM_go (own := RX11) rfl (by decide) (Nat.le_of_ble_eq_true rfl) (fun E hE => ?_)
  show zZ E (zzI Φ) 0 [(0, .ref 0), (1, .int a1)] [] μ
  unfold w_X11_jump at h
  refine z_aload_n hE dX11_jump_0 rfl 0 rfl ?_
  refine z_getR (t := 70) hE dX11_jump_1 lF_X11_70 sX_0 rfl ?_
  refine z_aload_n hE dX11_jump_4 rfl 0 rfl ?_
  refine z_getR (t := 1) hE dX11_jump_5 lF_X11_14 sX_0 rfl ?_
  refine z_callV hE dX11_jump_8 lV_X11_305 (c_X5_survey  μ _ h) sX_70 rfl (Nat.le_of_ble_eq_true rfl) (by decide) rfl (zk_V (fun μ_2 h => ?_))
  refine z_iload_n hE dX11_jump_11 rfl 1 rfl ?_
  refine z_if_lt (tgt := 26) hE dX11_jump_12 (by decide) h (fun h => ?_) (fun h => ?_)
  · refine z_iconst (v := -1) hE dX11_jump_26 zv_i_m1 ?_
    exact z_iret (st := []) hE dX11_jump_27 rfl ⟨_, rfl, h⟩
  · refine z_iload_n hE dX11_jump_15 rfl 1 rfl ?_
    refine z_aload_n hE dX11_jump_16 rfl 0 rfl ?_
    refine z_getR (t := 70) hE dX11_jump_17 lF_X11_70 sX_0 rfl ?_
    refine z_callV hE dX11_jump_20 lV_X11_312 (c_X5_jumpCount  μ_2 _ h) sX_70 rfl (Nat.le_of_ble_eq_true rfl) (by decide) rfl (zk_PI (fun r_3 h => ?_))
    refine z_icmp_lt (tgt := 28) hE dX11_jump_23 (by decide) h (fun h => ?_) (fun h => ?_)
    · refine z_aload_n hE dX11_jump_28 rfl 0 rfl ?_
      refine z_getR (t := 70) hE dX11_jump_29 lF_X11_70 sX_0 rfl ?_
      refine z_iload_n hE dX11_jump_32 rfl 1 rfl ?_
      refine z_callV hE dX11_jump_33 lV_X11_315 (c_X5_jumpAt _ μ_2 _ h) sX_70 rfl (Nat.le_of_ble_eq_true rfl) (by decide) rfl (zk_PI (fun r_5 h => ?_))
      refine z_sipush (v := 1000) hE dX11_jump_36 zv_s_1000 ?_
      refine z_iadd hE dX11_jump_39 ?_
      exact z_iret (st := []) hE dX11_jump_40 rfl ⟨_, rfl, h⟩
    · refine z_iconst (v := -1) hE dX11_jump_26 zv_i_m1 ?_
      exact z_iret (st := []) hE dX11_jump_27 rfl ⟨_, rfl, h⟩
set_option maxRecDepth 4000 in
theorem c_X11_jumps  (μ : ZMem) (Φ : Int32 → ZMem → Prop) (h : w_X11_jumps μ Φ) : zM SX yX11_jumps cX11_jumps 1 (some FieldType.int) 4 [.ref 0] μ (zzI Φ) := by
  refine zM_go (own := RX11) rfl (by decide) (Nat.le_of_ble_eq_true rfl) (fun E hE => ?_)
  show zZ E (zzI Φ) 0 [(0, .ref 0)] [] μ
  unfold w_X11_jumps at h
  refine z_aload_n hE dX11_jumps_0 rfl 0 rfl ?_
  refine z_getR (t := 70) hE dX11_jumps_1 lF_X11_70 sX_0 rfl ?_
  refine z_aload_n hE dX11_jumps_4 rfl 0 rfl ?_
  refine z_getR (t := 1) hE dX11_jumps_5 lF_X11_14 sX_0 rfl ?_
  refine z_callV hE dX11_jumps_8 lV_X11_305 (c_X5_survey  μ _ h) sX_70 rfl (Nat.le_of_ble_eq_true rfl) (by decide) rfl (zk_V (fun μ_2 h => ?_))
  refine z_aload_n hE dX11_jumps_11 rfl 0 rfl ?_
  refine z_getR (t := 70) hE dX11_jumps_12 lF_X11_70 sX_0 rfl ?_
  refine z_callV hE dX11_jumps_15 lV_X11_312 (c_X5_jumpCount  μ_2 _ h) sX_70 rfl (Nat.le_of_ble_eq_true rfl) (by decide) rfl (zk_PI (fun r_3 h => ?_))
  exact z_iret (st := []) hE dX11_jumps_18 rfl ⟨_, rfl, h⟩
set_option maxRecDepth 4000 in
theorem c_X11_known (a1 : Int32) (μ : ZMem) (Φ : Int32 → Prop) (h : w_X11_known a1 μ Φ) : zM SX yX11_known cX11_known 2 (some FieldType.int) 4 [.ref 0, .int a1] μ (zzPI Φ μ) := by
  refine zM_go (own := RX11) rfl (by decide) (Nat.le_of_ble_eq_true rfl) (fun E hE => ?_)
  show zZ E (zzPI Φ μ) 0 [(0, .ref 0), (1, .int a1)] [] μ
  unfold w_X11_known at h
  refine z_iload_n hE dX11_known_0 rfl 1 rfl ?_
  obtain ⟨g1_0, g1_1, g1_2, g1_3, gd_1⟩ := h
  by_cases c1_0 : a1 = (0 : Int32)
  · have h := g1_0 c1_0
    refine z_swIn (tgt := 32) hE dX11_known_1 (by rw [c1_0]; decide) (by rw [c1_0]; decide) (by rw [c1_0]; rfl) (by decide) ?_
    refine z_aload_n hE dX11_known_32 rfl 0 rfl ?_
    refine z_getR (t := 1) hE dX11_known_33 lF_X11_14 sX_0 rfl ?_
    refine z_callV hE dX11_known_36 lV_X11_285 (c_X3_factorsRight  μ _ h) sX_1 rfl (Nat.le_of_ble_eq_true rfl) (by decide) rfl (zk_PI (fun r_1 h => ?_))
    exact z_iret (st := []) hE dX11_known_39 rfl ⟨_, rfl, rfl, h⟩
  by_cases c1_1 : a1 = (1 : Int32)
  · have h := g1_1 c1_1
    refine z_swIn (tgt := 40) hE dX11_known_1 (by rw [c1_1]; decide) (by rw [c1_1]; decide) (by rw [c1_1]; rfl) (by decide) ?_
    refine z_aload_n hE dX11_known_40 rfl 0 rfl ?_
    refine z_getR (t := 1) hE dX11_known_41 lF_X11_14 sX_0 rfl ?_
    refine z_callV hE dX11_known_44 lV_X11_288 (c_X3_factorsAxis  μ _ h) sX_1 rfl (Nat.le_of_ble_eq_true rfl) (by decide) rfl (zk_PI (fun r_3 h => ?_))
    exact z_iret (st := []) hE dX11_known_47 rfl ⟨_, rfl, rfl, h⟩
  by_cases c1_2 : a1 = (2 : Int32)
  · have h := g1_2 c1_2
    refine z_swIn (tgt := 48) hE dX11_known_1 (by rw [c1_2]; decide) (by rw [c1_2]; decide) (by rw [c1_2]; rfl) (by decide) ?_
    refine z_aload_n hE dX11_known_48 rfl 0 rfl ?_
    refine z_getR (t := 1) hE dX11_known_49 lF_X11_14 sX_0 rfl ?_
    refine z_callV hE dX11_known_52 lV_X11_291 (c_X3_factorsLeft  μ _ h) sX_1 rfl (Nat.le_of_ble_eq_true rfl) (by decide) rfl (zk_PI (fun r_5 h => ?_))
    exact z_iret (st := []) hE dX11_known_55 rfl ⟨_, rfl, rfl, h⟩
  by_cases c1_3 : a1 = (3 : Int32)
  · have h := g1_3 c1_3
    refine z_swIn (tgt := 56) hE dX11_known_1 (by rw [c1_3]; decide) (by rw [c1_3]; decide) (by rw [c1_3]; rfl) (by decide) ?_
    refine z_aload_n hE dX11_known_56 rfl 0 rfl ?_
    refine z_getR (t := 1) hE dX11_known_57 lF_X11_14 sX_0 rfl ?_
    refine z_callV hE dX11_known_60 lV_X11_294 (c_X3_factorsSize  μ _ h) sX_1 rfl (Nat.le_of_ble_eq_true rfl) (by decide) rfl (zk_PI (fun r_7 h => ?_))
    exact z_iret (st := []) hE dX11_known_63 rfl ⟨_, rfl, rfl, h⟩
  have h := gd_1 c1_0 c1_1 c1_2 c1_3
  refine z_swOut (tgt := 64) hE dX11_known_1 (by have e0 := lv_neT c1_0 (a := 0) (by decide); have e1 := lv_neT c1_1 (a := 1) (by decide); have e2 := lv_neT c1_2 (a := 2) (by decide); have e3 := lv_neT c1_3 (a := 3) (by decide); show _ < (0 : Int) ∨ (3 : Int) < _; omega) (by decide) ?_
  refine z_bipush (v := -2) hE dX11_known_64 zv_b_m2 ?_
  exact z_iret (st := []) hE dX11_known_66 rfl ⟨_, rfl, rfl, h⟩
set_option maxRecDepth 4000 in
theorem c_X11_link (a1 : Int32) (a2 : Int32) (μ : ZMem) (Φ : Int64 → ZMem → Prop) (h : w_X11_link a1 a2 μ Φ) : zM SX yX11_link cX11_link 3 (some FieldType.long) 4 [.ref 0, .int a1, .int a2] μ (zzJ Φ) := by
  refine zM_go (own := RX11) rfl (by decide) (Nat.le_of_ble_eq_true rfl) (fun E hE => ?_)
  show zZ E (zzJ Φ) 0 [(0, .ref 0), (1, .int a1), (2, .int a2)] [] μ
  unfold w_X11_link at h
  refine z_aload_n hE dX11_link_0 rfl 0 rfl ?_
  refine z_getR (t := 40) hE dX11_link_1 lF_X11_44 sX_0 rfl ?_
  refine z_aload_n hE dX11_link_4 rfl 0 rfl ?_
  refine z_callV hE dX11_link_5 lV_X11_98 (c_X11_currentC  μ _ h) sX_0 rfl (Nat.le_of_ble_eq_true rfl) (by decide) rfl (zk_R (fun r_1 μ_2 h => ?_))
  obtain ⟨er_1, h⟩ := h
  refine z_callV hE dX11_link_8 lV_X11_222 (c_X0_build _ _ er_1 μ_2 _ h) sX_40 rfl (Nat.le_of_ble_eq_true rfl) (by decide) rfl (zk_I (fun r_3 μ_4 h => ?_))
  refine z_if_eq (tgt := 24) hE dX11_link_11 (by decide) h (fun h => ?_) (fun h => ?_)
  · refine z_ldc2 (v := -9223372036854775808) hE dX11_link_24 lK_X11_90 ?_
    exact z_lret (st := []) hE dX11_link_27 rfl ⟨_, rfl, h⟩
  · refine z_aload_n hE dX11_link_14 rfl 0 rfl ?_
    refine z_getR (t := 40) hE dX11_link_15 lF_X11_44 sX_0 rfl ?_
    refine z_getI hE dX11_link_18 lF_X11_226 sX_40 rfl ?_
    refine z_if_eq (tgt := 28) hE dX11_link_21 (by decide) h (fun h => ?_) (fun h => ?_)
    · refine z_iload_n hE dX11_link_28 rfl 1 rfl ?_
      refine z_if_lt (tgt := 50) hE dX11_link_29 (by decide) h (fun h => ?_) (fun h => ?_)
      · refine z_ldc2 (v := -9223372036854775808) hE dX11_link_50 lK_X11_90 ?_
        exact z_lret (st := []) hE dX11_link_53 rfl ⟨_, rfl, h⟩
      · refine z_iload_n hE dX11_link_32 rfl 1 rfl ?_
        refine z_aload_n hE dX11_link_33 rfl 0 rfl ?_
        refine z_getR (t := 40) hE dX11_link_34 lF_X11_44 sX_0 rfl ?_
        refine z_getI hE dX11_link_37 lF_X11_227 sX_40 rfl ?_
        refine z_icmp_ge (tgt := 50) hE dX11_link_40 (by decide) h (fun h => ?_) (fun h => ?_)
        · refine z_ldc2 (v := -9223372036854775808) hE dX11_link_50 lK_X11_90 ?_
          exact z_lret (st := []) hE dX11_link_53 rfl ⟨_, rfl, h⟩
        · refine z_iload_n hE dX11_link_43 rfl 2 rfl ?_
          refine z_callS hE dX11_link_44 lS_X11_82 (c_X11_isPower _ μ_4 _ h) rfl (Nat.le_of_ble_eq_true rfl) (by decide) rfl (zk_PI (fun r_5 h => ?_))
          refine z_if_ne (tgt := 54) hE dX11_link_47 (by decide) h (fun h => ?_) (fun h => ?_)
          · refine z_aload_n hE dX11_link_54 rfl 0 rfl ?_
            refine z_getR (t := 40) hE dX11_link_55 lF_X11_44 sX_0 rfl ?_
            refine z_iload_n hE dX11_link_58 rfl 1 rfl ?_
            refine z_iload_n hE dX11_link_59 rfl 2 rfl ?_
            refine z_callV hE dX11_link_60 lV_X11_228 (c_X0_coefficient _ _ μ_4 _ h) sX_40 rfl (Nat.le_of_ble_eq_true rfl) (by decide) rfl (zk_PJ (fun r_7 h => ?_))
            exact z_lret (st := []) hE dX11_link_63 rfl ⟨_, rfl, h⟩
          · refine z_ldc2 (v := -9223372036854775808) hE dX11_link_50 lK_X11_90 ?_
            exact z_lret (st := []) hE dX11_link_53 rfl ⟨_, rfl, h⟩
    · refine z_ldc2 (v := -9223372036854775808) hE dX11_link_24 lK_X11_90 ?_
      exact z_lret (st := []) hE dX11_link_27 rfl ⟨_, rfl, h⟩
set_option maxRecDepth 4000 in
theorem c_X11_links  (μ : ZMem) (Φ : Int32 → ZMem → Prop) (h : w_X11_links μ Φ) : zM SX yX11_links cX11_links 1 (some FieldType.int) 4 [.ref 0] μ (zzI Φ) := by
  refine zM_go (own := RX11) rfl (by decide) (Nat.le_of_ble_eq_true rfl) (fun E hE => ?_)
  show zZ E (zzI Φ) 0 [(0, .ref 0)] [] μ
  unfold w_X11_links at h
  refine z_aload_n hE dX11_links_0 rfl 0 rfl ?_
  refine z_getR (t := 40) hE dX11_links_1 lF_X11_44 sX_0 rfl ?_
  refine z_aload_n hE dX11_links_4 rfl 0 rfl ?_
  refine z_callV hE dX11_links_5 lV_X11_98 (c_X11_currentC  μ _ h) sX_0 rfl (Nat.le_of_ble_eq_true rfl) (by decide) rfl (zk_R (fun r_1 μ_2 h => ?_))
  obtain ⟨er_1, h⟩ := h
  refine z_callV hE dX11_links_8 lV_X11_222 (c_X0_build _ _ er_1 μ_2 _ h) sX_40 rfl (Nat.le_of_ble_eq_true rfl) (by decide) rfl (zk_I (fun r_3 μ_4 h => ?_))
  refine z_if_ne (tgt := 17) hE dX11_links_11 (by decide) h (fun h => ?_) (fun h => ?_)
  · refine z_aload_n hE dX11_links_17 rfl 0 rfl ?_
    refine z_getR (t := 40) hE dX11_links_18 lF_X11_44 sX_0 rfl ?_
    refine z_getI hE dX11_links_21 lF_X11_226 sX_40 rfl ?_
    refine z_if_eq (tgt := 32) hE dX11_links_24 (by decide) h (fun h => ?_) (fun h => ?_)
    · refine z_aload_n hE dX11_links_32 rfl 0 rfl ?_
      refine z_getR (t := 40) hE dX11_links_33 lF_X11_44 sX_0 rfl ?_
      refine z_getI hE dX11_links_36 lF_X11_227 sX_40 rfl ?_
      exact z_iret (st := []) hE dX11_links_39 rfl ⟨_, rfl, h⟩
    · refine z_bipush (v := -7) hE dX11_links_27 zv_b_m7 ?_
      refine z_goto (tgt := 39) hE dX11_links_29 (by decide) ?_
      exact z_iret (st := []) hE dX11_links_39 rfl ⟨_, rfl, h⟩
  · refine z_bipush (v := -2) hE dX11_links_14 zv_b_m2 ?_
    exact z_iret (st := []) hE dX11_links_16 rfl ⟨_, rfl, h⟩
set_option maxRecDepth 4000 in
theorem c_X11_reach  (μ : ZMem) (Φ : Int32 → ZMem → Prop) (h : w_X11_reach μ Φ) : zM SX yX11_reach cX11_reach 7 (some FieldType.int) 4 [.ref 0] μ (zzI Φ) := by
  refine zM_go (own := RX11) rfl (by decide) (Nat.le_of_ble_eq_true rfl) (fun E hE => ?_)
  show zZ E (zzI Φ) 0 [(0, .ref 0)] [] μ
  unfold w_X11_reach at h
  refine z_aload_n hE dX11_reach_0 rfl 0 rfl ?_
  refine z_callV hE dX11_reach_1 lV_X11_98 (c_X11_currentC  μ _ h) sX_0 rfl (Nat.le_of_ble_eq_true rfl) (by decide) rfl (zk_R (fun r_1 μ_2 h => ?_))
  obtain ⟨er_1, h⟩ := h
  refine z_callS hE dX11_reach_4 lS_X11_187 (c_X4_highest _ _ er_1 μ_2 _ h) rfl (Nat.le_of_ble_eq_true rfl) (by decide) rfl (zk_PI (fun r_3 h => ?_))
  refine z_istore_n (lv' := [(1, .int r_3), (0, .ref 0)]) hE dX11_reach_7 rfl (by decide) rfl ?_
  refine z_iload_n hE dX11_reach_8 rfl 0 rfl ?_
  refine z_iconst (v := 1) hE dX11_reach_9 zv_i_1 ?_
  refine z_icmp_ge (tgt := 16) hE dX11_reach_10 (by decide) h (fun h => ?_) (fun h => ?_)
  · refine z_bipush (v := -21) hE dX11_reach_16 zv_b_m21 ?_
    refine z_istore_n (lv' := [(2, .int (-21 : Int32)), (1, .int r_3), (0, .ref 0)]) hE dX11_reach_18 rfl (by decide) rfl ?_
    refine z_bipush (v := 21) hE dX11_reach_19 zv_b_21 ?_
    refine z_istore_n (lv' := [(3, .int (21 : Int32)), (2, .int (-21 : Int32)), (1, .int r_3), (0, .ref 0)]) hE dX11_reach_21 rfl (by decide) rfl ?_
    refine z_iconst (v := 0) hE dX11_reach_22 zv_i_0 ?_
    refine z_istore (lv' := [(4, .int (0 : Int32)), (3, .int (21 : Int32)), (2, .int (-21 : Int32)), (1, .int r_3), (0, .ref 0)]) hE dX11_reach_23 (by decide) rfl ?_
    refine z_join (P := fun (J_7 : Int32 → ZMem → Prop) => ∀ (v3_5 : Int32) (μ_6 : ZMem), J_7 v3_5 μ_6 → zZ E (zzI Φ) 92 [(3, .int v3_5)] [] μ_6) h (fun v3_5 μ_6 h => ?_) (fun J_7 hJ_7 h => ?_)
    · refine z_iload_n hE dX11_reach_92 rfl 0 rfl ?_
      refine z_bipush (v := 20) hE dX11_reach_93 zv_b_20 ?_
      refine z_icmp_le (tgt := 102) hE dX11_reach_95 (by decide) h (fun h => ?_) (fun h => ?_)
      · refine z_iload_n hE dX11_reach_102 rfl 0 rfl ?_
        refine z_sipush (v := 1000) hE dX11_reach_103 zv_s_1000 ?_
        refine z_iadd hE dX11_reach_106 ?_
        exact z_iret (st := []) hE dX11_reach_107 rfl ⟨_, rfl, h⟩
      · refine z_iconst (v := -1) hE dX11_reach_98 zv_i_m1 ?_
        refine z_goto (tgt := 107) hE dX11_reach_99 (by decide) ?_
        exact z_iret (st := []) hE dX11_reach_107 rfl ⟨_, rfl, h⟩
    refine z_sub [4, 3, 2, 1, 0] rfl ?_
    obtain ⟨n25, h⟩ := h
    refine z_loop4 (P := fun (v2_8 : Int32) (v3_9 : Int32) (v4_10 : Int32) (μ_11 : ZMem) => zZ E (zzI Φ) 25 [(0, .ref 0), (1, .int r_3), (2, .int v2_8), (3, .int v3_9), (4, .int v4_10)] [] μ_11) (fun k25_11 hk25_11 v2_8 v3_9 v4_10 μ_11 h => ?_) n25 _ _ _ _ h
    refine z_iload hE dX11_reach_25 4 rfl ?_
    refine z_bipush (v := 40) hE dX11_reach_27 zv_b_40 ?_
    refine z_icmp_ge (tgt := 92) hE dX11_reach_29 (by decide) h (fun h => ?_) (fun h => ?_)
    · exact z_sub [3] rfl (hJ_7 _ _ h)
    · refine z_iload_n hE dX11_reach_32 rfl 3 rfl ?_
      refine z_iload_n hE dX11_reach_33 rfl 2 rfl ?_
      refine z_isub hE dX11_reach_34 ?_
      refine z_iconst (v := 1) hE dX11_reach_35 zv_i_1 ?_
      refine z_icmp_le (tgt := 92) hE dX11_reach_36 (by decide) h (fun h => ?_) (fun h => ?_)
      · exact z_sub [3] rfl (hJ_7 _ _ h)
      · refine z_iload_n hE dX11_reach_39 rfl 2 rfl ?_
        refine z_iload_n hE dX11_reach_40 rfl 3 rfl ?_
        refine z_iadd hE dX11_reach_41 ?_
        refine z_iconst (v := 2) hE dX11_reach_42 zv_i_2 ?_
        refine z_idiv hE dX11_reach_43 (by decide) ?_
        refine z_istore (lv' := [(5, .int ((v2_8 + v3_9) / (2 : Int32))), (0, .ref 0), (1, .int r_3), (2, .int v2_8), (3, .int v3_9), (4, .int v4_10)]) hE dX11_reach_44 (by decide) rfl ?_
        refine zn (G := fun v5_12 => zZ E (zzI Φ) 46 [(5, .int v5_12), (0, .ref 0), (1, .int r_3), (2, .int v2_8), (3, .int v3_9), (4, .int v4_10)] [] μ_11) h (fun v5_12 h => ?_)
        refine z_aload_n hE dX11_reach_46 rfl 1 rfl ?_
        refine z_bipush (v := 30) hE dX11_reach_47 zv_b_30 ?_
        refine z_iload hE dX11_reach_49 0 rfl ?_
        refine z_iadd hE dX11_reach_51 ?_
        refine z_callV hE dX11_reach_52 lV_X11_148 (c_X11_tableOf _ μ_11 _ h) sX_0 rfl (Nat.le_of_ble_eq_true rfl) (by decide) rfl (zk_R (fun r_13 μ_14 h => ?_))
        obtain ⟨er_13, h⟩ := h
        refine z_astore (lv' := [(6, .ref r_13), (5, .int v5_12), (0, .ref 0), (1, .int r_3), (2, .int v2_8), (3, .int v3_9), (4, .int v4_10)]) hE dX11_reach_55 (by decide) rfl ?_
        refine z_aload hE dX11_reach_57 0 rfl ?_
        refine z_getI hE dX11_reach_59 lF_X11_152 er_13.1 rfl ?_
        refine z_if_eq (tgt := 68) hE dX11_reach_62 (by decide) h (fun h => ?_) (fun h => ?_)
        · refine z_aload hE dX11_reach_68 0 rfl ?_
          refine z_callV hE dX11_reach_70 lV_X11_177 (c_X8_leftCount _ er_13 μ_14 _ h) er_13.1 rfl (Nat.le_of_ble_eq_true rfl) (by decide) rfl (zk_PI (fun r_15 h => ?_))
          refine z_iload_n hE dX11_reach_73 rfl 3 rfl ?_
          refine z_join (P := fun (J_19 : Int32 → Int32 → Prop) => ∀ (v2_17 : Int32) (v3_18 : Int32), J_19 v2_17 v3_18 → zZ E (zzI Φ) 86 [(0, .ref 0), (1, .int r_3), (2, .int v2_17), (3, .int v3_18), (4, .int v4_10)] [] μ_14) h (fun v2_17 v3_18 h => ?_) (fun J_19 hJ_19 h => ?_)
          · refine z_iinc (j := 4) (c := 1) (lv' := [(4, .int (v4_10 + (1 : Int32))), (0, .ref 0), (1, .int r_3), (2, .int v2_17), (3, .int v3_18)]) hE dX11_reach_86 rfl zv_i_1 (by decide) rfl ?_
            refine z_goto (tgt := 25) hE dX11_reach_89 (by decide) ?_
            exact z_sub [1, 2, 3, 4, 0] rfl (hk25_11 _ _ _ _ h)
          refine z_icmp_ne (tgt := 83) hE dX11_reach_74 (by decide) h (fun h => ?_) (fun h => ?_)
          · refine z_iload hE dX11_reach_83 1 rfl ?_
            refine z_istore_n (lv' := [(2, .int v5_12), (6, .ref r_13), (5, .int v5_12), (0, .ref 0), (1, .int r_3), (3, .int v3_9), (4, .int v4_10)]) hE dX11_reach_85 rfl (by decide) rfl ?_
            exact z_sub [3, 4, 0, 5, 6] rfl (hJ_19 _ _ h)
          · refine z_iload hE dX11_reach_77 1 rfl ?_
            refine z_istore_n (lv' := [(3, .int v5_12), (6, .ref r_13), (5, .int v5_12), (0, .ref 0), (1, .int r_3), (2, .int v2_8), (4, .int v4_10)]) hE dX11_reach_79 rfl (by decide) rfl ?_
            refine z_goto (tgt := 86) hE dX11_reach_80 (by decide) ?_
            exact z_sub [3, 4, 5, 0, 6] rfl (hJ_19 _ _ h)
        · refine z_bipush (v := -7) hE dX11_reach_65 zv_b_m7 ?_
          exact z_iret (st := []) hE dX11_reach_67 rfl ⟨_, rfl, h⟩
  · refine z_bipush (v := -2) hE dX11_reach_13 zv_b_m2 ?_
    exact z_iret (st := []) hE dX11_reach_15 rfl ⟨_, rfl, h⟩
set_option maxRecDepth 4000 in
theorem c_X11_real (a1 : Int32) (a2 : Int32) (μ : ZMem) (Φ : Int32 → ZMem → Prop) (h : w_X11_real a1 a2 μ Φ) : zM SX yX11_real cX11_real 5 (some FieldType.int) 4 [.ref 0, .int a1, .int a2] μ (zzI Φ) := by
  refine zM_go (own := RX11) rfl (by decide) (Nat.le_of_ble_eq_true rfl) (fun E hE => ?_)
  show zZ E (zzI Φ) 0 [(0, .ref 0), (1, .int a1), (2, .int a2)] [] μ
  unfold w_X11_real at h
  refine z_iload_n hE dX11_real_0 rfl 1 rfl ?_
  refine z_bipush (v := 20) hE dX11_real_1 zv_b_20 ?_
  refine z_callS hE dX11_real_3 lS_X11_86 (c_X11_isWithin _ _ μ _ h) rfl (Nat.le_of_ble_eq_true rfl) (by decide) rfl (zk_PI (fun r_1 h => ?_))
  refine z_if_eq (tgt := 23) hE dX11_real_6 (by decide) h (fun h => ?_) (fun h => ?_)
  · refine z_bipush (v := -2) hE dX11_real_23 zv_b_m2 ?_
    exact z_iret (st := []) hE dX11_real_25 rfl ⟨_, rfl, h⟩
  · refine z_iload_n hE dX11_real_9 rfl 2 rfl ?_
    refine z_bipush (v := 20) hE dX11_real_10 zv_b_20 ?_
    refine z_callS hE dX11_real_12 lS_X11_86 (c_X11_isWithin _ _ μ _ h) rfl (Nat.le_of_ble_eq_true rfl) (by decide) rfl (zk_PI (fun r_3 h => ?_))
    refine z_if_eq (tgt := 23) hE dX11_real_15 (by decide) h (fun h => ?_) (fun h => ?_)
    · refine z_bipush (v := -2) hE dX11_real_23 zv_b_m2 ?_
      exact z_iret (st := []) hE dX11_real_25 rfl ⟨_, rfl, h⟩
    · refine z_iload_n hE dX11_real_18 rfl 2 rfl ?_
      refine z_iload_n hE dX11_real_19 rfl 1 rfl ?_
      refine z_icmp_gt (tgt := 26) hE dX11_real_20 (by decide) h (fun h => ?_) (fun h => ?_)
      · refine z_aload_n hE dX11_real_26 rfl 0 rfl ?_
        refine z_getR (t := 40) hE dX11_real_27 lF_X11_44 sX_0 rfl ?_
        refine z_aload_n hE dX11_real_30 rfl 0 rfl ?_
        refine z_callV hE dX11_real_31 lV_X11_98 (c_X11_currentC  μ _ h) sX_0 rfl (Nat.le_of_ble_eq_true rfl) (by decide) rfl (zk_R (fun r_5 μ_6 h => ?_))
        obtain ⟨er_5, h⟩ := h
        refine z_callV hE dX11_real_34 lV_X11_222 (c_X0_build _ _ er_5 μ_6 _ h) sX_40 rfl (Nat.le_of_ble_eq_true rfl) (by decide) rfl (zk_I (fun r_7 μ_8 h => ?_))
        refine z_if_ne (tgt := 43) hE dX11_real_37 (by decide) h (fun h => ?_) (fun h => ?_)
        · refine z_aload_n hE dX11_real_43 rfl 0 rfl ?_
          refine z_getR (t := 40) hE dX11_real_44 lF_X11_44 sX_0 rfl ?_
          refine z_iload_n hE dX11_real_47 rfl 1 rfl ?_
          refine z_callV hE dX11_real_48 lV_X11_231 (c_X0_changesAt _ μ_8 _ h) sX_40 rfl (Nat.le_of_ble_eq_true rfl) (by decide) rfl (zk_PI (fun r_9 h => ?_))
          refine z_istore_n (lv' := [(3, .int r_9), (0, .ref 0), (1, .int a1), (2, .int a2)]) hE dX11_real_51 rfl (by decide) rfl ?_
          refine z_aload_n hE dX11_real_52 rfl 1 rfl ?_
          refine z_getR (t := 40) hE dX11_real_53 lF_X11_44 sX_0 rfl ?_
          refine z_iload_n hE dX11_real_56 rfl 3 rfl ?_
          refine z_callV hE dX11_real_57 lV_X11_231 (c_X0_changesAt _ μ_8 _ h) sX_40 rfl (Nat.le_of_ble_eq_true rfl) (by decide) rfl (zk_PI (fun r_11 h => ?_))
          refine z_istore (lv' := [(4, .int r_11), (3, .int r_9), (0, .ref 0), (1, .int a1), (2, .int a2)]) hE dX11_real_60 (by decide) rfl ?_
          refine z_iload_n hE dX11_real_62 rfl 1 rfl ?_
          refine z_bipush (v := -7) hE dX11_real_63 zv_b_m7 ?_
          refine z_icmp_eq (tgt := 75) hE dX11_real_65 (by decide) h (fun h => ?_) (fun h => ?_)
          · refine z_bipush (v := -7) hE dX11_real_75 zv_b_m7 ?_
            refine z_goto (tgt := 87) hE dX11_real_77 (by decide) ?_
            exact z_iret (st := []) hE dX11_real_87 rfl ⟨_, rfl, h⟩
          · refine z_iload hE dX11_real_68 0 rfl ?_
            refine z_bipush (v := -7) hE dX11_real_70 zv_b_m7 ?_
            refine z_icmp_ne (tgt := 80) hE dX11_real_72 (by decide) h (fun h => ?_) (fun h => ?_)
            · refine z_iload_n hE dX11_real_80 rfl 1 rfl ?_
              refine z_iload hE dX11_real_81 0 rfl ?_
              refine z_isub hE dX11_real_83 ?_
              refine z_bipush (v := 100) hE dX11_real_84 zv_b_100 ?_
              refine z_iadd hE dX11_real_86 ?_
              exact z_iret (st := []) hE dX11_real_87 rfl ⟨_, rfl, h⟩
            · refine z_bipush (v := -7) hE dX11_real_75 zv_b_m7 ?_
              refine z_goto (tgt := 87) hE dX11_real_77 (by decide) ?_
              exact z_iret (st := []) hE dX11_real_87 rfl ⟨_, rfl, h⟩
        · refine z_bipush (v := -2) hE dX11_real_40 zv_b_m2 ?_
          exact z_iret (st := []) hE dX11_real_42 rfl ⟨_, rfl, h⟩
      · refine z_bipush (v := -2) hE dX11_real_23 zv_b_m2 ?_
        exact z_iret (st := []) hE dX11_real_25 rfl ⟨_, rfl, h⟩
set_option maxRecDepth 4000 in
theorem c_X11_refusalOfRow (a1 : Int32) (a2 : Int32) (a3 : Int32) (μ : ZMem) (Φ : Int32 → ZMem → Prop) (h : w_X11_refusalOfRow a1 a2 a3 μ Φ) : zM SX yX11_refusalOfRow cX11_refusalOfRow 5 (some FieldType.int) 4 [.ref 0, .int a1, .int a2, .int a3] μ (zzI Φ) := by
  refine zM_go (own := RX11) rfl (by decide) (Nat.le_of_ble_eq_true rfl) (fun E hE => ?_)
  show zZ E (zzI Φ) 0 [(0, .ref 0), (1, .int a1), (2, .int a2), (3, .int a3)] [] μ
  unfold w_X11_refusalOfRow at h
  refine z_iload_n hE dX11_refusalOfRow_0 rfl 1 rfl ?_
  refine z_callS hE dX11_refusalOfRow_1 lS_X11_325 (c_X11_isTray _ μ _ h) rfl (Nat.le_of_ble_eq_true rfl) (by decide) rfl (zk_PI (fun r_1 h => ?_))
  refine z_if_ne (tgt := 9) hE dX11_refusalOfRow_4 (by decide) h (fun h => ?_) (fun h => ?_)
  · refine z_iload_n hE dX11_refusalOfRow_9 rfl 2 rfl ?_
    refine z_callS hE dX11_refusalOfRow_10 lS_X11_132 (c_X11_isForm _ μ _ h) rfl (Nat.le_of_ble_eq_true rfl) (by decide) rfl (zk_PI (fun r_3 h => ?_))
    refine z_if_ne (tgt := 19) hE dX11_refusalOfRow_13 (by decide) h (fun h => ?_) (fun h => ?_)
    · refine z_aload_n hE dX11_refusalOfRow_19 rfl 0 rfl ?_
      refine z_getR (t := 27) hE dX11_refusalOfRow_20 lF_X11_30 sX_0 rfl ?_
      refine z_iload_n hE dX11_refusalOfRow_23 rfl 1 rfl ?_
      obtain ⟨q_5, h⟩ := h
      refine z_aald2 hE dX11_refusalOfRow_24 sX_27 (fun _ => rfl) rfl q_5 ?_
      refine z_callV hE dX11_refusalOfRow_25 lV_X11_331 (c_X10_isNothing _ (sXr_86 _ (zz_in_lt q_5)) μ _ h) (sXr_86 _ (zz_in_lt q_5)).1 rfl (Nat.le_of_ble_eq_true rfl) (by decide) rfl (zk_PI (fun r_6 h => ?_))
      refine z_if_eq (tgt := 34) hE dX11_refusalOfRow_28 (by decide) h (fun h => ?_) (fun h => ?_)
      · refine z_aload_n hE dX11_refusalOfRow_34 rfl 0 rfl ?_
        refine z_iload_n hE dX11_refusalOfRow_35 rfl 2 rfl ?_
        refine z_callV hE dX11_refusalOfRow_36 lV_X11_148 (c_X11_tableOf _ μ _ h) sX_0 rfl (Nat.le_of_ble_eq_true rfl) (by decide) rfl (zk_R (fun r_8 μ_9 h => ?_))
        obtain ⟨er_8, h⟩ := h
        refine z_astore (lv' := [(4, .ref r_8), (0, .ref 0), (1, .int a1), (2, .int a2), (3, .int a3)]) hE dX11_refusalOfRow_39 (by decide) rfl ?_
        refine z_aload hE dX11_refusalOfRow_41 0 rfl ?_
        refine z_iload_n hE dX11_refusalOfRow_43 rfl 4 rfl ?_
        refine z_callV hE dX11_refusalOfRow_44 lV_X11_156 (c_X8_hasRow _ _ er_8 μ_9 _ h) er_8.1 rfl (Nat.le_of_ble_eq_true rfl) (by decide) rfl (zk_PI (fun r_10 h => ?_))
        refine z_if_ne (tgt := 52) hE dX11_refusalOfRow_47 (by decide) h (fun h => ?_) (fun h => ?_)
        · refine z_aload hE dX11_refusalOfRow_52 0 rfl ?_
          refine z_getI hE dX11_refusalOfRow_54 lF_X11_152 er_8.1 rfl ?_
          refine z_if_eq (tgt := 65) hE dX11_refusalOfRow_57 (by decide) h (fun h => ?_) (fun h => ?_)
          · refine z_iconst (v := 0) hE dX11_refusalOfRow_65 zv_i_0 ?_
            exact z_iret (st := []) hE dX11_refusalOfRow_66 rfl ⟨_, rfl, h⟩
          · refine z_bipush (v := -7) hE dX11_refusalOfRow_60 zv_b_m7 ?_
            refine z_goto (tgt := 66) hE dX11_refusalOfRow_62 (by decide) ?_
            exact z_iret (st := []) hE dX11_refusalOfRow_66 rfl ⟨_, rfl, h⟩
        · refine z_iconst (v := -1) hE dX11_refusalOfRow_50 zv_i_m1 ?_
          exact z_iret (st := []) hE dX11_refusalOfRow_51 rfl ⟨_, rfl, h⟩
      · refine z_bipush (v := -11) hE dX11_refusalOfRow_31 zv_b_m11 ?_
        exact z_iret (st := []) hE dX11_refusalOfRow_33 rfl ⟨_, rfl, h⟩
    · refine z_bipush (v := -2) hE dX11_refusalOfRow_16 zv_b_m2 ?_
      exact z_iret (st := []) hE dX11_refusalOfRow_18 rfl ⟨_, rfl, h⟩
  · refine z_iconst (v := -1) hE dX11_refusalOfRow_7 zv_i_m1 ?_
    exact z_iret (st := []) hE dX11_refusalOfRow_8 rfl ⟨_, rfl, h⟩
set_option maxRecDepth 4000 in
theorem c_X11_rights (a1 : Int32) (μ : ZMem) (Φ : Int32 → ZMem → Prop) (h : w_X11_rights a1 μ Φ) : zM SX yX11_rights cX11_rights 2 (some FieldType.int) 4 [.ref 0, .int a1] μ (zzI Φ) := by
  refine zM_go (own := RX11) rfl (by decide) (Nat.le_of_ble_eq_true rfl) (fun E hE => ?_)
  show zZ E (zzI Φ) 0 [(0, .ref 0), (1, .int a1)] [] μ
  unfold w_X11_rights at h
  refine z_iload_n hE dX11_rights_0 rfl 1 rfl ?_
  refine z_bipush (v := 100) hE dX11_rights_1 zv_b_100 ?_
  refine z_callS hE dX11_rights_3 lS_X11_86 (c_X11_isWithin _ _ μ _ h) rfl (Nat.le_of_ble_eq_true rfl) (by decide) rfl (zk_PI (fun r_1 h => ?_))
  refine z_if_ne (tgt := 12) hE dX11_rights_6 (by decide) h (fun h => ?_) (fun h => ?_)
  · refine z_aload_n hE dX11_rights_12 rfl 0 rfl ?_
    refine z_getR (t := 70) hE dX11_rights_13 lF_X11_70 sX_0 rfl ?_
    refine z_aload_n hE dX11_rights_16 rfl 0 rfl ?_
    refine z_getR (t := 1) hE dX11_rights_17 lF_X11_14 sX_0 rfl ?_
    refine z_callV hE dX11_rights_20 lV_X11_305 (c_X5_survey  μ _ h) sX_70 rfl (Nat.le_of_ble_eq_true rfl) (by decide) rfl (zk_V (fun μ_4 h => ?_))
    refine z_aload_n hE dX11_rights_23 rfl 0 rfl ?_
    refine z_getR (t := 70) hE dX11_rights_24 lF_X11_70 sX_0 rfl ?_
    refine z_iload_n hE dX11_rights_27 rfl 1 rfl ?_
    refine z_callV hE dX11_rights_28 lV_X11_309 (c_X5_at _ μ_4 _ h) sX_70 rfl (Nat.le_of_ble_eq_true rfl) (by decide) rfl (zk_PI (fun r_5 h => ?_))
    exact z_iret (st := []) hE dX11_rights_31 rfl ⟨_, rfl, h⟩
  · refine z_bipush (v := -2) hE dX11_rights_9 zv_b_m2 ?_
    exact z_iret (st := []) hE dX11_rights_11 rfl ⟨_, rfl, h⟩
set_option maxRecDepth 4000 in
theorem c_X11_roots (a1 : Int32) (a2 : Int32) (μ : ZMem) (Φ : Int32 → ZMem → Prop) (h : w_X11_roots a1 a2 μ Φ) : zM SX yX11_roots cX11_roots 4 (some FieldType.int) 4 [.ref 0, .int a1, .int a2] μ (zzI Φ) := by
  refine zM_go (own := RX11) rfl (by decide) (Nat.le_of_ble_eq_true rfl) (fun E hE => ?_)
  show zZ E (zzI Φ) 0 [(0, .ref 0), (1, .int a1), (2, .int a2)] [] μ
  unfold w_X11_roots at h
  refine z_iload_n hE dX11_roots_0 rfl 1 rfl ?_
  refine z_callS hE dX11_roots_1 lS_X11_132 (c_X11_isForm _ μ _ h) rfl (Nat.le_of_ble_eq_true rfl) (by decide) rfl (zk_PI (fun r_1 h => ?_))
  refine z_if_eq (tgt := 16) hE dX11_roots_4 (by decide) h (fun h => ?_) (fun h => ?_)
  · refine z_bipush (v := -2) hE dX11_roots_16 zv_b_m2 ?_
    exact z_iret (st := []) hE dX11_roots_18 rfl ⟨_, rfl, h⟩
  · refine z_iload_n hE dX11_roots_7 rfl 2 rfl ?_
    refine z_if_lt (tgt := 16) hE dX11_roots_8 (by decide) h (fun h => ?_) (fun h => ?_)
    · refine z_bipush (v := -2) hE dX11_roots_16 zv_b_m2 ?_
      exact z_iret (st := []) hE dX11_roots_18 rfl ⟨_, rfl, h⟩
    · refine z_iload_n hE dX11_roots_11 rfl 2 rfl ?_
      refine z_iconst (v := 4) hE dX11_roots_12 zv_i_4 ?_
      refine z_icmp_le (tgt := 19) hE dX11_roots_13 (by decide) h (fun h => ?_) (fun h => ?_)
      · refine z_aload_n hE dX11_roots_19 rfl 0 rfl ?_
        refine z_iload_n hE dX11_roots_20 rfl 1 rfl ?_
        refine z_callV hE dX11_roots_21 lV_X11_148 (c_X11_tableOf _ μ _ h) sX_0 rfl (Nat.le_of_ble_eq_true rfl) (by decide) rfl (zk_R (fun r_3 μ_4 h => ?_))
        obtain ⟨er_3, h⟩ := h
        refine z_astore_n (lv' := [(3, .ref r_3), (0, .ref 0), (1, .int a1), (2, .int a2)]) hE dX11_roots_24 rfl (by decide) rfl ?_
        refine z_aload_n hE dX11_roots_25 rfl 0 rfl ?_
        refine z_getI hE dX11_roots_26 lF_X11_152 er_3.1 rfl ?_
        refine z_if_eq (tgt := 35) hE dX11_roots_29 (by decide) h (fun h => ?_) (fun h => ?_)
        · refine z_iload_n hE dX11_roots_35 rfl 3 rfl ?_
          obtain ⟨g36_0, g36_1, g36_2, g36_3, gd_36⟩ := h
          by_cases c36_0 : a2 = (0 : Int32)
          · have h := g36_0 c36_0
            refine z_swIn (tgt := 68) hE dX11_roots_36 (by rw [c36_0]; decide) (by rw [c36_0]; decide) (by rw [c36_0]; rfl) (by decide) ?_
            refine z_aload_n hE dX11_roots_68 rfl 0 rfl ?_
            refine z_callV hE dX11_roots_69 lV_X11_170 (c_X8_rightCount _ er_3 μ_4 _ h) er_3.1 rfl (Nat.le_of_ble_eq_true rfl) (by decide) rfl (zk_PI (fun r_5 h => ?_))
            exact z_iret (st := []) hE dX11_roots_72 rfl ⟨_, rfl, h⟩
          by_cases c36_1 : a2 = (1 : Int32)
          · have h := g36_1 c36_1
            refine z_swIn (tgt := 73) hE dX11_roots_36 (by rw [c36_1]; decide) (by rw [c36_1]; decide) (by rw [c36_1]; rfl) (by decide) ?_
            refine z_aload_n hE dX11_roots_73 rfl 0 rfl ?_
            refine z_callV hE dX11_roots_74 lV_X11_174 (c_X8_axisCount _ er_3 μ_4 _ h) er_3.1 rfl (Nat.le_of_ble_eq_true rfl) (by decide) rfl (zk_PI (fun r_7 h => ?_))
            exact z_iret (st := []) hE dX11_roots_77 rfl ⟨_, rfl, h⟩
          by_cases c36_2 : a2 = (2 : Int32)
          · have h := g36_2 c36_2
            refine z_swIn (tgt := 78) hE dX11_roots_36 (by rw [c36_2]; decide) (by rw [c36_2]; decide) (by rw [c36_2]; rfl) (by decide) ?_
            refine z_aload_n hE dX11_roots_78 rfl 0 rfl ?_
            refine z_callV hE dX11_roots_79 lV_X11_177 (c_X8_leftCount _ er_3 μ_4 _ h) er_3.1 rfl (Nat.le_of_ble_eq_true rfl) (by decide) rfl (zk_PI (fun r_9 h => ?_))
            exact z_iret (st := []) hE dX11_roots_82 rfl ⟨_, rfl, h⟩
          by_cases c36_3 : a2 = (3 : Int32)
          · have h := g36_3 c36_3
            refine z_swIn (tgt := 83) hE dX11_roots_36 (by rw [c36_3]; decide) (by rw [c36_3]; decide) (by rw [c36_3]; rfl) (by decide) ?_
            refine z_aload_n hE dX11_roots_83 rfl 0 rfl ?_
            refine z_callV hE dX11_roots_84 lV_X11_180 (c_X8_firstNothing _ er_3 μ_4 _ h) er_3.1 rfl (Nat.le_of_ble_eq_true rfl) (by decide) rfl (zk_PI (fun r_11 h => ?_))
            exact z_iret (st := []) hE dX11_roots_87 rfl ⟨_, rfl, h⟩
          have h := gd_36 c36_0 c36_1 c36_2 c36_3
          refine z_swOut (tgt := 88) hE dX11_roots_36 (by have e0 := lv_neT c36_0 (a := 0) (by decide); have e1 := lv_neT c36_1 (a := 1) (by decide); have e2 := lv_neT c36_2 (a := 2) (by decide); have e3 := lv_neT c36_3 (a := 3) (by decide); show _ < (0 : Int) ∨ (3 : Int) < _; omega) (by decide) ?_
          refine z_aload_n hE dX11_roots_88 rfl 0 rfl ?_
          refine z_callV hE dX11_roots_89 lV_X11_174 (c_X8_axisCount _ er_3 μ_4 _ h) er_3.1 rfl (Nat.le_of_ble_eq_true rfl) (by decide) rfl (zk_PI (fun r_13 h => ?_))
          refine z_iload_n hE dX11_roots_92 rfl 2 rfl ?_
          refine z_iconst (v := 3) hE dX11_roots_93 zv_i_3 ?_
          refine z_icmp_ne (tgt := 104) hE dX11_roots_94 (by decide) h (fun h => ?_) (fun h => ?_)
          · refine z_iconst (v := 0) hE dX11_roots_104 zv_i_0 ?_
            refine z_iadd hE dX11_roots_105 ?_
            exact z_iret (st := []) hE dX11_roots_106 rfl ⟨_, rfl, h⟩
          · refine z_aload_n hE dX11_roots_97 rfl 0 rfl ?_
            refine z_getI hE dX11_roots_98 lF_X11_145 er_3.1 rfl ?_
            refine z_goto (tgt := 105) hE dX11_roots_101 (by decide) ?_
            refine z_iadd hE dX11_roots_105 ?_
            exact z_iret (st := []) hE dX11_roots_106 rfl ⟨_, rfl, h⟩
        · refine z_bipush (v := -7) hE dX11_roots_32 zv_b_m7 ?_
          exact z_iret (st := []) hE dX11_roots_34 rfl ⟨_, rfl, h⟩
      · refine z_bipush (v := -2) hE dX11_roots_16 zv_b_m2 ?_
        exact z_iret (st := []) hE dX11_roots_18 rfl ⟨_, rfl, h⟩
set_option maxRecDepth 4000 in
theorem c_X11_row (a1 : Int32) (a2 : Int32) (a3 : Int32) (μ : ZMem) (Φ : Int64 → ZMem → Prop) (h : w_X11_row a1 a2 a3 μ Φ) : zM SX yX11_row cX11_row 5 (some FieldType.long) 4 [.ref 0, .int a1, .int a2, .int a3] μ (zzJ Φ) := by
  refine zM_go (own := RX11) rfl (by decide) (Nat.le_of_ble_eq_true rfl) (fun E hE => ?_)
  show zZ E (zzJ Φ) 0 [(0, .ref 0), (1, .int a1), (2, .int a2), (3, .int a3)] [] μ
  unfold w_X11_row at h
  refine z_iload_n hE dX11_row_0 rfl 1 rfl ?_
  refine z_callS hE dX11_row_1 lS_X11_132 (c_X11_isForm _ μ _ h) rfl (Nat.le_of_ble_eq_true rfl) (by decide) rfl (zk_PI (fun r_1 h => ?_))
  refine z_if_ne (tgt := 11) hE dX11_row_4 (by decide) h (fun h => ?_) (fun h => ?_)
  · refine z_aload_n hE dX11_row_11 rfl 0 rfl ?_
    refine z_iload_n hE dX11_row_12 rfl 1 rfl ?_
    refine z_callV hE dX11_row_13 lV_X11_148 (c_X11_tableOf _ μ _ h) sX_0 rfl (Nat.le_of_ble_eq_true rfl) (by decide) rfl (zk_R (fun r_3 μ_4 h => ?_))
    obtain ⟨er_3, h⟩ := h
    refine z_astore (lv' := [(4, .ref r_3), (0, .ref 0), (1, .int a1), (2, .int a2), (3, .int a3)]) hE dX11_row_16 (by decide) rfl ?_
    refine z_aload hE dX11_row_18 0 rfl ?_
    refine z_getI hE dX11_row_20 lF_X11_152 er_3.1 rfl ?_
    refine z_if_ne (tgt := 49) hE dX11_row_23 (by decide) h (fun h => ?_) (fun h => ?_)
    · refine z_ldc2 (v := -9223372036854775808) hE dX11_row_49 lK_X11_90 ?_
      exact z_lret (st := []) hE dX11_row_52 rfl ⟨_, rfl, h⟩
    · refine z_aload hE dX11_row_26 0 rfl ?_
      refine z_iload_n hE dX11_row_28 rfl 3 rfl ?_
      refine z_callV hE dX11_row_29 lV_X11_156 (c_X8_hasRow _ _ er_3 μ_4 _ h) er_3.1 rfl (Nat.le_of_ble_eq_true rfl) (by decide) rfl (zk_PI (fun r_5 h => ?_))
      refine z_if_eq (tgt := 49) hE dX11_row_32 (by decide) h (fun h => ?_) (fun h => ?_)
      · refine z_ldc2 (v := -9223372036854775808) hE dX11_row_49 lK_X11_90 ?_
        exact z_lret (st := []) hE dX11_row_52 rfl ⟨_, rfl, h⟩
      · refine z_iload_n hE dX11_row_35 rfl 4 rfl ?_
        refine z_if_lt (tgt := 49) hE dX11_row_36 (by decide) h (fun h => ?_) (fun h => ?_)
        · refine z_ldc2 (v := -9223372036854775808) hE dX11_row_49 lK_X11_90 ?_
          exact z_lret (st := []) hE dX11_row_52 rfl ⟨_, rfl, h⟩
        · refine z_iload_n hE dX11_row_39 rfl 4 rfl ?_
          refine z_aload hE dX11_row_40 0 rfl ?_
          refine z_iload_n hE dX11_row_42 rfl 3 rfl ?_
          refine z_callV hE dX11_row_43 lV_X11_159 (c_X8_width _ _ er_3 μ_4 _ h) er_3.1 rfl (Nat.le_of_ble_eq_true rfl) (by decide) rfl (zk_PI (fun r_7 h => ?_))
          refine z_icmp_lt (tgt := 53) hE dX11_row_46 (by decide) h (fun h => ?_) (fun h => ?_)
          · refine z_aload hE dX11_row_53 0 rfl ?_
            refine z_iload_n hE dX11_row_55 rfl 3 rfl ?_
            refine z_iload_n hE dX11_row_56 rfl 4 rfl ?_
            refine z_callV hE dX11_row_57 lV_X11_163 (c_X8_item _ _ _ er_3 μ_4 _ h) er_3.1 rfl (Nat.le_of_ble_eq_true rfl) (by decide) rfl (zk_PJ (fun r_9 h => ?_))
            exact z_lret (st := []) hE dX11_row_60 rfl ⟨_, rfl, h⟩
          · refine z_ldc2 (v := -9223372036854775808) hE dX11_row_49 lK_X11_90 ?_
            exact z_lret (st := []) hE dX11_row_52 rfl ⟨_, rfl, h⟩
  · refine z_ldc2 (v := -9223372036854775808) hE dX11_row_7 lK_X11_90 ?_
    exact z_lret (st := []) hE dX11_row_10 rfl ⟨_, rfl, h⟩
set_option maxRecDepth 4000 in
theorem c_X11_steady (a1 : Int32) (a2 : Int32) (a3 : Int32) (μ : ZMem) (Φ : Int32 → ZMem → Prop) (h : w_X11_steady a1 a2 a3 μ Φ) : zM SX yX11_steady cX11_steady 4 (some FieldType.int) 4 [.ref 0, .int a1, .int a2, .int a3] μ (zzI Φ) := by
  refine zM_go (own := RX11) rfl (by decide) (Nat.le_of_ble_eq_true rfl) (fun E hE => ?_)
  show zZ E (zzI Φ) 0 [(0, .ref 0), (1, .int a1), (2, .int a2), (3, .int a3)] [] μ
  unfold w_X11_steady at h
  refine z_iload_n hE dX11_steady_0 rfl 1 rfl ?_
  refine z_callS hE dX11_steady_1 lS_X11_193 (c_X11_isKind _ μ _ h) rfl (Nat.le_of_ble_eq_true rfl) (by decide) rfl (zk_PI (fun r_1 h => ?_))
  refine z_if_eq (tgt := 28) hE dX11_steady_4 (by decide) h (fun h => ?_) (fun h => ?_)
  · refine z_bipush (v := -2) hE dX11_steady_28 zv_b_m2 ?_
    exact z_iret (st := []) hE dX11_steady_30 rfl ⟨_, rfl, h⟩
  · refine z_iload_n hE dX11_steady_7 rfl 2 rfl ?_
    refine z_iconst (v := 1) hE dX11_steady_8 zv_i_1 ?_
    refine z_icmp_lt (tgt := 28) hE dX11_steady_9 (by decide) h (fun h => ?_) (fun h => ?_)
    · refine z_bipush (v := -2) hE dX11_steady_28 zv_b_m2 ?_
      exact z_iret (st := []) hE dX11_steady_30 rfl ⟨_, rfl, h⟩
    · refine z_iload_n hE dX11_steady_12 rfl 2 rfl ?_
      refine z_bipush (v := 16) hE dX11_steady_13 zv_b_16 ?_
      refine z_icmp_gt (tgt := 28) hE dX11_steady_15 (by decide) h (fun h => ?_) (fun h => ?_)
      · refine z_bipush (v := -2) hE dX11_steady_28 zv_b_m2 ?_
        exact z_iret (st := []) hE dX11_steady_30 rfl ⟨_, rfl, h⟩
      · refine z_iload_n hE dX11_steady_18 rfl 3 rfl ?_
        refine z_sipush (v := 1600) hE dX11_steady_19 zv_s_1600 ?_
        refine z_callS hE dX11_steady_22 lS_X11_86 (c_X11_isWithin _ _ μ _ h) rfl (Nat.le_of_ble_eq_true rfl) (by decide) rfl (zk_PI (fun r_3 h => ?_))
        refine z_if_ne (tgt := 31) hE dX11_steady_25 (by decide) h (fun h => ?_) (fun h => ?_)
        · refine z_aload_n hE dX11_steady_31 rfl 0 rfl ?_
          refine z_getR (t := 50) hE dX11_steady_32 lF_X11_51 sX_0 rfl ?_
          refine z_aload_n hE dX11_steady_35 rfl 0 rfl ?_
          refine z_getR (t := 1) hE dX11_steady_36 lF_X11_14 sX_0 rfl ?_
          refine z_iload_n hE dX11_steady_39 rfl 1 rfl ?_
          refine z_iload_n hE dX11_steady_40 rfl 2 rfl ?_
          refine z_iload_n hE dX11_steady_41 rfl 3 rfl ?_
          refine z_callV hE dX11_steady_42 lV_X11_196 (c_X7_holds _ _ _ μ _ h) sX_50 rfl (Nat.le_of_ble_eq_true rfl) (by decide) rfl (zk_I (fun r_5 μ_6 h => ?_))
          refine z_if_eq (tgt := 52) hE dX11_steady_45 (by decide) h (fun h => ?_) (fun h => ?_)
          · refine z_iconst (v := 0) hE dX11_steady_52 zv_i_0 ?_
            exact z_iret (st := []) hE dX11_steady_53 rfl ⟨_, rfl, h⟩
          · refine z_iconst (v := 1) hE dX11_steady_48 zv_i_1 ?_
            refine z_goto (tgt := 53) hE dX11_steady_49 (by decide) ?_
            exact z_iret (st := []) hE dX11_steady_53 rfl ⟨_, rfl, h⟩
        · refine z_bipush (v := -2) hE dX11_steady_28 zv_b_m2 ?_
          exact z_iret (st := []) hE dX11_steady_30 rfl ⟨_, rfl, h⟩
set_option maxRecDepth 4000 in
theorem c_X11_strip (a1 : Int32) (a2 : Int32) (μ : ZMem) (Φ : Int32 → ZMem → Prop) (h : w_X11_strip a1 a2 μ Φ) : zM SX yX11_strip cX11_strip 5 (some FieldType.int) 4 [.ref 0, .int a1, .int a2] μ (zzI Φ) := by
  refine zM_go (own := RX11) rfl (by decide) (Nat.le_of_ble_eq_true rfl) (fun E hE => ?_)
  show zZ E (zzI Φ) 0 [(0, .ref 0), (1, .int a1), (2, .int a2)] [] μ
  unfold w_X11_strip at h
  refine z_iload_n hE dX11_strip_0 rfl 1 rfl ?_
  refine z_bipush (v := 20) hE dX11_strip_1 zv_b_20 ?_
  refine z_callS hE dX11_strip_3 lS_X11_86 (c_X11_isWithin _ _ μ _ h) rfl (Nat.le_of_ble_eq_true rfl) (by decide) rfl (zk_PI (fun r_1 h => ?_))
  refine z_if_eq (tgt := 23) hE dX11_strip_6 (by decide) h (fun h => ?_) (fun h => ?_)
  · refine z_bipush (v := -2) hE dX11_strip_23 zv_b_m2 ?_
    exact z_iret (st := []) hE dX11_strip_25 rfl ⟨_, rfl, h⟩
  · refine z_iload_n hE dX11_strip_9 rfl 2 rfl ?_
    refine z_bipush (v := 20) hE dX11_strip_10 zv_b_20 ?_
    refine z_callS hE dX11_strip_12 lS_X11_86 (c_X11_isWithin _ _ μ _ h) rfl (Nat.le_of_ble_eq_true rfl) (by decide) rfl (zk_PI (fun r_3 h => ?_))
    refine z_if_eq (tgt := 23) hE dX11_strip_15 (by decide) h (fun h => ?_) (fun h => ?_)
    · refine z_bipush (v := -2) hE dX11_strip_23 zv_b_m2 ?_
      exact z_iret (st := []) hE dX11_strip_25 rfl ⟨_, rfl, h⟩
    · refine z_iload_n hE dX11_strip_18 rfl 2 rfl ?_
      refine z_iload_n hE dX11_strip_19 rfl 1 rfl ?_
      refine z_icmp_gt (tgt := 26) hE dX11_strip_20 (by decide) h (fun h => ?_) (fun h => ?_)
      · refine z_aload_n hE dX11_strip_26 rfl 0 rfl ?_
        refine z_bipush (v := 30) hE dX11_strip_27 zv_b_30 ?_
        refine z_iload_n hE dX11_strip_29 rfl 1 rfl ?_
        refine z_iadd hE dX11_strip_30 ?_
        refine z_callV hE dX11_strip_31 lV_X11_148 (c_X11_tableOf _ μ _ h) sX_0 rfl (Nat.le_of_ble_eq_true rfl) (by decide) rfl (zk_R (fun r_5 μ_6 h => ?_))
        obtain ⟨er_5, h⟩ := h
        refine z_astore_n (lv' := [(3, .ref r_5), (0, .ref 0), (1, .int a1), (2, .int a2)]) hE dX11_strip_34 rfl (by decide) rfl ?_
        refine z_aload_n hE dX11_strip_35 rfl 0 rfl ?_
        refine z_getI hE dX11_strip_36 lF_X11_152 er_5.1 rfl ?_
        refine z_if_eq (tgt := 45) hE dX11_strip_39 (by decide) h (fun h => ?_) (fun h => ?_)
        · refine z_aload_n hE dX11_strip_45 rfl 0 rfl ?_
          refine z_callV hE dX11_strip_46 lV_X11_177 (c_X8_leftCount _ er_5 μ_6 _ h) er_5.1 rfl (Nat.le_of_ble_eq_true rfl) (by decide) rfl (zk_PI (fun r_7 h => ?_))
          refine z_aload_n hE dX11_strip_49 rfl 0 rfl ?_
          refine z_callV hE dX11_strip_50 lV_X11_174 (c_X8_axisCount _ er_5 μ_6 _ h) er_5.1 rfl (Nat.le_of_ble_eq_true rfl) (by decide) rfl (zk_PI (fun r_9 h => ?_))
          refine z_iadd hE dX11_strip_53 ?_
          refine z_istore (lv' := [(4, .int (r_7 + r_9)), (3, .ref r_5), (0, .ref 0), (1, .int a1), (2, .int a2)]) hE dX11_strip_54 (by decide) rfl ?_
          refine zn (G := fun v4_11 => zZ E (zzI Φ) 56 [(4, .int v4_11), (3, .ref r_5), (0, .ref 0), (1, .int a1), (2, .int a2)] [] μ_6) h (fun v4_11 h => ?_)
          refine z_aload_n hE dX11_strip_56 rfl 2 rfl ?_
          refine z_bipush (v := 30) hE dX11_strip_57 zv_b_30 ?_
          refine z_iload_n hE dX11_strip_59 rfl 4 rfl ?_
          refine z_iadd hE dX11_strip_60 ?_
          refine z_callV hE dX11_strip_61 lV_X11_148 (c_X11_tableOf _ μ_6 _ h) sX_0 rfl (Nat.le_of_ble_eq_true rfl) (by decide) rfl (zk_R (fun r_12 μ_13 h => ?_))
          obtain ⟨er_12, h⟩ := h
          refine z_astore_n (lv' := [(3, .ref r_12), (4, .int v4_11), (0, .ref 0), (1, .int a1), (2, .int a2)]) hE dX11_strip_64 rfl (by decide) rfl ?_
          refine z_aload_n hE dX11_strip_65 rfl 0 rfl ?_
          refine z_getI hE dX11_strip_66 lF_X11_152 er_12.1 rfl ?_
          refine z_if_eq (tgt := 77) hE dX11_strip_69 (by decide) h (fun h => ?_) (fun h => ?_)
          · refine z_aload_n hE dX11_strip_77 rfl 0 rfl ?_
            refine z_callV hE dX11_strip_78 lV_X11_177 (c_X8_leftCount _ er_12 μ_13 _ h) er_12.1 rfl (Nat.le_of_ble_eq_true rfl) (by decide) rfl (zk_PI (fun r_14 h => ?_))
            refine z_iload hE dX11_strip_81 1 rfl ?_
            refine z_isub hE dX11_strip_83 ?_
            exact z_iret (st := []) hE dX11_strip_84 rfl ⟨_, rfl, h⟩
          · refine z_bipush (v := -7) hE dX11_strip_72 zv_b_m7 ?_
            refine z_goto (tgt := 84) hE dX11_strip_74 (by decide) ?_
            exact z_iret (st := []) hE dX11_strip_84 rfl ⟨_, rfl, h⟩
        · refine z_bipush (v := -7) hE dX11_strip_42 zv_b_m7 ?_
          exact z_iret (st := []) hE dX11_strip_44 rfl ⟨_, rfl, h⟩
      · refine z_bipush (v := -2) hE dX11_strip_23 zv_b_m2 ?_
        exact z_iret (st := []) hE dX11_strip_25 rfl ⟨_, rfl, h⟩
set_option maxRecDepth 4000 in
theorem c_X11_weed (a1 : Int32) (a2 : Int32) (μ : ZMem) (Φ : Int32 → ZMem → Prop) (h : w_X11_weed a1 a2 μ Φ) : zM SX yX11_weed cX11_weed 8 (some FieldType.int) 4 [.ref 0, .int a1, .int a2] μ (zzI Φ) := by
  refine zM_go (own := RX11) rfl (by decide) (Nat.le_of_ble_eq_true rfl) (fun E hE => ?_)
  show zZ E (zzI Φ) 0 [(0, .ref 0), (1, .int a1), (2, .int a2)] [] μ
  unfold w_X11_weed at h
  refine z_iload_n hE dX11_weed_0 rfl 1 rfl ?_
  refine z_callS hE dX11_weed_1 lS_X11_193 (c_X11_isKind _ μ _ h) rfl (Nat.le_of_ble_eq_true rfl) (by decide) rfl (zk_PI (fun r_1 h => ?_))
  refine z_if_eq (tgt := 16) hE dX11_weed_4 (by decide) h (fun h => ?_) (fun h => ?_)
  · refine z_bipush (v := -2) hE dX11_weed_16 zv_b_m2 ?_
    exact z_iret (st := []) hE dX11_weed_18 rfl ⟨_, rfl, h⟩
  · refine z_iload_n hE dX11_weed_7 rfl 2 rfl ?_
    refine z_if_lt (tgt := 16) hE dX11_weed_8 (by decide) h (fun h => ?_) (fun h => ?_)
    · refine z_bipush (v := -2) hE dX11_weed_16 zv_b_m2 ?_
      exact z_iret (st := []) hE dX11_weed_18 rfl ⟨_, rfl, h⟩
    · refine z_iload_n hE dX11_weed_11 rfl 2 rfl ?_
      refine z_iconst (v := 2) hE dX11_weed_12 zv_i_2 ?_
      refine z_icmp_le (tgt := 19) hE dX11_weed_13 (by decide) h (fun h => ?_) (fun h => ?_)
      · refine z_aload_n hE dX11_weed_19 rfl 0 rfl ?_
        refine z_getR (t := 1) hE dX11_weed_20 lF_X11_14 sX_0 rfl ?_
        refine z_getI hE dX11_weed_23 lF_X11_234 sX_1 rfl ?_
        refine z_istore_n (lv' := [(3, .int (μ.1 1 4)), (0, .ref 0), (1, .int a1), (2, .int a2)]) hE dX11_weed_26 rfl (by decide) rfl ?_
        refine zn (G := fun v3_3 => zZ E (zzI Φ) 27 [(3, .int v3_3), (0, .ref 0), (1, .int a1), (2, .int a2)] [] μ) h (fun v3_3 h => ?_)
        refine z_iconst (v := 0) hE dX11_weed_27 zv_i_0 ?_
        refine z_istore (lv' := [(4, .int (0 : Int32)), (3, .int v3_3), (0, .ref 0), (1, .int a1), (2, .int a2)]) hE dX11_weed_28 (by decide) rfl ?_
        refine z_iconst (v := 0) hE dX11_weed_30 zv_i_0 ?_
        refine z_istore (lv' := [(5, .int (0 : Int32)), (4, .int (0 : Int32)), (3, .int v3_3), (0, .ref 0), (1, .int a1), (2, .int a2)]) hE dX11_weed_31 (by decide) rfl ?_
        refine z_join (P := fun (J_6 : Int32 → ZMem → Prop) => ∀ (v4_4 : Int32) (μ_5 : ZMem), J_6 v4_4 μ_5 → zZ E (zzI Φ) 131 [(0, .ref 0), (3, .int v3_3), (4, .int v4_4)] [] μ_5) h (fun v4_4 μ_5 h => ?_) (fun J_6 hJ_6 h => ?_)
        · refine z_aload_n hE dX11_weed_131 rfl 0 rfl ?_
          refine z_getR (t := 1) hE dX11_weed_132 lF_X11_14 sX_0 rfl ?_
          refine z_iload hE dX11_weed_135 2 rfl ?_
          refine z_put hE dX11_weed_137 lF_X11_234 sX_1 rfl rfl rfl ?_
          refine zn (G := fun μ_7 => zZ E (zzI Φ) 140 [(0, .ref 0), (3, .int v3_3), (4, .int v4_4)] [] μ_7) h (fun μ_7 h => ?_)
          refine z_iload_n hE dX11_weed_140 rfl 1 rfl ?_
          refine z_iload hE dX11_weed_141 2 rfl ?_
          refine z_isub hE dX11_weed_143 ?_
          exact z_iret (st := []) hE dX11_weed_144 rfl ⟨_, rfl, h⟩
        refine z_sub [3, 4, 5, 2, 1, 0] rfl ?_
        obtain ⟨n33, h⟩ := h
        refine z_loop3 (P := fun (v4_8 : Int32) (v5_9 : Int32) (μ_10 : ZMem) => zZ E (zzI Φ) 33 [(0, .ref 0), (1, .int a1), (2, .int a2), (3, .int v3_3), (4, .int v4_8), (5, .int v5_9)] [] μ_10) (fun k33_10 hk33_10 v4_8 v5_9 μ_10 h => ?_) n33 _ _ _ h
        refine z_iload hE dX11_weed_33 5 rfl ?_
        refine z_iload_n hE dX11_weed_35 rfl 3 rfl ?_
        refine z_icmp_ge (tgt := 131) hE dX11_weed_36 (by decide) h (fun h => ?_) (fun h => ?_)
        · exact z_sub [0, 3, 4] rfl (hJ_6 _ _ h)
        · refine z_aload_n hE dX11_weed_39 rfl 0 rfl ?_
          refine z_getR (t := 1) hE dX11_weed_40 lF_X11_14 sX_0 rfl ?_
          refine z_getR (t := 4) hE dX11_weed_43 lF_X11_237 sX_1 rfl ?_
          refine z_iload hE dX11_weed_46 5 rfl ?_
          obtain ⟨q_11, h⟩ := h
          refine z_iald hE dX11_weed_48 sX_4 q_11 ?_
          refine z_istore (lv' := [(6, .int (μ_10.1 4 (Int32.toNatClampNeg v5_9))), (0, .ref 0), (1, .int a1), (2, .int a2), (3, .int v3_3), (4, .int v4_8), (5, .int v5_9)]) hE dX11_weed_49 (by decide) rfl ?_
          refine zn (G := fun v6_12 => zZ E (zzI Φ) 51 [(6, .int v6_12), (0, .ref 0), (1, .int a1), (2, .int a2), (3, .int v3_3), (4, .int v4_8), (5, .int v5_9)] [] μ_10) h (fun v6_12 h => ?_)
          refine z_iload_n hE dX11_weed_51 rfl 3 rfl ?_
          refine z_iconst (v := 2) hE dX11_weed_52 zv_i_2 ?_
          refine z_join (P := fun (J_15 : Int32 → ZMem → Prop) => ∀ (x_13 : Int32) (μ_14 : ZMem), J_15 x_13 μ_14 → zZ E (zzI Φ) 103 [(0, .ref 0), (1, .int a1), (2, .int a2), (3, .int v3_3), (4, .int v4_8), (5, .int v5_9), (6, .int v6_12)] [.int x_13] μ_14) h (fun x_13 μ_14 h => ?_) (fun J_15 hJ_15 h => ?_)
          · refine z_istore (lv' := [(7, .int x_13), (0, .ref 0), (1, .int a1), (2, .int a2), (3, .int v3_3), (4, .int v4_8), (5, .int v5_9), (6, .int v6_12)]) hE dX11_weed_103 (by decide) rfl ?_
            refine z_iload hE dX11_weed_105 0 rfl ?_
            refine z_join (P := fun (J_18 : Int32 → ZMem → Prop) => ∀ (v4_16 : Int32) (μ_17 : ZMem), J_18 v4_16 μ_17 → zZ E (zzI Φ) 125 [(0, .ref 0), (1, .int a1), (2, .int a2), (3, .int v3_3), (4, .int v4_16), (5, .int v5_9)] [] μ_17) h (fun v4_16 μ_17 h => ?_) (fun J_18 hJ_18 h => ?_)
            · refine z_iinc (j := 5) (c := 1) (lv' := [(5, .int (v5_9 + (1 : Int32))), (0, .ref 0), (1, .int a1), (2, .int a2), (3, .int v3_3), (4, .int v4_16)]) hE dX11_weed_125 rfl zv_i_1 (by decide) rfl ?_
              refine z_goto (tgt := 33) hE dX11_weed_128 (by decide) ?_
              exact z_sub [1, 2, 3, 4, 5, 0] rfl (hk33_10 _ _ _ h)
            refine z_if_ne (tgt := 125) hE dX11_weed_107 (by decide) h (fun h => ?_) (fun h => ?_)
            · exact z_sub [1, 2, 3, 4, 5, 6] rfl (hJ_18 _ _ h)
            · refine z_aload_n hE dX11_weed_110 rfl 1 rfl ?_
              refine z_getR (t := 1) hE dX11_weed_111 lF_X11_14 sX_0 rfl ?_
              refine z_getR (t := 4) hE dX11_weed_114 lF_X11_237 sX_1 rfl ?_
              refine z_iload hE dX11_weed_117 5 rfl ?_
              refine z_iload hE dX11_weed_119 7 rfl ?_
              obtain ⟨q_19, h⟩ := h
              refine z_iast hE dX11_weed_121 sX_4 q_19 ?_
              refine zn (G := fun μ_20 => zZ E (zzI Φ) 122 [(7, .int x_13), (0, .ref 0), (1, .int a1), (2, .int a2), (3, .int v3_3), (4, .int v4_8), (5, .int v5_9), (6, .int v6_12)] [] μ_20) h (fun μ_20 h => ?_)
              refine z_iinc (j := 5) (c := 1) (lv' := [(4, .int (v4_8 + (1 : Int32))), (7, .int x_13), (0, .ref 0), (1, .int a1), (2, .int a2), (3, .int v3_3), (5, .int v5_9), (6, .int v6_12)]) hE dX11_weed_122 rfl zv_i_1 (by decide) rfl ?_
              exact z_sub [2, 3, 4, 5, 0, 6] rfl (hJ_18 _ _ h)
          refine z_icmp_ne (tgt := 70) hE dX11_weed_53 (by decide) h (fun h => ?_) (fun h => ?_)
          · refine z_aload_n hE dX11_weed_70 rfl 1 rfl ?_
            refine z_getR (t := 50) hE dX11_weed_71 lF_X11_51 sX_0 rfl ?_
            refine z_aload_n hE dX11_weed_74 rfl 1 rfl ?_
            refine z_getR (t := 1) hE dX11_weed_75 lF_X11_14 sX_0 rfl ?_
            refine z_iload_n hE dX11_weed_78 rfl 2 rfl ?_
            refine z_iconst (v := 1) hE dX11_weed_79 zv_i_1 ?_
            refine z_iload hE dX11_weed_80 0 rfl ?_
            refine z_callV hE dX11_weed_82 lV_X11_196 (c_X7_holds _ _ _ μ_10 _ h) sX_50 rfl (Nat.le_of_ble_eq_true rfl) (by decide) rfl (zk_I (fun r_21 μ_22 h => ?_))
            refine z_iload_n hE dX11_weed_85 rfl 3 rfl ?_
            refine z_iconst (v := 1) hE dX11_weed_86 zv_i_1 ?_
            refine z_join (P := fun (J_24 : Int32 → Prop) => ∀ (x_23 : Int32), J_24 x_23 → zZ E (zzI Φ) 95 [(0, .ref 0), (1, .int a1), (2, .int a2), (3, .int v3_3), (4, .int v4_8), (5, .int v5_9), (6, .int v6_12)] [.int x_23, .int r_21] μ_22) h (fun x_23 h => ?_) (fun J_24 hJ_24 h => ?_)
            · refine z_icmp_ne (tgt := 102) hE dX11_weed_95 (by decide) h (fun h => ?_) (fun h => ?_)
              · refine z_iconst (v := 0) hE dX11_weed_102 zv_i_0 ?_
                exact hJ_15 _ _ h
              · refine z_iconst (v := 1) hE dX11_weed_98 zv_i_1 ?_
                refine z_goto (tgt := 103) hE dX11_weed_99 (by decide) ?_
                exact hJ_15 _ _ h
            refine z_icmp_ne (tgt := 94) hE dX11_weed_87 (by decide) h (fun h => ?_) (fun h => ?_)
            · refine z_iconst (v := 0) hE dX11_weed_94 zv_i_0 ?_
              exact z_sub [1, 2, 3, 4, 5, 6, 0] rfl (hJ_24 _ h)
            · refine z_iconst (v := 1) hE dX11_weed_90 zv_i_1 ?_
              refine z_goto (tgt := 95) hE dX11_weed_91 (by decide) ?_
              exact z_sub [1, 2, 3, 4, 5, 6, 0] rfl (hJ_24 _ h)
          · refine z_aload_n hE dX11_weed_56 rfl 1 rfl ?_
            refine z_getR (t := 1) hE dX11_weed_57 lF_X11_14 sX_0 rfl ?_
            refine z_iload hE dX11_weed_60 0 rfl ?_
            refine z_iload hE dX11_weed_62 5 rfl ?_
            refine z_callV hE dX11_weed_64 lV_X11_243 (c_X3_waitsAhead _ _ μ_10 _ h) sX_1 rfl (Nat.le_of_ble_eq_true rfl) (by decide) rfl (zk_PI (fun r_25 h => ?_))
            refine z_goto (tgt := 103) hE dX11_weed_67 (by decide) ?_
            exact z_sub [1, 2, 3, 4, 5, 6, 0] rfl (hJ_15 _ _ h)
      · refine z_bipush (v := -2) hE dX11_weed_16 zv_b_m2 ?_
        exact z_iret (st := []) hE dX11_weed_18 rfl ⟨_, rfl, h⟩
set_option maxRecDepth 4000 in
theorem c_X12_degree (a1 : Int32) (a2 : Int32) (μ : ZMem) (Φ : Int32 → ZMem → Prop) (h : w_X12_degree a1 a2 μ Φ) : zM SM yX12_degree cX12_degree 3 (some FieldType.int) 4 [.ref 0, .int a1, .int a2] μ (zzI Φ) := by
  refine zM_go (own := RX12) rfl (by decide) (Nat.le_of_ble_eq_true rfl) (fun E hE => ?_)
  show zZ E (zzI Φ) 0 [(0, .ref 0), (1, .int a1), (2, .int a2)] [] μ
  unfold w_X12_degree at h
  refine z_iload_n hE dX12_degree_0 rfl 1 rfl ?_
  refine z_callS hE dX12_degree_1 lS_X12_130 (c_X12_isForm _ μ _ h) rfl (Nat.le_of_ble_eq_true rfl) (by decide) rfl (zk_PI (fun r_1 h => ?_))
  refine z_if_eq (tgt := 17) hE dX12_degree_4 (by decide) h (fun h => ?_) (fun h => ?_)
  · refine z_bipush (v := -2) hE dX12_degree_17 zv_b_m2 ?_
    exact z_iret (st := []) hE dX12_degree_19 rfl ⟨_, rfl, h⟩
  · refine z_iload_n hE dX12_degree_7 rfl 2 rfl ?_
    refine z_i2l hE dX12_degree_8 ?_
    refine z_lconst (v := 0) hE dX12_degree_9 zv_l_0 ?_
    refine z_lconst (v := 1) hE dX12_degree_10 zv_l_1 ?_
    refine z_callS hE dX12_degree_11 lS_X12_83 (c_X12_in _ _ _ μ _ h) rfl (Nat.le_of_ble_eq_true rfl) (by decide) rfl (zk_PI (fun r_3 h => ?_))
    refine z_if_ne (tgt := 20) hE dX12_degree_14 (by decide) h (fun h => ?_) (fun h => ?_)
    · refine z_aload_n hE dX12_degree_20 rfl 0 rfl ?_
      refine z_iload_n hE dX12_degree_21 rfl 1 rfl ?_
      refine z_callV hE dX12_degree_22 lV_X12_133 (c_X12_laysForm _ μ _ h) sM_0 rfl (Nat.le_of_ble_eq_true rfl) (by decide) rfl (zk_V (fun μ_6 h => ?_))
      refine z_iload_n hE dX12_degree_25 rfl 2 rfl ?_
      refine z_if_ne (tgt := 36) hE dX12_degree_26 (by decide) h (fun h => ?_) (fun h => ?_)
      · refine z_aload_n hE dX12_degree_36 rfl 0 rfl ?_
        refine z_getI hE dX12_degree_37 lF_X12_124 sM_0 rfl ?_
        exact z_iret (st := []) hE dX12_degree_40 rfl ⟨_, rfl, h⟩
      · refine z_aload_n hE dX12_degree_29 rfl 0 rfl ?_
        refine z_getI hE dX12_degree_30 lF_X12_121 sM_0 rfl ?_
        refine z_goto (tgt := 40) hE dX12_degree_33 (by decide) ?_
        exact z_iret (st := []) hE dX12_degree_40 rfl ⟨_, rfl, h⟩
    · refine z_bipush (v := -2) hE dX12_degree_17 zv_b_m2 ?_
      exact z_iret (st := []) hE dX12_degree_19 rfl ⟨_, rfl, h⟩
set_option maxRecDepth 4000 in
theorem c_X12_form (a1 : Int32) (a2 : Int32) (μ : ZMem) (Φ : Int64 → ZMem → Prop) (h : w_X12_form a1 a2 μ Φ) : zM SM yX12_form cX12_form 3 (some FieldType.long) 4 [.ref 0, .int a1, .int a2] μ (zzJ Φ) := by
  refine zM_go (own := RX12) rfl (by decide) (Nat.le_of_ble_eq_true rfl) (fun E hE => ?_)
  show zZ E (zzJ Φ) 0 [(0, .ref 0), (1, .int a1), (2, .int a2)] [] μ
  unfold w_X12_form at h
  refine z_iload_n hE dX12_form_0 rfl 1 rfl ?_
  refine z_callS hE dX12_form_1 lS_X12_130 (c_X12_isForm _ μ _ h) rfl (Nat.le_of_ble_eq_true rfl) (by decide) rfl (zk_PI (fun r_1 h => ?_))
  refine z_if_eq (tgt := 14) hE dX12_form_4 (by decide) h (fun h => ?_) (fun h => ?_)
  · refine z_ldc2 (v := -9223372036854775808) hE dX12_form_14 lK_X12_67 ?_
    exact z_lret (st := []) hE dX12_form_17 rfl ⟨_, rfl, h⟩
  · refine z_iload_n hE dX12_form_7 rfl 2 rfl ?_
    refine z_callS hE dX12_form_8 lS_X12_87 (c_X12_isPower _ μ _ h) rfl (Nat.le_of_ble_eq_true rfl) (by decide) rfl (zk_PI (fun r_3 h => ?_))
    refine z_if_ne (tgt := 18) hE dX12_form_11 (by decide) h (fun h => ?_) (fun h => ?_)
    · refine z_aload_n hE dX12_form_18 rfl 0 rfl ?_
      refine z_iload_n hE dX12_form_19 rfl 1 rfl ?_
      refine z_callV hE dX12_form_20 lV_X12_133 (c_X12_laysForm _ μ _ h) sM_0 rfl (Nat.le_of_ble_eq_true rfl) (by decide) rfl (zk_V (fun μ_6 h => ?_))
      refine z_aload_n hE dX12_form_23 rfl 0 rfl ?_
      refine z_getR (t := 4) hE dX12_form_24 lF_X12_22 sM_0 rfl ?_
      refine z_iload_n hE dX12_form_27 rfl 2 rfl ?_
      obtain ⟨q_7, h⟩ := h
      refine z_lald hE dX12_form_28 sM_4 q_7 ?_
      exact z_lret (st := []) hE dX12_form_29 rfl ⟨_, rfl, h⟩
    · refine z_ldc2 (v := -9223372036854775808) hE dX12_form_14 lK_X12_67 ?_
      exact z_lret (st := []) hE dX12_form_17 rfl ⟨_, rfl, h⟩
set_option maxRecDepth 4000 in
theorem c_X12_isSteady (a1 : Int32) (a2 : Int32) (a3 : Int32) (μ : ZMem) (Φ : Int32 → ZMem → Prop) (h : w_X12_isSteady a1 a2 a3 μ Φ) : zM SM yX12_isSteady cX12_isSteady 5 (some FieldType.boolean) 4 [.ref 0, .int a1, .int a2, .int a3] μ (zzI Φ) := by
  refine zM_go (own := RX12) rfl (by decide) (Nat.le_of_ble_eq_true rfl) (fun E hE => ?_)
  show zZ E (zzI Φ) 0 [(0, .ref 0), (1, .int a1), (2, .int a2), (3, .int a3)] [] μ
  unfold w_X12_isSteady at h
  refine z_bipush (v := 6) hE dX12_isSteady_0 zv_b_6 ?_
  refine z_istore (lv' := [(4, .int (6 : Int32)), (0, .ref 0), (1, .int a1), (2, .int a2), (3, .int a3)]) hE dX12_isSteady_2 (by decide) rfl ?_
  refine z_join (P := fun (J_2 : Int32 → Prop) => ∀ (v4_1 : Int32), J_2 v4_1 → zZ E (zzI Φ) 40 [(0, .ref 0), (1, .int a1), (2, .int a2), (3, .int a3), (4, .int v4_1)] [] μ) h (fun v4_1 h => ?_) (fun J_2 hJ_2 h => ?_)
  · refine z_aload_n hE dX12_isSteady_40 rfl 0 rfl ?_
    refine z_iload_n hE dX12_isSteady_41 rfl 2 rfl ?_
    refine z_iload_n hE dX12_isSteady_42 rfl 3 rfl ?_
    refine z_callV hE dX12_isSteady_43 lV_X12_97 (c_X12_takes _ _ μ _ h) sM_0 rfl (Nat.le_of_ble_eq_true rfl) (by decide) rfl (zk_V (fun μ_4 h => ?_))
    refine z_aload_n hE dX12_isSteady_46 rfl 0 rfl ?_
    refine z_getI hE dX12_isSteady_47 lF_X12_77 sM_0 rfl ?_
    refine z_iconst (v := 1) hE dX12_isSteady_50 zv_i_1 ?_
    refine z_icmp_lt (tgt := 63) hE dX12_isSteady_51 (by decide) h (fun h => ?_) (fun h => ?_)
    · refine z_iconst (v := 0) hE dX12_isSteady_63 zv_i_0 ?_
      exact z_zret (st := []) hE dX12_isSteady_64 rfl (by decide) ⟨_, rfl, h⟩
    · refine z_aload_n hE dX12_isSteady_54 rfl 0 rfl ?_
      refine z_getI hE dX12_isSteady_55 lF_X12_77 sM_0 rfl ?_
      refine z_iload hE dX12_isSteady_58 4 rfl ?_
      refine z_icmp_eq (tgt := 65) hE dX12_isSteady_60 (by decide) h (fun h => ?_) (fun h => ?_)
      · refine z_aload_n hE dX12_isSteady_65 rfl 0 rfl ?_
        refine z_iload_n hE dX12_isSteady_66 rfl 1 rfl ?_
        refine z_join (P := fun (J_6 : Int32 → Prop) => ∀ (x_5 : Int32), J_6 x_5 → zZ E (zzI Φ) 75 [(0, .ref 0), (1, .int a1)] [.int x_5, .ref 0] μ_4) h (fun x_5 h => ?_) (fun J_6 hJ_6 h => ?_)
        · refine z_callV hE dX12_isSteady_75 lV_X12_127 (c_X12_forms _ μ_4 _ h) sM_0 rfl (Nat.le_of_ble_eq_true rfl) (by decide) rfl (zk_V (fun μ_8 h => ?_))
          refine z_aload_n hE dX12_isSteady_78 rfl 0 rfl ?_
          refine z_callV hE dX12_isSteady_79 lV_X12_170 (c_X12_laysRows  μ_8 _ h) sM_0 rfl (Nat.le_of_ble_eq_true rfl) (by decide) rfl (zk_V (fun μ_10 h => ?_))
          refine z_aload_n hE dX12_isSteady_82 rfl 0 rfl ?_
          refine z_getI hE dX12_isSteady_83 lF_X12_69 sM_0 rfl ?_
          refine z_if_ne (tgt := 118) hE dX12_isSteady_86 (by decide) h (fun h => ?_) (fun h => ?_)
          · refine z_iconst (v := 0) hE dX12_isSteady_118 zv_i_0 ?_
            exact z_zret (st := []) hE dX12_isSteady_119 rfl (by decide) ⟨_, rfl, h⟩
          · refine z_aload_n hE dX12_isSteady_89 rfl 0 rfl ?_
            refine z_callV hE dX12_isSteady_90 lV_X12_187 (c_X12_right  μ_10 _ h) sM_0 rfl (Nat.le_of_ble_eq_true rfl) (by decide) rfl (zk_PI (fun r_11 h => ?_))
            refine z_if_ne (tgt := 118) hE dX12_isSteady_93 (by decide) h (fun h => ?_) (fun h => ?_)
            · refine z_iconst (v := 0) hE dX12_isSteady_118 zv_i_0 ?_
              exact z_zret (st := []) hE dX12_isSteady_119 rfl (by decide) ⟨_, rfl, h⟩
            · refine z_aload_n hE dX12_isSteady_96 rfl 0 rfl ?_
              refine z_callV hE dX12_isSteady_97 lV_X12_190 (c_X12_axis  μ_10 _ h) sM_0 rfl (Nat.le_of_ble_eq_true rfl) (by decide) rfl (zk_PI (fun r_13 h => ?_))
              refine z_if_ne (tgt := 118) hE dX12_isSteady_100 (by decide) h (fun h => ?_) (fun h => ?_)
              · refine z_iconst (v := 0) hE dX12_isSteady_118 zv_i_0 ?_
                exact z_zret (st := []) hE dX12_isSteady_119 rfl (by decide) ⟨_, rfl, h⟩
              · refine z_iload_n hE dX12_isSteady_103 rfl 1 rfl ?_
                refine z_if_eq (tgt := 114) hE dX12_isSteady_104 (by decide) h (fun h => ?_) (fun h => ?_)
                · refine z_iconst (v := 1) hE dX12_isSteady_114 zv_i_1 ?_
                  refine z_goto (tgt := 119) hE dX12_isSteady_115 (by decide) ?_
                  exact z_zret (st := []) hE dX12_isSteady_119 rfl (by decide) ⟨_, rfl, h⟩
                · refine z_aload_n hE dX12_isSteady_107 rfl 0 rfl ?_
                  refine z_getI hE dX12_isSteady_108 lF_X12_124 sM_0 rfl ?_
                  refine z_if_ne (tgt := 118) hE dX12_isSteady_111 (by decide) h (fun h => ?_) (fun h => ?_)
                  · refine z_iconst (v := 0) hE dX12_isSteady_118 zv_i_0 ?_
                    exact z_zret (st := []) hE dX12_isSteady_119 rfl (by decide) ⟨_, rfl, h⟩
                  · refine z_iconst (v := 1) hE dX12_isSteady_114 zv_i_1 ?_
                    refine z_goto (tgt := 119) hE dX12_isSteady_115 (by decide) ?_
                    exact z_zret (st := []) hE dX12_isSteady_119 rfl (by decide) ⟨_, rfl, h⟩
        refine z_if_ne (tgt := 74) hE dX12_isSteady_67 (by decide) h (fun h => ?_) (fun h => ?_)
        · refine z_iconst (v := 3) hE dX12_isSteady_74 zv_i_3 ?_
          exact z_sub [0, 1] rfl (hJ_6 _ h)
        · refine z_iconst (v := 0) hE dX12_isSteady_70 zv_i_0 ?_
          refine z_goto (tgt := 75) hE dX12_isSteady_71 (by decide) ?_
          exact z_sub [0, 1] rfl (hJ_6 _ h)
      · refine z_iconst (v := 0) hE dX12_isSteady_63 zv_i_0 ?_
        exact z_zret (st := []) hE dX12_isSteady_64 rfl (by decide) ⟨_, rfl, h⟩
  refine z_sub [1, 2, 3, 4, 0] rfl ?_
  obtain ⟨n4, h⟩ := h
  refine z_loop1 (P := fun (v4_15 : Int32) => zZ E (zzI Φ) 4 [(0, .ref 0), (1, .int a1), (2, .int a2), (3, .int a3), (4, .int v4_15)] [] μ) (fun k4_15 hk4_15 v4_15 h => ?_) n4 _ h
  refine z_iload hE dX12_isSteady_4 4 rfl ?_
  refine z_if_lt (tgt := 40) hE dX12_isSteady_6 (by decide) h (fun h => ?_) (fun h => ?_)
  · exact hJ_2 _ h
  · refine z_aload_n hE dX12_isSteady_9 rfl 0 rfl ?_
    refine z_getR (t := 1) hE dX12_isSteady_10 lF_X12_11 sM_0 rfl ?_
    refine z_iconst (v := 0) hE dX12_isSteady_13 zv_i_0 ?_
    refine z_iload hE dX12_isSteady_14 4 rfl ?_
    refine z_iadd hE dX12_isSteady_16 ?_
    obtain ⟨q_16, h⟩ := h
    refine z_iald hE dX12_isSteady_17 sM_1 q_16 ?_
    refine z_if_ne (tgt := 40) hE dX12_isSteady_18 (by decide) h (fun h => ?_) (fun h => ?_)
    · exact hJ_2 _ h
    · refine z_aload_n hE dX12_isSteady_21 rfl 0 rfl ?_
      refine z_getR (t := 1) hE dX12_isSteady_22 lF_X12_11 sM_0 rfl ?_
      refine z_bipush (v := 7) hE dX12_isSteady_25 zv_b_7 ?_
      refine z_iload hE dX12_isSteady_27 4 rfl ?_
      refine z_iadd hE dX12_isSteady_29 ?_
      obtain ⟨q_17, h⟩ := h
      refine z_iald hE dX12_isSteady_30 sM_1 q_17 ?_
      refine z_if_ne (tgt := 40) hE dX12_isSteady_31 (by decide) h (fun h => ?_) (fun h => ?_)
      · exact hJ_2 _ h
      · refine z_iinc (j := 4) (c := -1) (lv' := [(4, .int (v4_15 + (-1 : Int32))), (0, .ref 0), (1, .int a1), (2, .int a2), (3, .int a3)]) hE dX12_isSteady_34 rfl zv_i_m1 (by decide) rfl ?_
        refine z_goto (tgt := 4) hE dX12_isSteady_37 (by decide) ?_
        exact z_sub [1, 2, 3, 4, 0] rfl (hk4_15 _ h)
set_option maxRecDepth 4000 in
theorem c_X12_laysRowsOf (a1 : Int32) (μ : ZMem) (Φ : ZMem → Prop) (h : w_X12_laysRowsOf a1 μ Φ) : zM SM yX12_laysRowsOf cX12_laysRowsOf 2 (none) 4 [.ref 0, .int a1] μ (zzV Φ) := by
  refine zM_go (own := RX12) rfl (by decide) (Nat.le_of_ble_eq_true rfl) (fun E hE => ?_)
  show zZ E (zzV Φ) 0 [(0, .ref 0), (1, .int a1)] [] μ
  unfold w_X12_laysRowsOf at h
  refine z_aload_n hE dX12_laysRowsOf_0 rfl 0 rfl ?_
  refine z_iload_n hE dX12_laysRowsOf_1 rfl 1 rfl ?_
  refine z_callV hE dX12_laysRowsOf_2 lV_X12_133 (c_X12_laysForm _ μ _ h) sM_0 rfl (Nat.le_of_ble_eq_true rfl) (by decide) rfl (zk_V (fun μ_2 h => ?_))
  refine z_aload_n hE dX12_laysRowsOf_5 rfl 0 rfl ?_
  refine z_callV hE dX12_laysRowsOf_6 lV_X12_170 (c_X12_laysRows  μ_2 _ h) sM_0 rfl (Nat.le_of_ble_eq_true rfl) (by decide) rfl (zk_V (fun μ_4 h => ?_))
  exact z_vret (st := []) hE dX12_laysRowsOf_9 rfl ⟨rfl, h⟩
set_option maxRecDepth 4000 in
theorem c_X12_read  (μ : ZMem) (Φ : Int32 → ZMem → Prop) (h : w_X12_read μ Φ) : zM SM yX12_read cX12_read 3 (some FieldType.int) 4 [.ref 0] μ (zzI Φ) := by
  refine zM_go (own := RX12) rfl (by decide) (Nat.le_of_ble_eq_true rfl) (fun E hE => ?_)
  show zZ E (zzI Φ) 0 [(0, .ref 0)] [] μ
  unfold w_X12_read at h
  refine z_aload_n hE dX12_read_0 rfl 0 rfl ?_
  refine z_iconst (v := 0) hE dX12_read_1 zv_i_0 ?_
  refine z_put hE dX12_read_2 lF_X12_256 sM_0 rfl rfl rfl ?_
  refine zn (G := fun μ_1 => zZ E (zzI Φ) 5 [(0, .ref 0)] [] μ_1) h (fun μ_1 h => ?_)
  refine z_aload_n hE dX12_read_5 rfl 0 rfl ?_
  refine z_iconst (v := -1) hE dX12_read_6 zv_i_m1 ?_
  refine z_put hE dX12_read_7 lF_X12_269 sM_0 rfl rfl rfl ?_
  refine zn (G := fun μ_2 => zZ E (zzI Φ) 10 [(0, .ref 0)] [] μ_2) h (fun μ_2 h => ?_)
  refine z_aload_n hE dX12_read_10 rfl 0 rfl ?_
  refine z_iconst (v := 0) hE dX12_read_11 zv_i_0 ?_
  refine z_put hE dX12_read_12 lF_X12_276 sM_0 rfl rfl rfl ?_
  refine zn (G := fun μ_3 => zZ E (zzI Φ) 15 [(0, .ref 0)] [] μ_3) h (fun μ_3 h => ?_)
  refine z_iconst (v := 0) hE dX12_read_15 zv_i_0 ?_
  refine z_istore_n (lv' := [(1, .int (0 : Int32)), (0, .ref 0)]) hE dX12_read_16 rfl (by decide) rfl ?_
  refine z_join (P := fun (J_5 : ZMem → Prop) => ∀ (μ_4 : ZMem), J_5 μ_4 → zZ E (zzI Φ) 36 [(0, .ref 0)] [] μ_4) h (fun μ_4 h => ?_) (fun J_5 hJ_5 h => ?_)
  · refine z_aload_n hE dX12_read_36 rfl 0 rfl ?_
    refine z_iconst (v := 0) hE dX12_read_37 zv_i_0 ?_
    refine z_callV hE dX12_read_38 lV_X12_286 (c_X12_terms _ μ_4 _ h) sM_0 rfl (Nat.le_of_ble_eq_true rfl) (by decide) rfl (zk_V (fun μ_7 h => ?_))
    refine z_aload_n hE dX12_read_41 rfl 0 rfl ?_
    refine z_callV hE dX12_read_42 lV_X12_259 (c_X12_here  μ_7 _ h) sM_0 rfl (Nat.le_of_ble_eq_true rfl) (by decide) rfl (zk_PI (fun r_8 h => ?_))
    refine z_bipush (v := 45) hE dX12_read_45 zv_b_45 ?_
    refine z_join (P := fun (J_11 : Int32 → Prop) => ∀ (x_10 : Int32), J_11 x_10 → zZ E (zzI Φ) 55 [(0, .ref 0)] [.int x_10] μ_7) h (fun x_10 h => ?_) (fun J_11 hJ_11 h => ?_)
    · refine z_istore_n (lv' := [(1, .int x_10), (0, .ref 0)]) hE dX12_read_55 rfl (by decide) rfl ?_
      refine z_aload_n hE dX12_read_56 rfl 1 rfl ?_
      refine z_getI hE dX12_read_57 lF_X12_269 sM_0 rfl ?_
      refine z_join (P := fun (J_13 : ZMem → Prop) => ∀ (μ_12 : ZMem), J_13 μ_12 → zZ E (zzI Φ) 104 [(0, .ref 0), (1, .int x_10)] [] μ_12) h (fun μ_12 h => ?_) (fun J_13 hJ_13 h => ?_)
      · refine z_aload_n hE dX12_read_104 rfl 0 rfl ?_
        refine z_getI hE dX12_read_105 lF_X12_269 sM_0 rfl ?_
        refine z_join (P := fun (J_15 : ZMem → Prop) => ∀ (μ_14 : ZMem), J_15 μ_14 → zZ E (zzI Φ) 130 [(0, .ref 0), (1, .int x_10)] [] μ_14) h (fun μ_14 h => ?_) (fun J_15 hJ_15 h => ?_)
        · refine z_aload_n hE dX12_read_130 rfl 0 rfl ?_
          refine z_iconst (v := 0) hE dX12_read_131 zv_i_0 ?_
          refine z_put hE dX12_read_132 lF_X12_253 sM_0 rfl rfl rfl ?_
          refine zn (G := fun μ_16 => zZ E (zzI Φ) 135 [(0, .ref 0), (1, .int x_10)] [] μ_16) h (fun μ_16 h => ?_)
          refine z_aload_n hE dX12_read_135 rfl 0 rfl ?_
          refine z_getI hE dX12_read_136 lF_X12_269 sM_0 rfl ?_
          refine z_if_lt (tgt := 150) hE dX12_read_139 (by decide) h (fun h => ?_) (fun h => ?_)
          · refine z_iconst (v := 0) hE dX12_read_150 zv_i_0 ?_
            refine z_istore_n (lv' := [(2, .int (0 : Int32)), (0, .ref 0), (1, .int x_10)]) hE dX12_read_151 rfl (by decide) rfl ?_
            refine z_join (P := fun (J_18 : ZMem → Prop) => ∀ (μ_17 : ZMem), J_18 μ_17 → zZ E (zzI Φ) 213 [(0, .ref 0)] [] μ_17) h (fun μ_17 h => ?_) (fun J_18 hJ_18 h => ?_)
            · refine z_aload_n hE dX12_read_213 rfl 0 rfl ?_
              refine z_dup hE dX12_read_214 rfl ?_
              refine z_getI hE dX12_read_215 lF_X12_291 sM_0 rfl ?_
              refine z_iconst (v := 1) hE dX12_read_218 zv_i_1 ?_
              refine z_iadd hE dX12_read_219 ?_
              refine z_put hE dX12_read_220 lF_X12_291 sM_0 rfl rfl rfl ?_
              refine zn (G := fun μ_19 => zZ E (zzI Φ) 223 [(0, .ref 0)] [] μ_19) h (fun μ_19 h => ?_)
              refine z_aload_n hE dX12_read_223 rfl 0 rfl ?_
              refine z_getI hE dX12_read_224 lF_X12_276 sM_0 rfl ?_
              exact z_iret (st := []) hE dX12_read_227 rfl ⟨_, rfl, h⟩
            refine z_sub [1, 2, 0] rfl ?_
            obtain ⟨n152, h⟩ := h
            refine z_loop2 (P := fun (v2_20 : Int32) (μ_21 : ZMem) => zZ E (zzI Φ) 152 [(0, .ref 0), (1, .int x_10), (2, .int v2_20)] [] μ_21) (fun k152_21 hk152_21 v2_20 μ_21 h => ?_) n152 _ _ h
            refine z_iload_n hE dX12_read_152 rfl 2 rfl ?_
            refine z_bipush (v := 7) hE dX12_read_153 zv_b_7 ?_
            refine z_icmp_ge (tgt := 213) hE dX12_read_155 (by decide) h (fun h => ?_) (fun h => ?_)
            · exact z_sub [0] rfl (hJ_18 _ h)
            · refine z_aload_n hE dX12_read_158 rfl 0 rfl ?_
              refine z_getR (t := 1) hE dX12_read_159 lF_X12_11 sM_0 rfl ?_
              refine z_iconst (v := 0) hE dX12_read_162 zv_i_0 ?_
              refine z_iload_n hE dX12_read_163 rfl 2 rfl ?_
              refine z_iadd hE dX12_read_164 ?_
              refine z_aload_n hE dX12_read_165 rfl 0 rfl ?_
              refine z_getR (t := 14) hE dX12_read_166 lF_X12_52 sM_0 rfl ?_
              refine z_iload_n hE dX12_read_169 rfl 2 rfl ?_
              obtain ⟨q_22, h⟩ := h
              refine z_iald hE dX12_read_170 sM_14 q_22 ?_
              obtain ⟨q_23, h⟩ := h
              refine z_iast hE dX12_read_171 sM_1 q_23 ?_
              refine zn (G := fun μ_24 => zZ E (zzI Φ) 172 [(0, .ref 0), (1, .int x_10), (2, .int v2_20)] [] μ_24) h (fun μ_24 h => ?_)
              refine z_aload_n hE dX12_read_172 rfl 0 rfl ?_
              refine z_getR (t := 1) hE dX12_read_173 lF_X12_11 sM_0 rfl ?_
              refine z_bipush (v := 7) hE dX12_read_176 zv_b_7 ?_
              refine z_iload_n hE dX12_read_178 rfl 2 rfl ?_
              refine z_iadd hE dX12_read_179 ?_
              refine z_iload_n hE dX12_read_180 rfl 1 rfl ?_
              refine z_join (P := fun (J_26 : Int32 → Prop) => ∀ (x_25 : Int32), J_26 x_25 → zZ E (zzI Φ) 206 [(0, .ref 0), (1, .int x_10), (2, .int v2_20)] [.int x_25, .int ((7 : Int32) + v2_20), .ref 1] μ_24) h (fun x_25 h => ?_) (fun J_26 hJ_26 h => ?_)
              · obtain ⟨q_27, h⟩ := h
                refine z_iast hE dX12_read_206 sM_1 q_27 ?_
                refine zn (G := fun μ_28 => zZ E (zzI Φ) 207 [(0, .ref 0), (1, .int x_10), (2, .int v2_20)] [] μ_28) h (fun μ_28 h => ?_)
                refine z_iinc (j := 2) (c := 1) (lv' := [(2, .int (v2_20 + (1 : Int32))), (0, .ref 0), (1, .int x_10)]) hE dX12_read_207 rfl zv_i_1 (by decide) rfl ?_
                refine z_goto (tgt := 152) hE dX12_read_210 (by decide) ?_
                exact z_sub [1, 2, 0] rfl (hk152_21 _ _ h)
              refine z_if_eq (tgt := 197) hE dX12_read_181 (by decide) h (fun h => ?_) (fun h => ?_)
              · refine z_aload_n hE dX12_read_197 rfl 0 rfl ?_
                refine z_getR (t := 14) hE dX12_read_198 lF_X12_52 sM_0 rfl ?_
                refine z_bipush (v := 7) hE dX12_read_201 zv_b_7 ?_
                refine z_iload_n hE dX12_read_203 rfl 2 rfl ?_
                refine z_iadd hE dX12_read_204 ?_
                obtain ⟨q_29, h⟩ := h
                refine z_iald hE dX12_read_205 sM_14 q_29 ?_
                exact hJ_26 _ h
              · refine z_aload_n hE dX12_read_184 rfl 0 rfl ?_
                refine z_getR (t := 14) hE dX12_read_185 lF_X12_52 sM_0 rfl ?_
                refine z_bipush (v := 7) hE dX12_read_188 zv_b_7 ?_
                refine z_iload_n hE dX12_read_190 rfl 2 rfl ?_
                refine z_iadd hE dX12_read_191 ?_
                obtain ⟨q_30, h⟩ := h
                refine z_iald hE dX12_read_192 sM_14 q_30 ?_
                refine z_ineg hE dX12_read_193 ?_
                refine z_goto (tgt := 206) hE dX12_read_194 (by decide) ?_
                exact hJ_26 _ h
          · refine z_bipush (v := -100) hE dX12_read_142 zv_b_m100 ?_
            refine z_aload_n hE dX12_read_144 rfl 0 rfl ?_
            refine z_getI hE dX12_read_145 lF_X12_269 sM_0 rfl ?_
            refine z_isub hE dX12_read_148 ?_
            exact z_iret (st := []) hE dX12_read_149 rfl ⟨_, rfl, h⟩
        refine z_if_ge (tgt := 130) hE dX12_read_108 (by decide) h (fun h => ?_) (fun h => ?_)
        · exact hJ_15 _ h
        · refine z_aload_n hE dX12_read_111 rfl 0 rfl ?_
          refine z_getI hE dX12_read_112 lF_X12_256 sM_0 rfl ?_
          refine z_aload_n hE dX12_read_115 rfl 0 rfl ?_
          refine z_getI hE dX12_read_116 lF_X12_253 sM_0 rfl ?_
          refine z_icmp_ge (tgt := 130) hE dX12_read_119 (by decide) h (fun h => ?_) (fun h => ?_)
          · exact hJ_15 _ h
          · refine z_aload_n hE dX12_read_122 rfl 0 rfl ?_
            refine z_aload_n hE dX12_read_123 rfl 0 rfl ?_
            refine z_getI hE dX12_read_124 lF_X12_256 sM_0 rfl ?_
            refine z_put hE dX12_read_127 lF_X12_269 sM_0 rfl rfl rfl ?_
            refine zn (G := fun μ_31 => zZ E (zzI Φ) 130 [(0, .ref 0), (1, .int x_10)] [] μ_31) h (fun μ_31 h => ?_)
            exact hJ_15 _ h
      refine z_if_ge (tgt := 104) hE dX12_read_60 (by decide) h (fun h => ?_) (fun h => ?_)
      · exact z_sub [1, 0] rfl (hJ_13 _ h)
      · refine z_aload_n hE dX12_read_63 rfl 1 rfl ?_
        refine z_callV hE dX12_read_64 lV_X12_283 (c_X12_isSign  μ_7 _ h) sM_0 rfl (Nat.le_of_ble_eq_true rfl) (by decide) rfl (zk_PI (fun r_32 h => ?_))
        refine z_if_eq (tgt := 104) hE dX12_read_67 (by decide) h (fun h => ?_) (fun h => ?_)
        · exact z_sub [1, 0] rfl (hJ_13 _ h)
        · refine z_aload_n hE dX12_read_70 rfl 1 rfl ?_
          refine z_dup hE dX12_read_71 rfl ?_
          refine z_getI hE dX12_read_72 lF_X12_256 sM_0 rfl ?_
          refine z_iconst (v := 2) hE dX12_read_75 zv_i_2 ?_
          refine z_iadd hE dX12_read_76 ?_
          refine z_put hE dX12_read_77 lF_X12_256 sM_0 rfl rfl rfl ?_
          refine zn (G := fun μ_34 => zZ E (zzI Φ) 80 [(1, .int x_10), (0, .ref 0)] [] μ_34) h (fun μ_34 h => ?_)
          refine z_aload_n hE dX12_read_80 rfl 1 rfl ?_
          refine z_bipush (v := 40) hE dX12_read_81 zv_b_40 ?_
          refine z_callV hE dX12_read_83 lV_X12_288 (c_X12_must _ μ_34 _ h) sM_0 rfl (Nat.le_of_ble_eq_true rfl) (by decide) rfl (zk_V (fun μ_36 h => ?_))
          refine z_aload_n hE dX12_read_86 rfl 1 rfl ?_
          refine z_getI hE dX12_read_87 lF_X12_269 sM_0 rfl ?_
          refine z_join (P := fun (J_38 : ZMem → Prop) => ∀ (μ_37 : ZMem), J_38 μ_37 → zZ E (zzI Φ) 98 [(0, .ref 0), (1, .int x_10)] [] μ_37) h (fun μ_37 h => ?_) (fun J_38 hJ_38 h => ?_)
          · refine z_aload_n hE dX12_read_98 rfl 0 rfl ?_
            refine z_bipush (v := 41) hE dX12_read_99 zv_b_41 ?_
            refine z_callV hE dX12_read_101 lV_X12_288 (c_X12_must _ μ_37 _ h) sM_0 rfl (Nat.le_of_ble_eq_true rfl) (by decide) rfl (zk_V (fun μ_40 h => ?_))
            exact hJ_13 _ h
          refine z_if_ge (tgt := 98) hE dX12_read_90 (by decide) h (fun h => ?_) (fun h => ?_)
          · exact z_sub [1, 0] rfl (hJ_38 _ h)
          · refine z_aload_n hE dX12_read_93 rfl 1 rfl ?_
            refine z_iconst (v := 1) hE dX12_read_94 zv_i_1 ?_
            refine z_callV hE dX12_read_95 lV_X12_286 (c_X12_terms _ μ_36 _ h) sM_0 rfl (Nat.le_of_ble_eq_true rfl) (by decide) rfl (zk_V (fun μ_42 h => ?_))
            exact z_sub [1, 0] rfl (hJ_38 _ h)
    refine z_icmp_ne (tgt := 54) hE dX12_read_47 (by decide) h (fun h => ?_) (fun h => ?_)
    · refine z_iconst (v := 0) hE dX12_read_54 zv_i_0 ?_
      exact hJ_11 _ h
    · refine z_iconst (v := 1) hE dX12_read_50 zv_i_1 ?_
      refine z_goto (tgt := 55) hE dX12_read_51 (by decide) ?_
      exact hJ_11 _ h
  refine z_sub [1, 0] rfl ?_
  obtain ⟨n17, h⟩ := h
  refine z_loop2 (P := fun (v1_43 : Int32) (μ_44 : ZMem) => zZ E (zzI Φ) 17 [(0, .ref 0), (1, .int v1_43)] [] μ_44) (fun k17_44 hk17_44 v1_43 μ_44 h => ?_) n17 _ _ h
  refine z_iload_n hE dX12_read_17 rfl 1 rfl ?_
  refine z_bipush (v := 14) hE dX12_read_18 zv_b_14 ?_
  refine z_icmp_ge (tgt := 36) hE dX12_read_20 (by decide) h (fun h => ?_) (fun h => ?_)
  · exact z_sub [0] rfl (hJ_5 _ h)
  · refine z_aload_n hE dX12_read_23 rfl 0 rfl ?_
    refine z_getR (t := 14) hE dX12_read_24 lF_X12_52 sM_0 rfl ?_
    refine z_iload_n hE dX12_read_27 rfl 1 rfl ?_
    refine z_iconst (v := 0) hE dX12_read_28 zv_i_0 ?_
    obtain ⟨q_45, h⟩ := h
    refine z_iast hE dX12_read_29 sM_14 q_45 ?_
    refine zn (G := fun μ_46 => zZ E (zzI Φ) 30 [(0, .ref 0), (1, .int v1_43)] [] μ_46) h (fun μ_46 h => ?_)
    refine z_iinc (j := 1) (c := 1) (lv' := [(1, .int (v1_43 + (1 : Int32))), (0, .ref 0)]) hE dX12_read_30 rfl zv_i_1 (by decide) rfl ?_
    refine z_goto (tgt := 17) hE dX12_read_33 (by decide) ?_
    exact z_sub [1, 0] rfl (hk17_44 _ _ h)
set_option maxRecDepth 4000 in
theorem c_X12_rightsAt (a1 : Int32) (μ : ZMem) (Φ : Int32 → ZMem → Prop) (h : w_X12_rightsAt a1 μ Φ) : zM SM yX12_rightsAt cX12_rightsAt 2 (some FieldType.int) 4 [.ref 0, .int a1] μ (zzI Φ) := by
  refine zM_go (own := RX12) rfl (by decide) (Nat.le_of_ble_eq_true rfl) (fun E hE => ?_)
  show zZ E (zzI Φ) 0 [(0, .ref 0), (1, .int a1)] [] μ
  unfold w_X12_rightsAt at h
  refine z_aload_n hE dX12_rightsAt_0 rfl 0 rfl ?_
  refine z_iconst (v := 1) hE dX12_rightsAt_1 zv_i_1 ?_
  refine z_iload_n hE dX12_rightsAt_2 rfl 1 rfl ?_
  refine z_callV hE dX12_rightsAt_3 lV_X12_97 (c_X12_takes _ _ μ _ h) sM_0 rfl (Nat.le_of_ble_eq_true rfl) (by decide) rfl (zk_V (fun μ_2 h => ?_))
  refine z_aload_n hE dX12_rightsAt_6 rfl 0 rfl ?_
  refine z_iconst (v := 0) hE dX12_rightsAt_7 zv_i_0 ?_
  refine z_callV hE dX12_rightsAt_8 lV_X12_127 (c_X12_forms _ μ_2 _ h) sM_0 rfl (Nat.le_of_ble_eq_true rfl) (by decide) rfl (zk_V (fun μ_4 h => ?_))
  refine z_aload_n hE dX12_rightsAt_11 rfl 0 rfl ?_
  refine z_callV hE dX12_rightsAt_12 lV_X12_170 (c_X12_laysRows  μ_4 _ h) sM_0 rfl (Nat.le_of_ble_eq_true rfl) (by decide) rfl (zk_V (fun μ_6 h => ?_))
  refine z_aload_n hE dX12_rightsAt_15 rfl 0 rfl ?_
  refine z_getI hE dX12_rightsAt_16 lF_X12_69 sM_0 rfl ?_
  refine z_if_eq (tgt := 27) hE dX12_rightsAt_19 (by decide) h (fun h => ?_) (fun h => ?_)
  · refine z_aload_n hE dX12_rightsAt_27 rfl 0 rfl ?_
    refine z_callV hE dX12_rightsAt_28 lV_X12_187 (c_X12_right  μ_6 _ h) sM_0 rfl (Nat.le_of_ble_eq_true rfl) (by decide) rfl (zk_PI (fun r_7 h => ?_))
    exact z_iret (st := []) hE dX12_rightsAt_31 rfl ⟨_, rfl, h⟩
  · refine z_bipush (v := -7) hE dX12_rightsAt_22 zv_b_m7 ?_
    refine z_goto (tgt := 31) hE dX12_rightsAt_24 (by decide) ?_
    exact z_iret (st := []) hE dX12_rightsAt_31 rfl ⟨_, rfl, h⟩
set_option maxRecDepth 4000 in
theorem c_X6_edge (t : Nat) (a1 : Int32) (a2 : Int32) (h0 : zT_Spans t) (μ : ZMem) (Φ : Int32 → ZMem → Prop) (h : w_X6_edge t a1 a2 μ Φ) : zM SX yX6_edge cX6_edge 9 (some FieldType.int) 4 [.ref t, .int a1, .int a2, .ref 1, .ref 50] μ (zzI Φ) := by
  refine zM_go (own := RX6) rfl (by decide) (Nat.le_of_ble_eq_true rfl) (fun E hE => ?_)
  show zZ E (zzI Φ) 0 [(0, .ref t), (1, .int a1), (2, .int a2), (3, .ref 1), (4, .ref 50)] [] μ
  unfold w_X6_edge at h
  refine z_bipush (v := 16) hE dX6_edge_0 zv_b_16 ?_
  refine z_iload_n hE dX6_edge_2 rfl 1 rfl ?_
  refine z_imul hE dX6_edge_3 ?_
  refine z_istore (lv' := [(5, .int ((16 : Int32) * a1)), (0, .ref t), (1, .int a1), (2, .int a2), (3, .ref 1), (4, .ref 50)]) hE dX6_edge_4 (by decide) rfl ?_
  refine zn (G := fun v5_1 => zZ E (zzI Φ) 6 [(5, .int v5_1), (0, .ref t), (1, .int a1), (2, .int a2), (3, .ref 1), (4, .ref 50)] [] μ) h (fun v5_1 h => ?_)
  refine z_bipush (v := 16) hE dX6_edge_6 zv_b_16 ?_
  refine z_iload_n hE dX6_edge_8 rfl 3 rfl ?_
  refine z_imul hE dX6_edge_9 ?_
  refine z_istore (lv' := [(6, .int ((16 : Int32) * a2)), (5, .int v5_1), (0, .ref t), (1, .int a1), (2, .int a2), (3, .ref 1), (4, .ref 50)]) hE dX6_edge_10 (by decide) rfl ?_
  refine zn (G := fun v6_2 => zZ E (zzI Φ) 12 [(6, .int v6_2), (5, .int v5_1), (0, .ref t), (1, .int a1), (2, .int a2), (3, .ref 1), (4, .ref 50)] [] μ) h (fun v6_2 h => ?_)
  refine z_iconst (v := 0) hE dX6_edge_12 zv_i_0 ?_
  refine z_istore (lv' := [(7, .int (0 : Int32)), (6, .int v6_2), (5, .int v5_1), (0, .ref t), (1, .int a1), (2, .int a2), (3, .ref 1), (4, .ref 50)]) hE dX6_edge_13 (by decide) rfl ?_
  refine z_sub [3, 6, 7, 2, 1, 0] rfl ?_
  obtain ⟨n15, h⟩ := h
  refine z_loop4 (P := fun (v5_3 : Int32) (v6_4 : Int32) (v7_5 : Int32) (μ_6 : ZMem) => zZ E (zzI Φ) 15 [(0, .ref t), (3, .ref 1), (4, .ref 50), (5, .int v5_3), (6, .int v6_4), (7, .int v7_5)] [] μ_6) (fun k15_6 hk15_6 v5_3 v6_4 v7_5 μ_6 h => ?_) n15 _ _ _ _ h
  refine z_iload hE dX6_edge_15 5 rfl ?_
  refine z_iconst (v := 4) hE dX6_edge_17 zv_i_4 ?_
  refine z_icmp_ge (tgt := 64) hE dX6_edge_18 (by decide) h (fun h => ?_) (fun h => ?_)
  · refine z_iload hE dX6_edge_64 3 rfl ?_
    exact z_iret (st := []) hE dX6_edge_66 rfl ⟨_, rfl, h⟩
  · refine z_iload hE dX6_edge_21 3 rfl ?_
    refine z_iload hE dX6_edge_23 4 rfl ?_
    refine z_iadd hE dX6_edge_25 ?_
    refine z_iconst (v := 2) hE dX6_edge_26 zv_i_2 ?_
    refine z_idiv hE dX6_edge_27 (by decide) ?_
    refine z_istore (lv' := [(8, .int ((v5_3 + v6_4) / (2 : Int32))), (0, .ref t), (3, .ref 1), (4, .ref 50), (5, .int v5_3), (6, .int v6_4), (7, .int v7_5)]) hE dX6_edge_28 (by decide) rfl ?_
    refine zn (G := fun v8_7 => zZ E (zzI Φ) 30 [(8, .int v8_7), (0, .ref t), (3, .ref 1), (4, .ref 50), (5, .int v5_3), (6, .int v6_4), (7, .int v7_5)] [] μ_6) h (fun v8_7 h => ?_)
    refine z_aload hE dX6_edge_30 3 rfl ?_
    refine z_aload_n hE dX6_edge_32 rfl 2 rfl ?_
    refine z_aload_n hE dX6_edge_33 rfl 1 rfl ?_
    refine z_getI hE dX6_edge_34 lF_X6_18 h0.1 rfl ?_
    refine z_bipush (v := 16) hE dX6_edge_37 zv_b_16 ?_
    refine z_iload hE dX6_edge_39 0 rfl ?_
    refine z_callV hE dX6_edge_41 lV_X6_29 (c_X7_holds _ _ _ μ_6 _ h) sX_50 rfl (Nat.le_of_ble_eq_true rfl) (by decide) rfl (zk_I (fun r_8 μ_9 h => ?_))
    refine z_join (P := fun (J_12 : Int32 → Int32 → Prop) => ∀ (v5_10 : Int32) (v6_11 : Int32), J_12 v5_10 v6_11 → zZ E (zzI Φ) 58 [(0, .ref t), (3, .ref 1), (4, .ref 50), (5, .int v5_10), (6, .int v6_11), (7, .int v7_5)] [] μ_9) h (fun v5_10 v6_11 h => ?_) (fun J_12 hJ_12 h => ?_)
    · refine z_iinc (j := 5) (c := 1) (lv' := [(7, .int (v7_5 + (1 : Int32))), (0, .ref t), (3, .ref 1), (4, .ref 50), (5, .int v5_10), (6, .int v6_11)]) hE dX6_edge_58 rfl zv_i_1 (by decide) rfl ?_
      refine z_goto (tgt := 15) hE dX6_edge_61 (by decide) ?_
      exact z_sub [1, 2, 3, 4, 5, 0] rfl (hk15_6 _ _ _ _ h)
    refine z_if_eq (tgt := 54) hE dX6_edge_44 (by decide) h (fun h => ?_) (fun h => ?_)
    · refine z_iload hE dX6_edge_54 0 rfl ?_
      refine z_istore (lv' := [(6, .int v8_7), (8, .int v8_7), (0, .ref t), (3, .ref 1), (4, .ref 50), (5, .int v5_3), (7, .int v7_5)]) hE dX6_edge_56 (by decide) rfl ?_
      exact z_sub [2, 3, 4, 5, 0, 6] rfl (hJ_12 _ _ h)
    · refine z_iload hE dX6_edge_47 0 rfl ?_
      refine z_istore (lv' := [(5, .int v8_7), (8, .int v8_7), (0, .ref t), (3, .ref 1), (4, .ref 50), (6, .int v6_4), (7, .int v7_5)]) hE dX6_edge_49 (by decide) rfl ?_
      refine z_goto (tgt := 58) hE dX6_edge_51 (by decide) ?_
      exact z_sub [2, 3, 4, 0, 5, 6] rfl (hJ_12 _ _ h)
