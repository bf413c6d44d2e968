set_option maxRecDepth 4000 in
theorem c_X0_coefficient (a1 : Int32) (a2 : Int32) (μ : ZMem) (Φ : Int64 → Prop) (h : w_X0_coefficient a1 a2 μ Φ) : zM SX yX0_coefficient cX0_coefficient 3 (some FieldType.long) 0 [.ref 40, .int a1, .int a2] μ (zzPJ Φ μ) := by
  refine zM_go (own := RX0) rfl (by decide) (Nat.le_of_ble_eq_true rfl) (fun E hE => ?_)
  show zZ E (zzPJ Φ μ) 0 [(0, .ref 40), (1, .int a1), (2, .int a2)] [] μ
  unfold w_X0_coefficient at h
  refine z_aload_n hE dX0_coefficient_0 rfl 0 rfl ?_
  refine z_getR (t := 41) hE dX0_coefficient_1 lF_X0_11 sX_40 rfl ?_
  refine z_iload_n hE dX0_coefficient_4 rfl 1 rfl ?_
  obtain ⟨q_1, h⟩ := h
  refine z_aald1 hE dX0_coefficient_5 sX_41 (fun _ => rfl) rfl q_1 ?_
  refine z_iload_n hE dX0_coefficient_6 rfl 2 rfl ?_
  obtain ⟨q_2, h⟩ := h
  refine z_lald hE dX0_coefficient_7 (sXr_42 _ (zz_in_lt q_1)) q_2 ?_
  exact z_lret (st := []) hE dX0_coefficient_8 rfl ⟨_, rfl, rfl, h⟩
set_option maxRecDepth 4000 in
theorem c_X10_become (t : Nat) (a1 : Int32) (a2 : Int32) (h0 : zT_Tray t) (μ : ZMem) (Φ : ZMem → Prop) (h : w_X10_become t a1 a2 μ Φ) : zM SX yX10_become cX10_become 4 (none) 0 [.ref t, .int a1, .int a2] μ (zzV Φ) := by
  refine zM_go (own := RX10) rfl (by decide) (Nat.le_of_ble_eq_true rfl) (fun E hE => ?_)
  show zZ E (zzV Φ) 0 [(0, .ref t), (1, .int a1), (2, .int a2)] [] μ
  unfold w_X10_become at h
  refine z_aload_n hE dX10_become_0 rfl 0 rfl ?_
  refine z_iload_n hE dX10_become_1 rfl 1 rfl ?_
  refine z_put hE dX10_become_2 lF_X10_15 h0.1 rfl rfl rfl ?_
  refine zn (G := fun μ_1 => zZ E (zzV Φ) 5 [(0, .ref t), (1, .int a1), (2, .int a2)] [] μ_1) h (fun μ_1 h => ?_)
  refine z_aload_n hE dX10_become_5 rfl 0 rfl ?_
  refine z_iload_n hE dX10_become_6 rfl 2 rfl ?_
  refine z_put hE dX10_become_7 lF_X10_19 h0.1 rfl rfl rfl ?_
  refine zn (G := fun μ_2 => zZ E (zzV Φ) 10 [(0, .ref t), (1, .int a1), (2, .int a2)] [] μ_2) h (fun μ_2 h => ?_)
  refine z_iconst (v := 0) hE dX10_become_10 zv_i_0 ?_
  refine z_istore_n (lv' := [(3, .int (0 : Int32)), (0, .ref t), (1, .int a1), (2, .int a2)]) hE dX10_become_11 rfl (by decide) rfl ?_
  refine z_sub [1, 0] rfl ?_
  obtain ⟨n12, h⟩ := h
  refine z_loop2 (P := fun (v3_3 : Int32) (μ_4 : ZMem) => zZ E (zzV Φ) 12 [(0, .ref t), (3, .int v3_3)] [] μ_4) (fun k12_4 hk12_4 v3_3 μ_4 h => ?_) n12 _ _ h
  refine z_iload_n hE dX10_become_12 rfl 1 rfl ?_
  refine z_bipush (v := 30) hE dX10_become_13 zv_b_30 ?_
  refine z_icmp_ge (tgt := 31) hE dX10_become_15 (by decide) h (fun h => ?_) (fun h => ?_)
  · exact z_vret (st := []) hE dX10_become_31 rfl ⟨rfl, h⟩
  · refine z_aload_n hE dX10_become_18 rfl 0 rfl ?_
    refine z_getR (t := (t + 1)) hE dX10_become_19 lF_X10_9 h0.1 rfl ?_
    refine z_iload_n hE dX10_become_22 rfl 1 rfl ?_
    refine z_lconst (v := 0) hE dX10_become_23 zv_l_0 ?_
    obtain ⟨q_5, h⟩ := h
    refine z_last hE dX10_become_24 h0.2 q_5 ?_
    refine zn (G := fun μ_6 => zZ E (zzV Φ) 25 [(0, .ref t), (3, .int v3_3)] [] μ_6) h (fun μ_6 h => ?_)
    refine z_iinc (j := 1) (c := 1) (lv' := [(3, .int (v3_3 + (1 : Int32))), (0, .ref t)]) hE dX10_become_25 rfl zv_i_1 (by decide) rfl ?_
    refine z_goto (tgt := 12) hE dX10_become_28 (by decide) ?_
    exact z_sub [1, 0] rfl (hk12_4 _ _ h)
set_option maxRecDepth 4000 in
theorem c_X10_hasPart (t : Nat) (a1 : Int32) (a2 : Int32) (h0 : zT_Tray t) (μ : ZMem) (Φ : Int32 → Prop) (h : w_X10_hasPart t a1 a2 μ Φ) : zM SX yX10_hasPart cX10_hasPart 3 (some FieldType.boolean) 0 [.ref t, .int a1, .int a2] μ (zzPI Φ μ) := by
  refine zM_go (own := RX10) rfl (by decide) (Nat.le_of_ble_eq_true rfl) (fun E hE => ?_)
  show zZ E (zzPI Φ μ) 0 [(0, .ref t), (1, .int a1), (2, .int a2)] [] μ
  unfold w_X10_hasPart at h
  refine z_iload_n hE dX10_hasPart_0 rfl 2 rfl ?_
  refine z_if_lt (tgt := 30) hE dX10_hasPart_1 (by decide) h (fun h => ?_) (fun h => ?_)
  · refine z_iconst (v := 0) hE dX10_hasPart_30 zv_i_0 ?_
    exact z_zret (st := []) hE dX10_hasPart_31 rfl (by decide) ⟨_, rfl, rfl, h⟩
  · refine z_iload_n hE dX10_hasPart_4 rfl 2 rfl ?_
    refine z_aload_n hE dX10_hasPart_5 rfl 0 rfl ?_
    refine z_getI hE dX10_hasPart_6 lF_X10_19 h0.1 rfl ?_
    refine z_icmp_gt (tgt := 30) hE dX10_hasPart_9 (by decide) h (fun h => ?_) (fun h => ?_)
    · refine z_iconst (v := 0) hE dX10_hasPart_30 zv_i_0 ?_
      exact z_zret (st := []) hE dX10_hasPart_31 rfl (by decide) ⟨_, rfl, rfl, h⟩
    · refine z_iload_n hE dX10_hasPart_12 rfl 1 rfl ?_
      refine z_if_lt (tgt := 30) hE dX10_hasPart_13 (by decide) h (fun h => ?_) (fun h => ?_)
      · refine z_iconst (v := 0) hE dX10_hasPart_30 zv_i_0 ?_
        exact z_zret (st := []) hE dX10_hasPart_31 rfl (by decide) ⟨_, rfl, rfl, h⟩
      · refine z_iload_n hE dX10_hasPart_16 rfl 1 rfl ?_
        refine z_aload_n hE dX10_hasPart_17 rfl 0 rfl ?_
        refine z_getI hE dX10_hasPart_18 lF_X10_19 h0.1 rfl ?_
        refine z_iload_n hE dX10_hasPart_21 rfl 2 rfl ?_
        refine z_isub hE dX10_hasPart_22 ?_
        refine z_icmp_gt (tgt := 30) hE dX10_hasPart_23 (by decide) h (fun h => ?_) (fun h => ?_)
        · refine z_iconst (v := 0) hE dX10_hasPart_30 zv_i_0 ?_
          exact z_zret (st := []) hE dX10_hasPart_31 rfl (by decide) ⟨_, rfl, rfl, h⟩
        · refine z_iconst (v := 1) hE dX10_hasPart_26 zv_i_1 ?_
          refine z_goto (tgt := 31) hE dX10_hasPart_27 (by decide) ?_
          exact z_zret (st := []) hE dX10_hasPart_31 rfl (by decide) ⟨_, rfl, rfl, h⟩
set_option maxRecDepth 4000 in
theorem c_X10_isNothing (t : Nat) (h0 : zT_Tray t) (μ : ZMem) (Φ : Int32 → Prop) (h : w_X10_isNothing t μ Φ) : zM SX yX10_isNothing cX10_isNothing 1 (some FieldType.boolean) 0 [.ref t] μ (zzPI Φ μ) := by
  refine zM_go (own := RX10) rfl (by decide) (Nat.le_of_ble_eq_true rfl) (fun E hE => ?_)
  show zZ E (zzPI Φ μ) 0 [(0, .ref t)] [] μ
  unfold w_X10_isNothing at h
  refine z_aload_n hE dX10_isNothing_0 rfl 0 rfl ?_
  refine z_getI hE dX10_isNothing_1 lF_X10_15 h0.1 rfl ?_
  refine z_iconst (v := -1) hE dX10_isNothing_4 zv_i_m1 ?_
  refine z_icmp_ne (tgt := 12) hE dX10_isNothing_5 (by decide) h (fun h => ?_) (fun h => ?_)
  · refine z_iconst (v := 0) hE dX10_isNothing_12 zv_i_0 ?_
    exact z_zret (st := []) hE dX10_isNothing_13 rfl (by decide) ⟨_, rfl, rfl, h⟩
  · refine z_iconst (v := 1) hE dX10_isNothing_8 zv_i_1 ?_
    refine z_goto (tgt := 13) hE dX10_isNothing_9 (by decide) ?_
    exact z_zret (st := []) hE dX10_isNothing_13 rfl (by decide) ⟨_, rfl, rfl, h⟩
set_option maxRecDepth 4000 in
theorem c_X10_store (t : Nat) (a1 : Int32) (a2 : Int64) (h0 : zT_Tray t) (μ : ZMem) (Φ : ZMem → Prop) (h : w_X10_store t a1 a2 μ Φ) : zM SX yX10_store cX10_store 4 (none) 0 [.ref t, .int a1, .long a2] μ (zzV Φ) := by
  refine zM_go (own := RX10) rfl (by decide) (Nat.le_of_ble_eq_true rfl) (fun E hE => ?_)
  show zZ E (zzV Φ) 0 [(0, .ref t), (1, .int a1), (2, .long a2)] [] μ
  unfold w_X10_store at h
  refine z_aload_n hE dX10_store_0 rfl 0 rfl ?_
  refine z_getR (t := (t + 1)) hE dX10_store_1 lF_X10_9 h0.1 rfl ?_
  refine z_iload_n hE dX10_store_4 rfl 1 rfl ?_
  refine z_aload_n hE dX10_store_5 rfl 0 rfl ?_
  refine z_getI hE dX10_store_6 lF_X10_15 h0.1 rfl ?_
  refine z_iconst (v := 1) hE dX10_store_9 zv_i_1 ?_
  refine z_join (P := fun (J_2 : Int64 → Prop) => ∀ (x_1 : Int64), J_2 x_1 → zZ E (zzV Φ) 20 [] [.long x_1, .int a1, .ref (t + 1)] μ) h (fun x_1 h => ?_) (fun J_2 hJ_2 h => ?_)
  · obtain ⟨q_3, h⟩ := h
    refine z_last hE dX10_store_20 h0.2 q_3 ?_
    refine zn (G := fun μ_4 => zZ E (zzV Φ) 21 [] [] μ_4) h (fun μ_4 h => ?_)
    exact z_vret (st := []) hE dX10_store_21 rfl ⟨rfl, h⟩
  refine z_icmp_ne (tgt := 19) hE dX10_store_10 (by decide) h (fun h => ?_) (fun h => ?_)
  · refine z_lload_n hE dX10_store_19 rfl 2 rfl ?_
    exact z_sub [] rfl (hJ_2 _ h)
  · refine z_lload_n hE dX10_store_13 rfl 2 rfl ?_
    refine z_l2i hE dX10_store_14 ?_
    refine z_i2l hE dX10_store_15 ?_
    refine z_goto (tgt := 20) hE dX10_store_16 (by decide) ?_
    exact z_sub [] rfl (hJ_2 _ h)
set_option maxRecDepth 4000 in
theorem c_X11_forgetSurveys  (μ : ZMem) (Φ : ZMem → Prop) (h : w_X11_forgetSurveys μ Φ) : zM SX yX11_forgetSurveys cX11_forgetSurveys 1 (none) 0 [.ref 0] μ (zzV Φ) := by
  refine zM_go (own := RX11) rfl (by decide) (Nat.le_of_ble_eq_true rfl) (fun E hE => ?_)
  show zZ E (zzV Φ) 0 [(0, .ref 0)] [] μ
  unfold w_X11_forgetSurveys at h
  refine z_aload_n hE dX11_forgetSurveys_0 rfl 0 rfl ?_
  refine z_getR (t := 64) hE dX11_forgetSurveys_1 lF_X11_60 sX_0 rfl ?_
  refine z_iconst (v := 0) hE dX11_forgetSurveys_4 zv_i_0 ?_
  refine z_put hE dX11_forgetSurveys_5 lF_X11_372 sX_64 rfl (by decide) (by decide) ?_
  refine zn (G := fun μ_1 => zZ E (zzV Φ) 8 [(0, .ref 0)] [] μ_1) h (fun μ_1 h => ?_)
  refine z_aload_n hE dX11_forgetSurveys_8 rfl 0 rfl ?_
  refine z_getR (t := 67) hE dX11_forgetSurveys_9 lF_X11_64 sX_0 rfl ?_
  refine z_iconst (v := 0) hE dX11_forgetSurveys_12 zv_i_0 ?_
  refine z_put hE dX11_forgetSurveys_13 lF_X11_372 sX_67 rfl (by decide) (by decide) ?_
  refine zn (G := fun μ_2 => zZ E (zzV Φ) 16 [(0, .ref 0)] [] μ_2) h (fun μ_2 h => ?_)
  refine z_aload_n hE dX11_forgetSurveys_16 rfl 0 rfl ?_
  refine z_getR (t := 70) hE dX11_forgetSurveys_17 lF_X11_70 sX_0 rfl ?_
  refine z_iconst (v := 0) hE dX11_forgetSurveys_20 zv_i_0 ?_
  refine z_put hE dX11_forgetSurveys_21 lF_X11_375 sX_70 rfl (by decide) (by decide) ?_
  refine zn (G := fun μ_3 => zZ E (zzV Φ) 24 [(0, .ref 0)] [] μ_3) h (fun μ_3 h => ?_)
  exact z_vret (st := []) hE dX11_forgetSurveys_24 rfl ⟨rfl, h⟩
set_option maxRecDepth 4000 in
theorem c_X11_isForm (a0 : Int32) (μ : ZMem) (Φ : Int32 → Prop) (h : w_X11_isForm a0 Φ) : zM SX yX11_isForm cX11_isForm 2 (some FieldType.boolean) 0 [.int a0] μ (zzPI Φ μ) := by
  refine zM_go (own := RX11) rfl (by decide) (Nat.le_of_ble_eq_true rfl) (fun E hE => ?_)
  show zZ E (zzPI Φ μ) 0 [(0, .int a0)] [] μ
  unfold w_X11_isForm at h
  refine z_iload_n hE dX11_isForm_0 rfl 0 rfl ?_
  refine z_join (P := fun (J_2 : Int32 → Prop) => ∀ (x_1 : Int32), J_2 x_1 → zZ E (zzPI Φ μ) 14 [(0, .int a0)] [.int x_1] μ) h (fun x_1 h => ?_) (fun J_2 hJ_2 h => ?_)
  · refine z_istore_n (lv' := [(1, .int x_1), (0, .int a0)]) hE dX11_isForm_14 rfl (by decide) rfl ?_
    refine z_iload_n hE dX11_isForm_15 rfl 0 rfl ?_
    refine z_if_ne (tgt := 31) hE dX11_isForm_16 (by decide) h (fun h => ?_) (fun h => ?_)
    · refine z_iconst (v := 1) hE dX11_isForm_31 zv_i_1 ?_
      refine z_goto (tgt := 36) hE dX11_isForm_32 (by decide) ?_
      exact z_zret (st := []) hE dX11_isForm_36 rfl (by decide) ⟨_, rfl, rfl, h⟩
    · refine z_iload_n hE dX11_isForm_19 rfl 1 rfl ?_
      refine z_bipush (v := 10) hE dX11_isForm_20 zv_b_10 ?_
      refine z_icmp_lt (tgt := 35) hE dX11_isForm_22 (by decide) h (fun h => ?_) (fun h => ?_)
      · refine z_iconst (v := 0) hE dX11_isForm_35 zv_i_0 ?_
        exact z_zret (st := []) hE dX11_isForm_36 rfl (by decide) ⟨_, rfl, rfl, h⟩
      · refine z_iload_n hE dX11_isForm_25 rfl 1 rfl ?_
        refine z_bipush (v := 50) hE dX11_isForm_26 zv_b_50 ?_
        refine z_icmp_gt (tgt := 35) hE dX11_isForm_28 (by decide) h (fun h => ?_) (fun h => ?_)
        · refine z_iconst (v := 0) hE dX11_isForm_35 zv_i_0 ?_
          exact z_zret (st := []) hE dX11_isForm_36 rfl (by decide) ⟨_, rfl, rfl, h⟩
        · refine z_iconst (v := 1) hE dX11_isForm_31 zv_i_1 ?_
          refine z_goto (tgt := 36) hE dX11_isForm_32 (by decide) ?_
          exact z_zret (st := []) hE dX11_isForm_36 rfl (by decide) ⟨_, rfl, rfl, h⟩
  refine z_join (P := fun (J_3 : Prop) => J_3 → zZ E (zzPI Φ μ) 13 [(0, .int a0)] [] μ) h (fun  h => ?_) (fun J_3 hJ_3 h => ?_)
  · refine z_iconst (v := 0) hE dX11_isForm_13 zv_i_0 ?_
    exact hJ_2 _ h
  refine z_if_lt (tgt := 13) hE dX11_isForm_1 (by decide) h (fun h => ?_) (fun h => ?_)
  · exact hJ_3 h
  · refine z_iload_n hE dX11_isForm_4 rfl 0 rfl ?_
    refine z_iconst (v := 3) hE dX11_isForm_5 zv_i_3 ?_
    refine z_icmp_gt (tgt := 13) hE dX11_isForm_6 (by decide) h (fun h => ?_) (fun h => ?_)
    · exact hJ_3 h
    · refine z_iconst (v := 1) hE dX11_isForm_9 zv_i_1 ?_
      refine z_goto (tgt := 14) hE dX11_isForm_10 (by decide) ?_
      exact hJ_2 _ h
set_option maxRecDepth 4000 in
theorem c_X11_isKind (a0 : Int32) (μ : ZMem) (Φ : Int32 → Prop) (h : w_X11_isKind a0 Φ) : zM SX yX11_isKind cX11_isKind 1 (some FieldType.boolean) 0 [.int a0] μ (zzPI Φ μ) := by
  refine zM_go (own := RX11) rfl (by decide) (Nat.le_of_ble_eq_true rfl) (fun E hE => ?_)
  show zZ E (zzPI Φ μ) 0 [(0, .int a0)] [] μ
  unfold w_X11_isKind at h
  refine z_iload_n hE dX11_isKind_0 rfl 0 rfl ?_
  refine z_if_eq (tgt := 9) hE dX11_isKind_1 (by decide) h (fun h => ?_) (fun h => ?_)
  · refine z_iconst (v := 1) hE dX11_isKind_9 zv_i_1 ?_
    refine z_goto (tgt := 14) hE dX11_isKind_10 (by decide) ?_
    exact z_zret (st := []) hE dX11_isKind_14 rfl (by decide) ⟨_, rfl, rfl, h⟩
  · refine z_iload_n hE dX11_isKind_4 rfl 0 rfl ?_
    refine z_iconst (v := 1) hE dX11_isKind_5 zv_i_1 ?_
    refine z_icmp_ne (tgt := 13) hE dX11_isKind_6 (by decide) h (fun h => ?_) (fun h => ?_)
    · refine z_iconst (v := 0) hE dX11_isKind_13 zv_i_0 ?_
      exact z_zret (st := []) hE dX11_isKind_14 rfl (by decide) ⟨_, rfl, rfl, h⟩
    · refine z_iconst (v := 1) hE dX11_isKind_9 zv_i_1 ?_
      refine z_goto (tgt := 14) hE dX11_isKind_10 (by decide) ?_
      exact z_zret (st := []) hE dX11_isKind_14 rfl (by decide) ⟨_, rfl, rfl, h⟩
set_option maxRecDepth 4000 in
theorem c_X11_isPower (a0 : Int32) (μ : ZMem) (Φ : Int32 → Prop) (h : w_X11_isPower a0 Φ) : zM SX yX11_isPower cX11_isPower 1 (some FieldType.boolean) 0 [.int a0] μ (zzPI Φ μ) := by
  refine zM_go (own := RX11) rfl (by decide) (Nat.le_of_ble_eq_true rfl) (fun E hE => ?_)
  show zZ E (zzPI Φ μ) 0 [(0, .int a0)] [] μ
  unfold w_X11_isPower at h
  refine z_iload_n hE dX11_isPower_0 rfl 0 rfl ?_
  refine z_if_lt (tgt := 14) hE dX11_isPower_1 (by decide) h (fun h => ?_) (fun h => ?_)
  · refine z_iconst (v := 0) hE dX11_isPower_14 zv_i_0 ?_
    exact z_zret (st := []) hE dX11_isPower_15 rfl (by decide) ⟨_, rfl, rfl, h⟩
  · refine z_iload_n hE dX11_isPower_4 rfl 0 rfl ?_
    refine z_bipush (v := 7) hE dX11_isPower_5 zv_b_7 ?_
    refine z_icmp_ge (tgt := 14) hE dX11_isPower_7 (by decide) h (fun h => ?_) (fun h => ?_)
    · refine z_iconst (v := 0) hE dX11_isPower_14 zv_i_0 ?_
      exact z_zret (st := []) hE dX11_isPower_15 rfl (by decide) ⟨_, rfl, rfl, h⟩
    · refine z_iconst (v := 1) hE dX11_isPower_10 zv_i_1 ?_
      refine z_goto (tgt := 15) hE dX11_isPower_11 (by decide) ?_
      exact z_zret (st := []) hE dX11_isPower_15 rfl (by decide) ⟨_, rfl, rfl, h⟩
set_option maxRecDepth 4000 in
theorem c_X11_isTray (a0 : Int32) (μ : ZMem) (Φ : Int32 → Prop) (h : w_X11_isTray a0 Φ) : zM SX yX11_isTray cX11_isTray 1 (some FieldType.boolean) 0 [.int a0] μ (zzPI Φ μ) := by
  refine zM_go (own := RX11) rfl (by decide) (Nat.le_of_ble_eq_true rfl) (fun E hE => ?_)
  show zZ E (zzPI Φ μ) 0 [(0, .int a0)] [] μ
  unfold w_X11_isTray at h
  refine z_iload_n hE dX11_isTray_0 rfl 0 rfl ?_
  refine z_if_lt (tgt := 13) hE dX11_isTray_1 (by decide) h (fun h => ?_) (fun h => ?_)
  · refine z_iconst (v := 0) hE dX11_isTray_13 zv_i_0 ?_
    exact z_zret (st := []) hE dX11_isTray_14 rfl (by decide) ⟨_, rfl, rfl, h⟩
  · refine z_iload_n hE dX11_isTray_4 rfl 0 rfl ?_
    refine z_iconst (v := 4) hE dX11_isTray_5 zv_i_4 ?_
    refine z_icmp_ge (tgt := 13) hE dX11_isTray_6 (by decide) h (fun h => ?_) (fun h => ?_)
    · refine z_iconst (v := 0) hE dX11_isTray_13 zv_i_0 ?_
      exact z_zret (st := []) hE dX11_isTray_14 rfl (by decide) ⟨_, rfl, rfl, h⟩
    · refine z_iconst (v := 1) hE dX11_isTray_9 zv_i_1 ?_
      refine z_goto (tgt := 14) hE dX11_isTray_10 (by decide) ?_
      exact z_zret (st := []) hE dX11_isTray_14 rfl (by decide) ⟨_, rfl, rfl, h⟩
set_option maxRecDepth 4000 in
theorem c_X11_isWithin (a0 : Int32) (a1 : Int32) (μ : ZMem) (Φ : Int32 → Prop) (h : w_X11_isWithin a0 a1 Φ) : zM SX yX11_isWithin cX11_isWithin 2 (some FieldType.boolean) 0 [.int a0, .int a1] μ (zzPI Φ μ) := by
  refine zM_go (own := RX11) rfl (by decide) (Nat.le_of_ble_eq_true rfl) (fun E hE => ?_)
  show zZ E (zzPI Φ μ) 0 [(0, .int a0), (1, .int a1)] [] μ
  unfold w_X11_isWithin at h
  refine z_iload_n hE dX11_isWithin_0 rfl 0 rfl ?_
  refine z_iload_n hE dX11_isWithin_1 rfl 1 rfl ?_
  refine z_ineg hE dX11_isWithin_2 ?_
  refine z_icmp_lt (tgt := 15) hE dX11_isWithin_3 (by decide) h (fun h => ?_) (fun h => ?_)
  · refine z_iconst (v := 0) hE dX11_isWithin_15 zv_i_0 ?_
    exact z_zret (st := []) hE dX11_isWithin_16 rfl (by decide) ⟨_, rfl, rfl, h⟩
  · refine z_iload_n hE dX11_isWithin_6 rfl 0 rfl ?_
    refine z_iload_n hE dX11_isWithin_7 rfl 1 rfl ?_
    refine z_icmp_gt (tgt := 15) hE dX11_isWithin_8 (by decide) h (fun h => ?_) (fun h => ?_)
    · refine z_iconst (v := 0) hE dX11_isWithin_15 zv_i_0 ?_
      exact z_zret (st := []) hE dX11_isWithin_16 rfl (by decide) ⟨_, rfl, rfl, h⟩
    · refine z_iconst (v := 1) hE dX11_isWithin_11 zv_i_1 ?_
      refine z_goto (tgt := 16) hE dX11_isWithin_12 (by decide) ?_
      exact z_zret (st := []) hE dX11_isWithin_16 rfl (by decide) ⟨_, rfl, rfl, h⟩
set_option maxRecDepth 4000 in
theorem c_X11_waiting (a1 : Int32) (μ : ZMem) (Φ : Int32 → Prop) (h : w_X11_waiting a1 μ Φ) : zM SX yX11_waiting cX11_waiting 2 (some FieldType.int) 0 [.ref 0, .int a1] μ (zzPI Φ μ) := by
  refine zM_go (own := RX11) rfl (by decide) (Nat.le_of_ble_eq_true rfl) (fun E hE => ?_)
  show zZ E (zzPI Φ μ) 0 [(0, .ref 0), (1, .int a1)] [] μ
  unfold w_X11_waiting at h
  refine z_iload_n hE dX11_waiting_0 rfl 1 rfl ?_
  refine z_if_lt (tgt := 15) hE dX11_waiting_1 (by decide) h (fun h => ?_) (fun h => ?_)
  · refine z_iconst (v := -1) hE dX11_waiting_15 zv_i_m1 ?_
    refine z_goto (tgt := 32) hE dX11_waiting_16 (by decide) ?_
    exact z_iret (st := []) hE dX11_waiting_32 rfl ⟨_, rfl, rfl, h⟩
  · refine z_iload_n hE dX11_waiting_4 rfl 1 rfl ?_
    refine z_aload_n hE dX11_waiting_5 rfl 0 rfl ?_
    refine z_getR (t := 1) hE dX11_waiting_6 lF_X11_14 sX_0 rfl ?_
    refine z_getI hE dX11_waiting_9 lF_X11_234 sX_1 rfl ?_
    refine z_icmp_lt (tgt := 19) hE dX11_waiting_12 (by decide) h (fun h => ?_) (fun h => ?_)
    · refine z_aload_n hE dX11_waiting_19 rfl 0 rfl ?_
      refine z_getR (t := 1) hE dX11_waiting_20 lF_X11_14 sX_0 rfl ?_
      refine z_getR (t := 4) hE dX11_waiting_23 lF_X11_237 sX_1 rfl ?_
      refine z_iload_n hE dX11_waiting_26 rfl 1 rfl ?_
      obtain ⟨q_1, h⟩ := h
      refine z_iald hE dX11_waiting_27 sX_4 q_1 ?_
      refine z_sipush (v := 1000) hE dX11_waiting_28 zv_s_1000 ?_
      refine z_iadd hE dX11_waiting_31 ?_
      exact z_iret (st := []) hE dX11_waiting_32 rfl ⟨_, rfl, rfl, h⟩
    · refine z_iconst (v := -1) hE dX11_waiting_15 zv_i_m1 ?_
      refine z_goto (tgt := 32) hE dX11_waiting_16 (by decide) ?_
      exact z_iret (st := []) hE dX11_waiting_32 rfl ⟨_, rfl, rfl, h⟩
set_option maxRecDepth 4000 in
theorem c_X12_common (a0 : Int64) (a2 : Int64) (μ : ZMem) (Φ : Int64 → Prop) (h : w_X12_common a0 a2 Φ) : zM SM yX12_common cX12_common 10 (some FieldType.long) 0 [.long a0, .long a2] μ (zzPJ Φ μ) := by
  refine zM_go (own := RX12) rfl (by decide) (Nat.le_of_ble_eq_true rfl) (fun E hE => ?_)
  show zZ E (zzPJ Φ μ) 0 [(0, .long a0), (2, .long a2)] [] μ
  unfold w_X12_common at h
  refine z_lload_n hE dX12_common_0 rfl 0 rfl ?_
  refine z_lstore (lv' := [(4, .long a0), (0, .long a0), (2, .long a2)]) hE dX12_common_1 (by decide) rfl ?_
  refine z_lload_n hE dX12_common_3 rfl 2 rfl ?_
  refine z_lstore (lv' := [(6, .long a2), (4, .long a0), (0, .long a0), (2, .long a2)]) hE dX12_common_4 (by decide) rfl ?_
  refine z_join (P := fun (J_2 : Int64 → Prop) => ∀ (v4_1 : Int64), J_2 v4_1 → zZ E (zzPJ Φ μ) 31 [(4, .long v4_1)] [] μ) h (fun v4_1 h => ?_) (fun J_2 hJ_2 h => ?_)
  · refine z_lload hE dX12_common_31 0 rfl ?_
    refine z_lconst (v := 0) hE dX12_common_33 zv_l_0 ?_
    refine z_ljmp_ge (tgt := 44) hE dX12_common_34 dX12_common_35 (by decide) h (fun h => ?_) (fun h => ?_)
    · refine z_lload hE dX12_common_44 0 rfl ?_
      exact z_lret (st := []) hE dX12_common_46 rfl ⟨_, rfl, rfl, h⟩
    · refine z_lload hE dX12_common_38 0 rfl ?_
      refine z_lneg hE dX12_common_40 ?_
      refine z_goto (tgt := 46) hE dX12_common_41 (by decide) ?_
      exact z_lret (st := []) hE dX12_common_46 rfl ⟨_, rfl, rfl, h⟩
  refine z_sub [1, 0] rfl ?_
  obtain ⟨n6, h⟩ := h
  refine z_loop2 (P := fun (v4_3 : Int64) (v6_4 : Int64) => zZ E (zzPJ Φ μ) 6 [(4, .long v4_3), (6, .long v6_4)] [] μ) (fun k6_4 hk6_4 v4_3 v6_4 h => ?_) n6 _ _ h
  refine z_lload hE dX12_common_6 1 rfl ?_
  refine z_lconst (v := 0) hE dX12_common_8 zv_l_0 ?_
  refine z_ljmp_eq (tgt := 31) hE dX12_common_9 dX12_common_10 (by decide) h (fun h => ?_) (fun h => ?_)
  · exact z_sub [0] rfl (hJ_2 _ h)
  · refine z_lload hE dX12_common_13 0 rfl ?_
    refine z_lload hE dX12_common_15 1 rfl ?_
    obtain ⟨q_5, h⟩ := h
    refine z_lrem hE dX12_common_17 q_5 ?_
    refine z_lstore (lv' := [(8, .long (v4_3 - v4_3 / v6_4 * v6_4)), (4, .long v4_3), (6, .long v6_4)]) hE dX12_common_18 (by decide) rfl ?_
    refine zn (G := fun v8_6 => zZ E (zzPJ Φ μ) 20 [(8, .long v8_6), (4, .long v4_3), (6, .long v6_4)] [] μ) h (fun v8_6 h => ?_)
    refine z_lload hE dX12_common_20 2 rfl ?_
    refine z_lstore (lv' := [(4, .long v6_4), (8, .long v8_6), (6, .long v6_4)]) hE dX12_common_22 (by decide) rfl ?_
    refine z_lload hE dX12_common_24 1 rfl ?_
    refine z_lstore (lv' := [(6, .long v8_6), (4, .long v6_4), (8, .long v8_6)]) hE dX12_common_26 (by decide) rfl ?_
    refine z_goto (tgt := 6) hE dX12_common_28 (by decide) ?_
    exact z_sub [1, 0] rfl (hk6_4 _ _ h)
set_option maxRecDepth 4000 in
theorem c_X12_copies (k0 n0 : Nat) (k1 n1 : Nat) (h0 : SM[k0]? = some (1, n0, [])) (h1 : SM[k1]? = some (1, n1, [])) (μ : ZMem) (Φ : ZMem → Prop) (h : w_X12_copies k0 n0 k1 n1 μ Φ) : zM SM yX12_copies cX12_copies 3 (none) 0 [.ref k0, .ref k1] μ (zzV Φ) := by
  refine zM_go (own := RX12) rfl (by decide) (Nat.le_of_ble_eq_true rfl) (fun E hE => ?_)
  show zZ E (zzV Φ) 0 [(0, .ref k0), (1, .ref k1)] [] μ
  unfold w_X12_copies at h
  refine z_iconst (v := 0) hE dX12_copies_0 zv_i_0 ?_
  refine z_istore_n (lv' := [(2, .int (0 : Int32)), (0, .ref k0), (1, .ref k1)]) hE dX12_copies_1 rfl (by decide) rfl ?_
  refine z_sub [1, 2, 0] rfl ?_
  obtain ⟨n2, h⟩ := h
  refine z_loop2 (P := fun (v2_1 : Int32) (μ_2 : ZMem) => zZ E (zzV Φ) 2 [(0, .ref k0), (1, .ref k1), (2, .int v2_1)] [] μ_2) (fun k2_2 hk2_2 v2_1 μ_2 h => ?_) n2 _ _ h
  refine z_iload_n hE dX12_copies_2 rfl 2 rfl ?_
  refine z_bipush (v := 51) hE dX12_copies_3 zv_b_51 ?_
  refine z_icmp_ge (tgt := 20) hE dX12_copies_5 (by decide) h (fun h => ?_) (fun h => ?_)
  · exact z_vret (st := []) hE dX12_copies_20 rfl ⟨rfl, h⟩
  · refine z_aload_n hE dX12_copies_8 rfl 1 rfl ?_
    refine z_iload_n hE dX12_copies_9 rfl 2 rfl ?_
    refine z_aload_n hE dX12_copies_10 rfl 0 rfl ?_
    refine z_iload_n hE dX12_copies_11 rfl 2 rfl ?_
    obtain ⟨q_3, h⟩ := h
    refine z_iald hE dX12_copies_12 h0 q_3 ?_
    obtain ⟨q_4, h⟩ := h
    refine z_iast hE dX12_copies_13 h1 q_4 ?_
    refine zn (G := fun μ_5 => zZ E (zzV Φ) 14 [(0, .ref k0), (1, .ref k1), (2, .int v2_1)] [] μ_5) h (fun μ_5 h => ?_)
    refine z_iinc (j := 2) (c := 1) (lv' := [(2, .int (v2_1 + (1 : Int32))), (0, .ref k0), (1, .ref k1)]) hE dX12_copies_14 rfl zv_i_1 (by decide) rfl ?_
    refine z_goto (tgt := 2) hE dX12_copies_17 (by decide) ?_
    exact z_sub [1, 2, 0] rfl (hk2_2 _ _ h)
set_option maxRecDepth 4000 in
theorem c_X12_degreeOf (k0 n0 : Nat) (h0 : SM[k0]? = some (2, n0, [])) (μ : ZMem) (Φ : Int32 → Prop) (h : w_X12_degreeOf k0 n0 μ Φ) : zM SM yX12_degreeOf cX12_degreeOf 2 (some FieldType.int) 0 [.ref k0] μ (zzPI Φ μ) := by
  refine zM_go (own := RX12) rfl (by decide) (Nat.le_of_ble_eq_true rfl) (fun E hE => ?_)
  show zZ E (zzPI Φ μ) 0 [(0, .ref k0)] [] μ
  unfold w_X12_degreeOf at h
  refine z_bipush (v := 6) hE dX12_degreeOf_0 zv_b_6 ?_
  refine z_istore_n (lv' := [(1, .int (6 : Int32)), (0, .ref k0)]) hE dX12_degreeOf_2 rfl (by decide) rfl ?_
  refine z_sub [1, 0] rfl ?_
  obtain ⟨n3, h⟩ := h
  refine z_loop1 (P := fun (v1_1 : Int32) => zZ E (zzPI Φ μ) 3 [(0, .ref k0), (1, .int v1_1)] [] μ) (fun k3_1 hk3_1 v1_1 h => ?_) n3 _ h
  refine z_iload_n hE dX12_degreeOf_3 rfl 1 rfl ?_
  refine z_if_lt (tgt := 21) hE dX12_degreeOf_4 (by decide) h (fun h => ?_) (fun h => ?_)
  · refine z_iload_n hE dX12_degreeOf_21 rfl 1 rfl ?_
    exact z_iret (st := []) hE dX12_degreeOf_22 rfl ⟨_, rfl, rfl, h⟩
  · refine z_aload_n hE dX12_degreeOf_7 rfl 0 rfl ?_
    refine z_iload_n hE dX12_degreeOf_8 rfl 1 rfl ?_
    obtain ⟨q_2, h⟩ := h
    refine z_lald hE dX12_degreeOf_9 h0 q_2 ?_
    refine z_lconst (v := 0) hE dX12_degreeOf_10 zv_l_0 ?_
    refine z_ljmp_ne (tgt := 21) hE dX12_degreeOf_11 dX12_degreeOf_12 (by decide) h (fun h => ?_) (fun h => ?_)
    · refine z_iload_n hE dX12_degreeOf_21 rfl 1 rfl ?_
      exact z_iret (st := []) hE dX12_degreeOf_22 rfl ⟨_, rfl, rfl, h⟩
    · refine z_iinc (j := 1) (c := -1) (lv' := [(1, .int (v1_1 + (-1 : Int32))), (0, .ref k0)]) hE dX12_degreeOf_15 rfl zv_i_m1 (by decide) rfl ?_
      refine z_goto (tgt := 3) hE dX12_degreeOf_18 (by decide) ?_
      exact z_sub [1, 0] rfl (hk3_1 _ h)
set_option maxRecDepth 4000 in
theorem c_X12_degreeOfLink (a1 : Int32) (μ : ZMem) (Φ : Int32 → Prop) (h : w_X12_degreeOfLink a1 μ Φ) : zM SM yX12_degreeOfLink cX12_degreeOfLink 3 (some FieldType.int) 0 [.ref 0, .int a1] μ (zzPI Φ μ) := by
  refine zM_go (own := RX12) rfl (by decide) (Nat.le_of_ble_eq_true rfl) (fun E hE => ?_)
  show zZ E (zzPI Φ μ) 0 [(0, .ref 0), (1, .int a1)] [] μ
  unfold w_X12_degreeOfLink at h
  refine z_bipush (v := 6) hE dX12_degreeOfLink_0 zv_b_6 ?_
  refine z_istore_n (lv' := [(2, .int (6 : Int32)), (0, .ref 0), (1, .int a1)]) hE dX12_degreeOfLink_2 rfl (by decide) rfl ?_
  refine z_sub [1, 2, 0] rfl ?_
  obtain ⟨n3, h⟩ := h
  refine z_loop1 (P := fun (v2_1 : Int32) => zZ E (zzPI Φ μ) 3 [(0, .ref 0), (1, .int a1), (2, .int v2_1)] [] μ) (fun k3_1 hk3_1 v2_1 h => ?_) n3 _ h
  refine z_iload_n hE dX12_degreeOfLink_3 rfl 2 rfl ?_
  refine z_if_lt (tgt := 29) hE dX12_degreeOfLink_4 (by decide) h (fun h => ?_) (fun h => ?_)
  · refine z_iload_n hE dX12_degreeOfLink_29 rfl 2 rfl ?_
    exact z_iret (st := []) hE dX12_degreeOfLink_30 rfl ⟨_, rfl, rfl, h⟩
  · refine z_aload_n hE dX12_degreeOfLink_7 rfl 0 rfl ?_
    refine z_getR (t := 11) hE dX12_degreeOfLink_8 lF_X12_43 sM_0 rfl ?_
    refine z_bipush (v := 7) hE dX12_degreeOfLink_11 zv_b_7 ?_
    refine z_iload_n hE dX12_degreeOfLink_13 rfl 1 rfl ?_
    refine z_imul hE dX12_degreeOfLink_14 ?_
    refine z_iload_n hE dX12_degreeOfLink_15 rfl 2 rfl ?_
    refine z_iadd hE dX12_degreeOfLink_16 ?_
    obtain ⟨q_2, h⟩ := h
    refine z_lald hE dX12_degreeOfLink_17 sM_11 q_2 ?_
    refine z_lconst (v := 0) hE dX12_degreeOfLink_18 zv_l_0 ?_
    refine z_ljmp_ne (tgt := 29) hE dX12_degreeOfLink_19 dX12_degreeOfLink_20 (by decide) h (fun h => ?_) (fun h => ?_)
    · refine z_iload_n hE dX12_degreeOfLink_29 rfl 2 rfl ?_
      exact z_iret (st := []) hE dX12_degreeOfLink_30 rfl ⟨_, rfl, rfl, h⟩
    · refine z_iinc (j := 2) (c := -1) (lv' := [(2, .int (v2_1 + (-1 : Int32))), (0, .ref 0), (1, .int a1)]) hE dX12_degreeOfLink_23 rfl zv_i_m1 (by decide) rfl ?_
      refine z_goto (tgt := 3) hE dX12_degreeOfLink_26 (by decide) ?_
      exact z_sub [1, 2, 0] rfl (hk3_1 _ h)
set_option maxRecDepth 4000 in
theorem c_X12_exchanges (a1 : Int32) (a2 : Int32) (μ : ZMem) (Φ : ZMem → Prop) (h : w_X12_exchanges a1 a2 μ Φ) : zM SM yX12_exchanges cX12_exchanges 4 (none) 0 [.ref 0, .int a1, .int a2] μ (zzV Φ) := by
  refine zM_go (own := RX12) rfl (by decide) (Nat.le_of_ble_eq_true rfl) (fun E hE => ?_)
  show zZ E (zzV Φ) 0 [(0, .ref 0), (1, .int a1), (2, .int a2)] [] μ
  unfold w_X12_exchanges at h
  refine z_aload_n hE dX12_exchanges_0 rfl 0 rfl ?_
  refine z_getR (t := 1) hE dX12_exchanges_1 lF_X12_11 sM_0 rfl ?_
  refine z_bipush (v := 16) hE dX12_exchanges_4 zv_b_16 ?_
  refine z_iload_n hE dX12_exchanges_6 rfl 1 rfl ?_
  refine z_iadd hE dX12_exchanges_7 ?_
  obtain ⟨q_1, h⟩ := h
  refine z_iald hE dX12_exchanges_8 sM_1 q_1 ?_
  refine z_istore_n (lv' := [(3, .int (μ.1 1 (Int32.toNatClampNeg ((16 : Int32) + a1)))), (0, .ref 0), (1, .int a1), (2, .int a2)]) hE dX12_exchanges_9 rfl (by decide) rfl ?_
  refine zn (G := fun v3_2 => zZ E (zzV Φ) 10 [(3, .int v3_2), (0, .ref 0), (1, .int a1), (2, .int a2)] [] μ) h (fun v3_2 h => ?_)
  refine z_aload_n hE dX12_exchanges_10 rfl 1 rfl ?_
  refine z_getR (t := 1) hE dX12_exchanges_11 lF_X12_11 sM_0 rfl ?_
  refine z_bipush (v := 16) hE dX12_exchanges_14 zv_b_16 ?_
  refine z_iload_n hE dX12_exchanges_16 rfl 2 rfl ?_
  refine z_iadd hE dX12_exchanges_17 ?_
  refine z_aload_n hE dX12_exchanges_18 rfl 1 rfl ?_
  refine z_getR (t := 1) hE dX12_exchanges_19 lF_X12_11 sM_0 rfl ?_
  refine z_bipush (v := 16) hE dX12_exchanges_22 zv_b_16 ?_
  refine z_iload_n hE dX12_exchanges_24 rfl 3 rfl ?_
  refine z_iadd hE dX12_exchanges_25 ?_
  obtain ⟨q_3, h⟩ := h
  refine z_iald hE dX12_exchanges_26 sM_1 q_3 ?_
  obtain ⟨q_4, h⟩ := h
  refine z_iast hE dX12_exchanges_27 sM_1 q_4 ?_
  refine zn (G := fun μ_5 => zZ E (zzV Φ) 28 [(3, .int v3_2), (0, .ref 0), (1, .int a1), (2, .int a2)] [] μ_5) h (fun μ_5 h => ?_)
  refine z_aload_n hE dX12_exchanges_28 rfl 1 rfl ?_
  refine z_getR (t := 1) hE dX12_exchanges_29 lF_X12_11 sM_0 rfl ?_
  refine z_bipush (v := 16) hE dX12_exchanges_32 zv_b_16 ?_
  refine z_iload_n hE dX12_exchanges_34 rfl 3 rfl ?_
  refine z_iadd hE dX12_exchanges_35 ?_
  refine z_iload_n hE dX12_exchanges_36 rfl 0 rfl ?_
  obtain ⟨q_6, h⟩ := h
  refine z_iast hE dX12_exchanges_37 sM_1 q_6 ?_
  refine zn (G := fun μ_7 => zZ E (zzV Φ) 38 [(3, .int v3_2), (0, .ref 0), (1, .int a1), (2, .int a2)] [] μ_7) h (fun μ_7 h => ?_)
  exact z_vret (st := []) hE dX12_exchanges_38 rfl ⟨rfl, h⟩
set_option maxRecDepth 4000 in
theorem c_X12_firstCase  (μ : ZMem) (Φ : Int32 → Prop) (h : w_X12_firstCase μ Φ) : zM SM yX12_firstCase cX12_firstCase 2 (some FieldType.int) 0 [.ref 0] μ (zzPI Φ μ) := by
  refine zM_go (own := RX12) rfl (by decide) (Nat.le_of_ble_eq_true rfl) (fun E hE => ?_)
  show zZ E (zzPI Φ μ) 0 [(0, .ref 0)] [] μ
  unfold w_X12_firstCase at h
  refine z_iconst (v := 0) hE dX12_firstCase_0 zv_i_0 ?_
  refine z_istore_n (lv' := [(1, .int (0 : Int32)), (0, .ref 0)]) hE dX12_firstCase_1 rfl (by decide) rfl ?_
  refine z_sub [1, 0] rfl ?_
  obtain ⟨n2, h⟩ := h
  refine z_loop1 (P := fun (v1_1 : Int32) => zZ E (zzPI Φ μ) 2 [(0, .ref 0), (1, .int v1_1)] [] μ) (fun k2_1 hk2_1 v1_1 h => ?_) n2 _ h
  refine z_iload_n hE dX12_firstCase_2 rfl 1 rfl ?_
  refine z_aload_n hE dX12_firstCase_3 rfl 0 rfl ?_
  refine z_getI hE dX12_firstCase_4 lF_X12_121 sM_0 rfl ?_
  refine z_icmp_gt (tgt := 28) hE dX12_firstCase_7 (by decide) h (fun h => ?_) (fun h => ?_)
  · refine z_iconst (v := -1) hE dX12_firstCase_28 zv_i_m1 ?_
    exact z_iret (st := []) hE dX12_firstCase_29 rfl ⟨_, rfl, rfl, h⟩
  · refine z_aload_n hE dX12_firstCase_10 rfl 0 rfl ?_
    refine z_getR (t := 8) hE dX12_firstCase_11 lF_X12_34 sM_0 rfl ?_
    refine z_iload_n hE dX12_firstCase_14 rfl 1 rfl ?_
    obtain ⟨q_2, h⟩ := h
    refine z_iald hE dX12_firstCase_15 sM_8 q_2 ?_
    refine z_iconst (v := 2) hE dX12_firstCase_16 zv_i_2 ?_
    refine z_icmp_ne (tgt := 22) hE dX12_firstCase_17 (by decide) h (fun h => ?_) (fun h => ?_)
    · refine z_iinc (j := 1) (c := 1) (lv' := [(1, .int (v1_1 + (1 : Int32))), (0, .ref 0)]) hE dX12_firstCase_22 rfl zv_i_1 (by decide) rfl ?_
      refine z_goto (tgt := 2) hE dX12_firstCase_25 (by decide) ?_
      exact z_sub [1, 0] rfl (hk2_1 _ h)
    · refine z_iload_n hE dX12_firstCase_20 rfl 1 rfl ?_
      exact z_iret (st := []) hE dX12_firstCase_21 rfl ⟨_, rfl, rfl, h⟩
set_option maxRecDepth 4000 in
theorem c_X12_here  (μ : ZMem) (Φ : Int32 → Prop) (h : w_X12_here μ Φ) : zM SM yX12_here cX12_here 1 (some FieldType.int) 0 [.ref 0] μ (zzPI Φ μ) := by
  refine zM_go (own := RX12) rfl (by decide) (Nat.le_of_ble_eq_true rfl) (fun E hE => ?_)
  show zZ E (zzPI Φ μ) 0 [(0, .ref 0)] [] μ
  unfold w_X12_here at h
  refine z_aload_n hE dX12_here_0 rfl 0 rfl ?_
  refine z_getI hE dX12_here_1 lF_X12_256 sM_0 rfl ?_
  refine z_aload_n hE dX12_here_4 rfl 0 rfl ?_
  refine z_getI hE dX12_here_5 lF_X12_253 sM_0 rfl ?_
  refine z_icmp_ge (tgt := 23) hE dX12_here_8 (by decide) h (fun h => ?_) (fun h => ?_)
  · refine z_iconst (v := -1) hE dX12_here_23 zv_i_m1 ?_
    exact z_iret (st := []) hE dX12_here_24 rfl ⟨_, rfl, rfl, h⟩
  · refine z_aload_n hE dX12_here_11 rfl 0 rfl ?_
    refine z_getR (t := 13) hE dX12_here_12 lF_X12_49 sM_0 rfl ?_
    refine z_aload_n hE dX12_here_15 rfl 0 rfl ?_
    refine z_getI hE dX12_here_16 lF_X12_256 sM_0 rfl ?_
    obtain ⟨q_1, h⟩ := h
    refine z_iald hE dX12_here_19 sM_13 q_1 ?_
    refine z_goto (tgt := 24) hE dX12_here_20 (by decide) ?_
    exact z_iret (st := []) hE dX12_here_24 rfl ⟨_, rfl, rfl, h⟩
set_option maxRecDepth 4000 in
theorem c_X12_in (a0 : Int64) (a2 : Int64) (a4 : Int64) (μ : ZMem) (Φ : Int32 → Prop) (h : w_X12_in a0 a2 a4 Φ) : zM SM yX12_in cX12_in 6 (some FieldType.boolean) 0 [.long a0, .long a2, .long a4] μ (zzPI Φ μ) := by
  refine zM_go (own := RX12) rfl (by decide) (Nat.le_of_ble_eq_true rfl) (fun E hE => ?_)
  show zZ E (zzPI Φ μ) 0 [(0, .long a0), (2, .long a2), (4, .long a4)] [] μ
  unfold w_X12_in at h
  refine z_lload_n hE dX12_in_0 rfl 0 rfl ?_
  refine z_lload_n hE dX12_in_1 rfl 1 rfl ?_
  refine z_ljmp_lt (tgt := 17) hE dX12_in_2 dX12_in_3 (by decide) h (fun h => ?_) (fun h => ?_)
  · refine z_iconst (v := 0) hE dX12_in_17 zv_i_0 ?_
    exact z_zret (st := []) hE dX12_in_18 rfl (by decide) ⟨_, rfl, rfl, h⟩
  · refine z_lload_n hE dX12_in_6 rfl 0 rfl ?_
    refine z_lload hE dX12_in_7 2 rfl ?_
    refine z_ljmp_gt (tgt := 17) hE dX12_in_9 dX12_in_10 (by decide) h (fun h => ?_) (fun h => ?_)
    · refine z_iconst (v := 0) hE dX12_in_17 zv_i_0 ?_
      exact z_zret (st := []) hE dX12_in_18 rfl (by decide) ⟨_, rfl, rfl, h⟩
    · refine z_iconst (v := 1) hE dX12_in_13 zv_i_1 ?_
      refine z_goto (tgt := 18) hE dX12_in_14 (by decide) ?_
      exact z_zret (st := []) hE dX12_in_18 rfl (by decide) ⟨_, rfl, rfl, h⟩
set_option maxRecDepth 4000 in
theorem c_X12_isTwice (a1 : Int32) (μ : ZMem) (Φ : Int32 → Prop) (h : w_X12_isTwice a1 μ Φ) : zM SM yX12_isTwice cX12_isTwice 4 (some FieldType.boolean) 0 [.ref 0, .int a1] μ (zzPI Φ μ) := by
  refine zM_go (own := RX12) rfl (by decide) (Nat.le_of_ble_eq_true rfl) (fun E hE => ?_)
  show zZ E (zzPI Φ μ) 0 [(0, .ref 0), (1, .int a1)] [] μ
  unfold w_X12_isTwice at h
  refine z_iconst (v := 0) hE dX12_isTwice_0 zv_i_0 ?_
  refine z_istore_n (lv' := [(2, .int (0 : Int32)), (0, .ref 0), (1, .int a1)]) hE dX12_isTwice_1 rfl (by decide) rfl ?_
  refine z_iconst (v := 0) hE dX12_isTwice_2 zv_i_0 ?_
  refine z_istore_n (lv' := [(3, .int (0 : Int32)), (2, .int (0 : Int32)), (0, .ref 0), (1, .int a1)]) hE dX12_isTwice_3 rfl (by decide) rfl ?_
  refine z_sub [2, 3, 1, 0] rfl ?_
  obtain ⟨n4, h⟩ := h
  refine z_loop2 (P := fun (v2_1 : Int32) (v3_2 : Int32) => zZ E (zzPI Φ μ) 4 [(0, .ref 0), (1, .int a1), (2, .int v2_1), (3, .int v3_2)] [] μ) (fun k4_2 hk4_2 v2_1 v3_2 h => ?_) n4 _ _ h
  refine z_iload_n hE dX12_isTwice_4 rfl 3 rfl ?_
  refine z_iload_n hE dX12_isTwice_5 rfl 1 rfl ?_
  refine z_icmp_ge (tgt := 46) hE dX12_isTwice_6 (by decide) h (fun h => ?_) (fun h => ?_)
  · refine z_iload_n hE dX12_isTwice_46 rfl 2 rfl ?_
    obtain ⟨q_3, h⟩ := h
    exact z_zret (st := []) hE dX12_isTwice_47 rfl (zb_n q_3) ⟨_, rfl, rfl, h⟩
  · refine z_iload_n hE dX12_isTwice_9 rfl 2 rfl ?_
    refine z_join (P := fun (J_5 : Int32 → Prop) => ∀ (x_4 : Int32), J_5 x_4 → zZ E (zzPI Φ μ) 39 [(0, .ref 0), (1, .int a1), (3, .int v3_2)] [.int x_4] μ) h (fun x_4 h => ?_) (fun J_5 hJ_5 h => ?_)
    · refine z_istore_n (lv' := [(2, .int x_4), (0, .ref 0), (1, .int a1), (3, .int v3_2)]) hE dX12_isTwice_39 rfl (by decide) rfl ?_
      refine z_iinc (j := 3) (c := 1) (lv' := [(3, .int (v3_2 + (1 : Int32))), (2, .int x_4), (0, .ref 0), (1, .int a1)]) hE dX12_isTwice_40 rfl zv_i_1 (by decide) rfl ?_
      refine z_goto (tgt := 4) hE dX12_isTwice_43 (by decide) ?_
      exact z_sub [2, 3, 1, 0] rfl (hk4_2 _ _ h)
    refine z_join (P := fun (J_6 : Prop) => J_6 → zZ E (zzPI Φ μ) 34 [(0, .ref 0), (1, .int a1), (3, .int v3_2)] [] μ) h (fun  h => ?_) (fun J_6 hJ_6 h => ?_)
    · refine z_iconst (v := 1) hE dX12_isTwice_34 zv_i_1 ?_
      refine z_goto (tgt := 39) hE dX12_isTwice_35 (by decide) ?_
      exact hJ_5 _ h
    refine z_if_ne (tgt := 34) hE dX12_isTwice_10 (by decide) h (fun h => ?_) (fun h => ?_)
    · exact z_sub [0, 1, 3] rfl (hJ_6 h)
    · refine z_aload_n hE dX12_isTwice_13 rfl 0 rfl ?_
      refine z_getR (t := 1) hE dX12_isTwice_14 lF_X12_11 sM_0 rfl ?_
      refine z_bipush (v := 16) hE dX12_isTwice_17 zv_b_16 ?_
      refine z_iload_n hE dX12_isTwice_19 rfl 3 rfl ?_
      refine z_iadd hE dX12_isTwice_20 ?_
      obtain ⟨q_7, h⟩ := h
      refine z_iald hE dX12_isTwice_21 sM_1 q_7 ?_
      refine z_aload_n hE dX12_isTwice_22 rfl 0 rfl ?_
      refine z_getR (t := 1) hE dX12_isTwice_23 lF_X12_11 sM_0 rfl ?_
      refine z_bipush (v := 16) hE dX12_isTwice_26 zv_b_16 ?_
      refine z_iload_n hE dX12_isTwice_28 rfl 1 rfl ?_
      refine z_iadd hE dX12_isTwice_29 ?_
      obtain ⟨q_8, h⟩ := h
      refine z_iald hE dX12_isTwice_30 sM_1 q_8 ?_
      refine z_icmp_ne (tgt := 38) hE dX12_isTwice_31 (by decide) h (fun h => ?_) (fun h => ?_)
      · refine z_iconst (v := 0) hE dX12_isTwice_38 zv_i_0 ?_
        exact z_sub [0, 1, 3] rfl (hJ_5 _ h)
      · exact z_sub [0, 1, 3] rfl (hJ_6 h)
set_option maxRecDepth 4000 in
theorem c_X12_item (a1 : Int32) (a2 : Int32) (μ : ZMem) (Φ : Int64 → Prop) (h : w_X12_item a1 a2 μ Φ) : zM SM yX12_item cX12_item 3 (some FieldType.long) 0 [.ref 0, .int a1, .int a2] μ (zzPJ Φ μ) := by
  refine zM_go (own := RX12) rfl (by decide) (Nat.le_of_ble_eq_true rfl) (fun E hE => ?_)
  show zZ E (zzPJ Φ μ) 0 [(0, .ref 0), (1, .int a1), (2, .int a2)] [] μ
  unfold w_X12_item at h
  refine z_iload_n hE dX12_item_0 rfl 2 rfl ?_
  refine z_bipush (v := 6) hE dX12_item_1 zv_b_6 ?_
  refine z_icmp_ge (tgt := 20) hE dX12_item_3 (by decide) h (fun h => ?_) (fun h => ?_)
  · refine z_lconst (v := 0) hE dX12_item_20 zv_l_0 ?_
    exact z_lret (st := []) hE dX12_item_21 rfl ⟨_, rfl, rfl, h⟩
  · refine z_aload_n hE dX12_item_6 rfl 0 rfl ?_
    refine z_getR (t := 6) hE dX12_item_7 lF_X12_28 sM_0 rfl ?_
    refine z_bipush (v := 6) hE dX12_item_10 zv_b_6 ?_
    refine z_iload_n hE dX12_item_12 rfl 1 rfl ?_
    refine z_imul hE dX12_item_13 ?_
    refine z_iload_n hE dX12_item_14 rfl 2 rfl ?_
    refine z_iadd hE dX12_item_15 ?_
    obtain ⟨q_1, h⟩ := h
    refine z_lald hE dX12_item_16 sM_6 q_1 ?_
    refine z_goto (tgt := 21) hE dX12_item_17 (by decide) ?_
    exact z_lret (st := []) hE dX12_item_21 rfl ⟨_, rfl, rfl, h⟩
set_option maxRecDepth 4000 in
theorem c_X12_itemMany (a1 : Int32) (μ : ZMem) (Φ : Int32 → Prop) (h : w_X12_itemMany a1 μ Φ) : zM SM yX12_itemMany cX12_itemMany 2 (some FieldType.int) 0 [.ref 0, .int a1] μ (zzPI Φ μ) := by
  refine zM_go (own := RX12) rfl (by decide) (Nat.le_of_ble_eq_true rfl) (fun E hE => ?_)
  show zZ E (zzPI Φ μ) 0 [(0, .ref 0), (1, .int a1)] [] μ
  unfold w_X12_itemMany at h
  refine z_aload_n hE dX12_itemMany_0 rfl 0 rfl ?_
  refine z_getI hE dX12_itemMany_1 lF_X12_121 sM_0 rfl ?_
  refine z_iload_n hE dX12_itemMany_4 rfl 1 rfl ?_
  refine z_isub hE dX12_itemMany_5 ?_
  refine z_iconst (v := 2) hE dX12_itemMany_6 zv_i_2 ?_
  refine z_idiv hE dX12_itemMany_7 (by decide) ?_
  refine z_iconst (v := 1) hE dX12_itemMany_8 zv_i_1 ?_
  refine z_iadd hE dX12_itemMany_9 ?_
  exact z_iret (st := []) hE dX12_itemMany_10 rfl ⟨_, rfl, rfl, h⟩
set_option maxRecDepth 4000 in
theorem c_X12_lays (a1 : Int32) (a2 : Int32) (a3 : Int64) (μ : ZMem) (Φ : ZMem → Prop) (h : w_X12_lays a1 a2 a3 μ Φ) : zM SM yX12_lays cX12_lays 5 (none) 0 [.ref 0, .int a1, .int a2, .long a3] μ (zzV Φ) := by
  refine zM_go (own := RX12) rfl (by decide) (Nat.le_of_ble_eq_true rfl) (fun E hE => ?_)
  show zZ E (zzV Φ) 0 [(0, .ref 0), (1, .int a1), (2, .int a2), (3, .long a3)] [] μ
  unfold w_X12_lays at h
  refine z_aload_n hE dX12_lays_0 rfl 0 rfl ?_
  refine z_getR (t := 17) hE dX12_lays_1 lF_X12_61 sM_0 rfl ?_
  refine z_bipush (v := 30) hE dX12_lays_4 zv_b_30 ?_
  refine z_iload_n hE dX12_lays_6 rfl 1 rfl ?_
  refine z_imul hE dX12_lays_7 ?_
  refine z_iload_n hE dX12_lays_8 rfl 2 rfl ?_
  refine z_iadd hE dX12_lays_9 ?_
  refine z_aload_n hE dX12_lays_10 rfl 0 rfl ?_
  refine z_getR (t := 15) hE dX12_lays_11 lF_X12_55 sM_0 rfl ?_
  refine z_iload_n hE dX12_lays_14 rfl 1 rfl ?_
  obtain ⟨q_1, h⟩ := h
  refine z_iald hE dX12_lays_15 sM_15 q_1 ?_
  refine z_iconst (v := 1) hE dX12_lays_16 zv_i_1 ?_
  refine z_join (P := fun (J_3 : Int64 → Prop) => ∀ (x_2 : Int64), J_3 x_2 → zZ E (zzV Φ) 27 [] [.long x_2, .int (((30 : Int32) * a1) + a2), .ref 17] μ) h (fun x_2 h => ?_) (fun J_3 hJ_3 h => ?_)
  · obtain ⟨q_4, h⟩ := h
    refine z_last hE dX12_lays_27 sM_17 q_4 ?_
    refine zn (G := fun μ_5 => zZ E (zzV Φ) 28 [] [] μ_5) h (fun μ_5 h => ?_)
    exact z_vret (st := []) hE dX12_lays_28 rfl ⟨rfl, h⟩
  refine z_icmp_ne (tgt := 26) hE dX12_lays_17 (by decide) h (fun h => ?_) (fun h => ?_)
  · refine z_lload_n hE dX12_lays_26 rfl 3 rfl ?_
    exact z_sub [] rfl (hJ_3 _ h)
  · refine z_lload_n hE dX12_lays_20 rfl 3 rfl ?_
    refine z_l2i hE dX12_lays_21 ?_
    refine z_i2l hE dX12_lays_22 ?_
    refine z_goto (tgt := 27) hE dX12_lays_23 (by decide) ?_
    exact z_sub [] rfl (hJ_3 _ h)
set_option maxRecDepth 4000 in
theorem c_X12_leaves (a1 : Int32) (μ : ZMem) (Φ : ZMem → Prop) (h : w_X12_leaves a1 μ Φ) : zM SM yX12_leaves cX12_leaves 3 (none) 0 [.ref 0, .int a1] μ (zzV Φ) := by
  refine zM_go (own := RX12) rfl (by decide) (Nat.le_of_ble_eq_true rfl) (fun E hE => ?_)
  show zZ E (zzV Φ) 0 [(0, .ref 0), (1, .int a1)] [] μ
  unfold w_X12_leaves at h
  refine z_aload_n hE dX12_leaves_0 rfl 0 rfl ?_
  refine z_getR (t := 1) hE dX12_leaves_1 lF_X12_11 sM_0 rfl ?_
  refine z_bipush (v := 15) hE dX12_leaves_4 zv_b_15 ?_
  refine z_dup2 hE dX12_leaves_6 rfl rfl ?_
  refine z_iald hE dX12_leaves_7 sM_1 (zin (by decide)) ?_
  refine z_iconst (v := 1) hE dX12_leaves_8 zv_i_1 ?_
  refine z_isub hE dX12_leaves_9 ?_
  refine z_iast hE dX12_leaves_10 sM_1 (zin (by decide)) ?_
  refine zn (G := fun μ_1 => zZ E (zzV Φ) 11 [(0, .ref 0), (1, .int a1)] [] μ_1) h (fun μ_1 h => ?_)
  refine z_iload_n hE dX12_leaves_11 rfl 1 rfl ?_
  refine z_istore_n (lv' := [(2, .int a1), (0, .ref 0), (1, .int a1)]) hE dX12_leaves_12 rfl (by decide) rfl ?_
  refine z_sub [1, 0] rfl ?_
  obtain ⟨n13, h⟩ := h
  refine z_loop2 (P := fun (v2_2 : Int32) (μ_3 : ZMem) => zZ E (zzV Φ) 13 [(0, .ref 0), (2, .int v2_2)] [] μ_3) (fun k13_3 hk13_3 v2_2 μ_3 h => ?_) n13 _ _ h
  refine z_iload_n hE dX12_leaves_13 rfl 1 rfl ?_
  refine z_aload_n hE dX12_leaves_14 rfl 0 rfl ?_
  refine z_getR (t := 1) hE dX12_leaves_15 lF_X12_11 sM_0 rfl ?_
  refine z_bipush (v := 15) hE dX12_leaves_18 zv_b_15 ?_
  refine z_iald hE dX12_leaves_20 sM_1 (zin (by decide)) ?_
  refine z_icmp_ge (tgt := 50) hE dX12_leaves_21 (by decide) h (fun h => ?_) (fun h => ?_)
  · exact z_vret (st := []) hE dX12_leaves_50 rfl ⟨rfl, h⟩
  · refine z_aload_n hE dX12_leaves_24 rfl 0 rfl ?_
    refine z_getR (t := 1) hE dX12_leaves_25 lF_X12_11 sM_0 rfl ?_
    refine z_bipush (v := 16) hE dX12_leaves_28 zv_b_16 ?_
    refine z_iload_n hE dX12_leaves_30 rfl 1 rfl ?_
    refine z_iadd hE dX12_leaves_31 ?_
    refine z_aload_n hE dX12_leaves_32 rfl 0 rfl ?_
    refine z_getR (t := 1) hE dX12_leaves_33 lF_X12_11 sM_0 rfl ?_
    refine z_bipush (v := 16) hE dX12_leaves_36 zv_b_16 ?_
    refine z_iload_n hE dX12_leaves_38 rfl 1 rfl ?_
    refine z_iadd hE dX12_leaves_39 ?_
    refine z_iconst (v := 1) hE dX12_leaves_40 zv_i_1 ?_
    refine z_iadd hE dX12_leaves_41 ?_
    obtain ⟨q_4, h⟩ := h
    refine z_iald hE dX12_leaves_42 sM_1 q_4 ?_
    obtain ⟨q_5, h⟩ := h
    refine z_iast hE dX12_leaves_43 sM_1 q_5 ?_
    refine zn (G := fun μ_6 => zZ E (zzV Φ) 44 [(0, .ref 0), (2, .int v2_2)] [] μ_6) h (fun μ_6 h => ?_)
    refine z_iinc (j := 1) (c := 1) (lv' := [(2, .int (v2_2 + (1 : Int32))), (0, .ref 0)]) hE dX12_leaves_44 rfl zv_i_1 (by decide) rfl ?_
    refine z_goto (tgt := 13) hE dX12_leaves_47 (by decide) ?_
    exact z_sub [1, 0] rfl (hk13_3 _ _ h)
set_option maxRecDepth 4000 in
theorem c_X12_less (a1 : Int64) (a3 : Int64) (μ : ZMem) (Φ : Int64 → ZMem → Prop) (h : w_X12_less a1 a3 μ Φ) : zM SM yX12_less cX12_less 7 (some FieldType.long) 0 [.ref 0, .long a1, .long a3] μ (zzJ Φ) := by
  refine zM_go (own := RX12) rfl (by decide) (Nat.le_of_ble_eq_true rfl) (fun E hE => ?_)
  show zZ E (zzJ Φ) 0 [(0, .ref 0), (1, .long a1), (3, .long a3)] [] μ
  unfold w_X12_less at h
  refine z_lload_n hE dX12_less_0 rfl 1 rfl ?_
  refine z_lload_n hE dX12_less_1 rfl 2 rfl ?_
  refine z_lsub hE dX12_less_2 ?_
  refine z_lstore (lv' := [(5, .long (a1 - a3)), (0, .ref 0), (1, .long a1), (3, .long a3)]) hE dX12_less_3 (by decide) rfl ?_
  refine zn (G := fun v5_1 => zZ E (zzJ Φ) 5 [(5, .long v5_1), (0, .ref 0), (1, .long a1), (3, .long a3)] [] μ) h (fun v5_1 h => ?_)
  refine z_aload_n hE dX12_less_5 rfl 1 rfl ?_
  refine z_aload_n hE dX12_less_6 rfl 1 rfl ?_
  refine z_getI hE dX12_less_7 lF_X12_69 sM_0 rfl ?_
  refine z_join (P := fun (J_3 : Int32 → Prop) => ∀ (x_2 : Int32), J_3 x_2 → zZ E (zzJ Φ) 40 [(5, .long v5_1)] [.int x_2, .ref 0] μ) h (fun x_2 h => ?_) (fun J_3 hJ_3 h => ?_)
  · obtain ⟨q_4, h⟩ := h
    refine z_put hE dX12_less_40 lF_X12_69 sM_0 rfl (zb_n q_4) (zb_f q_4) ?_
    refine zn (G := fun μ_5 => zZ E (zzJ Φ) 43 [(5, .long v5_1)] [] μ_5) h (fun μ_5 h => ?_)
    refine z_lload hE dX12_less_43 0 rfl ?_
    exact z_lret (st := []) hE dX12_less_45 rfl ⟨_, rfl, h⟩
  refine z_join (P := fun (J_6 : Prop) => J_6 → zZ E (zzJ Φ) 35 [(5, .long v5_1)] [.ref 0] μ) h (fun  h => ?_) (fun J_6 hJ_6 h => ?_)
  · refine z_iconst (v := 1) hE dX12_less_35 zv_i_1 ?_
    refine z_goto (tgt := 40) hE dX12_less_36 (by decide) ?_
    exact hJ_3 _ h
  refine z_if_ne (tgt := 35) hE dX12_less_10 (by decide) h (fun h => ?_) (fun h => ?_)
  · exact z_sub [0] rfl (hJ_6 h)
  · refine z_lload_n hE dX12_less_13 rfl 2 rfl ?_
    refine z_lload_n hE dX12_less_14 rfl 3 rfl ?_
    refine z_lxor hE dX12_less_15 ?_
    refine z_lload_n hE dX12_less_16 rfl 2 rfl ?_
    refine z_lload hE dX12_less_17 0 rfl ?_
    refine z_lxor hE dX12_less_19 ?_
    refine z_land hE dX12_less_20 ?_
    refine z_lconst (v := 0) hE dX12_less_21 zv_l_0 ?_
    refine z_ljmp_lt (tgt := 35) hE dX12_less_22 dX12_less_23 (by decide) h (fun h => ?_) (fun h => ?_)
    · exact z_sub [0] rfl (hJ_6 h)
    · refine z_lload hE dX12_less_26 0 rfl ?_
      refine z_ldc2 (v := -9223372036854775808) hE dX12_less_28 lK_X12_67 ?_
      refine z_ljmp_ne (tgt := 39) hE dX12_less_31 dX12_less_32 (by decide) h (fun h => ?_) (fun h => ?_)
      · refine z_iconst (v := 0) hE dX12_less_39 zv_i_0 ?_
        exact z_sub [0] rfl (hJ_3 _ h)
      · exact z_sub [0] rfl (hJ_6 h)
set_option maxRecDepth 4000 in
theorem c_X12_plus (a1 : Int64) (a3 : Int64) (μ : ZMem) (Φ : Int64 → ZMem → Prop) (h : w_X12_plus a1 a3 μ Φ) : zM SM yX12_plus cX12_plus 7 (some FieldType.long) 0 [.ref 0, .long a1, .long a3] μ (zzJ Φ) := by
  refine zM_go (own := RX12) rfl (by decide) (Nat.le_of_ble_eq_true rfl) (fun E hE => ?_)
  show zZ E (zzJ Φ) 0 [(0, .ref 0), (1, .long a1), (3, .long a3)] [] μ
  unfold w_X12_plus at h
  refine z_lload_n hE dX12_plus_0 rfl 1 rfl ?_
  refine z_lload_n hE dX12_plus_1 rfl 2 rfl ?_
  refine z_ladd hE dX12_plus_2 ?_
  refine z_lstore (lv' := [(5, .long (a1 + a3)), (0, .ref 0), (1, .long a1), (3, .long a3)]) hE dX12_plus_3 (by decide) rfl ?_
  refine zn (G := fun v5_1 => zZ E (zzJ Φ) 5 [(5, .long v5_1), (0, .ref 0), (1, .long a1), (3, .long a3)] [] μ) h (fun v5_1 h => ?_)
  refine z_aload_n hE dX12_plus_5 rfl 1 rfl ?_
  refine z_aload_n hE dX12_plus_6 rfl 1 rfl ?_
  refine z_getI hE dX12_plus_7 lF_X12_69 sM_0 rfl ?_
  refine z_join (P := fun (J_3 : Int32 → Prop) => ∀ (x_2 : Int32), J_3 x_2 → zZ E (zzJ Φ) 41 [(5, .long v5_1)] [.int x_2, .ref 0] μ) h (fun x_2 h => ?_) (fun J_3 hJ_3 h => ?_)
  · obtain ⟨q_4, h⟩ := h
    refine z_put hE dX12_plus_41 lF_X12_69 sM_0 rfl (zb_n q_4) (zb_f q_4) ?_
    refine zn (G := fun μ_5 => zZ E (zzJ Φ) 44 [(5, .long v5_1)] [] μ_5) h (fun μ_5 h => ?_)
    refine z_lload hE dX12_plus_44 0 rfl ?_
    exact z_lret (st := []) hE dX12_plus_46 rfl ⟨_, rfl, h⟩
  refine z_join (P := fun (J_6 : Prop) => J_6 → zZ E (zzJ Φ) 36 [(5, .long v5_1)] [.ref 0] μ) h (fun  h => ?_) (fun J_6 hJ_6 h => ?_)
  · refine z_iconst (v := 1) hE dX12_plus_36 zv_i_1 ?_
    refine z_goto (tgt := 41) hE dX12_plus_37 (by decide) ?_
    exact hJ_3 _ h
  refine z_if_ne (tgt := 36) hE dX12_plus_10 (by decide) h (fun h => ?_) (fun h => ?_)
  · exact z_sub [0] rfl (hJ_6 h)
  · refine z_lload_n hE dX12_plus_13 rfl 2 rfl ?_
    refine z_lload hE dX12_plus_14 0 rfl ?_
    refine z_lxor hE dX12_plus_16 ?_
    refine z_lload_n hE dX12_plus_17 rfl 3 rfl ?_
    refine z_lload hE dX12_plus_18 0 rfl ?_
    refine z_lxor hE dX12_plus_20 ?_
    refine z_land hE dX12_plus_21 ?_
    refine z_lconst (v := 0) hE dX12_plus_22 zv_l_0 ?_
    refine z_ljmp_lt (tgt := 36) hE dX12_plus_23 dX12_plus_24 (by decide) h (fun h => ?_) (fun h => ?_)
    · exact z_sub [0] rfl (hJ_6 h)
    · refine z_lload hE dX12_plus_27 0 rfl ?_
      refine z_ldc2 (v := -9223372036854775808) hE dX12_plus_29 lK_X12_67 ?_
      refine z_ljmp_ne (tgt := 40) hE dX12_plus_32 dX12_plus_33 (by decide) h (fun h => ?_) (fun h => ?_)
      · refine z_iconst (v := 0) hE dX12_plus_40 zv_i_0 ?_
        exact z_sub [0] rfl (hJ_3 _ h)
      · exact z_sub [0] rfl (hJ_6 h)
set_option maxRecDepth 4000 in
theorem c_X12_sizeOf (a1 : Int32) (μ : ZMem) (Φ : Int32 → Prop) (h : w_X12_sizeOf a1 μ Φ) : zM SM yX12_sizeOf cX12_sizeOf 2 (some FieldType.int) 0 [.ref 0, .int a1] μ (zzPI Φ μ) := by
  refine zM_go (own := RX12) rfl (by decide) (Nat.le_of_ble_eq_true rfl) (fun E hE => ?_)
  show zZ E (zzPI Φ μ) 0 [(0, .ref 0), (1, .int a1)] [] μ
  unfold w_X12_sizeOf at h
  refine z_iconst (v := 1) hE dX12_sizeOf_0 zv_i_1 ?_
  refine z_aload_n hE dX12_sizeOf_1 rfl 0 rfl ?_
  refine z_getR (t := 1) hE dX12_sizeOf_2 lF_X12_11 sM_0 rfl ?_
  refine z_bipush (v := 33) hE dX12_sizeOf_5 zv_b_33 ?_
  refine z_iload_n hE dX12_sizeOf_7 rfl 1 rfl ?_
  refine z_iadd hE dX12_sizeOf_8 ?_
  obtain ⟨q_1, h⟩ := h
  refine z_iald hE dX12_sizeOf_9 sM_1 q_1 ?_
  refine z_iconst (v := 2) hE dX12_sizeOf_10 zv_i_2 ?_
  refine z_irem hE dX12_sizeOf_11 (by decide) ?_
  refine z_iadd hE dX12_sizeOf_12 ?_
  exact z_iret (st := []) hE dX12_sizeOf_13 rfl ⟨_, rfl, rfl, h⟩
set_option maxRecDepth 4000 in
theorem c_X12_times (a1 : Int64) (a3 : Int64) (μ : ZMem) (Φ : Int64 → ZMem → Prop) (h : w_X12_times a1 a3 μ Φ) : zM SM yX12_times cX12_times 8 (some FieldType.long) 0 [.ref 0, .long a1, .long a3] μ (zzJ Φ) := by
  refine zM_go (own := RX12) rfl (by decide) (Nat.le_of_ble_eq_true rfl) (fun E hE => ?_)
  show zZ E (zzJ Φ) 0 [(0, .ref 0), (1, .long a1), (3, .long a3)] [] μ
  unfold w_X12_times at h
  refine z_lload_n hE dX12_times_0 rfl 1 rfl ?_
  refine z_lload_n hE dX12_times_1 rfl 2 rfl ?_
  refine z_lmul hE dX12_times_2 ?_
  refine z_lstore (lv' := [(5, .long (a1 * a3)), (0, .ref 0), (1, .long a1), (3, .long a3)]) hE dX12_times_3 (by decide) rfl ?_
  refine zn (G := fun v5_1 => zZ E (zzJ Φ) 5 [(5, .long v5_1), (0, .ref 0), (1, .long a1), (3, .long a3)] [] μ) h (fun v5_1 h => ?_)
  refine z_lload_n hE dX12_times_5 rfl 2 rfl ?_
  refine z_lconst (v := 0) hE dX12_times_6 zv_l_0 ?_
  refine z_join (P := fun (J_3 : Int32 → Prop) => ∀ (x_2 : Int32), J_3 x_2 → zZ E (zzJ Φ) 34 [(0, .ref 0), (5, .long v5_1)] [.int x_2] μ) h (fun x_2 h => ?_) (fun J_3 hJ_3 h => ?_)
  · refine z_istore (lv' := [(7, .int x_2), (0, .ref 0), (5, .long v5_1)]) hE dX12_times_34 (by decide) rfl ?_
    refine z_aload_n hE dX12_times_36 rfl 1 rfl ?_
    refine z_aload_n hE dX12_times_37 rfl 1 rfl ?_
    refine z_getI hE dX12_times_38 lF_X12_69 sM_0 rfl ?_
    refine z_join (P := fun (J_5 : Int32 → Prop) => ∀ (x_4 : Int32), J_5 x_4 → zZ E (zzJ Φ) 54 [(5, .long v5_1)] [.int x_4, .ref 0] μ) h (fun x_4 h => ?_) (fun J_5 hJ_5 h => ?_)
    · obtain ⟨q_6, h⟩ := h
      refine z_put hE dX12_times_54 lF_X12_69 sM_0 rfl (zb_n q_6) (zb_f q_6) ?_
      refine zn (G := fun μ_7 => zZ E (zzJ Φ) 57 [(5, .long v5_1)] [] μ_7) h (fun μ_7 h => ?_)
      refine z_lload hE dX12_times_57 0 rfl ?_
      exact z_lret (st := []) hE dX12_times_59 rfl ⟨_, rfl, h⟩
    refine z_join (P := fun (J_8 : Prop) => J_8 → zZ E (zzJ Φ) 49 [(5, .long v5_1)] [.ref 0] μ) h (fun  h => ?_) (fun J_8 hJ_8 h => ?_)
    · refine z_iconst (v := 1) hE dX12_times_49 zv_i_1 ?_
      refine z_goto (tgt := 54) hE dX12_times_50 (by decide) ?_
      exact hJ_5 _ h
    refine z_if_ne (tgt := 49) hE dX12_times_41 (by decide) h (fun h => ?_) (fun h => ?_)
    · exact z_sub [2] rfl (hJ_8 h)
    · refine z_iload hE dX12_times_44 0 rfl ?_
      refine z_if_eq (tgt := 53) hE dX12_times_46 (by decide) h (fun h => ?_) (fun h => ?_)
      · refine z_iconst (v := 0) hE dX12_times_53 zv_i_0 ?_
        exact z_sub [2] rfl (hJ_5 _ h)
      · exact z_sub [2] rfl (hJ_8 h)
  refine z_join (P := fun (J_9 : Prop) => J_9 → zZ E (zzJ Φ) 33 [(0, .ref 0), (5, .long v5_1)] [] μ) h (fun  h => ?_) (fun J_9 hJ_9 h => ?_)
  · refine z_iconst (v := 0) hE dX12_times_33 zv_i_0 ?_
    exact hJ_3 _ h
  refine z_ljmp_eq (tgt := 33) hE dX12_times_7 dX12_times_8 (by decide) h (fun h => ?_) (fun h => ?_)
  · exact z_sub [1, 0] rfl (hJ_9 h)
  · refine z_lload hE dX12_times_11 0 rfl ?_
    refine z_lload_n hE dX12_times_13 rfl 2 rfl ?_
    obtain ⟨q_10, h⟩ := h
    refine z_ldiv hE dX12_times_14 q_10 ?_
    refine z_lload_n hE dX12_times_15 rfl 3 rfl ?_
    refine z_join (P := fun (J_11 : Prop) => J_11 → zZ E (zzJ Φ) 29 [(0, .ref 0), (5, .long v5_1)] [] μ) h (fun  h => ?_) (fun J_11 hJ_11 h => ?_)
    · refine z_iconst (v := 1) hE dX12_times_29 zv_i_1 ?_
      refine z_goto (tgt := 34) hE dX12_times_30 (by decide) ?_
      exact hJ_3 _ h
    refine z_ljmp_ne (tgt := 29) hE dX12_times_16 dX12_times_17 (by decide) h (fun h => ?_) (fun h => ?_)
    · exact z_sub [1, 0] rfl (hJ_11 h)
    · refine z_lload hE dX12_times_20 0 rfl ?_
      refine z_ldc2 (v := -9223372036854775808) hE dX12_times_22 lK_X12_67 ?_
      refine z_ljmp_ne (tgt := 33) hE dX12_times_25 dX12_times_26 (by decide) h (fun h => ?_) (fun h => ?_)
      · exact z_sub [1, 0] rfl (hJ_9 h)
      · exact z_sub [1, 0] rfl (hJ_11 h)
set_option maxRecDepth 4000 in
theorem c_X12_turned (a1 : Int64) (μ : ZMem) (Φ : Int64 → ZMem → Prop) (h : w_X12_turned a1 μ Φ) : zM SM yX12_turned cX12_turned 3 (some FieldType.long) 0 [.ref 0, .long a1] μ (zzJ Φ) := by
  refine zM_go (own := RX12) rfl (by decide) (Nat.le_of_ble_eq_true rfl) (fun E hE => ?_)
  show zZ E (zzJ Φ) 0 [(0, .ref 0), (1, .long a1)] [] μ
  unfold w_X12_turned at h
  refine z_aload_n hE dX12_turned_0 rfl 0 rfl ?_
  refine z_aload_n hE dX12_turned_1 rfl 0 rfl ?_
  refine z_getI hE dX12_turned_2 lF_X12_69 sM_0 rfl ?_
  refine z_join (P := fun (J_2 : Int32 → Prop) => ∀ (x_1 : Int32), J_2 x_1 → zZ E (zzJ Φ) 21 [(1, .long a1)] [.int x_1, .ref 0] μ) h (fun x_1 h => ?_) (fun J_2 hJ_2 h => ?_)
  · obtain ⟨q_3, h⟩ := h
    refine z_put hE dX12_turned_21 lF_X12_69 sM_0 rfl (zb_n q_3) (zb_f q_3) ?_
    refine zn (G := fun μ_4 => zZ E (zzJ Φ) 24 [(1, .long a1)] [] μ_4) h (fun μ_4 h => ?_)
    refine z_lload_n hE dX12_turned_24 rfl 0 rfl ?_
    refine z_lneg hE dX12_turned_25 ?_
    exact z_lret (st := []) hE dX12_turned_26 rfl ⟨_, rfl, h⟩
  refine z_join (P := fun (J_5 : Prop) => J_5 → zZ E (zzJ Φ) 16 [(1, .long a1)] [.ref 0] μ) h (fun  h => ?_) (fun J_5 hJ_5 h => ?_)
  · refine z_iconst (v := 1) hE dX12_turned_16 zv_i_1 ?_
    refine z_goto (tgt := 21) hE dX12_turned_17 (by decide) ?_
    exact hJ_2 _ h
  refine z_if_ne (tgt := 16) hE dX12_turned_5 (by decide) h (fun h => ?_) (fun h => ?_)
  · exact z_sub [1] rfl (hJ_5 h)
  · refine z_lload_n hE dX12_turned_8 rfl 1 rfl ?_
    refine z_ldc2 (v := -9223372036854775808) hE dX12_turned_9 lK_X12_67 ?_
    refine z_ljmp_ne (tgt := 20) hE dX12_turned_12 dX12_turned_13 (by decide) h (fun h => ?_) (fun h => ?_)
    · refine z_iconst (v := 0) hE dX12_turned_20 zv_i_0 ?_
      exact z_sub [1] rfl (hJ_2 _ h)
    · exact z_sub [1] rfl (hJ_5 h)
set_option maxRecDepth 4000 in
theorem c_X12_wider (a1 : Int32) (μ : ZMem) (Φ : ZMem → Prop) (h : w_X12_wider a1 μ Φ) : zM SM yX12_wider cX12_wider 3 (none) 0 [.ref 0, .int a1] μ (zzV Φ) := by
  refine zM_go (own := RX12) rfl (by decide) (Nat.le_of_ble_eq_true rfl) (fun E hE => ?_)
  show zZ E (zzV Φ) 0 [(0, .ref 0), (1, .int a1)] [] μ
  unfold w_X12_wider at h
  refine z_bipush (v := 6) hE dX12_wider_0 zv_b_6 ?_
  refine z_istore_n (lv' := [(2, .int (6 : Int32)), (0, .ref 0), (1, .int a1)]) hE dX12_wider_2 rfl (by decide) rfl ?_
  refine z_sub [1, 2, 0] rfl ?_
  obtain ⟨n3, h⟩ := h
  refine z_loop2 (P := fun (v2_1 : Int32) (μ_2 : ZMem) => zZ E (zzV Φ) 3 [(0, .ref 0), (1, .int a1), (2, .int v2_1)] [] μ_2) (fun k3_2 hk3_2 v2_1 μ_2 h => ?_) n3 _ _ h
  refine z_iload_n hE dX12_wider_3 rfl 2 rfl ?_
  refine z_if_lt (tgt := 45) hE dX12_wider_4 (by decide) h (fun h => ?_) (fun h => ?_)
  · exact z_vret (st := []) hE dX12_wider_45 rfl ⟨rfl, h⟩
  · refine z_aload_n hE dX12_wider_7 rfl 0 rfl ?_
    refine z_getR (t := 5) hE dX12_wider_8 lF_X12_25 sM_0 rfl ?_
    refine z_iload_n hE dX12_wider_11 rfl 2 rfl ?_
    refine z_iload_n hE dX12_wider_12 rfl 2 rfl ?_
    refine z_join (P := fun (J_4 : Int64 → Prop) => ∀ (x_3 : Int64), J_4 x_3 → zZ E (zzV Φ) 28 [(0, .ref 0), (1, .int a1), (2, .int v2_1)] [.long x_3, .int v2_1, .ref 5] μ_2) h (fun x_3 h => ?_) (fun J_4 hJ_4 h => ?_)
    · refine z_iload_n hE dX12_wider_28 rfl 1 rfl ?_
      refine z_i2l hE dX12_wider_29 ?_
      refine z_aload_n hE dX12_wider_30 rfl 0 rfl ?_
      refine z_getR (t := 5) hE dX12_wider_31 lF_X12_25 sM_0 rfl ?_
      refine z_iload_n hE dX12_wider_34 rfl 2 rfl ?_
      obtain ⟨q_5, h⟩ := h
      refine z_lald hE dX12_wider_35 sM_5 q_5 ?_
      refine z_lmul hE dX12_wider_36 ?_
      refine z_ladd hE dX12_wider_37 ?_
      obtain ⟨q_6, h⟩ := h
      refine z_last hE dX12_wider_38 sM_5 q_6 ?_
      refine zn (G := fun μ_7 => zZ E (zzV Φ) 39 [(0, .ref 0), (1, .int a1), (2, .int v2_1)] [] μ_7) h (fun μ_7 h => ?_)
      refine z_iinc (j := 2) (c := -1) (lv' := [(2, .int (v2_1 + (-1 : Int32))), (0, .ref 0), (1, .int a1)]) hE dX12_wider_39 rfl zv_i_m1 (by decide) rfl ?_
      refine z_goto (tgt := 3) hE dX12_wider_42 (by decide) ?_
      exact z_sub [1, 2, 0] rfl (hk3_2 _ _ h)
    refine z_if_le (tgt := 27) hE dX12_wider_13 (by decide) h (fun h => ?_) (fun h => ?_)
    · refine z_lconst (v := 0) hE dX12_wider_27 zv_l_0 ?_
      exact hJ_4 _ h
    · refine z_aload_n hE dX12_wider_16 rfl 0 rfl ?_
      refine z_getR (t := 5) hE dX12_wider_17 lF_X12_25 sM_0 rfl ?_
      refine z_iload_n hE dX12_wider_20 rfl 2 rfl ?_
      refine z_iconst (v := 1) hE dX12_wider_21 zv_i_1 ?_
      refine z_isub hE dX12_wider_22 ?_
      obtain ⟨q_8, h⟩ := h
      refine z_lald hE dX12_wider_23 sM_5 q_8 ?_
      refine z_goto (tgt := 28) hE dX12_wider_24 (by decide) ?_
      exact hJ_4 _ h
set_option maxRecDepth 4000 in
theorem c_X1_divisor (a0 : Int64) (a2 : Int64) (μ : ZMem) (Φ : Int64 → Prop) (h : w_X1_divisor a0 a2 Φ) : zM SX yX1_divisor cX1_divisor 11 (some FieldType.long) 0 [.long a0, .long a2] μ (zzPJ Φ μ) := by
  refine zM_go (own := RX1) rfl (by decide) (Nat.le_of_ble_eq_true rfl) (fun E hE => ?_)
  show zZ E (zzPJ Φ μ) 0 [(0, .long a0), (2, .long a2)] [] μ
  unfold w_X1_divisor at h
  refine z_lload_n hE dX1_divisor_0 rfl 0 rfl ?_
  refine z_lconst (v := 0) hE dX1_divisor_1 zv_l_0 ?_
  refine z_join (P := fun (J_2 : Int64 → Prop) => ∀ (x_1 : Int64), J_2 x_1 → zZ E (zzPJ Φ μ) 12 [(2, .long a2)] [.long x_1] μ) h (fun x_1 h => ?_) (fun J_2 hJ_2 h => ?_)
  · refine z_lstore (lv' := [(4, .long x_1), (2, .long a2)]) hE dX1_divisor_12 (by decide) rfl ?_
    refine z_lload_n hE dX1_divisor_14 rfl 1 rfl ?_
    refine z_lconst (v := 0) hE dX1_divisor_15 zv_l_0 ?_
    refine z_join (P := fun (J_4 : Int64 → Prop) => ∀ (x_3 : Int64), J_4 x_3 → zZ E (zzPJ Φ μ) 26 [(4, .long x_1)] [.long x_3] μ) h (fun x_3 h => ?_) (fun J_4 hJ_4 h => ?_)
    · refine z_lstore (lv' := [(6, .long x_3), (4, .long x_1)]) hE dX1_divisor_26 (by decide) rfl ?_
      refine z_iconst (v := 0) hE dX1_divisor_28 zv_i_0 ?_
      refine z_istore (lv' := [(8, .int (0 : Int32)), (6, .long x_3), (4, .long x_1)]) hE dX1_divisor_29 (by decide) rfl ?_
      refine z_sub [2, 1, 0] rfl ?_
      obtain ⟨n31, h⟩ := h
      refine z_loop3 (P := fun (v4_5 : Int64) (v6_6 : Int64) (v8_7 : Int32) => zZ E (zzPJ Φ μ) 31 [(4, .long v4_5), (6, .long v6_6), (8, .int v8_7)] [] μ) (fun k31_7 hk31_7 v4_5 v6_6 v8_7 h => ?_) n31 _ _ _ h
      refine z_iload hE dX1_divisor_31 2 rfl ?_
      refine z_bipush (v := 100) hE dX1_divisor_33 zv_b_100 ?_
      refine z_icmp_ge (tgt := 66) hE dX1_divisor_35 (by decide) h (fun h => ?_) (fun h => ?_)
      · refine z_lload hE dX1_divisor_66 0 rfl ?_
        exact z_lret (st := []) hE dX1_divisor_68 rfl ⟨_, rfl, rfl, h⟩
      · refine z_lload hE dX1_divisor_38 1 rfl ?_
        refine z_lconst (v := 0) hE dX1_divisor_40 zv_l_0 ?_
        refine z_ljmp_eq (tgt := 66) hE dX1_divisor_41 dX1_divisor_42 (by decide) h (fun h => ?_) (fun h => ?_)
        · refine z_lload hE dX1_divisor_66 0 rfl ?_
          exact z_lret (st := []) hE dX1_divisor_68 rfl ⟨_, rfl, rfl, h⟩
        · refine z_lload hE dX1_divisor_45 0 rfl ?_
          refine z_lload hE dX1_divisor_47 1 rfl ?_
          obtain ⟨q_8, h⟩ := h
          refine z_lrem hE dX1_divisor_49 q_8 ?_
          refine z_lstore (lv' := [(9, .long (v4_5 - v4_5 / v6_6 * v6_6)), (4, .long v4_5), (6, .long v6_6), (8, .int v8_7)]) hE dX1_divisor_50 (by decide) rfl ?_
          refine zn (G := fun v9_9 => zZ E (zzPJ Φ μ) 52 [(9, .long v9_9), (4, .long v4_5), (6, .long v6_6), (8, .int v8_7)] [] μ) h (fun v9_9 h => ?_)
          refine z_lload hE dX1_divisor_52 2 rfl ?_
          refine z_lstore (lv' := [(4, .long v6_6), (9, .long v9_9), (6, .long v6_6), (8, .int v8_7)]) hE dX1_divisor_54 (by decide) rfl ?_
          refine z_lload hE dX1_divisor_56 1 rfl ?_
          refine z_lstore (lv' := [(6, .long v9_9), (4, .long v6_6), (9, .long v9_9), (8, .int v8_7)]) hE dX1_divisor_58 (by decide) rfl ?_
          refine z_iinc (j := 3) (c := 1) (lv' := [(8, .int (v8_7 + (1 : Int32))), (6, .long v9_9), (4, .long v6_6), (9, .long v9_9)]) hE dX1_divisor_60 rfl zv_i_1 (by decide) rfl ?_
          refine z_goto (tgt := 31) hE dX1_divisor_63 (by decide) ?_
          exact z_sub [2, 1, 0] rfl (hk31_7 _ _ _ h)
    refine z_ljmp_ge (tgt := 25) hE dX1_divisor_16 dX1_divisor_17 (by decide) h (fun h => ?_) (fun h => ?_)
    · refine z_lload_n hE dX1_divisor_25 rfl 1 rfl ?_
      exact z_sub [0] rfl (hJ_4 _ h)
    · refine z_lload_n hE dX1_divisor_20 rfl 1 rfl ?_
      refine z_lneg hE dX1_divisor_21 ?_
      refine z_goto (tgt := 26) hE dX1_divisor_22 (by decide) ?_
      exact z_sub [0] rfl (hJ_4 _ h)
  refine z_ljmp_ge (tgt := 11) hE dX1_divisor_2 dX1_divisor_3 (by decide) h (fun h => ?_) (fun h => ?_)
  · refine z_lload_n hE dX1_divisor_11 rfl 0 rfl ?_
    exact z_sub [1] rfl (hJ_2 _ h)
  · refine z_lload_n hE dX1_divisor_6 rfl 0 rfl ?_
    refine z_lneg hE dX1_divisor_7 ?_
    refine z_goto (tgt := 12) hE dX1_divisor_8 (by decide) ?_
    exact z_sub [1] rfl (hJ_2 _ h)
set_option maxRecDepth 4000 in
theorem c_X1_less (a0 : Int64) (a2 : Int64) (μ : ZMem) (Φ : Int64 → Prop) (h : w_X1_less a0 a2 Φ) : zM SX yX1_less cX1_less 7 (some FieldType.long) 0 [.long a0, .long a2] μ (zzPJ Φ μ) := by
  refine zM_go (own := RX1) rfl (by decide) (Nat.le_of_ble_eq_true rfl) (fun E hE => ?_)
  show zZ E (zzPJ Φ μ) 0 [(0, .long a0), (2, .long a2)] [] μ
  unfold w_X1_less at h
  refine z_lload_n hE dX1_less_0 rfl 0 rfl ?_
  refine z_ldc2 (v := -9223372036854775808) hE dX1_less_1 lK_X1_9 ?_
  refine z_ljmp_eq (tgt := 16) hE dX1_less_4 dX1_less_5 (by decide) h (fun h => ?_) (fun h => ?_)
  · refine z_ldc2 (v := -9223372036854775808) hE dX1_less_16 lK_X1_9 ?_
    exact z_lret (st := []) hE dX1_less_19 rfl ⟨_, rfl, rfl, h⟩
  · refine z_lload_n hE dX1_less_8 rfl 1 rfl ?_
    refine z_ldc2 (v := -9223372036854775808) hE dX1_less_9 lK_X1_9 ?_
    refine z_ljmp_ne (tgt := 20) hE dX1_less_12 dX1_less_13 (by decide) h (fun h => ?_) (fun h => ?_)
    · refine z_lload_n hE dX1_less_20 rfl 0 rfl ?_
      refine z_lload_n hE dX1_less_21 rfl 1 rfl ?_
      refine z_lsub hE dX1_less_22 ?_
      refine z_lstore (lv' := [(4, .long (a0 - a2)), (0, .long a0), (2, .long a2)]) hE dX1_less_23 (by decide) rfl ?_
      refine zn (G := fun v4_1 => zZ E (zzPJ Φ μ) 25 [(4, .long v4_1), (0, .long a0), (2, .long a2)] [] μ) h (fun v4_1 h => ?_)
      refine z_lload_n hE dX1_less_25 rfl 1 rfl ?_
      refine z_lload_n hE dX1_less_26 rfl 2 rfl ?_
      refine z_lxor hE dX1_less_27 ?_
      refine z_lload_n hE dX1_less_28 rfl 1 rfl ?_
      refine z_lload hE dX1_less_29 0 rfl ?_
      refine z_lxor hE dX1_less_31 ?_
      refine z_land hE dX1_less_32 ?_
      refine z_lconst (v := 0) hE dX1_less_33 zv_l_0 ?_
      refine z_join (P := fun (J_3 : Int32 → Prop) => ∀ (x_2 : Int32), J_3 x_2 → zZ E (zzPJ Φ μ) 43 [(4, .long v4_1)] [.int x_2] μ) h (fun x_2 h => ?_) (fun J_3 hJ_3 h => ?_)
      · refine z_istore (lv' := [(6, .int x_2), (4, .long v4_1)]) hE dX1_less_43 (by decide) rfl ?_
        refine z_iload hE dX1_less_45 0 rfl ?_
        refine z_if_eq (tgt := 56) hE dX1_less_47 (by decide) h (fun h => ?_) (fun h => ?_)
        · refine z_lload hE dX1_less_56 1 rfl ?_
          exact z_lret (st := []) hE dX1_less_58 rfl ⟨_, rfl, rfl, h⟩
        · refine z_ldc2 (v := -9223372036854775808) hE dX1_less_50 lK_X1_9 ?_
          refine z_goto (tgt := 58) hE dX1_less_53 (by decide) ?_
          exact z_lret (st := []) hE dX1_less_58 rfl ⟨_, rfl, rfl, h⟩
      refine z_ljmp_ge (tgt := 42) hE dX1_less_34 dX1_less_35 (by decide) h (fun h => ?_) (fun h => ?_)
      · refine z_iconst (v := 0) hE dX1_less_42 zv_i_0 ?_
        exact z_sub [0] rfl (hJ_3 _ h)
      · refine z_iconst (v := 1) hE dX1_less_38 zv_i_1 ?_
        refine z_goto (tgt := 43) hE dX1_less_39 (by decide) ?_
        exact z_sub [0] rfl (hJ_3 _ h)
    · refine z_ldc2 (v := -9223372036854775808) hE dX1_less_16 lK_X1_9 ?_
      exact z_lret (st := []) hE dX1_less_19 rfl ⟨_, rfl, rfl, h⟩
set_option maxRecDepth 4000 in
theorem c_X1_plus (a0 : Int64) (a2 : Int64) (μ : ZMem) (Φ : Int64 → Prop) (h : w_X1_plus a0 a2 Φ) : zM SX yX1_plus cX1_plus 7 (some FieldType.long) 0 [.long a0, .long a2] μ (zzPJ Φ μ) := by
  refine zM_go (own := RX1) rfl (by decide) (Nat.le_of_ble_eq_true rfl) (fun E hE => ?_)
  show zZ E (zzPJ Φ μ) 0 [(0, .long a0), (2, .long a2)] [] μ
  unfold w_X1_plus at h
  refine z_lload_n hE dX1_plus_0 rfl 0 rfl ?_
  refine z_ldc2 (v := -9223372036854775808) hE dX1_plus_1 lK_X1_9 ?_
  refine z_ljmp_eq (tgt := 16) hE dX1_plus_4 dX1_plus_5 (by decide) h (fun h => ?_) (fun h => ?_)
  · refine z_ldc2 (v := -9223372036854775808) hE dX1_plus_16 lK_X1_9 ?_
    exact z_lret (st := []) hE dX1_plus_19 rfl ⟨_, rfl, rfl, h⟩
  · refine z_lload_n hE dX1_plus_8 rfl 1 rfl ?_
    refine z_ldc2 (v := -9223372036854775808) hE dX1_plus_9 lK_X1_9 ?_
    refine z_ljmp_ne (tgt := 20) hE dX1_plus_12 dX1_plus_13 (by decide) h (fun h => ?_) (fun h => ?_)
    · refine z_lload_n hE dX1_plus_20 rfl 0 rfl ?_
      refine z_lload_n hE dX1_plus_21 rfl 1 rfl ?_
      refine z_ladd hE dX1_plus_22 ?_
      refine z_lstore (lv' := [(4, .long (a0 + a2)), (0, .long a0), (2, .long a2)]) hE dX1_plus_23 (by decide) rfl ?_
      refine zn (G := fun v4_1 => zZ E (zzPJ Φ μ) 25 [(4, .long v4_1), (0, .long a0), (2, .long a2)] [] μ) h (fun v4_1 h => ?_)
      refine z_lload_n hE dX1_plus_25 rfl 1 rfl ?_
      refine z_lload hE dX1_plus_26 0 rfl ?_
      refine z_lxor hE dX1_plus_28 ?_
      refine z_lload_n hE dX1_plus_29 rfl 2 rfl ?_
      refine z_lload hE dX1_plus_30 0 rfl ?_
      refine z_lxor hE dX1_plus_32 ?_
      refine z_land hE dX1_plus_33 ?_
      refine z_lconst (v := 0) hE dX1_plus_34 zv_l_0 ?_
      refine z_join (P := fun (J_3 : Int32 → Prop) => ∀ (x_2 : Int32), J_3 x_2 → zZ E (zzPJ Φ μ) 44 [(4, .long v4_1)] [.int x_2] μ) h (fun x_2 h => ?_) (fun J_3 hJ_3 h => ?_)
      · refine z_istore (lv' := [(6, .int x_2), (4, .long v4_1)]) hE dX1_plus_44 (by decide) rfl ?_
        refine z_iload hE dX1_plus_46 0 rfl ?_
        refine z_if_eq (tgt := 57) hE dX1_plus_48 (by decide) h (fun h => ?_) (fun h => ?_)
        · refine z_lload hE dX1_plus_57 1 rfl ?_
          exact z_lret (st := []) hE dX1_plus_59 rfl ⟨_, rfl, rfl, h⟩
        · refine z_ldc2 (v := -9223372036854775808) hE dX1_plus_51 lK_X1_9 ?_
          refine z_goto (tgt := 59) hE dX1_plus_54 (by decide) ?_
          exact z_lret (st := []) hE dX1_plus_59 rfl ⟨_, rfl, rfl, h⟩
      refine z_ljmp_ge (tgt := 43) hE dX1_plus_35 dX1_plus_36 (by decide) h (fun h => ?_) (fun h => ?_)
      · refine z_iconst (v := 0) hE dX1_plus_43 zv_i_0 ?_
        exact z_sub [0] rfl (hJ_3 _ h)
      · refine z_iconst (v := 1) hE dX1_plus_39 zv_i_1 ?_
        refine z_goto (tgt := 44) hE dX1_plus_40 (by decide) ?_
        exact z_sub [0] rfl (hJ_3 _ h)
    · refine z_ldc2 (v := -9223372036854775808) hE dX1_plus_16 lK_X1_9 ?_
      exact z_lret (st := []) hE dX1_plus_19 rfl ⟨_, rfl, rfl, h⟩
set_option maxRecDepth 4000 in
theorem c_X1_times (a0 : Int64) (a2 : Int64) (μ : ZMem) (Φ : Int64 → Prop) (h : w_X1_times a0 a2 Φ) : zM SX yX1_times cX1_times 6 (some FieldType.long) 0 [.long a0, .long a2] μ (zzPJ Φ μ) := by
  refine zM_go (own := RX1) rfl (by decide) (Nat.le_of_ble_eq_true rfl) (fun E hE => ?_)
  show zZ E (zzPJ Φ μ) 0 [(0, .long a0), (2, .long a2)] [] μ
  unfold w_X1_times at h
  refine z_lload_n hE dX1_times_0 rfl 0 rfl ?_
  refine z_ldc2 (v := -9223372036854775808) hE dX1_times_1 lK_X1_9 ?_
  refine z_ljmp_eq (tgt := 16) hE dX1_times_4 dX1_times_5 (by decide) h (fun h => ?_) (fun h => ?_)
  · refine z_ldc2 (v := -9223372036854775808) hE dX1_times_16 lK_X1_9 ?_
    exact z_lret (st := []) hE dX1_times_19 rfl ⟨_, rfl, rfl, h⟩
  · refine z_lload_n hE dX1_times_8 rfl 1 rfl ?_
    refine z_ldc2 (v := -9223372036854775808) hE dX1_times_9 lK_X1_9 ?_
    refine z_ljmp_ne (tgt := 20) hE dX1_times_12 dX1_times_13 (by decide) h (fun h => ?_) (fun h => ?_)
    · refine z_lload_n hE dX1_times_20 rfl 0 rfl ?_
      refine z_lconst (v := 0) hE dX1_times_21 zv_l_0 ?_
      refine z_ljmp_eq (tgt := 32) hE dX1_times_22 dX1_times_23 (by decide) h (fun h => ?_) (fun h => ?_)
      · refine z_lconst (v := 0) hE dX1_times_32 zv_l_0 ?_
        exact z_lret (st := []) hE dX1_times_33 rfl ⟨_, rfl, rfl, h⟩
      · refine z_lload_n hE dX1_times_26 rfl 1 rfl ?_
        refine z_lconst (v := 0) hE dX1_times_27 zv_l_0 ?_
        refine z_ljmp_ne (tgt := 34) hE dX1_times_28 dX1_times_29 (by decide) h (fun h => ?_) (fun h => ?_)
        · refine z_lload_n hE dX1_times_34 rfl 0 rfl ?_
          refine z_lload_n hE dX1_times_35 rfl 1 rfl ?_
          refine z_lmul hE dX1_times_36 ?_
          refine z_lstore (lv' := [(4, .long (a0 * a2)), (0, .long a0), (2, .long a2)]) hE dX1_times_37 (by decide) rfl ?_
          refine zn (G := fun v4_1 => zZ E (zzPJ Φ μ) 39 [(4, .long v4_1), (0, .long a0), (2, .long a2)] [] μ) h (fun v4_1 h => ?_)
          refine z_lload hE dX1_times_39 0 rfl ?_
          refine z_ldc2 (v := -9223372036854775808) hE dX1_times_41 lK_X1_9 ?_
          refine z_ljmp_eq (tgt := 57) hE dX1_times_44 dX1_times_45 (by decide) h (fun h => ?_) (fun h => ?_)
          · refine z_ldc2 (v := -9223372036854775808) hE dX1_times_57 lK_X1_9 ?_
            refine z_goto (tgt := 65) hE dX1_times_60 (by decide) ?_
            exact z_lret (st := []) hE dX1_times_65 rfl ⟨_, rfl, rfl, h⟩
          · refine z_lload hE dX1_times_48 0 rfl ?_
            refine z_lload_n hE dX1_times_50 rfl 2 rfl ?_
            obtain ⟨q_2, h⟩ := h
            refine z_ldiv hE dX1_times_51 q_2 ?_
            refine z_lload_n hE dX1_times_52 rfl 1 rfl ?_
            refine z_ljmp_eq (tgt := 63) hE dX1_times_53 dX1_times_54 (by decide) h (fun h => ?_) (fun h => ?_)
            · refine z_lload hE dX1_times_63 0 rfl ?_
              exact z_lret (st := []) hE dX1_times_65 rfl ⟨_, rfl, rfl, h⟩
            · refine z_ldc2 (v := -9223372036854775808) hE dX1_times_57 lK_X1_9 ?_
              refine z_goto (tgt := 65) hE dX1_times_60 (by decide) ?_
              exact z_lret (st := []) hE dX1_times_65 rfl ⟨_, rfl, rfl, h⟩
        · refine z_lconst (v := 0) hE dX1_times_32 zv_l_0 ?_
          exact z_lret (st := []) hE dX1_times_33 rfl ⟨_, rfl, rfl, h⟩
    · refine z_ldc2 (v := -9223372036854775808) hE dX1_times_16 lK_X1_9 ?_
      exact z_lret (st := []) hE dX1_times_19 rfl ⟨_, rfl, rfl, h⟩
set_option maxRecDepth 4000 in
theorem c_X2_become (t : Nat) (a1 : Int32) (a2 : Int32) (a3 : Int32) (h0 : zT_Factor t) (μ : ZMem) (Φ : ZMem → Prop) (h : w_X2_become t a1 a2 a3 μ Φ) : zM SX yX2_become cX2_become 4 (none) 0 [.ref t, .int a1, .int a2, .int a3] μ (zzV Φ) := by
  refine zM_go (own := RX2) rfl (by decide) (Nat.le_of_ble_eq_true rfl) (fun E hE => ?_)
  show zZ E (zzV Φ) 0 [(0, .ref t), (1, .int a1), (2, .int a2), (3, .int a3)] [] μ
  unfold w_X2_become at h
  refine z_aload_n hE dX2_become_0 rfl 0 rfl ?_
  refine z_iload_n hE dX2_become_1 rfl 1 rfl ?_
  refine z_put hE dX2_become_2 lF_X2_9 h0 rfl rfl rfl ?_
  refine zn (G := fun μ_1 => zZ E (zzV Φ) 5 [(0, .ref t), (1, .int a1), (2, .int a2), (3, .int a3)] [] μ_1) h (fun μ_1 h => ?_)
  refine z_aload_n hE dX2_become_5 rfl 0 rfl ?_
  refine z_iload_n hE dX2_become_6 rfl 2 rfl ?_
  refine z_put hE dX2_become_7 lF_X2_15 h0 rfl rfl rfl ?_
  refine zn (G := fun μ_2 => zZ E (zzV Φ) 10 [(0, .ref t), (1, .int a1), (2, .int a2), (3, .int a3)] [] μ_2) h (fun μ_2 h => ?_)
  refine z_aload_n hE dX2_become_10 rfl 0 rfl ?_
  refine z_iload_n hE dX2_become_11 rfl 3 rfl ?_
  refine z_put hE dX2_become_12 lF_X2_18 h0 rfl rfl rfl ?_
  refine zn (G := fun μ_3 => zZ E (zzV Φ) 15 [(0, .ref t), (1, .int a1), (2, .int a2), (3, .int a3)] [] μ_3) h (fun μ_3 h => ?_)
  exact z_vret (st := []) hE dX2_become_15 rfl ⟨rfl, h⟩
set_option maxRecDepth 4000 in
theorem c_X2_size (t : Nat) (h0 : zT_Factor t) (μ : ZMem) (Φ : Int32 → Prop) (h : w_X2_size t μ Φ) : zM SX yX2_size cX2_size 1 (some FieldType.int) 0 [.ref t] μ (zzPI Φ μ) := by
  refine zM_go (own := RX2) rfl (by decide) (Nat.le_of_ble_eq_true rfl) (fun E hE => ?_)
  show zZ E (zzPI Φ μ) 0 [(0, .ref t)] [] μ
  unfold w_X2_size at h
  refine z_aload_n hE dX2_size_0 rfl 0 rfl ?_
  refine z_getI hE dX2_size_1 lF_X2_9 h0 rfl ?_
  refine z_if_eq (tgt := 15) hE dX2_size_4 (by decide) h (fun h => ?_) (fun h => ?_)
  · refine z_iconst (v := 1) hE dX2_size_15 zv_i_1 ?_
    refine z_goto (tgt := 20) hE dX2_size_16 (by decide) ?_
    exact z_iret (st := []) hE dX2_size_20 rfl ⟨_, rfl, rfl, h⟩
  · refine z_aload_n hE dX2_size_7 rfl 0 rfl ?_
    refine z_getI hE dX2_size_8 lF_X2_9 h0 rfl ?_
    refine z_iconst (v := 2) hE dX2_size_11 zv_i_2 ?_
    refine z_icmp_ne (tgt := 19) hE dX2_size_12 (by decide) h (fun h => ?_) (fun h => ?_)
    · refine z_iconst (v := 2) hE dX2_size_19 zv_i_2 ?_
      exact z_iret (st := []) hE dX2_size_20 rfl ⟨_, rfl, rfl, h⟩
    · refine z_iconst (v := 1) hE dX2_size_15 zv_i_1 ?_
      refine z_goto (tgt := 20) hE dX2_size_16 (by decide) ?_
      exact z_iret (st := []) hE dX2_size_20 rfl ⟨_, rfl, rfl, h⟩
set_option maxRecDepth 4000 in
theorem c_X3_exchange (a1 : Int32) (a2 : Int32) (μ : ZMem) (Φ : ZMem → Prop) (h : w_X3_exchange a1 a2 μ Φ) : zM SX yX3_exchange cX3_exchange 4 (none) 0 [.ref 1, .int a1, .int a2] μ (zzV Φ) := by
  refine zM_go (own := RX3) rfl (by decide) (Nat.le_of_ble_eq_true rfl) (fun E hE => ?_)
  show zZ E (zzV Φ) 0 [(0, .ref 1), (1, .int a1), (2, .int a2)] [] μ
  unfold w_X3_exchange at h
  refine z_aload_n hE dX3_exchange_0 rfl 0 rfl ?_
  refine z_getR (t := 4) hE dX3_exchange_1 lF_X3_18 sX_1 rfl ?_
  refine z_iload_n hE dX3_exchange_4 rfl 1 rfl ?_
  obtain ⟨q_1, h⟩ := h
  refine z_iald hE dX3_exchange_5 sX_4 q_1 ?_
  refine z_istore_n (lv' := [(3, .int (μ.1 4 (Int32.toNatClampNeg a1))), (0, .ref 1), (1, .int a1), (2, .int a2)]) hE dX3_exchange_6 rfl (by decide) rfl ?_
  refine zn (G := fun v3_2 => zZ E (zzV Φ) 7 [(3, .int v3_2), (0, .ref 1), (1, .int a1), (2, .int a2)] [] μ) h (fun v3_2 h => ?_)
  refine z_aload_n hE dX3_exchange_7 rfl 1 rfl ?_
  refine z_getR (t := 4) hE dX3_exchange_8 lF_X3_18 sX_1 rfl ?_
  refine z_iload_n hE dX3_exchange_11 rfl 2 rfl ?_
  refine z_aload_n hE dX3_exchange_12 rfl 1 rfl ?_
  refine z_getR (t := 4) hE dX3_exchange_13 lF_X3_18 sX_1 rfl ?_
  refine z_iload_n hE dX3_exchange_16 rfl 3 rfl ?_
  obtain ⟨q_3, h⟩ := h
  refine z_iald hE dX3_exchange_17 sX_4 q_3 ?_
  obtain ⟨q_4, h⟩ := h
  refine z_iast hE dX3_exchange_18 sX_4 q_4 ?_
  refine zn (G := fun μ_5 => zZ E (zzV Φ) 19 [(3, .int v3_2), (0, .ref 1), (1, .int a1), (2, .int a2)] [] μ_5) h (fun μ_5 h => ?_)
  refine z_aload_n hE dX3_exchange_19 rfl 1 rfl ?_
  refine z_getR (t := 4) hE dX3_exchange_20 lF_X3_18 sX_1 rfl ?_
  refine z_iload_n hE dX3_exchange_23 rfl 3 rfl ?_
  refine z_iload_n hE dX3_exchange_24 rfl 0 rfl ?_
  obtain ⟨q_6, h⟩ := h
  refine z_iast hE dX3_exchange_25 sX_4 q_6 ?_
  refine zn (G := fun μ_7 => zZ E (zzV Φ) 26 [(3, .int v3_2), (0, .ref 1), (1, .int a1), (2, .int a2)] [] μ_7) h (fun μ_7 h => ?_)
  exact z_vret (st := []) hE dX3_exchange_26 rfl ⟨rfl, h⟩
set_option maxRecDepth 4000 in
theorem c_X3_waitsAhead (a1 : Int32) (a2 : Int32) (μ : ZMem) (Φ : Int32 → Prop) (h : w_X3_waitsAhead a1 a2 μ Φ) : zM SX yX3_waitsAhead cX3_waitsAhead 4 (some FieldType.boolean) 0 [.ref 1, .int a1, .int a2] μ (zzPI Φ μ) := by
  refine zM_go (own := RX3) rfl (by decide) (Nat.le_of_ble_eq_true rfl) (fun E hE => ?_)
  show zZ E (zzPI Φ μ) 0 [(0, .ref 1), (1, .int a1), (2, .int a2)] [] μ
  unfold w_X3_waitsAhead at h
  refine z_iconst (v := 0) hE dX3_waitsAhead_0 zv_i_0 ?_
  refine z_istore_n (lv' := [(3, .int (0 : Int32)), (0, .ref 1), (1, .int a1), (2, .int a2)]) hE dX3_waitsAhead_1 rfl (by decide) rfl ?_
  refine z_sub [1, 2, 3, 0] rfl ?_
  obtain ⟨n2, h⟩ := h
  refine z_loop1 (P := fun (v3_1 : Int32) => zZ E (zzPI Φ μ) 2 [(0, .ref 1), (1, .int a1), (2, .int a2), (3, .int v3_1)] [] μ) (fun k2_1 hk2_1 v3_1 h => ?_) n2 _ h
  refine z_iload_n hE dX3_waitsAhead_2 rfl 3 rfl ?_
  refine z_iload_n hE dX3_waitsAhead_3 rfl 2 rfl ?_
  refine z_icmp_ge (tgt := 25) hE dX3_waitsAhead_4 (by decide) h (fun h => ?_) (fun h => ?_)
  · refine z_iconst (v := 0) hE dX3_waitsAhead_25 zv_i_0 ?_
    exact z_zret (st := []) hE dX3_waitsAhead_26 rfl (by decide) ⟨_, rfl, rfl, h⟩
  · refine z_aload_n hE dX3_waitsAhead_7 rfl 0 rfl ?_
    refine z_getR (t := 4) hE dX3_waitsAhead_8 lF_X3_18 sX_1 rfl ?_
    refine z_iload_n hE dX3_waitsAhead_11 rfl 3 rfl ?_
    obtain ⟨q_2, h⟩ := h
    refine z_iald hE dX3_waitsAhead_12 sX_4 q_2 ?_
    refine z_iload_n hE dX3_waitsAhead_13 rfl 1 rfl ?_
    refine z_icmp_ne (tgt := 19) hE dX3_waitsAhead_14 (by decide) h (fun h => ?_) (fun h => ?_)
    · refine z_iinc (j := 3) (c := 1) (lv' := [(3, .int (v3_1 + (1 : Int32))), (0, .ref 1), (1, .int a1), (2, .int a2)]) hE dX3_waitsAhead_19 rfl zv_i_1 (by decide) rfl ?_
      refine z_goto (tgt := 2) hE dX3_waitsAhead_22 (by decide) ?_
      exact z_sub [1, 2, 3, 0] rfl (hk2_1 _ h)
    · refine z_iconst (v := 1) hE dX3_waitsAhead_17 zv_i_1 ?_
      exact z_zret (st := []) hE dX3_waitsAhead_18 rfl (by decide) ⟨_, rfl, rfl, h⟩
set_option maxRecDepth 4000 in
theorem c_X4_highest (k0 n0 : Nat) (h0 : SX[k0]? = some (2, n0, [])) (μ : ZMem) (Φ : Int32 → Prop) (h : w_X4_highest k0 n0 μ Φ) : zM SX yX4_highest cX4_highest 2 (some FieldType.int) 0 [.ref k0] μ (zzPI Φ μ) := by
  refine zM_go (own := RX4) rfl (by decide) (Nat.le_of_ble_eq_true rfl) (fun E hE => ?_)
  show zZ E (zzPI Φ μ) 0 [(0, .ref k0)] [] μ
  unfold w_X4_highest at h
  refine z_aload_n hE dX4_highest_0 rfl 0 rfl ?_
  refine z_alenJ hE dX4_highest_1 h0 rfl ?_
  refine z_iconst (v := 1) hE dX4_highest_2 zv_i_1 ?_
  refine z_isub hE dX4_highest_3 ?_
  refine z_istore_n (lv' := [(1, .int ((Int32.ofNat n0) - (1 : Int32))), (0, .ref k0)]) hE dX4_highest_4 rfl (by decide) rfl ?_
  refine zn (G := fun v1_1 => zZ E (zzPI Φ μ) 5 [(1, .int v1_1), (0, .ref k0)] [] μ) h (fun v1_1 h => ?_)
  refine z_sub [1, 0] rfl ?_
  obtain ⟨n5, h⟩ := h
  refine z_loop1 (P := fun (v1_2 : Int32) => zZ E (zzPI Φ μ) 5 [(0, .ref k0), (1, .int v1_2)] [] μ) (fun k5_2 hk5_2 v1_2 h => ?_) n5 _ h
  refine z_iload_n hE dX4_highest_5 rfl 1 rfl ?_
  refine z_if_lt (tgt := 25) hE dX4_highest_6 (by decide) h (fun h => ?_) (fun h => ?_)
  · refine z_iconst (v := -1) hE dX4_highest_25 zv_i_m1 ?_
    exact z_iret (st := []) hE dX4_highest_26 rfl ⟨_, rfl, rfl, h⟩
  · refine z_aload_n hE dX4_highest_9 rfl 0 rfl ?_
    refine z_iload_n hE dX4_highest_10 rfl 1 rfl ?_
    obtain ⟨q_3, h⟩ := h
    refine z_lald hE dX4_highest_11 h0 q_3 ?_
    refine z_lconst (v := 0) hE dX4_highest_12 zv_l_0 ?_
    refine z_ljmp_eq (tgt := 19) hE dX4_highest_13 dX4_highest_14 (by decide) h (fun h => ?_) (fun h => ?_)
    · refine z_iinc (j := 1) (c := -1) (lv' := [(1, .int (v1_2 + (-1 : Int32))), (0, .ref k0)]) hE dX4_highest_19 rfl zv_i_m1 (by decide) rfl ?_
      refine z_goto (tgt := 5) hE dX4_highest_22 (by decide) ?_
      exact z_sub [1, 0] rfl (hk5_2 _ h)
    · refine z_iload_n hE dX4_highest_17 rfl 1 rfl ?_
      exact z_iret (st := []) hE dX4_highest_18 rfl ⟨_, rfl, rfl, h⟩
set_option maxRecDepth 4000 in
theorem c_X4_isGreat (k0 n0 : Nat) (h0 : SX[k0]? = some (2, n0, [])) (μ : ZMem) (Φ : Int32 → Prop) (h : w_X4_isGreat k0 n0 μ Φ) : zM SX yX4_isGreat cX4_isGreat 2 (some FieldType.boolean) 0 [.ref k0] μ (zzPI Φ μ) := by
  refine zM_go (own := RX4) rfl (by decide) (Nat.le_of_ble_eq_true rfl) (fun E hE => ?_)
  show zZ E (zzPI Φ μ) 0 [(0, .ref k0)] [] μ
  unfold w_X4_isGreat at h
  refine z_iconst (v := 0) hE dX4_isGreat_0 zv_i_0 ?_
  refine z_istore_n (lv' := [(1, .int (0 : Int32)), (0, .ref k0)]) hE dX4_isGreat_1 rfl (by decide) rfl ?_
  refine z_sub [1, 0] rfl ?_
  obtain ⟨n2, h⟩ := h
  refine z_loop1 (P := fun (v1_1 : Int32) => zZ E (zzPI Φ μ) 2 [(0, .ref k0), (1, .int v1_1)] [] μ) (fun k2_1 hk2_1 v1_1 h => ?_) n2 _ h
  refine z_iload_n hE dX4_isGreat_2 rfl 1 rfl ?_
  refine z_aload_n hE dX4_isGreat_3 rfl 0 rfl ?_
  refine z_alenJ hE dX4_isGreat_4 h0 rfl ?_
  refine z_icmp_ge (tgt := 26) hE dX4_isGreat_5 (by decide) h (fun h => ?_) (fun h => ?_)
  · refine z_iconst (v := 0) hE dX4_isGreat_26 zv_i_0 ?_
    exact z_zret (st := []) hE dX4_isGreat_27 rfl (by decide) ⟨_, rfl, rfl, h⟩
  · refine z_aload_n hE dX4_isGreat_8 rfl 0 rfl ?_
    refine z_iload_n hE dX4_isGreat_9 rfl 1 rfl ?_
    obtain ⟨q_2, h⟩ := h
    refine z_lald hE dX4_isGreat_10 h0 q_2 ?_
    refine z_ldc2 (v := -9223372036854775808) hE dX4_isGreat_11 lK_X4_9 ?_
    refine z_ljmp_ne (tgt := 20) hE dX4_isGreat_14 dX4_isGreat_15 (by decide) h (fun h => ?_) (fun h => ?_)
    · refine z_iinc (j := 1) (c := 1) (lv' := [(1, .int (v1_1 + (1 : Int32))), (0, .ref k0)]) hE dX4_isGreat_20 rfl zv_i_1 (by decide) rfl ?_
      refine z_goto (tgt := 2) hE dX4_isGreat_23 (by decide) ?_
      exact z_sub [1, 0] rfl (hk2_1 _ h)
    · refine z_iconst (v := 1) hE dX4_isGreat_18 zv_i_1 ?_
      exact z_zret (st := []) hE dX4_isGreat_19 rfl (by decide) ⟨_, rfl, rfl, h⟩
