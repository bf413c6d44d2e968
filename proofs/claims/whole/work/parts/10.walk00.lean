set_option maxRecDepth 4000 in
theorem c_X0_coefficient (a1 : Int32) (a2 : Int32) (μ : ZMem) (Φ : Int64 → Prop) (h : w_X0_coefficient a1 a2 μ Φ) : zM SX yX0_coefficient cX0_coefficient 3 (some FieldType.long) 0 [.ref 48, .int a1, .int a2] μ (zzPJ Φ μ) := by
  refine zM_go (own := RX0) rfl (by decide) (Nat.le_of_ble_eq_true rfl) (fun E hE => ?_)
  show zZ E (zzPJ Φ μ) 0 [(0, .ref 48), (1, .int a1), (2, .int a2)] [] μ
  unfold w_X0_coefficient at h
  refine z_aload_n hE dX0_coefficient_0 rfl 0 rfl ?_
  refine z_getR (t := 49) hE dX0_coefficient_1 lF_X0_11 sX_48 rfl ?_
  refine z_iload_n hE dX0_coefficient_4 rfl 1 rfl ?_
  obtain ⟨q_1, h⟩ := h
  refine z_aald1 hE dX0_coefficient_5 sX_49 (fun _ => rfl) rfl q_1 ?_
  refine z_iload_n hE dX0_coefficient_6 rfl 2 rfl ?_
  obtain ⟨q_2, h⟩ := h
  refine z_lald hE dX0_coefficient_7 (sXr_50 _ (zz_in_lt q_1)) q_2 ?_
  exact z_lret (st := []) hE dX0_coefficient_8 rfl ⟨_, rfl, rfl, h⟩
set_option maxRecDepth 4000 in
theorem c_X10_become (t : Nat) (a1 : Int32) (a2 : Int32) (h0 : zT_Tray t) (μ : ZMem) (Φ : ZMem → Prop) (h : w_X10_become t a1 a2 μ Φ) : zM SX yX10_become cX10_become 4 (none) 0 [.ref t, .int a1, .int a2] μ (zzV Φ) := by
  refine zM_go (own := RX10) rfl (by decide) (Nat.le_of_ble_eq_true rfl) (fun E hE => ?_)
  show zZ E (zzV Φ) 0 [(0, .ref t), (1, .int a1), (2, .int a2)] [] μ
  unfold w_X10_become at h
  refine z_aload_n hE dX10_become_0 rfl 0 rfl ?_
  refine z_iload_n hE dX10_become_1 rfl 1 rfl ?_
  refine z_put hE dX10_become_2 lF_X10_15 h0.1 rfl rfl rfl ?_
  refine zn (G := fun μ_1 => zZ E (zzV Φ) 5 [(0, .ref t), (1, .int a1), (2, .int a2)] [] μ_1) h (fun μ_1 h => ?_)
  refine z_aload_n hE dX10_become_5 rfl 0 rfl ?_
  refine z_iload_n hE dX10_become_6 rfl 2 rfl ?_
  refine z_put hE dX10_become_7 lF_X10_19 h0.1 rfl rfl rfl ?_
  refine zn (G := fun μ_2 => zZ E (zzV Φ) 10 [(0, .ref t), (1, .int a1), (2, .int a2)] [] μ_2) h (fun μ_2 h => ?_)
  refine z_iconst (v := 0) hE dX10_become_10 zv_i_0 ?_
  refine z_istore_n (lv' := [(3, .int (0 : Int32)), (0, .ref t), (1, .int a1), (2, .int a2)]) hE dX10_become_11 rfl (by decide) rfl ?_
  refine z_sub [1, 0] rfl ?_
  obtain ⟨n12, h⟩ := h
  refine z_loop2 (P := fun (v3_3 : Int32) (μ_4 : ZMem) => zZ E (zzV Φ) 12 [(0, .ref t), (3, .int v3_3)] [] μ_4) (fun k12_4 hk12_4 v3_3 μ_4 h => ?_) n12 _ _ h
  refine z_iload_n hE dX10_become_12 rfl 1 rfl ?_
  refine z_bipush (v := 30) hE dX10_become_13 zv_b_30 ?_
  refine z_icmp_ge (tgt := 31) hE dX10_become_15 (by decide) h (fun h => ?_) (fun h => ?_)
  · exact z_vret (st := []) hE dX10_become_31 rfl ⟨rfl, h⟩
  · refine z_aload_n hE dX10_become_18 rfl 0 rfl ?_
    refine z_getR (t := (t + 1)) hE dX10_become_19 lF_X10_9 h0.1 rfl ?_
    refine z_iload_n hE dX10_become_22 rfl 1 rfl ?_
    refine z_lconst (v := 0) hE dX10_become_23 zv_l_0 ?_
    obtain ⟨q_5, h⟩ := h
    refine z_last hE dX10_become_24 h0.2 q_5 ?_
    refine zn (G := fun μ_6 => zZ E (zzV Φ) 25 [(0, .ref t), (3, .int v3_3)] [] μ_6) h (fun μ_6 h => ?_)
    refine z_iinc (j := 1) (c := 1) (lv' := [(3, .int (v3_3 + (1 : Int32))), (0, .ref t)]) hE dX10_become_25 rfl zv_i_1 (by decide) rfl ?_
    refine z_goto (tgt := 12) hE dX10_become_28 (by decide) ?_
    exact z_sub [1, 0] rfl (hk12_4 _ _ h)
set_option maxRecDepth 4000 in
theorem c_X10_hasPart (t : Nat) (a1 : Int32) (a2 : Int32) (h0 : zT_Tray t) (μ : ZMem) (Φ : Int32 → Prop) (h : w_X10_hasPart t a1 a2 μ Φ) : zM SX yX10_hasPart cX10_hasPart 3 (some FieldType.boolean) 0 [.ref t, .int a1, .int a2] μ (zzPI Φ μ) := by
  refine zM_go (own := RX10) rfl (by decide) (Nat.le_of_ble_eq_true rfl) (fun E hE => ?_)
  show zZ E (zzPI Φ μ) 0 [(0, .ref t), (1, .int a1), (2, .int a2)] [] μ
  unfold w_X10_hasPart at h
  refine z_iload_n hE dX10_hasPart_0 rfl 2 rfl ?_
  refine z_if_lt (tgt := 30) hE dX10_hasPart_1 (by decide) h (fun h => ?_) (fun h => ?_)
  · refine z_iconst (v := 0) hE dX10_hasPart_30 zv_i_0 ?_
    exact z_zret (st := []) hE dX10_hasPart_31 rfl (by decide) ⟨_, rfl, rfl, h⟩
  · refine z_iload_n hE dX10_hasPart_4 rfl 2 rfl ?_
    refine z_aload_n hE dX10_hasPart_5 rfl 0 rfl ?_
    refine z_getI hE dX10_hasPart_6 lF_X10_19 h0.1 rfl ?_
    refine z_icmp_gt (tgt := 30) hE dX10_hasPart_9 (by decide) h (fun h => ?_) (fun h => ?_)
    · refine z_iconst (v := 0) hE dX10_hasPart_30 zv_i_0 ?_
      exact z_zret (st := []) hE dX10_hasPart_31 rfl (by decide) ⟨_, rfl, rfl, h⟩
    · refine z_iload_n hE dX10_hasPart_12 rfl 1 rfl ?_
      refine z_if_lt (tgt := 30) hE dX10_hasPart_13 (by decide) h (fun h => ?_) (fun h => ?_)
      · refine z_iconst (v := 0) hE dX10_hasPart_30 zv_i_0 ?_
        exact z_zret (st := []) hE dX10_hasPart_31 rfl (by decide) ⟨_, rfl, rfl, h⟩
      · refine z_iload_n hE dX10_hasPart_16 rfl 1 rfl ?_
        refine z_aload_n hE dX10_hasPart_17 rfl 0 rfl ?_
        refine z_getI hE dX10_hasPart_18 lF_X10_19 h0.1 rfl ?_
        refine z_iload_n hE dX10_hasPart_21 rfl 2 rfl ?_
        refine z_isub hE dX10_hasPart_22 ?_
        refine z_icmp_gt (tgt := 30) hE dX10_hasPart_23 (by decide) h (fun h => ?_) (fun h => ?_)
        · refine z_iconst (v := 0) hE dX10_hasPart_30 zv_i_0 ?_
          exact z_zret (st := []) hE dX10_hasPart_31 rfl (by decide) ⟨_, rfl, rfl, h⟩
        · refine z_iconst (v := 1) hE dX10_hasPart_26 zv_i_1 ?_
          refine z_goto (tgt := 31) hE dX10_hasPart_27 (by decide) ?_
          exact z_zret (st := []) hE dX10_hasPart_31 rfl (by decide) ⟨_, rfl, rfl, h⟩
set_option maxRecDepth 4000 in
theorem c_X10_isNothing (t : Nat) (h0 : zT_Tray t) (μ : ZMem) (Φ : Int32 → Prop) (h : w_X10_isNothing t μ Φ) : zM SX yX10_isNothing cX10_isNothing 1 (some FieldType.boolean) 0 [.ref t] μ (zzPI Φ μ) := by
  refine zM_go (own := RX10) rfl (by decide) (Nat.le_of_ble_eq_true rfl) (fun E hE => ?_)
  show zZ E (zzPI Φ μ) 0 [(0, .ref t)] [] μ
  unfold w_X10_isNothing at h
  refine z_aload_n hE dX10_isNothing_0 rfl 0 rfl ?_
  refine z_getI hE dX10_isNothing_1 lF_X10_15 h0.1 rfl ?_
  refine z_iconst (v := -1) hE dX10_isNothing_4 zv_i_m1 ?_
  refine z_icmp_ne (tgt := 12) hE dX10_isNothing_5 (by decide) h (fun h => ?_) (fun h => ?_)
  · refine z_iconst (v := 0) hE dX10_isNothing_12 zv_i_0 ?_
    exact z_zret (st := []) hE dX10_isNothing_13 rfl (by decide) ⟨_, rfl, rfl, h⟩
  · refine z_iconst (v := 1) hE dX10_isNothing_8 zv_i_1 ?_
    refine z_goto (tgt := 13) hE dX10_isNothing_9 (by decide) ?_
    exact z_zret (st := []) hE dX10_isNothing_13 rfl (by decide) ⟨_, rfl, rfl, h⟩
set_option maxRecDepth 4000 in
theorem c_X10_store (t : Nat) (a1 : Int32) (a2 : Int64) (h0 : zT_Tray t) (μ : ZMem) (Φ : ZMem → Prop) (h : w_X10_store t a1 a2 μ Φ) : zM SX yX10_store cX10_store 4 (none) 0 [.ref t, .int a1, .long a2] μ (zzV Φ) := by
  refine zM_go (own := RX10) rfl (by decide) (Nat.le_of_ble_eq_true rfl) (fun E hE => ?_)
  show zZ E (zzV Φ) 0 [(0, .ref t), (1, .int a1), (2, .long a2)] [] μ
  unfold w_X10_store at h
  refine z_aload_n hE dX10_store_0 rfl 0 rfl ?_
  refine z_getR (t := (t + 1)) hE dX10_store_1 lF_X10_9 h0.1 rfl ?_
  refine z_iload_n hE dX10_store_4 rfl 1 rfl ?_
  refine z_aload_n hE dX10_store_5 rfl 0 rfl ?_
  refine z_getI hE dX10_store_6 lF_X10_15 h0.1 rfl ?_
  refine z_iconst (v := 1) hE dX10_store_9 zv_i_1 ?_
  refine z_join (P := fun (J_2 : Int64 → Prop) => ∀ (x_1 : Int64), J_2 x_1 → zZ E (zzV Φ) 20 [] [.long x_1, .int a1, .ref (t + 1)] μ) h (fun x_1 h => ?_) (fun J_2 hJ_2 h => ?_)
  · obtain ⟨q_3, h⟩ := h
    refine z_last hE dX10_store_20 h0.2 q_3 ?_
    refine zn (G := fun μ_4 => zZ E (zzV Φ) 21 [] [] μ_4) h (fun μ_4 h => ?_)
    exact z_vret (st := []) hE dX10_store_21 rfl ⟨rfl, h⟩
  refine z_icmp_ne (tgt := 19) hE dX10_store_10 (by decide) h (fun h => ?_) (fun h => ?_)
  · refine z_lload_n hE dX10_store_19 rfl 2 rfl ?_
    exact z_sub [] rfl (hJ_2 _ h)
  · refine z_lload_n hE dX10_store_13 rfl 2 rfl ?_
    refine z_l2i hE dX10_store_14 ?_
    refine z_i2l hE dX10_store_15 ?_
    refine z_goto (tgt := 20) hE dX10_store_16 (by decide) ?_
    exact z_sub [] rfl (hJ_2 _ h)
set_option maxRecDepth 4000 in
theorem c_X11_forgetSurveys  (μ : ZMem) (Φ : ZMem → Prop) (h : w_X11_forgetSurveys μ Φ) : zM SX yX11_forgetSurveys cX11_forgetSurveys 1 (none) 0 [.ref 0] μ (zzV Φ) := by
  refine zM_go (own := RX11) rfl (by decide) (Nat.le_of_ble_eq_true rfl) (fun E hE => ?_)
  show zZ E (zzV Φ) 0 [(0, .ref 0)] [] μ
  unfold w_X11_forgetSurveys at h
  refine z_aload_n hE dX11_forgetSurveys_0 rfl 0 rfl ?_
  refine z_getR (t := 72) hE dX11_forgetSurveys_1 lF_X11_60 sX_0 rfl ?_
  refine z_iconst (v := 0) hE dX11_forgetSurveys_4 zv_i_0 ?_
  refine z_put hE dX11_forgetSurveys_5 lF_X11_372 sX_72 rfl (by decide) (by decide) ?_
  refine zn (G := fun μ_1 => zZ E (zzV Φ) 8 [(0, .ref 0)] [] μ_1) h (fun μ_1 h => ?_)
  refine z_aload_n hE dX11_forgetSurveys_8 rfl 0 rfl ?_
  refine z_getR (t := 75) hE dX11_forgetSurveys_9 lF_X11_64 sX_0 rfl ?_
  refine z_iconst (v := 0) hE dX11_forgetSurveys_12 zv_i_0 ?_
  refine z_put hE dX11_forgetSurveys_13 lF_X11_372 sX_75 rfl (by decide) (by decide) ?_
  refine zn (G := fun μ_2 => zZ E (zzV Φ) 16 [(0, .ref 0)] [] μ_2) h (fun μ_2 h => ?_)
  refine z_aload_n hE dX11_forgetSurveys_16 rfl 0 rfl ?_
  refine z_getR (t := 78) hE dX11_forgetSurveys_17 lF_X11_70 sX_0 rfl ?_
  refine z_iconst (v := 0) hE dX11_forgetSurveys_20 zv_i_0 ?_
  refine z_put hE dX11_forgetSurveys_21 lF_X11_375 sX_78 rfl (by decide) (by decide) ?_
  refine zn (G := fun μ_3 => zZ E (zzV Φ) 24 [(0, .ref 0)] [] μ_3) h (fun μ_3 h => ?_)
  exact z_vret (st := []) hE dX11_forgetSurveys_24 rfl ⟨rfl, h⟩
set_option maxRecDepth 4000 in
theorem c_X11_isForm (a0 : Int32) (μ : ZMem) (Φ : Int32 → Prop) (h : w_X11_isForm a0 Φ) : zM SX yX11_isForm cX11_isForm 2 (some FieldType.boolean) 0 [.int a0] μ (zzPI Φ μ) := by
  refine zM_go (own := RX11) rfl (by decide) (Nat.le_of_ble_eq_true rfl) (fun E hE => ?_)
  show zZ E (zzPI Φ μ) 0 [(0, .int a0)] [] μ
  unfold w_X11_isForm at h
  refine z_iload_n hE dX11_isForm_0 rfl 0 rfl ?_
  refine z_join (P := fun (J_2 : Int32 → Prop) => ∀ (x_1 : Int32), J_2 x_1 → zZ E (zzPI Φ μ) 14 [(0, .int a0)] [.int x_1] μ) h (fun x_1 h => ?_) (fun J_2 hJ_2 h => ?_)
  · refine z_istore_n (lv' := [(1, .int x_1), (0, .int a0)]) hE dX11_isForm_14 rfl (by decide) rfl ?_
    refine z_iload_n hE dX11_isForm_15 rfl 0 rfl ?_
    refine z_if_ne (tgt := 31) hE dX11_isForm_16 (by decide) h (fun h => ?_) (fun h => ?_)
    · refine z_iconst (v := 1) hE dX11_isForm_31 zv_i_1 ?_
      refine z_goto (tgt := 36) hE dX11_isForm_32 (by decide) ?_
      exact z_zret (st := []) hE dX11_isForm_36 rfl (by decide) ⟨_, rfl, rfl, h⟩
    · refine z_iload_n hE dX11_isForm_19 rfl 1 rfl ?_
      refine z_bipush (v := 10) hE dX11_isForm_20 zv_b_10 ?_
      refine z_icmp_lt (tgt := 35) hE dX11_isForm_22 (by decide) h (fun h => ?_) (fun h => ?_)
      · refine z_iconst (v := 0) hE dX11_isForm_35 zv_i_0 ?_
        exact z_zret (st := []) hE dX11_isForm_36 rfl (by decide) ⟨_, rfl, rfl, h⟩
      · refine z_iload_n hE dX11_isForm_25 rfl 1 rfl ?_
        refine z_bipush (v := 50) hE dX11_isForm_26 zv_b_50 ?_
        refine z_icmp_gt (tgt := 35) hE dX11_isForm_28 (by decide) h (fun h => ?_) (fun h => ?_)
        · refine z_iconst (v := 0) hE dX11_isForm_35 zv_i_0 ?_
          exact z_zret (st := []) hE dX11_isForm_36 rfl (by decide) ⟨_, rfl, rfl, h⟩
        · refine z_iconst (v := 1) hE dX11_isForm_31 zv_i_1 ?_
          refine z_goto (tgt := 36) hE dX11_isForm_32 (by decide) ?_
          exact z_zret (st := []) hE dX11_isForm_36 rfl (by decide) ⟨_, rfl, rfl, h⟩
  refine z_join (P := fun (J_3 : Prop) => J_3 → zZ E (zzPI Φ μ) 13 [(0, .int a0)] [] μ) h (fun  h => ?_) (fun J_3 hJ_3 h => ?_)
  · refine z_iconst (v := 0) hE dX11_isForm_13 zv_i_0 ?_
    exact hJ_2 _ h
  refine z_if_lt (tgt := 13) hE dX11_isForm_1 (by decide) h (fun h => ?_) (fun h => ?_)
  · exact hJ_3 h
  · refine z_iload_n hE dX11_isForm_4 rfl 0 rfl ?_
    refine z_iconst (v := 3) hE dX11_isForm_5 zv_i_3 ?_
    refine z_icmp_gt (tgt := 13) hE dX11_isForm_6 (by decide) h (fun h => ?_) (fun h => ?_)
    · exact hJ_3 h
    · refine z_iconst (v := 1) hE dX11_isForm_9 zv_i_1 ?_
      refine z_goto (tgt := 14) hE dX11_isForm_10 (by decide) ?_
      exact hJ_2 _ h
set_option maxRecDepth 4000 in
theorem c_X11_isKind (a0 : Int32) (μ : ZMem) (Φ : Int32 → Prop) (h : w_X11_isKind a0 Φ) : zM SX yX11_isKind cX11_isKind 1 (some FieldType.boolean) 0 [.int a0] μ (zzPI Φ μ) := by
  refine zM_go (own := RX11) rfl (by decide) (Nat.le_of_ble_eq_true rfl) (fun E hE => ?_)
  show zZ E (zzPI Φ μ) 0 [(0, .int a0)] [] μ
  unfold w_X11_isKind at h
  refine z_iload_n hE dX11_isKind_0 rfl 0 rfl ?_
  refine z_if_eq (tgt := 9) hE dX11_isKind_1 (by decide) h (fun h => ?_) (fun h => ?_)
  · refine z_iconst (v := 1) hE dX11_isKind_9 zv_i_1 ?_
    refine z_goto (tgt := 14) hE dX11_isKind_10 (by decide) ?_
    exact z_zret (st := []) hE dX11_isKind_14 rfl (by decide) ⟨_, rfl, rfl, h⟩
  · refine z_iload_n hE dX11_isKind_4 rfl 0 rfl ?_
    refine z_iconst (v := 1) hE dX11_isKind_5 zv_i_1 ?_
    refine z_icmp_ne (tgt := 13) hE dX11_isKind_6 (by decide) h (fun h => ?_) (fun h => ?_)
    · refine z_iconst (v := 0) hE dX11_isKind_13 zv_i_0 ?_
      exact z_zret (st := []) hE dX11_isKind_14 rfl (by decide) ⟨_, rfl, rfl, h⟩
    · refine z_iconst (v := 1) hE dX11_isKind_9 zv_i_1 ?_
      refine z_goto (tgt := 14) hE dX11_isKind_10 (by decide) ?_
      exact z_zret (st := []) hE dX11_isKind_14 rfl (by decide) ⟨_, rfl, rfl, h⟩
set_option maxRecDepth 4000 in
theorem c_X11_isPower (a0 : Int32) (μ : ZMem) (Φ : Int32 → Prop) (h : w_X11_isPower a0 Φ) : zM SX yX11_isPower cX11_isPower 1 (some FieldType.boolean) 0 [.int a0] μ (zzPI Φ μ) := by
  refine zM_go (own := RX11) rfl (by decide) (Nat.le_of_ble_eq_true rfl) (fun E hE => ?_)
  show zZ E (zzPI Φ μ) 0 [(0, .int a0)] [] μ
  unfold w_X11_isPower at h
  refine z_iload_n hE dX11_isPower_0 rfl 0 rfl ?_
  refine z_if_lt (tgt := 14) hE dX11_isPower_1 (by decide) h (fun h => ?_) (fun h => ?_)
  · refine z_iconst (v := 0) hE dX11_isPower_14 zv_i_0 ?_
    exact z_zret (st := []) hE dX11_isPower_15 rfl (by decide) ⟨_, rfl, rfl, h⟩
  · refine z_iload_n hE dX11_isPower_4 rfl 0 rfl ?_
    refine z_bipush (v := 7) hE dX11_isPower_5 zv_b_7 ?_
    refine z_icmp_ge (tgt := 14) hE dX11_isPower_7 (by decide) h (fun h => ?_) (fun h => ?_)
    · refine z_iconst (v := 0) hE dX11_isPower_14 zv_i_0 ?_
      exact z_zret (st := []) hE dX11_isPower_15 rfl (by decide) ⟨_, rfl, rfl, h⟩
    · refine z_iconst (v := 1) hE dX11_isPower_10 zv_i_1 ?_
      refine z_goto (tgt := 15) hE dX11_isPower_11 (by decide) ?_
      exact z_zret (st := []) hE dX11_isPower_15 rfl (by decide) ⟨_, rfl, rfl, h⟩
set_option maxRecDepth 4000 in
theorem c_X11_isTray (a0 : Int32) (μ : ZMem) (Φ : Int32 → Prop) (h : w_X11_isTray a0 Φ) : zM SX yX11_isTray cX11_isTray 1 (some FieldType.boolean) 0 [.int a0] μ (zzPI Φ μ) := by
  refine zM_go (own := RX11) rfl (by decide) (Nat.le_of_ble_eq_true rfl) (fun E hE => ?_)
  show zZ E (zzPI Φ μ) 0 [(0, .int a0)] [] μ
  unfold w_X11_isTray at h
  refine z_iload_n hE dX11_isTray_0 rfl 0 rfl ?_
  refine z_if_lt (tgt := 13) hE dX11_isTray_1 (by decide) h (fun h => ?_) (fun h => ?_)
  · refine z_iconst (v := 0) hE dX11_isTray_13 zv_i_0 ?_
    exact z_zret (st := []) hE dX11_isTray_14 rfl (by decide) ⟨_, rfl, rfl, h⟩
  · refine z_iload_n hE dX11_isTray_4 rfl 0 rfl ?_
    refine z_iconst (v := 4) hE dX11_isTray_5 zv_i_4 ?_
    refine z_icmp_ge (tgt := 13) hE dX11_isTray_6 (by decide) h (fun h => ?_) (fun h => ?_)
    · refine z_iconst (v := 0) hE dX11_isTray_13 zv_i_0 ?_
      exact z_zret (st := []) hE dX11_isTray_14 rfl (by decide) ⟨_, rfl, rfl, h⟩
    · refine z_iconst (v := 1) hE dX11_isTray_9 zv_i_1 ?_
      refine z_goto (tgt := 14) hE dX11_isTray_10 (by decide) ?_
      exact z_zret (st := []) hE dX11_isTray_14 rfl (by decide) ⟨_, rfl, rfl, h⟩
set_option maxRecDepth 4000 in
theorem c_X11_isWithin (a0 : Int32) (a1 : Int32) (μ : ZMem) (Φ : Int32 → Prop) (h : w_X11_isWithin a0 a1 Φ) : zM SX yX11_isWithin cX11_isWithin 2 (some FieldType.boolean) 0 [.int a0, .int a1] μ (zzPI Φ μ) := by
  refine zM_go (own := RX11) rfl (by decide) (Nat.le_of_ble_eq_true rfl) (fun E hE => ?_)
  show zZ E (zzPI Φ μ) 0 [(0, .int a0), (1, .int a1)] [] μ
  unfold w_X11_isWithin at h
  refine z_iload_n hE dX11_isWithin_0 rfl 0 rfl ?_
  refine z_iload_n hE dX11_isWithin_1 rfl 1 rfl ?_
  refine z_ineg hE dX11_isWithin_2 ?_
  refine z_icmp_lt (tgt := 15) hE dX11_isWithin_3 (by decide) h (fun h => ?_) (fun h => ?_)
  · refine z_iconst (v := 0) hE dX11_isWithin_15 zv_i_0 ?_
    exact z_zret (st := []) hE dX11_isWithin_16 rfl (by decide) ⟨_, rfl, rfl, h⟩
  · refine z_iload_n hE dX11_isWithin_6 rfl 0 rfl ?_
    refine z_iload_n hE dX11_isWithin_7 rfl 1 rfl ?_
    refine z_icmp_gt (tgt := 15) hE dX11_isWithin_8 (by decide) h (fun h => ?_) (fun h => ?_)
    · refine z_iconst (v := 0) hE dX11_isWithin_15 zv_i_0 ?_
      exact z_zret (st := []) hE dX11_isWithin_16 rfl (by decide) ⟨_, rfl, rfl, h⟩
    · refine z_iconst (v := 1) hE dX11_isWithin_11 zv_i_1 ?_
      refine z_goto (tgt := 16) hE dX11_isWithin_12 (by decide) ?_
      exact z_zret (st := []) hE dX11_isWithin_16 rfl (by decide) ⟨_, rfl, rfl, h⟩
set_option maxRecDepth 4000 in
theorem c_X11_waiting (a1 : Int32) (μ : ZMem) (Φ : Int32 → Prop) (h : w_X11_waiting a1 μ Φ) : zM SX yX11_waiting cX11_waiting 2 (some FieldType.int) 0 [.ref 0, .int a1] μ (zzPI Φ μ) := by
  refine zM_go (own := RX11) rfl (by decide) (Nat.le_of_ble_eq_true rfl) (fun E hE => ?_)
  show zZ E (zzPI Φ μ) 0 [(0, .ref 0), (1, .int a1)] [] μ
  unfold w_X11_waiting at h
  refine z_iload_n hE dX11_waiting_0 rfl 1 rfl ?_
  refine z_if_lt (tgt := 15) hE dX11_waiting_1 (by decide) h (fun h => ?_) (fun h => ?_)
  · refine z_iconst (v := -1) hE dX11_waiting_15 zv_i_m1 ?_
    refine z_goto (tgt := 32) hE dX11_waiting_16 (by decide) ?_
    exact z_iret (st := []) hE dX11_waiting_32 rfl ⟨_, rfl, rfl, h⟩
  · refine z_iload_n hE dX11_waiting_4 rfl 1 rfl ?_
    refine z_aload_n hE dX11_waiting_5 rfl 0 rfl ?_
    refine z_getR (t := 1) hE dX11_waiting_6 lF_X11_14 sX_0 rfl ?_
    refine z_getI hE dX11_waiting_9 lF_X11_234 sX_1 rfl ?_
    refine z_icmp_lt (tgt := 19) hE dX11_waiting_12 (by decide) h (fun h => ?_) (fun h => ?_)
    · refine z_aload_n hE dX11_waiting_19 rfl 0 rfl ?_
      refine z_getR (t := 1) hE dX11_waiting_20 lF_X11_14 sX_0 rfl ?_
      refine z_getR (t := 4) hE dX11_waiting_23 lF_X11_237 sX_1 rfl ?_
      refine z_iload_n hE dX11_waiting_26 rfl 1 rfl ?_
      obtain ⟨q_1, h⟩ := h
      refine z_iald hE dX11_waiting_27 sX_4 q_1 ?_
      refine z_sipush (v := 1000) hE dX11_waiting_28 zv_s_1000 ?_
      refine z_iadd hE dX11_waiting_31 ?_
      exact z_iret (st := []) hE dX11_waiting_32 rfl ⟨_, rfl, rfl, h⟩
    · refine z_iconst (v := -1) hE dX11_waiting_15 zv_i_m1 ?_
      refine z_goto (tgt := 32) hE dX11_waiting_16 (by decide) ?_
      exact z_iret (st := []) hE dX11_waiting_32 rfl ⟨_, rfl, rfl, h⟩
set_option maxRecDepth 4000 in
theorem c_X12_common (a0 : Int64) (a2 : Int64) (μ : ZMem) (Φ : Int64 → Prop) (h : w_X12_common a0 a2 Φ) : zM SM yX12_common cX12_common 10 (some FieldType.long) 0 [.long a0, .long a2] μ (zzPJ Φ μ) := by
  refine zM_go (own := RX12) rfl (by decide) (Nat.le_of_ble_eq_true rfl) (fun E hE => ?_)
  show zZ E (zzPJ Φ μ) 0 [(0, .long a0), (2, .long a2)] [] μ
  unfold w_X12_common at h
  refine z_lload_n hE dX12_common_0 rfl 0 rfl ?_
  refine z_lstore (lv' := [(4, .long a0), (0, .long a0), (2, .long a2)]) hE dX12_common_1 (by decide) rfl ?_
  refine z_lload_n hE dX12_common_3 rfl 2 rfl ?_
  refine z_lstore (lv' := [(6, .long a2), (4, .long a0), (0, .long a0), (2, .long a2)]) hE dX12_common_4 (by decide) rfl ?_
  refine z_join (P := fun (J_2 : Int64 → Prop) => ∀ (v4_1 : Int64), J_2 v4_1 → zZ E (zzPJ Φ μ) 31 [(4, .long v4_1)] [] μ) h (fun v4_1 h => ?_) (fun J_2 hJ_2 h => ?_)
  · refine z_lload hE dX12_common_31 0 rfl ?_
    refine z_lconst (v := 0) hE dX12_common_33 zv_l_0 ?_
    refine z_ljmp_ge (tgt := 44) hE dX12_common_34 dX12_common_35 (by decide) h (fun h => ?_) (fun h => ?_)
    · refine z_lload hE dX12_common_44 0 rfl ?_
      exact z_lret (st := []) hE dX12_common_46 rfl ⟨_, rfl, rfl, h⟩
    · refine z_lload hE dX12_common_38 0 rfl ?_
      refine z_lneg hE dX12_common_40 ?_
      refine z_goto (tgt := 46) hE dX12_common_41 (by decide) ?_
      exact z_lret (st := []) hE dX12_common_46 rfl ⟨_, rfl, rfl, h⟩
  refine z_sub [1, 0] rfl ?_
  obtain ⟨n6, h⟩ := h
  refine z_loop2 (P := fun (v4_3 : Int64) (v6_4 : Int64) => zZ E (zzPJ Φ μ) 6 [(4, .long v4_3), (6, .long v6_4)] [] μ) (fun k6_4 hk6_4 v4_3 v6_4 h => ?_) n6 _ _ h
  refine z_lload hE dX12_common_6 1 rfl ?_
  refine z_lconst (v := 0) hE dX12_common_8 zv_l_0 ?_
  refine z_ljmp_eq (tgt := 31) hE dX12_common_9 dX12_common_10 (by decide) h (fun h => ?_) (fun h => ?_)
  · exact z_sub [0] rfl (hJ_2 _ h)
  · refine z_lload hE dX12_common_13 0 rfl ?_
    refine z_lload hE dX12_common_15 1 rfl ?_
    obtain ⟨q_5, h⟩ := h
    refine z_lrem hE dX12_common_17 q_5 ?_
    refine z_lstore (lv' := [(8, .long (v4_3 - v4_3 / v6_4 * v6_4)), (4, .long v4_3), (6, .long v6_4)]) hE dX12_common_18 (by decide) rfl ?_
    refine zn (G := fun v8_6 => zZ E (zzPJ Φ μ) 20 [(8, .long v8_6), (4, .long v4_3), (6, .long v6_4)] [] μ) h (fun v8_6 h => ?_)
    refine z_lload hE dX12_common_20 2 rfl ?_
    refine z_lstore (lv' := [(4, .long v6_4), (8, .long v8_6), (6, .long v6_4)]) hE dX12_common_22 (by decide) rfl ?_
    refine z_lload hE dX12_common_24 1 rfl ?_
    refine z_lstore (lv' := [(6, .long v8_6), (4, .long v6_4), (8, .long v8_6)]) hE dX12_common_26 (by decide) rfl ?_
    refine z_goto (tgt := 6) hE dX12_common_28 (by decide) ?_
    exact z_sub [1, 0] rfl (hk6_4 _ _ h)
set_option maxRecDepth 4000 in
theorem c_X12_copies (k0 n0 : Nat) (k1 n1 : Nat) (h0 : SM[k0]? = some (1, n0, [])) (h1 : SM[k1]? = some (1, n1, [])) (μ : ZMem) (Φ : ZMem → Prop) (h : w_X12_copies k0 n0 k1 n1 μ Φ) : zM SM yX12_copies cX12_copies 3 (none) 0 [.ref k0, .ref k1] μ (zzV Φ) := by
  refine zM_go (own := RX12) rfl (by decide) (Nat.le_of_ble_eq_true rfl) (fun E hE => ?_)
  show zZ E (zzV Φ) 0 [(0, .ref k0), (1, .ref k1)] [] μ
  unfold w_X12_copies at h
  refine z_iconst (v := 0) hE dX12_copies_0 zv_i_0 ?_
  refine z_istore_n (lv' := [(2, .int (0 : Int32)), (0, .ref k0), (1, .ref k1)]) hE dX12_copies_1 rfl (by decide) rfl ?_
  refine z_sub [1, 2, 0] rfl ?_
  obtain ⟨n2, h⟩ := h
  refine z_loop2 (P := fun (v2_1 : Int32) (μ_2 : ZMem) => zZ E (zzV Φ) 2 [(0, .ref k0), (1, .ref k1), (2, .int v2_1)] [] μ_2) (fun k2_2 hk2_2 v2_1 μ_2 h => ?_) n2 _ _ h
  refine z_iload_n hE dX12_copies_2 rfl 2 rfl ?_
  refine z_bipush (v := 51) hE dX12_copies_3 zv_b_51 ?_
  refine z_icmp_ge (tgt := 20) hE dX12_copies_5 (by decide) h (fun h => ?_) (fun h => ?_)
  · exact z_vret (st := []) hE dX12_copies_20 rfl ⟨rfl, h⟩
  · refine z_aload_n hE dX12_copies_8 rfl 1 rfl ?_
    refine z_iload_n hE dX12_copies_9 rfl 2 rfl ?_
    refine z_aload_n hE dX12_copies_10 rfl 0 rfl ?_
    refine z_iload_n hE dX12_copies_11 rfl 2 rfl ?_
    obtain ⟨q_3, h⟩ := h
    refine z_iald hE dX12_copies_12 h0 q_3 ?_
    obtain ⟨q_4, h⟩ := h
    refine z_iast hE dX12_copies_13 h1 q_4 ?_
    refine zn (G := fun μ_5 => zZ E (zzV Φ) 14 [(0, .ref k0), (1, .ref k1), (2, .int v2_1)] [] μ_5) h (fun μ_5 h => ?_)
    refine z_iinc (j := 2) (c := 1) (lv' := [(2, .int (v2_1 + (1 : Int32))), (0, .ref k0), (1, .ref k1)]) hE dX12_copies_14 rfl zv_i_1 (by decide) rfl ?_
    refine z_goto (tgt := 2) hE dX12_copies_17 (by decide) ?_
    exact z_sub [1, 2, 0] rfl (hk2_2 _ _ h)
set_option maxRecDepth 4000 in
theorem c_X12_degreeOf (k0 n0 : Nat) (h0 : SM[k0]? = some (2, n0, [])) (μ : ZMem) (Φ : Int32 → Prop) (h : w_X12_degreeOf k0 n0 μ Φ) : zM SM yX12_degreeOf cX12_degreeOf 2 (some FieldType.int) 0 [.ref k0] μ (zzPI Φ μ) := by
  refine zM_go (own := RX12) rfl (by decide) (Nat.le_of_ble_eq_true rfl) (fun E hE => ?_)
  show zZ E (zzPI Φ μ) 0 [(0, .ref k0)] [] μ
  unfold w_X12_degreeOf at h
  refine z_bipush (v := 6) hE dX12_degreeOf_0 zv_b_6 ?_
  refine z_istore_n (lv' := [(1, .int (6 : Int32)), (0, .ref k0)]) hE dX12_degreeOf_2 rfl (by decide) rfl ?_
  refine z_sub [1, 0] rfl ?_
  obtain ⟨n3, h⟩ := h
  refine z_loop1 (P := fun (v1_1 : Int32) => zZ E (zzPI Φ μ) 3 [(0, .ref k0), (1, .int v1_1)] [] μ) (fun k3_1 hk3_1 v1_1 h => ?_) n3 _ h
  refine z_iload_n hE dX12_degreeOf_3 rfl 1 rfl ?_
  refine z_if_lt (tgt := 21) hE dX12_degreeOf_4 (by decide) h (fun h => ?_) (fun h => ?_)
  · refine z_iload_n hE dX12_degreeOf_21 rfl 1 rfl ?_
    exact z_iret (st := []) hE dX12_degreeOf_22 rfl ⟨_, rfl, rfl, h⟩
  · refine z_aload_n hE dX12_degreeOf_7 rfl 0 rfl ?_
    refine z_iload_n hE dX12_degreeOf_8 rfl 1 rfl ?_
    obtain ⟨q_2, h⟩ := h
    refine z_lald hE dX12_degreeOf_9 h0 q_2 ?_
    refine z_lconst (v := 0) hE dX12_degreeOf_10 zv_l_0 ?_
    refine z_ljmp_ne (tgt := 21) hE dX12_degreeOf_11 dX12_degreeOf_12 (by decide) h (fun h => ?_) (fun h => ?_)
    · refine z_iload_n hE dX12_degreeOf_21 rfl 1 rfl ?_
      exact z_iret (st := []) hE dX12_degreeOf_22 rfl ⟨_, rfl, rfl, h⟩
    · refine z_iinc (j := 1) (c := -1) (lv' := [(1, .int (v1_1 + (-1 : Int32))), (0, .ref k0)]) hE dX12_degreeOf_15 rfl zv_i_m1 (by decide) rfl ?_
      refine z_goto (tgt := 3) hE dX12_degreeOf_18 (by decide) ?_
      exact z_sub [1, 0] rfl (hk3_1 _ h)
set_option maxRecDepth 4000 in
theorem c_X12_degreeOfLink (a1 : Int32) (μ : ZMem) (Φ : Int32 → Prop) (h : w_X12_degreeOfLink a1 μ Φ) : zM SM yX12_degreeOfLink cX12_degreeOfLink 3 (some FieldType.int) 0 [.ref 0, .int a1] μ (zzPI Φ μ) := by
  refine zM_go (own := RX12) rfl (by decide) (Nat.le_of_ble_eq_true rfl) (fun E hE => ?_)
  show zZ E (zzPI Φ μ) 0 [(0, .ref 0), (1, .int a1)] [] μ
  unfold w_X12_degreeOfLink at h
  refine z_bipush (v := 6) hE dX12_degreeOfLink_0 zv_b_6 ?_
  refine z_istore_n (lv' := [(2, .int (6 : Int32)), (0, .ref 0), (1, .int a1)]) hE dX12_degreeOfLink_2 rfl (by decide) rfl ?_
  refine z_sub [1, 2, 0] rfl ?_
  obtain ⟨n3, h⟩ := h
  refine z_loop1 (P := fun (v2_1 : Int32) => zZ E (zzPI Φ μ) 3 [(0, .ref 0), (1, .int a1), (2, .int v2_1)] [] μ) (fun k3_1 hk3_1 v2_1 h => ?_) n3 _ h
  refine z_iload_n hE dX12_degreeOfLink_3 rfl 2 rfl ?_
  refine z_if_lt (tgt := 29) hE dX12_degreeOfLink_4 (by decide) h (fun h => ?_) (fun h => ?_)
  · refine z_iload_n hE dX12_degreeOfLink_29 rfl 2 rfl ?_
    exact z_iret (st := []) hE dX12_degreeOfLink_30 rfl ⟨_, rfl, rfl, h⟩
  · refine z_aload_n hE dX12_degreeOfLink_7 rfl 0 rfl ?_
    refine z_getR (t := 11) hE dX12_degreeOfLink_8 lF_X12_43 sM_0 rfl ?_
    refine z_bipush (v := 7) hE dX12_degreeOfLink_11 zv_b_7 ?_
    refine z_iload_n hE dX12_degreeOfLink_13 rfl 1 rfl ?_
    refine z_imul hE dX12_degreeOfLink_14 ?_
    refine z_iload_n hE dX12_degreeOfLink_15 rfl 2 rfl ?_
    refine z_iadd hE dX12_degreeOfLink_16 ?_
    obtain ⟨q_2, h⟩ := h
    refine z_lald hE dX12_degreeOfLink_17 sM_11 q_2 ?_
    refine z_lconst (v := 0) hE dX12_degreeOfLink_18 zv_l_0 ?_
    refine z_ljmp_ne (tgt := 29) hE dX12_degreeOfLink_19 dX12_degreeOfLink_20 (by decide) h (fun h => ?_) (fun h => ?_)
    · refine z_iload_n hE dX12_degreeOfLink_29 rfl 2 rfl ?_
      exact z_iret (st := []) hE dX12_degreeOfLink_30 rfl ⟨_, rfl, rfl, h⟩
    · refine z_iinc (j := 2) (c := -1) (lv' := [(2, .int (v2_1 + (-1 : Int32))), (0, .ref 0), (1, .int a1)]) hE dX12_degreeOfLink_23 rfl zv_i_m1 (by decide) rfl ?_
      refine z_goto (tgt := 3) hE dX12_degreeOfLink_26 (by decide) ?_
      exact z_sub [1, 2, 0] rfl (hk3_1 _ h)
set_option maxRecDepth 4000 in
theorem c_X12_exchanges (a1 : Int32) (a2 : Int32) (μ : ZMem) (Φ : ZMem → Prop) (h : w_X12_exchanges a1 a2 μ Φ) : zM SM yX12_exchanges cX12_exchanges 4 (none) 0 [.ref 0, .int a1, .int a2] μ (zzV Φ) := by
  refine zM_go (own := RX12) rfl (by decide) (Nat.le_of_ble_eq_true rfl) (fun E hE => ?_)
  show zZ E (zzV Φ) 0 [(0, .ref 0), (1, .int a1), (2, .int a2)] [] μ
  unfold w_X12_exchanges at h
  refine z_aload_n hE dX12_exchanges_0 rfl 0 rfl ?_
  refine z_getR (t := 1) hE dX12_exchanges_1 lF_X12_11 sM_0 rfl ?_
  refine z_bipush (v := 16) hE dX12_exchanges_4 zv_b_16 ?_
  refine z_iload_n hE dX12_exchanges_6 rfl 1 rfl ?_
  refine z_iadd hE dX12_exchanges_7 ?_
  obtain ⟨q_1, h⟩ := h
  refine z_iald hE dX12_exchanges_8 sM_1 q_1 ?_
  refine z_istore_n (lv' := [(3, .int (μ.1 1 (Int32.toNatClampNeg ((16 : Int32) + a1)))), (0, .ref 0), (1, .int a1), (2, .int a2)]) hE dX12_exchanges_9 rfl (by decide) rfl ?_
  refine zn (G := fun v3_2 => zZ E (zzV Φ) 10 [(3, .int v3_2), (0, .ref 0), (1, .int a1), (2, .int a2)] [] μ) h (fun v3_2 h => ?_)
  refine z_aload_n hE dX12_exchanges_10 rfl 1 rfl ?_
  refine z_getR (t := 1) hE dX12_exchanges_11 lF_X12_11 sM_0 rfl ?_
  refine z_bipush (v := 16) hE dX12_exchanges_14 zv_b_16 ?_
  refine z_iload_n hE dX12_exchanges_16 rfl 2 rfl ?_
  refine z_iadd hE dX12_exchanges_17 ?_
  refine z_aload_n hE dX12_exchanges_18 rfl 1 rfl ?_
  refine z_getR (t := 1) hE dX12_exchanges_19 lF_X12_11 sM_0 rfl ?_
  refine z_bipush (v := 16) hE dX12_exchanges_22 zv_b_16 ?_
  refine z_iload_n hE dX12_exchanges_24 rfl 3 rfl ?_
  refine z_iadd hE dX12_exchanges_25 ?_
  obtain ⟨q_3, h⟩ := h
  refine z_iald hE dX12_exchanges_26 sM_1 q_3 ?_
  obtain ⟨q_4, h⟩ := h
  refine z_iast hE dX12_exchanges_27 sM_1 q_4 ?_
  refine zn (G := fun μ_5 => zZ E (zzV Φ) 28 [(3, .int v3_2), (0, .ref 0), (1, .int a1), (2, .int a2)] [] μ_5) h (fun μ_5 h => ?_)
  refine z_aload_n hE dX12_exchanges_28 rfl 1 rfl ?_
  refine z_getR (t := 1) hE dX12_exchanges_29 lF_X12_11 sM_0 rfl ?_
  refine z_bipush (v := 16) hE dX12_exchanges_32 zv_b_16 ?_
  refine z_iload_n hE dX12_exchanges_34 rfl 3 rfl ?_
  refine z_iadd hE dX12_exchanges_35 ?_
  refine z_iload_n hE dX12_exchanges_36 rfl 0 rfl ?_
  obtain ⟨q_6, h⟩ := h
  refine z_iast hE dX12_exchanges_37 sM_1 q_6 ?_
  refine zn (G := fun μ_7 => zZ E (zzV Φ) 38 [(3, .int v3_2), (0, .ref 0), (1, .int a1), (2, .int a2)] [] μ_7) h (fun μ_7 h => ?_)
  exact z_vret (st := []) hE dX12_exchanges_38 rfl ⟨rfl, h⟩
set_option maxRecDepth 4000 in
theorem c_X12_firstCase  (μ : ZMem) (Φ : Int32 → Prop) (h : w_X12_firstCase μ Φ) : zM SM yX12_firstCase cX12_firstCase 2 (some FieldType.int) 0 [.ref 0] μ (zzPI Φ μ) := by
  refine zM_go (own := RX12) rfl (by decide) (Nat.le_of_ble_eq_true rfl) (fun E hE => ?_)
  show zZ E (zzPI Φ μ) 0 [(0, .ref 0)] [] μ
  unfold w_X12_firstCase at h
  refine z_iconst (v := 0) hE dX12_firstCase_0 zv_i_0 ?_
  refine z_istore_n (lv' := [(1, .int (0 : Int32)), (0, .ref 0)]) hE dX12_firstCase_1 rfl (by decide) rfl ?_
  refine z_sub [1, 0] rfl ?_
  obtain ⟨n2, h⟩ := h
  refine z_loop1 (P := fun (v1_1 : Int32) => zZ E (zzPI Φ μ) 2 [(0, .ref 0), (1, .int v1_1)] [] μ) (fun k2_1 hk2_1 v1_1 h => ?_) n2 _ h
  refine z_iload_n hE dX12_firstCase_2 rfl 1 rfl ?_
  refine z_aload_n hE dX12_firstCase_3 rfl 0 rfl ?_
  refine z_getI hE dX12_firstCase_4 lF_X12_121 sM_0 rfl ?_
  refine z_icmp_gt (tgt := 28) hE dX12_firstCase_7 (by decide) h (fun h => ?_) (fun h => ?_)
  · refine z_iconst (v := -1) hE dX12_firstCase_28 zv_i_m1 ?_
    exact z_iret (st := []) hE dX12_firstCase_29 rfl ⟨_, rfl, rfl, h⟩
  · refine z_aload_n hE dX12_firstCase_10 rfl 0 rfl ?_
    refine z_getR (t := 8) hE dX12_firstCase_11 lF_X12_34 sM_0 rfl ?_
    refine z_iload_n hE dX12_firstCase_14 rfl 1 rfl ?_
    obtain ⟨q_2, h⟩ := h
    refine z_iald hE dX12_firstCase_15 sM_8 q_2 ?_
    refine z_iconst (v := 2) hE dX12_firstCase_16 zv_i_2 ?_
    refine z_icmp_ne (tgt := 22) hE dX12_firstCase_17 (by decide) h (fun h => ?_) (fun h => ?_)
    · refine z_iinc (j := 1) (c := 1) (lv' := [(1, .int (v1_1 + (1 : Int32))), (0, .ref 0)]) hE dX12_firstCase_22 rfl zv_i_1 (by decide) rfl ?_
      refine z_goto (tgt := 2) hE dX12_firstCase_25 (by decide) ?_
      exact z_sub [1, 0] rfl (hk2_1 _ h)
    · refine z_iload_n hE dX12_firstCase_20 rfl 1 rfl ?_
      exact z_iret (st := []) hE dX12_firstCase_21 rfl ⟨_, rfl, rfl, h⟩
set_option maxRecDepth 4000 in
theorem c_X12_here  (μ : ZMem) (Φ : Int32 → Prop) (h : w_X12_here μ Φ) : zM SM yX12_here cX12_here 1 (some FieldType.int) 0 [.ref 0] μ (zzPI Φ μ) := by
  refine zM_go (own := RX12) rfl (by decide) (Nat.le_of_ble_eq_true rfl) (fun E hE => ?_)
  show zZ E (zzPI Φ μ) 0 [(0, .ref 0)] [] μ
  unfold w_X12_here at h
  refine z_aload_n hE dX12_here_0 rfl 0 rfl ?_
  refine z_getI hE dX12_here_1 lF_X12_256 sM_0 rfl ?_
  refine z_aload_n hE dX12_here_4 rfl 0 rfl ?_
  refine z_getI hE dX12_here_5 lF_X12_253 sM_0 rfl ?_
  refine z_icmp_ge (tgt := 23) hE dX12_here_8 (by decide) h (fun h => ?_) (fun h => ?_)
  · refine z_iconst (v := -1) hE dX12_here_23 zv_i_m1 ?_
    exact z_iret (st := []) hE dX12_here_24 rfl ⟨_, rfl, rfl, h⟩
  · refine z_aload_n hE dX12_here_11 rfl 0 rfl ?_
    refine z_getR (t := 13) hE dX12_here_12 lF_X12_49 sM_0 rfl ?_
    refine z_aload_n hE dX12_here_15 rfl 0 rfl ?_
    refine z_getI hE dX12_here_16 lF_X12_256 sM_0 rfl ?_
    obtain ⟨q_1, h⟩ := h
    refine z_iald hE dX12_here_19 sM_13 q_1 ?_
    refine z_goto (tgt := 24) hE dX12_here_20 (by decide) ?_
    exact z_iret (st := []) hE dX12_here_24 rfl ⟨_, rfl, rfl, h⟩
set_option maxRecDepth 4000 in
theorem c_X12_in (a0 : Int64) (a2 : Int64) (a4 : Int64) (μ : ZMem) (Φ : Int32 → Prop) (h : w_X12_in a0 a2 a4 Φ) : zM SM yX12_in cX12_in 6 (some FieldType.boolean) 0 [.long a0, .long a2, .long a4] μ (zzPI Φ μ) := by
  refine zM_go (own := RX12) rfl (by decide) (Nat.le_of_ble_eq_true rfl) (fun E hE => ?_)
  show zZ E (zzPI Φ μ) 0 [(0, .long a0), (2, .long a2), (4, .long a4)] [] μ
  unfold w_X12_in at h
  refine z_lload_n hE dX12_in_0 rfl 0 rfl ?_
  refine z_lload_n hE dX12_in_1 rfl 1 rfl ?_
  refine z_ljmp_lt (tgt := 17) hE dX12_in_2 dX12_in_3 (by decide) h (fun h => ?_) (fun h => ?_)
  · refine z_iconst (v := 0) hE dX12_in_17 zv_i_0 ?_
    exact z_zret (st := []) hE dX12_in_18 rfl (by decide) ⟨_, rfl, rfl, h⟩
  · refine z_lload_n hE dX12_in_6 rfl 0 rfl ?_
    refine z_lload hE dX12_in_7 2 rfl ?_
    refine z_ljmp_gt (tgt := 17) hE dX12_in_9 dX12_in_10 (by decide) h (fun h => ?_) (fun h => ?_)
    · refine z_iconst (v := 0) hE dX12_in_17 zv_i_0 ?_
      exact z_zret (st := []) hE dX12_in_18 rfl (by decide) ⟨_, rfl, rfl, h⟩
    · refine z_iconst (v := 1) hE dX12_in_13 zv_i_1 ?_
      refine z_goto (tgt := 18) hE dX12_in_14 (by decide) ?_
      exact z_zret (st := []) hE dX12_in_18 rfl (by decide) ⟨_, rfl, rfl, h⟩
