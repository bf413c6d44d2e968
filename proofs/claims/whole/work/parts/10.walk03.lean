set_option maxRecDepth 4000 in
theorem c_X9_takePower  (μ : ZMem) (Φ : Int32 → ZMem → Prop) (h : w_X9_takePower μ Φ) : zM SX yX9_takePower cX9_takePower 2 (some FieldType.int) 1 [.ref 23] μ (zzI Φ) := by
  refine zM_go (own := RX9) rfl (by decide) (Nat.le_of_ble_eq_true rfl) (fun E hE => ?_)
  show zZ E (zzI Φ) 0 [(0, .ref 23)] [] μ
  unfold w_X9_takePower at h
  refine z_aload_n hE dX9_takePower_0 rfl 0 rfl ?_
  refine z_aload_n hE dX9_takePower_1 rfl 0 rfl ?_
  refine z_getI hE dX9_takePower_2 lF_X9_32 sX_23 rfl ?_
  refine z_callV hE dX9_takePower_5 lV_X9_50 (c_X9_letterAt _ μ _ h) sX_23 rfl (Nat.le_of_ble_eq_true rfl) (by decide) rfl (zk_PI (fun r_1 h => ?_))
  refine z_istore_n (lv' := [(1, .int r_1), (0, .ref 23)]) hE dX9_takePower_8 rfl (by decide) rfl ?_
  refine z_iload_n hE dX9_takePower_9 rfl 0 rfl ?_
  refine z_bipush (v := 49) hE dX9_takePower_10 zv_b_49 ?_
  refine z_icmp_lt (tgt := 21) hE dX9_takePower_12 (by decide) h (fun h => ?_) (fun h => ?_)
  · refine z_iconst (v := 1) hE dX9_takePower_21 zv_i_1 ?_
    exact z_iret (st := []) hE dX9_takePower_22 rfl ⟨_, rfl, h⟩
  · refine z_iload_n hE dX9_takePower_15 rfl 0 rfl ?_
    refine z_bipush (v := 54) hE dX9_takePower_16 zv_b_54 ?_
    refine z_icmp_le (tgt := 23) hE dX9_takePower_18 (by decide) h (fun h => ?_) (fun h => ?_)
    · refine z_aload_n hE dX9_takePower_23 rfl 1 rfl ?_
      refine z_dup hE dX9_takePower_24 rfl ?_
      refine z_getI hE dX9_takePower_25 lF_X9_32 sX_23 rfl ?_
      refine z_iconst (v := 1) hE dX9_takePower_28 zv_i_1 ?_
      refine z_iadd hE dX9_takePower_29 ?_
      refine z_put hE dX9_takePower_30 lF_X9_32 sX_23 rfl rfl rfl ?_
      refine zn (G := fun μ_3 => zZ E (zzI Φ) 33 [(1, .int r_1), (0, .ref 23)] [] μ_3) h (fun μ_3 h => ?_)
      refine z_iload_n hE dX9_takePower_33 rfl 0 rfl ?_
      refine z_bipush (v := 48) hE dX9_takePower_34 zv_b_48 ?_
      refine z_isub hE dX9_takePower_36 ?_
      exact z_iret (st := []) hE dX9_takePower_37 rfl ⟨_, rfl, h⟩
    · refine z_iconst (v := 1) hE dX9_takePower_21 zv_i_1 ?_
      exact z_iret (st := []) hE dX9_takePower_22 rfl ⟨_, rfl, h⟩
set_option maxRecDepth 4000 in
theorem c_X0_append (k1 n1 : Nat) (a2 : Int32) (h1 : SX[k1]? = some (2, n1, [])) (μ : ZMem) (Φ : ZMem → Prop) (h : w_X0_append k1 n1 a2 μ Φ) : zM SX yX0_append cX0_append 4 (none) 2 [.ref 40, .ref k1, .int a2] μ (zzV Φ) := by
  refine zM_go (own := RX0) rfl (by decide) (Nat.le_of_ble_eq_true rfl) (fun E hE => ?_)
  show zZ E (zzV Φ) 0 [(0, .ref 40), (1, .ref k1), (2, .int a2)] [] μ
  unfold w_X0_append at h
  refine z_iconst (v := 0) hE dX0_append_0 zv_i_0 ?_
  refine z_istore_n (lv' := [(3, .int (0 : Int32)), (0, .ref 40), (1, .ref k1), (2, .int a2)]) hE dX0_append_1 rfl (by decide) rfl ?_
  refine z_join (P := fun (J_2 : ZMem → Prop) => ∀ (μ_1 : ZMem), J_2 μ_1 → zZ E (zzV Φ) 31 [(0, .ref 40)] [] μ_1) h (fun μ_1 h => ?_) (fun J_2 hJ_2 h => ?_)
  · refine z_aload_n hE dX0_append_31 rfl 0 rfl ?_
    refine z_getR (t := 41) hE dX0_append_32 lF_X0_11 sX_40 rfl ?_
    refine z_aload_n hE dX0_append_35 rfl 0 rfl ?_
    refine z_getI hE dX0_append_36 lF_X0_20 sX_40 rfl ?_
    obtain ⟨q_3, h⟩ := h
    refine z_aald1 hE dX0_append_39 sX_41 (fun _ => rfl) rfl q_3 ?_
    refine z_callS hE dX0_append_40 lS_X0_42 (c_X4_shrink _ _ (sXr_42 _ (zz_in_lt q_3)) μ_1 _ h) rfl (Nat.le_of_ble_eq_true rfl) (by decide) rfl (zk_V (fun μ_5 h => ?_))
    refine z_aload_n hE dX0_append_43 rfl 0 rfl ?_
    refine z_dup hE dX0_append_44 rfl ?_
    refine z_getI hE dX0_append_45 lF_X0_20 sX_40 rfl ?_
    refine z_iconst (v := 1) hE dX0_append_48 zv_i_1 ?_
    refine z_iadd hE dX0_append_49 ?_
    refine z_put hE dX0_append_50 lF_X0_20 sX_40 rfl rfl rfl ?_
    refine zn (G := fun μ_6 => zZ E (zzV Φ) 53 [(0, .ref 40)] [] μ_6) h (fun μ_6 h => ?_)
    exact z_vret (st := []) hE dX0_append_53 rfl ⟨rfl, h⟩
  refine z_sub [1, 2, 3, 0] rfl ?_
  obtain ⟨n2, h⟩ := h
  refine z_loop2 (P := fun (v3_7 : Int32) (μ_8 : ZMem) => zZ E (zzV Φ) 2 [(0, .ref 40), (1, .ref k1), (2, .int a2), (3, .int v3_7)] [] μ_8) (fun k2_8 hk2_8 v3_7 μ_8 h => ?_) n2 _ _ h
  refine z_iload_n hE dX0_append_2 rfl 3 rfl ?_
  refine z_bipush (v := 7) hE dX0_append_3 zv_b_7 ?_
  refine z_icmp_ge (tgt := 31) hE dX0_append_5 (by decide) h (fun h => ?_) (fun h => ?_)
  · exact z_sub [0] rfl (hJ_2 _ h)
  · refine z_aload_n hE dX0_append_8 rfl 0 rfl ?_
    refine z_getR (t := 41) hE dX0_append_9 lF_X0_11 sX_40 rfl ?_
    refine z_aload_n hE dX0_append_12 rfl 0 rfl ?_
    refine z_getI hE dX0_append_13 lF_X0_20 sX_40 rfl ?_
    obtain ⟨q_9, h⟩ := h
    refine z_aald1 hE dX0_append_16 sX_41 (fun _ => rfl) rfl q_9 ?_
    refine z_iload_n hE dX0_append_17 rfl 3 rfl ?_
    refine z_iload_n hE dX0_append_18 rfl 2 rfl ?_
    refine z_i2l hE dX0_append_19 ?_
    refine z_aload_n hE dX0_append_20 rfl 1 rfl ?_
    refine z_iload_n hE dX0_append_21 rfl 3 rfl ?_
    obtain ⟨q_10, h⟩ := h
    refine z_lald hE dX0_append_22 h1 q_10 ?_
    refine z_lmul hE dX0_append_23 ?_
    obtain ⟨q_11, h⟩ := h
    refine z_last hE dX0_append_24 (sXr_42 _ (zz_in_lt q_9)) q_11 ?_
    refine zn (G := fun μ_12 => zZ E (zzV Φ) 25 [(0, .ref 40), (1, .ref k1), (2, .int a2), (3, .int v3_7)] [] μ_12) h (fun μ_12 h => ?_)
    refine z_iinc (j := 3) (c := 1) (lv' := [(3, .int (v3_7 + (1 : Int32))), (0, .ref 40), (1, .ref k1), (2, .int a2)]) hE dX0_append_25 rfl zv_i_1 (by decide) rfl ?_
    refine z_goto (tgt := 2) hE dX0_append_28 (by decide) ?_
    exact z_sub [1, 2, 3, 0] rfl (hk2_8 _ _ h)
set_option maxRecDepth 4000 in
theorem c_X0_changesAt (a1 : Int32) (μ : ZMem) (Φ : Int32 → Prop) (h : w_X0_changesAt a1 μ Φ) : zM SX yX0_changesAt cX0_changesAt 8 (some FieldType.int) 2 [.ref 40, .int a1] μ (zzPI Φ μ) := by
  refine zM_go (own := RX0) rfl (by decide) (Nat.le_of_ble_eq_true rfl) (fun E hE => ?_)
  show zZ E (zzPI Φ μ) 0 [(0, .ref 40), (1, .int a1)] [] μ
  unfold w_X0_changesAt at h
  refine z_iconst (v := 0) hE dX0_changesAt_0 zv_i_0 ?_
  refine z_istore_n (lv' := [(2, .int (0 : Int32)), (0, .ref 40), (1, .int a1)]) hE dX0_changesAt_1 rfl (by decide) rfl ?_
  refine z_lconst (v := 0) hE dX0_changesAt_2 zv_l_0 ?_
  refine z_lstore_n (lv' := [(3, .long (0 : Int64)), (2, .int (0 : Int32)), (0, .ref 40), (1, .int a1)]) hE dX0_changesAt_3 rfl (by decide) rfl ?_
  refine z_iconst (v := 0) hE dX0_changesAt_4 zv_i_0 ?_
  refine z_istore (lv' := [(5, .int (0 : Int32)), (3, .long (0 : Int64)), (2, .int (0 : Int32)), (0, .ref 40), (1, .int a1)]) hE dX0_changesAt_5 (by decide) rfl ?_
  refine z_join (P := fun (J_2 : Int32 → Prop) => ∀ (v2_1 : Int32), J_2 v2_1 → zZ E (zzPI Φ μ) 104 [(0, .ref 40), (2, .int v2_1)] [] μ) h (fun v2_1 h => ?_) (fun J_2 hJ_2 h => ?_)
  · refine z_aload_n hE dX0_changesAt_104 rfl 0 rfl ?_
    refine z_getI hE dX0_changesAt_105 lF_X0_24 sX_40 rfl ?_
    refine z_if_eq (tgt := 116) hE dX0_changesAt_108 (by decide) h (fun h => ?_) (fun h => ?_)
    · refine z_iload_n hE dX0_changesAt_116 rfl 1 rfl ?_
      exact z_iret (st := []) hE dX0_changesAt_117 rfl ⟨_, rfl, rfl, h⟩
    · refine z_bipush (v := -7) hE dX0_changesAt_111 zv_b_m7 ?_
      refine z_goto (tgt := 117) hE dX0_changesAt_113 (by decide) ?_
      exact z_iret (st := []) hE dX0_changesAt_117 rfl ⟨_, rfl, rfl, h⟩
  refine z_sub [3, 4, 2, 1, 0] rfl ?_
  obtain ⟨n7, h⟩ := h
  refine z_loop3 (P := fun (v2_3 : Int32) (v3_4 : Int64) (v5_5 : Int32) => zZ E (zzPI Φ μ) 7 [(0, .ref 40), (1, .int a1), (2, .int v2_3), (3, .long v3_4), (5, .int v5_5)] [] μ) (fun k7_5 hk7_5 v2_3 v3_4 v5_5 h => ?_) n7 _ _ _ h
  refine z_iload hE dX0_changesAt_7 4 rfl ?_
  refine z_aload_n hE dX0_changesAt_9 rfl 0 rfl ?_
  refine z_getI hE dX0_changesAt_10 lF_X0_20 sX_40 rfl ?_
  refine z_icmp_ge (tgt := 104) hE dX0_changesAt_13 (by decide) h (fun h => ?_) (fun h => ?_)
  · exact z_sub [0, 2] rfl (hJ_2 _ h)
  · refine z_aload_n hE dX0_changesAt_16 rfl 0 rfl ?_
    refine z_getI hE dX0_changesAt_17 lF_X0_24 sX_40 rfl ?_
    refine z_if_ne (tgt := 104) hE dX0_changesAt_20 (by decide) h (fun h => ?_) (fun h => ?_)
    · exact z_sub [0, 2] rfl (hJ_2 _ h)
    · refine z_aload_n hE dX0_changesAt_23 rfl 0 rfl ?_
      refine z_getR (t := 41) hE dX0_changesAt_24 lF_X0_11 sX_40 rfl ?_
      refine z_iload hE dX0_changesAt_27 4 rfl ?_
      obtain ⟨q_6, h⟩ := h
      refine z_aald1 hE dX0_changesAt_29 sX_41 (fun _ => rfl) rfl q_6 ?_
      refine z_iload_n hE dX0_changesAt_30 rfl 1 rfl ?_
      refine z_callS hE dX0_changesAt_31 lS_X0_75 (c_X0_valueAt _ _ _ (sXr_42 _ (zz_in_lt q_6)) μ _ h) rfl (Nat.le_of_ble_eq_true rfl) (by decide) rfl (zk_PJ (fun r_7 h => ?_))
      refine z_lstore (lv' := [(6, .long r_7), (0, .ref 40), (1, .int a1), (2, .int v2_3), (3, .long v3_4), (5, .int v5_5)]) hE dX0_changesAt_34 (by decide) rfl ?_
      refine z_lload hE dX0_changesAt_36 0 rfl ?_
      refine z_ldc2 (v := -9223372036854775808) hE dX0_changesAt_38 lK_X0_79 ?_
      refine z_ljmp_ne (tgt := 48) hE dX0_changesAt_41 dX0_changesAt_42 (by decide) h (fun h => ?_) (fun h => ?_)
      · refine z_lload hE dX0_changesAt_48 0 rfl ?_
        refine z_lconst (v := 0) hE dX0_changesAt_50 zv_l_0 ?_
        refine z_join (P := fun (J_11 : Int32 → Int64 → Prop) => ∀ (v2_9 : Int32) (v3_10 : Int64), J_11 v2_9 v3_10 → zZ E (zzPI Φ μ) 98 [(0, .ref 40), (1, .int a1), (2, .int v2_9), (3, .long v3_10), (5, .int v5_5)] [] μ) h (fun v2_9 v3_10 h => ?_) (fun J_11 hJ_11 h => ?_)
        · refine z_iinc (j := 4) (c := 1) (lv' := [(5, .int (v5_5 + (1 : Int32))), (0, .ref 40), (1, .int a1), (2, .int v2_9), (3, .long v3_10)]) hE dX0_changesAt_98 rfl zv_i_1 (by decide) rfl ?_
          refine z_goto (tgt := 7) hE dX0_changesAt_101 (by decide) ?_
          exact z_sub [1, 2, 3, 4, 0] rfl (hk7_5 _ _ _ h)
        refine z_ljmp_eq (tgt := 98) hE dX0_changesAt_51 dX0_changesAt_52 (by decide) h (fun h => ?_) (fun h => ?_)
        · exact z_sub [1, 2, 3, 4, 5] rfl (hJ_11 _ _ h)
        · refine z_iload_n hE dX0_changesAt_55 rfl 3 rfl ?_
          refine z_lload_n hE dX0_changesAt_56 rfl 4 rfl ?_
          refine z_lconst (v := 0) hE dX0_changesAt_57 zv_l_0 ?_
          refine z_join (P := fun (J_13 : Int32 → Prop) => ∀ (x_12 : Int32), J_13 x_12 → zZ E (zzPI Φ μ) 93 [(0, .ref 40), (1, .int a1), (5, .int v5_5), (6, .long r_7)] [.int x_12, .int v2_3] μ) h (fun x_12 h => ?_) (fun J_13 hJ_13 h => ?_)
          · refine z_iadd hE dX0_changesAt_93 ?_
            refine z_istore_n (lv' := [(2, .int (v2_3 + x_12)), (0, .ref 40), (1, .int a1), (5, .int v5_5), (6, .long r_7)]) hE dX0_changesAt_94 rfl (by decide) rfl ?_
            refine zn (G := fun v2_14 => zZ E (zzPI Φ μ) 95 [(2, .int v2_14), (0, .ref 40), (1, .int a1), (5, .int v5_5), (6, .long r_7)] [] μ) h (fun v2_14 h => ?_)
            refine z_lload hE dX0_changesAt_95 4 rfl ?_
            refine z_lstore_n (lv' := [(3, .long r_7), (2, .int v2_14), (0, .ref 40), (1, .int a1), (5, .int v5_5), (6, .long r_7)]) hE dX0_changesAt_97 rfl (by decide) rfl ?_
            exact z_sub [2, 3, 1, 0, 4] rfl (hJ_11 _ _ h)
          refine z_join (P := fun (J_15 : Prop) => J_15 → zZ E (zzPI Φ μ) 92 [(0, .ref 40), (1, .int a1), (5, .int v5_5), (6, .long r_7)] [.int v2_3] μ) h (fun  h => ?_) (fun J_15 hJ_15 h => ?_)
          · refine z_iconst (v := 0) hE dX0_changesAt_92 zv_i_0 ?_
            exact hJ_13 _ h
          refine z_ljmp_eq (tgt := 92) hE dX0_changesAt_58 dX0_changesAt_59 (by decide) h (fun h => ?_) (fun h => ?_)
          · exact z_sub [1, 2, 5, 0] rfl (hJ_15 h)
          · refine z_lload_n hE dX0_changesAt_62 rfl 4 rfl ?_
            refine z_lconst (v := 0) hE dX0_changesAt_63 zv_l_0 ?_
            refine z_join (P := fun (J_17 : Int32 → Prop) => ∀ (x_16 : Int32), J_17 x_16 → zZ E (zzPI Φ μ) 73 [(0, .ref 40), (1, .int a1), (5, .int v5_5), (6, .long r_7)] [.int x_16, .int v2_3] μ) h (fun x_16 h => ?_) (fun J_17 hJ_17 h => ?_)
            · refine z_lload hE dX0_changesAt_73 3 rfl ?_
              refine z_lconst (v := 0) hE dX0_changesAt_75 zv_l_0 ?_
              refine z_join (P := fun (J_19 : Int32 → Prop) => ∀ (x_18 : Int32), J_19 x_18 → zZ E (zzPI Φ μ) 85 [(0, .ref 40), (1, .int a1), (5, .int v5_5), (6, .long r_7)] [.int x_18, .int x_16, .int v2_3] μ) h (fun x_18 h => ?_) (fun J_19 hJ_19 h => ?_)
              · refine z_icmp_eq (tgt := 92) hE dX0_changesAt_85 (by decide) h (fun h => ?_) (fun h => ?_)
                · exact hJ_15 h
                · refine z_iconst (v := 1) hE dX0_changesAt_88 zv_i_1 ?_
                  refine z_goto (tgt := 93) hE dX0_changesAt_89 (by decide) ?_
                  exact hJ_13 _ h
              refine z_ljmp_ge (tgt := 84) hE dX0_changesAt_76 dX0_changesAt_77 (by decide) h (fun h => ?_) (fun h => ?_)
              · refine z_iconst (v := 0) hE dX0_changesAt_84 zv_i_0 ?_
                exact hJ_19 _ h
              · refine z_iconst (v := 1) hE dX0_changesAt_80 zv_i_1 ?_
                refine z_goto (tgt := 85) hE dX0_changesAt_81 (by decide) ?_
                exact hJ_19 _ h
            refine z_ljmp_ge (tgt := 72) hE dX0_changesAt_64 dX0_changesAt_65 (by decide) h (fun h => ?_) (fun h => ?_)
            · refine z_iconst (v := 0) hE dX0_changesAt_72 zv_i_0 ?_
              exact z_sub [1, 2, 5, 0] rfl (hJ_17 _ h)
            · refine z_iconst (v := 1) hE dX0_changesAt_68 zv_i_1 ?_
              refine z_goto (tgt := 73) hE dX0_changesAt_69 (by decide) ?_
              exact z_sub [1, 2, 5, 0] rfl (hJ_17 _ h)
      · refine z_bipush (v := -7) hE dX0_changesAt_45 zv_b_m7 ?_
        exact z_iret (st := []) hE dX0_changesAt_47 rfl ⟨_, rfl, rfl, h⟩
set_option maxRecDepth 4000 in
theorem c_X0_divide (k1 n1 : Nat) (k2 n2 : Nat) (h1 : SX[k1]? = some (2, n1, [])) (h2 : SX[k2]? = some (2, n2, [])) (μ : ZMem) (Φ : ZMem → Prop) (h : w_X0_divide k1 n1 k2 n2 μ Φ) : zM SX yX0_divide cX0_divide 6 (none) 2 [.ref 40, .ref k1, .ref k2] μ (zzV Φ) := by
  refine zM_go (own := RX0) rfl (by decide) (Nat.le_of_ble_eq_true rfl) (fun E hE => ?_)
  show zZ E (zzV Φ) 0 [(0, .ref 40), (1, .ref k1), (2, .ref k2)] [] μ
  unfold w_X0_divide at h
  refine z_aload_n hE dX0_divide_0 rfl 1 rfl ?_
  refine z_iconst (v := 0) hE dX0_divide_1 zv_i_0 ?_
  refine z_aload_n hE dX0_divide_2 rfl 0 rfl ?_
  refine z_getR (t := 49) hE dX0_divide_3 lF_X0_16 sX_40 rfl ?_
  refine z_iconst (v := 0) hE dX0_divide_6 zv_i_0 ?_
  refine z_bipush (v := 7) hE dX0_divide_7 zv_b_7 ?_
  obtain ⟨q_1, h⟩ := h
  refine z_copyJ hE dX0_divide_9 lA_X0_46 h1 sX_49 q_1 (Nat.le_of_ble_eq_true rfl) ?_
  refine zn (G := fun μ_2 => zZ E (zzV Φ) 12 [(0, .ref 40), (1, .ref k1), (2, .ref k2)] [] μ_2) h (fun μ_2 h => ?_)
  refine z_aload_n hE dX0_divide_12 rfl 2 rfl ?_
  refine z_callS hE dX0_divide_13 lS_X0_28 (c_X4_highest _ _ h2 μ_2 _ h) rfl (Nat.le_of_ble_eq_true rfl) (by decide) rfl (zk_PI (fun r_3 h => ?_))
  refine z_istore_n (lv' := [(3, .int r_3), (0, .ref 40), (1, .ref k1), (2, .ref k2)]) hE dX0_divide_16 rfl (by decide) rfl ?_
  refine z_iconst (v := 0) hE dX0_divide_17 zv_i_0 ?_
  refine z_istore (lv' := [(4, .int (0 : Int32)), (3, .int r_3), (0, .ref 40), (1, .ref k1), (2, .ref k2)]) hE dX0_divide_18 (by decide) rfl ?_
  refine z_sub [2, 4, 1, 0] rfl ?_
  obtain ⟨n20, h⟩ := h
  refine z_loop2 (P := fun (v4_5 : Int32) (μ_6 : ZMem) => zZ E (zzV Φ) 20 [(0, .ref 40), (2, .ref k2), (3, .int r_3), (4, .int v4_5)] [] μ_6) (fun k20_6 hk20_6 v4_5 μ_6 h => ?_) n20 _ _ h
  refine z_iload hE dX0_divide_20 3 rfl ?_
  refine z_bipush (v := 7) hE dX0_divide_22 zv_b_7 ?_
  refine z_icmp_ge (tgt := 79) hE dX0_divide_24 (by decide) h (fun h => ?_) (fun h => ?_)
  · exact z_vret (st := []) hE dX0_divide_79 rfl ⟨rfl, h⟩
  · refine z_aload_n hE dX0_divide_27 rfl 0 rfl ?_
    refine z_getI hE dX0_divide_28 lF_X0_24 sX_40 rfl ?_
    refine z_if_ne (tgt := 79) hE dX0_divide_31 (by decide) h (fun h => ?_) (fun h => ?_)
    · exact z_vret (st := []) hE dX0_divide_79 rfl ⟨rfl, h⟩
    · refine z_aload_n hE dX0_divide_34 rfl 0 rfl ?_
      refine z_getR (t := 49) hE dX0_divide_35 lF_X0_16 sX_40 rfl ?_
      refine z_callS hE dX0_divide_38 lS_X0_28 (c_X4_highest _ _ sX_49 μ_6 _ h) rfl (Nat.le_of_ble_eq_true rfl) (by decide) rfl (zk_PI (fun r_7 h => ?_))
      refine z_istore (lv' := [(5, .int r_7), (0, .ref 40), (2, .ref k2), (3, .int r_3), (4, .int v4_5)]) hE dX0_divide_41 (by decide) rfl ?_
      refine z_iload_n hE dX0_divide_43 rfl 3 rfl ?_
      refine z_if_lt (tgt := 53) hE dX0_divide_44 (by decide) h (fun h => ?_) (fun h => ?_)
      · exact z_vret (st := []) hE dX0_divide_53 rfl ⟨rfl, h⟩
      · refine z_iload hE dX0_divide_47 0 rfl ?_
        refine z_iload_n hE dX0_divide_49 rfl 3 rfl ?_
        refine z_icmp_ge (tgt := 54) hE dX0_divide_50 (by decide) h (fun h => ?_) (fun h => ?_)
        · refine z_aload_n hE dX0_divide_54 rfl 1 rfl ?_
          refine z_iload hE dX0_divide_55 0 rfl ?_
          refine z_aload_n hE dX0_divide_57 rfl 2 rfl ?_
          refine z_iload_n hE dX0_divide_58 rfl 3 rfl ?_
          refine z_callV hE dX0_divide_59 lV_X0_52 (c_X0_lower _ _ _ _ h2 μ_6 _ h) sX_40 rfl (Nat.le_of_ble_eq_true rfl) (by decide) rfl (zk_V (fun μ_10 h => ?_))
          refine z_aload_n hE dX0_divide_62 rfl 1 rfl ?_
          refine z_aload_n hE dX0_divide_63 rfl 1 rfl ?_
          refine z_getR (t := 49) hE dX0_divide_64 lF_X0_16 sX_40 rfl ?_
          refine z_callS hE dX0_divide_67 lS_X0_56 (c_X4_isGreat _ _ sX_49 μ_10 _ h) rfl (Nat.le_of_ble_eq_true rfl) (by decide) rfl (zk_PI (fun r_11 h => ?_))
          obtain ⟨q_13, h⟩ := h
          refine z_put hE dX0_divide_70 lF_X0_24 sX_40 rfl (zb_n q_13) (zb_f q_13) ?_
          refine zn (G := fun μ_14 => zZ E (zzV Φ) 73 [(5, .int r_7), (0, .ref 40), (2, .ref k2), (3, .int r_3), (4, .int v4_5)] [] μ_14) h (fun μ_14 h => ?_)
          refine z_iinc (j := 4) (c := 1) (lv' := [(4, .int (v4_5 + (1 : Int32))), (5, .int r_7), (0, .ref 40), (2, .ref k2), (3, .int r_3)]) hE dX0_divide_73 rfl zv_i_1 (by decide) rfl ?_
          refine z_goto (tgt := 20) hE dX0_divide_76 (by decide) ?_
          exact z_sub [2, 3, 4, 0] rfl (hk20_6 _ _ h)
        · exact z_vret (st := []) hE dX0_divide_53 rfl ⟨rfl, h⟩
set_option maxRecDepth 4000 in
theorem c_X11_image  (μ : ZMem) (Φ : Int32 → ZMem → Prop) (h : w_X11_image μ Φ) : zM SX yX11_image cX11_image 1 (some FieldType.int) 2 [.ref 0] μ (zzI Φ) := by
  refine zM_go (own := RX11) rfl (by decide) (Nat.le_of_ble_eq_true rfl) (fun E hE => ?_)
  show zZ E (zzI Φ) 0 [(0, .ref 0)] [] μ
  unfold w_X11_image at h
  refine z_aload_n hE dX11_image_0 rfl 0 rfl ?_
  refine z_getR (t := 12) hE dX11_image_1 lF_X11_18 sX_0 rfl ?_
  refine z_aload_n hE dX11_image_4 rfl 0 rfl ?_
  refine z_getR (t := 1) hE dX11_image_5 lF_X11_14 sX_0 rfl ?_
  refine z_callV hE dX11_image_8 lV_X11_357 (c_X3_takeOver_k  μ _ h) sX_12 rfl (Nat.le_of_ble_eq_true rfl) (by decide) rfl (zk_V (fun μ_2 h => ?_))
  refine z_aload_n hE dX11_image_11 rfl 0 rfl ?_
  refine z_iconst (v := 1) hE dX11_image_12 zv_i_1 ?_
  refine z_put hE dX11_image_13 lF_X11_360 sX_0 rfl (by decide) (by decide) ?_
  refine zn (G := fun μ_3 => zZ E (zzI Φ) 16 [(0, .ref 0)] [] μ_3) h (fun μ_3 h => ?_)
  refine z_aload_n hE dX11_image_16 rfl 0 rfl ?_
  refine z_getR (t := 1) hE dX11_image_17 lF_X11_14 sX_0 rfl ?_
  refine z_getI hE dX11_image_20 lF_X11_234 sX_1 rfl ?_
  exact z_iret (st := []) hE dX11_image_23 rfl ⟨_, rfl, h⟩
set_option maxRecDepth 4000 in
theorem c_X11_next  (μ : ZMem) (Φ : Int32 → ZMem → Prop) (h : w_X11_next μ Φ) : zM SX yX11_next cX11_next 1 (some FieldType.int) 2 [.ref 0] μ (zzI Φ) := by
  refine zM_go (own := RX11) rfl (by decide) (Nat.le_of_ble_eq_true rfl) (fun E hE => ?_)
  show zZ E (zzI Φ) 0 [(0, .ref 0)] [] μ
  unfold w_X11_next at h
  refine z_aload_n hE dX11_next_0 rfl 0 rfl ?_
  refine z_getR (t := 1) hE dX11_next_1 lF_X11_14 sX_0 rfl ?_
  refine z_getI hE dX11_next_4 lF_X11_234 sX_1 rfl ?_
  refine z_if_ne (tgt := 13) hE dX11_next_7 (by decide) h (fun h => ?_) (fun h => ?_)
  · refine z_aload_n hE dX11_next_13 rfl 0 rfl ?_
    refine z_getR (t := 1) hE dX11_next_14 lF_X11_14 sX_0 rfl ?_
    refine z_aload_n hE dX11_next_17 rfl 0 rfl ?_
    refine z_getR (t := 1) hE dX11_next_18 lF_X11_14 sX_0 rfl ?_
    refine z_getR (t := 4) hE dX11_next_21 lF_X11_237 sX_1 rfl ?_
    refine z_iconst (v := 0) hE dX11_next_24 zv_i_0 ?_
    refine z_iald hE dX11_next_25 sX_4 (zin (by decide)) ?_
    refine z_put hE dX11_next_26 lF_X11_102 sX_1 rfl rfl rfl ?_
    refine zn (G := fun μ_1 => zZ E (zzI Φ) 29 [(0, .ref 0)] [] μ_1) h (fun μ_1 h => ?_)
    refine z_aload_n hE dX11_next_29 rfl 0 rfl ?_
    refine z_getR (t := 1) hE dX11_next_30 lF_X11_14 sX_0 rfl ?_
    refine z_callV hE dX11_next_33 lV_X11_240 (c_X3_firstBecomesLast  μ_1 _ h) sX_1 rfl (Nat.le_of_ble_eq_true rfl) (by decide) rfl (zk_V (fun μ_3 h => ?_))
    refine z_aload_n hE dX11_next_36 rfl 0 rfl ?_
    refine z_getR (t := 1) hE dX11_next_37 lF_X11_14 sX_0 rfl ?_
    refine z_dup hE dX11_next_40 rfl ?_
    refine z_getI hE dX11_next_41 lF_X11_234 sX_1 rfl ?_
    refine z_iconst (v := 1) hE dX11_next_44 zv_i_1 ?_
    refine z_isub hE dX11_next_45 ?_
    refine z_put hE dX11_next_46 lF_X11_234 sX_1 rfl rfl rfl ?_
    refine zn (G := fun μ_4 => zZ E (zzI Φ) 49 [(0, .ref 0)] [] μ_4) h (fun μ_4 h => ?_)
    refine z_aload_n hE dX11_next_49 rfl 0 rfl ?_
    refine z_getR (t := 1) hE dX11_next_50 lF_X11_14 sX_0 rfl ?_
    refine z_getI hE dX11_next_53 lF_X11_234 sX_1 rfl ?_
    exact z_iret (st := []) hE dX11_next_56 rfl ⟨_, rfl, h⟩
  · refine z_bipush (v := -3) hE dX11_next_10 zv_b_m3 ?_
    exact z_iret (st := []) hE dX11_next_12 rfl ⟨_, rfl, h⟩
set_option maxRecDepth 4000 in
theorem c_X11_of (a1 : Int32) (a2 : Int32) (μ : ZMem) (Φ : Int64 → ZMem → Prop) (h : w_X11_of a1 a2 μ Φ) : zM SX yX11_of cX11_of 3 (some FieldType.long) 2 [.ref 0, .int a1, .int a2] μ (zzJ Φ) := by
  refine zM_go (own := RX11) rfl (by decide) (Nat.le_of_ble_eq_true rfl) (fun E hE => ?_)
  show zZ E (zzJ Φ) 0 [(0, .ref 0), (1, .int a1), (2, .int a2)] [] μ
  unfold w_X11_of at h
  refine z_iload_n hE dX11_of_0 rfl 1 rfl ?_
  refine z_if_lt (tgt := 16) hE dX11_of_1 (by decide) h (fun h => ?_) (fun h => ?_)
  · refine z_ldc2 (v := -9223372036854775808) hE dX11_of_16 lK_X11_90 ?_
    exact z_lret (st := []) hE dX11_of_19 rfl ⟨_, rfl, h⟩
  · refine z_iload_n hE dX11_of_4 rfl 1 rfl ?_
    refine z_iconst (v := 2) hE dX11_of_5 zv_i_2 ?_
    refine z_icmp_gt (tgt := 16) hE dX11_of_6 (by decide) h (fun h => ?_) (fun h => ?_)
    · refine z_ldc2 (v := -9223372036854775808) hE dX11_of_16 lK_X11_90 ?_
      exact z_lret (st := []) hE dX11_of_19 rfl ⟨_, rfl, h⟩
    · refine z_iload_n hE dX11_of_9 rfl 2 rfl ?_
      refine z_callS hE dX11_of_10 lS_X11_82 (c_X11_isPower _ μ _ h) rfl (Nat.le_of_ble_eq_true rfl) (by decide) rfl (zk_PI (fun r_1 h => ?_))
      refine z_if_ne (tgt := 20) hE dX11_of_13 (by decide) h (fun h => ?_) (fun h => ?_)
      · refine z_iload_n hE dX11_of_20 rfl 1 rfl ?_
        refine z_iconst (v := 2) hE dX11_of_21 zv_i_2 ?_
        refine z_icmp_ne (tgt := 32) hE dX11_of_22 (by decide) h (fun h => ?_) (fun h => ?_)
        · refine z_iload_n hE dX11_of_32 rfl 1 rfl ?_
          refine z_if_ne (tgt := 48) hE dX11_of_33 (by decide) h (fun h => ?_) (fun h => ?_)
          · refine z_aload_n hE dX11_of_48 rfl 0 rfl ?_
            refine z_getR (t := 1) hE dX11_of_49 lF_X11_14 sX_0 rfl ?_
            refine z_getR (t := 3) hE dX11_of_52 lF_X11_92 sX_1 rfl ?_
            refine z_iload_n hE dX11_of_55 rfl 2 rfl ?_
            obtain ⟨q_3, h⟩ := h
            refine z_lald hE dX11_of_56 sX_3 q_3 ?_
            exact z_lret (st := []) hE dX11_of_57 rfl ⟨_, rfl, h⟩
          · refine z_aload_n hE dX11_of_36 rfl 0 rfl ?_
            refine z_getR (t := 1) hE dX11_of_37 lF_X11_14 sX_0 rfl ?_
            refine z_getR (t := 2) hE dX11_of_40 lF_X11_78 sX_1 rfl ?_
            refine z_iload_n hE dX11_of_43 rfl 2 rfl ?_
            obtain ⟨q_4, h⟩ := h
            refine z_lald hE dX11_of_44 sX_2 q_4 ?_
            refine z_goto (tgt := 57) hE dX11_of_45 (by decide) ?_
            exact z_lret (st := []) hE dX11_of_57 rfl ⟨_, rfl, h⟩
        · refine z_aload_n hE dX11_of_25 rfl 0 rfl ?_
          refine z_callV hE dX11_of_26 lV_X11_98 (c_X11_currentC  μ _ h) sX_0 rfl (Nat.le_of_ble_eq_true rfl) (by decide) rfl (zk_R (fun r_5 μ_6 h => ?_))
          obtain ⟨er_5, h⟩ := h
          refine z_iload_n hE dX11_of_29 rfl 2 rfl ?_
          obtain ⟨q_7, h⟩ := h
          refine z_lald hE dX11_of_30 er_5 q_7 ?_
          exact z_lret (st := []) hE dX11_of_31 rfl ⟨_, rfl, h⟩
      · refine z_ldc2 (v := -9223372036854775808) hE dX11_of_16 lK_X11_90 ?_
        exact z_lret (st := []) hE dX11_of_19 rfl ⟨_, rfl, h⟩
set_option maxRecDepth 4000 in
theorem c_X11_swap (a1 : Int32) (μ : ZMem) (Φ : Int32 → ZMem → Prop) (h : w_X11_swap a1 μ Φ) : zM SX yX11_swap cX11_swap 2 (some FieldType.int) 2 [.ref 0, .int a1] μ (zzI Φ) := by
  refine zM_go (own := RX11) rfl (by decide) (Nat.le_of_ble_eq_true rfl) (fun E hE => ?_)
  show zZ E (zzI Φ) 0 [(0, .ref 0), (1, .int a1)] [] μ
  unfold w_X11_swap at h
  refine z_iload_n hE dX11_swap_0 rfl 1 rfl ?_
  obtain ⟨g1_0, g1_1, g1_2, gd_1⟩ := h
  by_cases c1_0 : a1 = (0 : Int32)
  · have h := g1_0 c1_0
    refine z_swIn (tgt := 28) hE dX11_swap_1 (by rw [c1_0]; decide) (by rw [c1_0]; decide) (by rw [c1_0]; rfl) (by decide) ?_
    refine z_aload_n hE dX11_swap_28 rfl 0 rfl ?_
    refine z_getR (t := 1) hE dX11_swap_29 lF_X11_14 sX_0 rfl ?_
    refine z_callV hE dX11_swap_32 lV_X11_246 (c_X3_turnLine  μ _ h) sX_1 rfl (Nat.le_of_ble_eq_true rfl) (by decide) rfl (zk_V (fun μ_2 h => ?_))
    refine z_goto (tgt := 61) hE dX11_swap_35 (by decide) ?_
    refine z_aload_n hE dX11_swap_61 rfl 0 rfl ?_
    refine z_getR (t := 1) hE dX11_swap_62 lF_X11_14 sX_0 rfl ?_
    refine z_getI hE dX11_swap_65 lF_X11_234 sX_1 rfl ?_
    exact z_iret (st := []) hE dX11_swap_68 rfl ⟨_, rfl, h⟩
  by_cases c1_1 : a1 = (1 : Int32)
  · have h := g1_1 c1_1
    refine z_swIn (tgt := 38) hE dX11_swap_1 (by rw [c1_1]; decide) (by rw [c1_1]; decide) (by rw [c1_1]; rfl) (by decide) ?_
    refine z_aload_n hE dX11_swap_38 rfl 0 rfl ?_
    refine z_getR (t := 1) hE dX11_swap_39 lF_X11_14 sX_0 rfl ?_
    refine z_callV hE dX11_swap_42 lV_X11_249 (c_X3_sortLine  μ _ h) sX_1 rfl (Nat.le_of_ble_eq_true rfl) (by decide) rfl (zk_V (fun μ_4 h => ?_))
    refine z_goto (tgt := 61) hE dX11_swap_45 (by decide) ?_
    refine z_aload_n hE dX11_swap_61 rfl 0 rfl ?_
    refine z_getR (t := 1) hE dX11_swap_62 lF_X11_14 sX_0 rfl ?_
    refine z_getI hE dX11_swap_65 lF_X11_234 sX_1 rfl ?_
    exact z_iret (st := []) hE dX11_swap_68 rfl ⟨_, rfl, h⟩
  by_cases c1_2 : a1 = (2 : Int32)
  · have h := g1_2 c1_2
    refine z_swIn (tgt := 48) hE dX11_swap_1 (by rw [c1_2]; decide) (by rw [c1_2]; decide) (by rw [c1_2]; rfl) (by decide) ?_
    refine z_aload_n hE dX11_swap_48 rfl 0 rfl ?_
    refine z_getR (t := 1) hE dX11_swap_49 lF_X11_14 sX_0 rfl ?_
    refine z_callV hE dX11_swap_52 lV_X11_240 (c_X3_firstBecomesLast  μ _ h) sX_1 rfl (Nat.le_of_ble_eq_true rfl) (by decide) rfl (zk_V (fun μ_6 h => ?_))
    refine z_goto (tgt := 61) hE dX11_swap_55 (by decide) ?_
    refine z_aload_n hE dX11_swap_61 rfl 0 rfl ?_
    refine z_getR (t := 1) hE dX11_swap_62 lF_X11_14 sX_0 rfl ?_
    refine z_getI hE dX11_swap_65 lF_X11_234 sX_1 rfl ?_
    exact z_iret (st := []) hE dX11_swap_68 rfl ⟨_, rfl, h⟩
  have h := gd_1 c1_0 c1_1 c1_2
  refine z_swOut (tgt := 58) hE dX11_swap_1 (by have e0 := lv_neT c1_0 (a := 0) (by decide); have e1 := lv_neT c1_1 (a := 1) (by decide); have e2 := lv_neT c1_2 (a := 2) (by decide); show _ < (0 : Int) ∨ (2 : Int) < _; omega) (by decide) ?_
  refine z_bipush (v := -2) hE dX11_swap_58 zv_b_m2 ?_
  exact z_iret (st := []) hE dX11_swap_60 rfl ⟨_, rfl, h⟩
set_option maxRecDepth 4000 in
theorem c_X11_undo  (μ : ZMem) (Φ : Int32 → ZMem → Prop) (h : w_X11_undo μ Φ) : zM SX yX11_undo cX11_undo 1 (some FieldType.int) 2 [.ref 0] μ (zzI Φ) := by
  refine zM_go (own := RX11) rfl (by decide) (Nat.le_of_ble_eq_true rfl) (fun E hE => ?_)
  show zZ E (zzI Φ) 0 [(0, .ref 0)] [] μ
  unfold w_X11_undo at h
  refine z_aload_n hE dX11_undo_0 rfl 0 rfl ?_
  refine z_getI hE dX11_undo_1 lF_X11_360 sX_0 rfl ?_
  refine z_if_ne (tgt := 10) hE dX11_undo_4 (by decide) h (fun h => ?_) (fun h => ?_)
  · refine z_aload_n hE dX11_undo_10 rfl 0 rfl ?_
    refine z_getR (t := 1) hE dX11_undo_11 lF_X11_14 sX_0 rfl ?_
    refine z_aload_n hE dX11_undo_14 rfl 0 rfl ?_
    refine z_getR (t := 12) hE dX11_undo_15 lF_X11_18 sX_0 rfl ?_
    refine z_callV hE dX11_undo_18 lV_X11_357 (c_X3_takeOver_n  μ _ h) sX_1 rfl (Nat.le_of_ble_eq_true rfl) (by decide) rfl (zk_V (fun μ_2 h => ?_))
    refine z_aload_n hE dX11_undo_21 rfl 0 rfl ?_
    refine z_callV hE dX11_undo_22 lV_X11_95 (c_X11_forgetSurveys  μ_2 _ h) sX_0 rfl (Nat.le_of_ble_eq_true rfl) (by decide) rfl (zk_V (fun μ_4 h => ?_))
    refine z_aload_n hE dX11_undo_25 rfl 0 rfl ?_
    refine z_getR (t := 1) hE dX11_undo_26 lF_X11_14 sX_0 rfl ?_
    refine z_getI hE dX11_undo_29 lF_X11_234 sX_1 rfl ?_
    exact z_iret (st := []) hE dX11_undo_32 rfl ⟨_, rfl, h⟩
  · refine z_bipush (v := -3) hE dX11_undo_7 zv_b_m3 ?_
    exact z_iret (st := []) hE dX11_undo_9 rfl ⟨_, rfl, h⟩
set_option maxRecDepth 4000 in
theorem c_X11_unfactor (a1 : Int32) (μ : ZMem) (Φ : Int32 → ZMem → Prop) (h : w_X11_unfactor a1 μ Φ) : zM SX yX11_unfactor cX11_unfactor 2 (some FieldType.int) 2 [.ref 0, .int a1] μ (zzI Φ) := by
  refine zM_go (own := RX11) rfl (by decide) (Nat.le_of_ble_eq_true rfl) (fun E hE => ?_)
  show zZ E (zzI Φ) 0 [(0, .ref 0), (1, .int a1)] [] μ
  unfold w_X11_unfactor at h
  refine z_iload_n hE dX11_unfactor_0 rfl 1 rfl ?_
  refine z_if_lt (tgt := 15) hE dX11_unfactor_1 (by decide) h (fun h => ?_) (fun h => ?_)
  · refine z_iconst (v := -1) hE dX11_unfactor_15 zv_i_m1 ?_
    exact z_iret (st := []) hE dX11_unfactor_16 rfl ⟨_, rfl, h⟩
  · refine z_iload_n hE dX11_unfactor_4 rfl 1 rfl ?_
    refine z_aload_n hE dX11_unfactor_5 rfl 0 rfl ?_
    refine z_getR (t := 1) hE dX11_unfactor_6 lF_X11_14 sX_0 rfl ?_
    refine z_getI hE dX11_unfactor_9 lF_X11_252 sX_1 rfl ?_
    refine z_icmp_lt (tgt := 17) hE dX11_unfactor_12 (by decide) h (fun h => ?_) (fun h => ?_)
    · refine z_aload_n hE dX11_unfactor_17 rfl 0 rfl ?_
      refine z_getR (t := 1) hE dX11_unfactor_18 lF_X11_14 sX_0 rfl ?_
      refine z_iload_n hE dX11_unfactor_21 rfl 1 rfl ?_
      refine z_callV hE dX11_unfactor_22 lV_X11_282 (c_X3_dropFactor _ μ _ h) sX_1 rfl (Nat.le_of_ble_eq_true rfl) (by decide) rfl (zk_V (fun μ_2 h => ?_))
      refine z_aload_n hE dX11_unfactor_25 rfl 0 rfl ?_
      refine z_getR (t := 1) hE dX11_unfactor_26 lF_X11_14 sX_0 rfl ?_
      refine z_getI hE dX11_unfactor_29 lF_X11_252 sX_1 rfl ?_
      exact z_iret (st := []) hE dX11_unfactor_32 rfl ⟨_, rfl, h⟩
    · refine z_iconst (v := -1) hE dX11_unfactor_15 zv_i_m1 ?_
      exact z_iret (st := []) hE dX11_unfactor_16 rfl ⟨_, rfl, h⟩
set_option maxRecDepth 4000 in
theorem c_X12_axis  (μ : ZMem) (Φ : Int32 → Prop) (h : w_X12_axis μ Φ) : zM SM yX12_axis cX12_axis 2 (some FieldType.int) 2 [.ref 0] μ (zzPI Φ μ) := by
  refine zM_go (own := RX12) rfl (by decide) (Nat.le_of_ble_eq_true rfl) (fun E hE => ?_)
  show zZ E (zzPI Φ μ) 0 [(0, .ref 0)] [] μ
  unfold w_X12_axis at h
  refine z_aload_n hE dX12_axis_0 rfl 0 rfl ?_
  refine z_callV hE dX12_axis_1 lV_X12_183 (c_X12_firstCase  μ _ h) sM_0 rfl (Nat.le_of_ble_eq_true rfl) (by decide) rfl (zk_PI (fun r_1 h => ?_))
  refine z_istore_n (lv' := [(1, .int r_1), (0, .ref 0)]) hE dX12_axis_4 rfl (by decide) rfl ?_
  refine z_iload_n hE dX12_axis_5 rfl 0 rfl ?_
  refine z_if_ge (tgt := 13) hE dX12_axis_6 (by decide) h (fun h => ?_) (fun h => ?_)
  · refine z_aload_n hE dX12_axis_13 rfl 1 rfl ?_
    refine z_getI hE dX12_axis_14 lF_X12_121 sM_0 rfl ?_
    refine z_iload_n hE dX12_axis_17 rfl 0 rfl ?_
    refine z_isub hE dX12_axis_18 ?_
    refine z_iconst (v := 1) hE dX12_axis_19 zv_i_1 ?_
    refine z_iadd hE dX12_axis_20 ?_
    refine z_iconst (v := 2) hE dX12_axis_21 zv_i_2 ?_
    refine z_aload_n hE dX12_axis_22 rfl 1 rfl ?_
    refine z_iload_n hE dX12_axis_23 rfl 0 rfl ?_
    refine z_iconst (v := 1) hE dX12_axis_24 zv_i_1 ?_
    refine z_isub hE dX12_axis_25 ?_
    refine z_aload_n hE dX12_axis_26 rfl 1 rfl ?_
    refine z_getI hE dX12_axis_27 lF_X12_121 sM_0 rfl ?_
    refine z_callV hE dX12_axis_30 lV_X12_179 (c_X12_changesIn _ _ μ _ h) sM_0 rfl (Nat.le_of_ble_eq_true rfl) (by decide) rfl (zk_PI (fun r_3 h => ?_))
    refine z_imul hE dX12_axis_33 ?_
    refine z_isub hE dX12_axis_34 ?_
    exact z_iret (st := []) hE dX12_axis_35 rfl ⟨_, rfl, rfl, h⟩
  · refine z_iconst (v := 0) hE dX12_axis_9 zv_i_0 ?_
    refine z_goto (tgt := 35) hE dX12_axis_10 (by decide) ?_
    exact z_iret (st := []) hE dX12_axis_35 rfl ⟨_, rfl, rfl, h⟩
set_option maxRecDepth 4000 in
theorem c_X12_changesAt (a1 : Int32) (μ : ZMem) (Φ : Int32 → ZMem → Prop) (h : w_X12_changesAt a1 μ Φ) : zM SM yX12_changesAt cX12_changesAt 8 (some FieldType.int) 2 [.ref 0, .int a1] μ (zzI Φ) := by
  refine zM_go (own := RX12) rfl (by decide) (Nat.le_of_ble_eq_true rfl) (fun E hE => ?_)
  show zZ E (zzI Φ) 0 [(0, .ref 0), (1, .int a1)] [] μ
  unfold w_X12_changesAt at h
  refine z_iconst (v := 0) hE dX12_changesAt_0 zv_i_0 ?_
  refine z_istore_n (lv' := [(2, .int (0 : Int32)), (0, .ref 0), (1, .int a1)]) hE dX12_changesAt_1 rfl (by decide) rfl ?_
  refine z_lconst (v := 0) hE dX12_changesAt_2 zv_l_0 ?_
  refine z_lstore_n (lv' := [(3, .long (0 : Int64)), (2, .int (0 : Int32)), (0, .ref 0), (1, .int a1)]) hE dX12_changesAt_3 rfl (by decide) rfl ?_
  refine z_iconst (v := 0) hE dX12_changesAt_4 zv_i_0 ?_
  refine z_istore (lv' := [(5, .int (0 : Int32)), (3, .long (0 : Int64)), (2, .int (0 : Int32)), (0, .ref 0), (1, .int a1)]) hE dX12_changesAt_5 (by decide) rfl ?_
  refine z_sub [3, 4, 2, 1, 0] rfl ?_
  obtain ⟨n7, h⟩ := h
  refine z_loop4 (P := fun (v2_1 : Int32) (v3_2 : Int64) (v5_3 : Int32) (μ_4 : ZMem) => zZ E (zzI Φ) 7 [(0, .ref 0), (1, .int a1), (2, .int v2_1), (3, .long v3_2), (5, .int v5_3)] [] μ_4) (fun k7_4 hk7_4 v2_1 v3_2 v5_3 μ_4 h => ?_) n7 _ _ _ _ h
  refine z_iload hE dX12_changesAt_7 4 rfl ?_
  refine z_aload_n hE dX12_changesAt_9 rfl 0 rfl ?_
  refine z_getI hE dX12_changesAt_10 lF_X12_229 sM_0 rfl ?_
  refine z_icmp_ge (tgt := 92) hE dX12_changesAt_13 (by decide) h (fun h => ?_) (fun h => ?_)
  · refine z_iload_n hE dX12_changesAt_92 rfl 2 rfl ?_
    exact z_iret (st := []) hE dX12_changesAt_93 rfl ⟨_, rfl, h⟩
  · refine z_aload_n hE dX12_changesAt_16 rfl 0 rfl ?_
    refine z_iload hE dX12_changesAt_17 4 rfl ?_
    refine z_iload_n hE dX12_changesAt_19 rfl 1 rfl ?_
    refine z_callV hE dX12_changesAt_20 lV_X12_245 (c_X12_valueAt _ _ μ_4 _ h) sM_0 rfl (Nat.le_of_ble_eq_true rfl) (by decide) rfl (zk_J (fun r_5 μ_6 h => ?_))
    refine z_lstore (lv' := [(6, .long r_5), (0, .ref 0), (1, .int a1), (2, .int v2_1), (3, .long v3_2), (5, .int v5_3)]) hE dX12_changesAt_23 (by decide) rfl ?_
    refine z_iload_n hE dX12_changesAt_25 rfl 3 rfl ?_
    refine z_lload hE dX12_changesAt_26 0 rfl ?_
    refine z_lconst (v := 0) hE dX12_changesAt_28 zv_l_0 ?_
    refine z_join (P := fun (J_8 : Int32 → Prop) => ∀ (x_7 : Int32), J_8 x_7 → zZ E (zzI Φ) 70 [(0, .ref 0), (1, .int a1), (3, .long v3_2), (5, .int v5_3), (6, .long r_5)] [.int x_7, .int v2_1] μ_6) h (fun x_7 h => ?_) (fun J_8 hJ_8 h => ?_)
    · refine z_iadd hE dX12_changesAt_70 ?_
      refine z_istore_n (lv' := [(2, .int (v2_1 + x_7)), (0, .ref 0), (1, .int a1), (3, .long v3_2), (5, .int v5_3), (6, .long r_5)]) hE dX12_changesAt_71 rfl (by decide) rfl ?_
      refine zn (G := fun v2_9 => zZ E (zzI Φ) 72 [(2, .int v2_9), (0, .ref 0), (1, .int a1), (3, .long v3_2), (5, .int v5_3), (6, .long r_5)] [] μ_6) h (fun v2_9 h => ?_)
      refine z_lload hE dX12_changesAt_72 5 rfl ?_
      refine z_lconst (v := 0) hE dX12_changesAt_74 zv_l_0 ?_
      refine z_join (P := fun (J_11 : Int64 → Prop) => ∀ (x_10 : Int64), J_11 x_10 → zZ E (zzI Φ) 85 [(0, .ref 0), (1, .int a1), (2, .int v2_9), (5, .int v5_3)] [.long x_10] μ_6) h (fun x_10 h => ?_) (fun J_11 hJ_11 h => ?_)
      · refine z_lstore_n (lv' := [(3, .long x_10), (0, .ref 0), (1, .int a1), (2, .int v2_9), (5, .int v5_3)]) hE dX12_changesAt_85 rfl (by decide) rfl ?_
        refine z_iinc (j := 4) (c := 1) (lv' := [(5, .int (v5_3 + (1 : Int32))), (3, .long x_10), (0, .ref 0), (1, .int a1), (2, .int v2_9)]) hE dX12_changesAt_86 rfl zv_i_1 (by decide) rfl ?_
        refine z_goto (tgt := 7) hE dX12_changesAt_89 (by decide) ?_
        exact z_sub [2, 3, 4, 1, 0] rfl (hk7_4 _ _ _ _ h)
      refine z_ljmp_ne (tgt := 83) hE dX12_changesAt_75 dX12_changesAt_76 (by decide) h (fun h => ?_) (fun h => ?_)
      · refine z_lload hE dX12_changesAt_83 5 rfl ?_
        exact z_sub [1, 2, 0, 4] rfl (hJ_11 _ h)
      · refine z_lload_n hE dX12_changesAt_79 rfl 3 rfl ?_
        refine z_goto (tgt := 85) hE dX12_changesAt_80 (by decide) ?_
        exact z_sub [1, 2, 0, 4] rfl (hJ_11 _ h)
    refine z_join (P := fun (J_12 : Prop) => J_12 → zZ E (zzI Φ) 69 [(0, .ref 0), (1, .int a1), (3, .long v3_2), (5, .int v5_3), (6, .long r_5)] [.int v2_1] μ_6) h (fun  h => ?_) (fun J_12 hJ_12 h => ?_)
    · refine z_iconst (v := 0) hE dX12_changesAt_69 zv_i_0 ?_
      exact hJ_8 _ h
    refine z_ljmp_eq (tgt := 69) hE dX12_changesAt_29 dX12_changesAt_30 (by decide) h (fun h => ?_) (fun h => ?_)
    · exact z_sub [1, 2, 4, 5, 0] rfl (hJ_12 h)
    · refine z_lload_n hE dX12_changesAt_33 rfl 4 rfl ?_
      refine z_lconst (v := 0) hE dX12_changesAt_34 zv_l_0 ?_
      refine z_ljmp_eq (tgt := 69) hE dX12_changesAt_35 dX12_changesAt_36 (by decide) h (fun h => ?_) (fun h => ?_)
      · exact z_sub [1, 2, 4, 5, 0] rfl (hJ_12 h)
      · refine z_lload hE dX12_changesAt_39 0 rfl ?_
        refine z_lconst (v := 0) hE dX12_changesAt_41 zv_l_0 ?_
        refine z_join (P := fun (J_14 : Int32 → Prop) => ∀ (x_13 : Int32), J_14 x_13 → zZ E (zzI Φ) 51 [(0, .ref 0), (1, .int a1), (3, .long v3_2), (5, .int v5_3), (6, .long r_5)] [.int x_13, .int v2_1] μ_6) h (fun x_13 h => ?_) (fun J_14 hJ_14 h => ?_)
        · refine z_lload_n hE dX12_changesAt_51 rfl 2 rfl ?_
          refine z_lconst (v := 0) hE dX12_changesAt_52 zv_l_0 ?_
          refine z_join (P := fun (J_16 : Int32 → Prop) => ∀ (x_15 : Int32), J_16 x_15 → zZ E (zzI Φ) 62 [(0, .ref 0), (1, .int a1), (3, .long v3_2), (5, .int v5_3), (6, .long r_5)] [.int x_15, .int x_13, .int v2_1] μ_6) h (fun x_15 h => ?_) (fun J_16 hJ_16 h => ?_)
          · refine z_icmp_eq (tgt := 69) hE dX12_changesAt_62 (by decide) h (fun h => ?_) (fun h => ?_)
            · exact hJ_12 h
            · refine z_iconst (v := 1) hE dX12_changesAt_65 zv_i_1 ?_
              refine z_goto (tgt := 70) hE dX12_changesAt_66 (by decide) ?_
              exact hJ_8 _ h
          refine z_ljmp_ge (tgt := 61) hE dX12_changesAt_53 dX12_changesAt_54 (by decide) h (fun h => ?_) (fun h => ?_)
          · refine z_iconst (v := 0) hE dX12_changesAt_61 zv_i_0 ?_
            exact hJ_16 _ h
          · refine z_iconst (v := 1) hE dX12_changesAt_57 zv_i_1 ?_
            refine z_goto (tgt := 62) hE dX12_changesAt_58 (by decide) ?_
            exact hJ_16 _ h
        refine z_ljmp_ge (tgt := 50) hE dX12_changesAt_42 dX12_changesAt_43 (by decide) h (fun h => ?_) (fun h => ?_)
        · refine z_iconst (v := 0) hE dX12_changesAt_50 zv_i_0 ?_
          exact z_sub [1, 2, 4, 5, 0] rfl (hJ_14 _ h)
        · refine z_iconst (v := 1) hE dX12_changesAt_46 zv_i_1 ?_
          refine z_goto (tgt := 51) hE dX12_changesAt_47 (by decide) ?_
          exact z_sub [1, 2, 4, 5, 0] rfl (hJ_14 _ h)
set_option maxRecDepth 4000 in
theorem c_X12_copy (a1 : Int32) (a2 : Int32) (a3 : Int32) (a4 : Int32) (a5 : Int32) (μ : ZMem) (Φ : Int32 → ZMem → Prop) (h : w_X12_copy a1 a2 a3 a4 a5 μ Φ) : zM SM yX12_copy cX12_copy 7 (some FieldType.int) 2 [.ref 0, .int a1, .int a2, .int a3, .int a4, .int a5] μ (zzI Φ) := by
  refine zM_go (own := RX12) rfl (by decide) (Nat.le_of_ble_eq_true rfl) (fun E hE => ?_)
  show zZ E (zzI Φ) 0 [(0, .ref 0), (1, .int a1), (2, .int a2), (3, .int a3), (4, .int a4), (5, .int a5)] [] μ
  unfold w_X12_copy at h
  refine z_iload_n hE dX12_copy_0 rfl 1 rfl ?_
  refine z_callS hE dX12_copy_1 lS_X12_303 (c_X12_isTray _ μ _ h) rfl (Nat.le_of_ble_eq_true rfl) (by decide) rfl (zk_PI (fun r_1 h => ?_))
  refine z_if_eq (tgt := 14) hE dX12_copy_4 (by decide) h (fun h => ?_) (fun h => ?_)
  · refine z_iconst (v := -1) hE dX12_copy_14 zv_i_m1 ?_
    exact z_iret (st := []) hE dX12_copy_15 rfl ⟨_, rfl, h⟩
  · refine z_iload_n hE dX12_copy_7 rfl 3 rfl ?_
    refine z_callS hE dX12_copy_8 lS_X12_303 (c_X12_isTray _ μ _ h) rfl (Nat.le_of_ble_eq_true rfl) (by decide) rfl (zk_PI (fun r_3 h => ?_))
    refine z_if_ne (tgt := 16) hE dX12_copy_11 (by decide) h (fun h => ?_) (fun h => ?_)
    · refine z_aload_n hE dX12_copy_16 rfl 0 rfl ?_
      refine z_getR (t := 15) hE dX12_copy_17 lF_X12_55 sM_0 rfl ?_
      refine z_iload_n hE dX12_copy_20 rfl 1 rfl ?_
      obtain ⟨q_5, h⟩ := h
      refine z_iald hE dX12_copy_21 sM_15 q_5 ?_
      refine z_if_lt (tgt := 34) hE dX12_copy_22 (by decide) h (fun h => ?_) (fun h => ?_)
      · refine z_bipush (v := -11) hE dX12_copy_34 zv_b_m11 ?_
        exact z_iret (st := []) hE dX12_copy_36 rfl ⟨_, rfl, h⟩
      · refine z_aload_n hE dX12_copy_25 rfl 0 rfl ?_
        refine z_getR (t := 15) hE dX12_copy_26 lF_X12_55 sM_0 rfl ?_
        refine z_iload_n hE dX12_copy_29 rfl 3 rfl ?_
        obtain ⟨q_6, h⟩ := h
        refine z_iald hE dX12_copy_30 sM_15 q_6 ?_
        refine z_if_ge (tgt := 37) hE dX12_copy_31 (by decide) h (fun h => ?_) (fun h => ?_)
        · refine z_aload_n hE dX12_copy_37 rfl 0 rfl ?_
          refine z_getR (t := 15) hE dX12_copy_38 lF_X12_55 sM_0 rfl ?_
          refine z_iload_n hE dX12_copy_41 rfl 1 rfl ?_
          obtain ⟨q_7, h⟩ := h
          refine z_iald hE dX12_copy_42 sM_15 q_7 ?_
          refine z_aload_n hE dX12_copy_43 rfl 0 rfl ?_
          refine z_getR (t := 15) hE dX12_copy_44 lF_X12_55 sM_0 rfl ?_
          refine z_iload_n hE dX12_copy_47 rfl 3 rfl ?_
          obtain ⟨q_8, h⟩ := h
          refine z_iald hE dX12_copy_48 sM_15 q_8 ?_
          refine z_icmp_eq (tgt := 55) hE dX12_copy_49 (by decide) h (fun h => ?_) (fun h => ?_)
          · refine z_iload hE dX12_copy_55 5 rfl ?_
            refine z_if_lt (tgt := 96) hE dX12_copy_57 (by decide) h (fun h => ?_) (fun h => ?_)
            · refine z_bipush (v := -13) hE dX12_copy_96 zv_b_m13 ?_
              exact z_iret (st := []) hE dX12_copy_98 rfl ⟨_, rfl, h⟩
            · refine z_iload_n hE dX12_copy_60 rfl 2 rfl ?_
              refine z_if_lt (tgt := 96) hE dX12_copy_61 (by decide) h (fun h => ?_) (fun h => ?_)
              · refine z_bipush (v := -13) hE dX12_copy_96 zv_b_m13 ?_
                exact z_iret (st := []) hE dX12_copy_98 rfl ⟨_, rfl, h⟩
              · refine z_iload hE dX12_copy_64 4 rfl ?_
                refine z_if_lt (tgt := 96) hE dX12_copy_66 (by decide) h (fun h => ?_) (fun h => ?_)
                · refine z_bipush (v := -13) hE dX12_copy_96 zv_b_m13 ?_
                  exact z_iret (st := []) hE dX12_copy_98 rfl ⟨_, rfl, h⟩
                · refine z_iload_n hE dX12_copy_69 rfl 2 rfl ?_
                  refine z_aload_n hE dX12_copy_70 rfl 0 rfl ?_
                  refine z_getR (t := 16) hE dX12_copy_71 lF_X12_58 sM_0 rfl ?_
                  refine z_iload_n hE dX12_copy_74 rfl 1 rfl ?_
                  obtain ⟨q_9, h⟩ := h
                  refine z_iald hE dX12_copy_75 sM_16 q_9 ?_
                  refine z_iload hE dX12_copy_76 5 rfl ?_
                  refine z_isub hE dX12_copy_78 ?_
                  refine z_icmp_gt (tgt := 96) hE dX12_copy_79 (by decide) h (fun h => ?_) (fun h => ?_)
                  · refine z_bipush (v := -13) hE dX12_copy_96 zv_b_m13 ?_
                    exact z_iret (st := []) hE dX12_copy_98 rfl ⟨_, rfl, h⟩
                  · refine z_iload hE dX12_copy_82 4 rfl ?_
                    refine z_aload_n hE dX12_copy_84 rfl 0 rfl ?_
                    refine z_getR (t := 16) hE dX12_copy_85 lF_X12_58 sM_0 rfl ?_
                    refine z_iload_n hE dX12_copy_88 rfl 3 rfl ?_
                    obtain ⟨q_10, h⟩ := h
                    refine z_iald hE dX12_copy_89 sM_16 q_10 ?_
                    refine z_iload hE dX12_copy_90 5 rfl ?_
                    refine z_isub hE dX12_copy_92 ?_
                    refine z_icmp_le (tgt := 99) hE dX12_copy_93 (by decide) h (fun h => ?_) (fun h => ?_)
                    · refine z_iconst (v := 0) hE dX12_copy_99 zv_i_0 ?_
                      refine z_istore (lv' := [(6, .int (0 : Int32)), (0, .ref 0), (1, .int a1), (2, .int a2), (3, .int a3), (4, .int a4), (5, .int a5)]) hE dX12_copy_100 (by decide) rfl ?_
                      refine z_join (P := fun (J_12 : ZMem → Prop) => ∀ (μ_11 : ZMem), J_12 μ_11 → zZ E (zzI Φ) 136 [(0, .ref 0), (3, .int a3), (4, .int a4), (5, .int a5)] [] μ_11) h (fun μ_11 h => ?_) (fun J_12 hJ_12 h => ?_)
                      · refine z_iconst (v := 0) hE dX12_copy_136 zv_i_0 ?_
                        refine z_istore (lv' := [(6, .int (0 : Int32)), (0, .ref 0), (3, .int a3), (4, .int a4), (5, .int a5)]) hE dX12_copy_137 (by decide) rfl ?_
                        refine z_sub [1, 2, 3, 4, 0] rfl ?_
                        obtain ⟨n139, h⟩ := h
                        refine z_loop2 (P := fun (v6_13 : Int32) (μ_14 : ZMem) => zZ E (zzI Φ) 139 [(0, .ref 0), (3, .int a3), (4, .int a4), (5, .int a5), (6, .int v6_13)] [] μ_14) (fun k139_14 hk139_14 v6_13 μ_14 h => ?_) n139 _ _ h
                        refine z_iload hE dX12_copy_139 4 rfl ?_
                        refine z_iload hE dX12_copy_141 3 rfl ?_
                        refine z_icmp_ge (tgt := 174) hE dX12_copy_143 (by decide) h (fun h => ?_) (fun h => ?_)
                        · refine z_iload hE dX12_copy_174 3 rfl ?_
                          exact z_iret (st := []) hE dX12_copy_176 rfl ⟨_, rfl, h⟩
                        · refine z_aload_n hE dX12_copy_146 rfl 0 rfl ?_
                          refine z_getR (t := 17) hE dX12_copy_147 lF_X12_61 sM_0 rfl ?_
                          refine z_bipush (v := 30) hE dX12_copy_150 zv_b_30 ?_
                          refine z_iload_n hE dX12_copy_152 rfl 1 rfl ?_
                          refine z_imul hE dX12_copy_153 ?_
                          refine z_iload hE dX12_copy_154 2 rfl ?_
                          refine z_iadd hE dX12_copy_156 ?_
                          refine z_iload hE dX12_copy_157 4 rfl ?_
                          refine z_iadd hE dX12_copy_159 ?_
                          refine z_aload_n hE dX12_copy_160 rfl 0 rfl ?_
                          refine z_getR (t := 18) hE dX12_copy_161 lF_X12_64 sM_0 rfl ?_
                          refine z_iload hE dX12_copy_164 4 rfl ?_
                          obtain ⟨q_15, h⟩ := h
                          refine z_lald hE dX12_copy_166 sM_18 q_15 ?_
                          obtain ⟨q_16, h⟩ := h
                          refine z_last hE dX12_copy_167 sM_17 q_16 ?_
                          refine zn (G := fun μ_17 => zZ E (zzI Φ) 168 [(0, .ref 0), (3, .int a3), (4, .int a4), (5, .int a5), (6, .int v6_13)] [] μ_17) h (fun μ_17 h => ?_)
                          refine z_iinc (j := 4) (c := 1) (lv' := [(6, .int (v6_13 + (1 : Int32))), (0, .ref 0), (3, .int a3), (4, .int a4), (5, .int a5)]) hE dX12_copy_168 rfl zv_i_1 (by decide) rfl ?_
                          refine z_goto (tgt := 139) hE dX12_copy_171 (by decide) ?_
                          exact z_sub [1, 2, 3, 4, 0] rfl (hk139_14 _ _ h)
                      refine z_sub [1, 2, 3, 4, 5, 6, 0] rfl ?_
                      obtain ⟨n102, h⟩ := h
                      refine z_loop2 (P := fun (v6_18 : Int32) (μ_19 : ZMem) => zZ E (zzI Φ) 102 [(0, .ref 0), (1, .int a1), (2, .int a2), (3, .int a3), (4, .int a4), (5, .int a5), (6, .int v6_18)] [] μ_19) (fun k102_19 hk102_19 v6_18 μ_19 h => ?_) n102 _ _ h
                      refine z_iload hE dX12_copy_102 6 rfl ?_
                      refine z_iload hE dX12_copy_104 5 rfl ?_
                      refine z_icmp_ge (tgt := 136) hE dX12_copy_106 (by decide) h (fun h => ?_) (fun h => ?_)
                      · exact z_sub [0, 3, 4, 5] rfl (hJ_12 _ h)
                      · refine z_aload_n hE dX12_copy_109 rfl 0 rfl ?_
                        refine z_getR (t := 18) hE dX12_copy_110 lF_X12_64 sM_0 rfl ?_
                        refine z_iload hE dX12_copy_113 6 rfl ?_
                        refine z_aload_n hE dX12_copy_115 rfl 0 rfl ?_
                        refine z_getR (t := 17) hE dX12_copy_116 lF_X12_61 sM_0 rfl ?_
                        refine z_bipush (v := 30) hE dX12_copy_119 zv_b_30 ?_
                        refine z_iload_n hE dX12_copy_121 rfl 1 rfl ?_
                        refine z_imul hE dX12_copy_122 ?_
                        refine z_iload_n hE dX12_copy_123 rfl 2 rfl ?_
                        refine z_iadd hE dX12_copy_124 ?_
                        refine z_iload hE dX12_copy_125 6 rfl ?_
                        refine z_iadd hE dX12_copy_127 ?_
                        obtain ⟨q_20, h⟩ := h
                        refine z_lald hE dX12_copy_128 sM_17 q_20 ?_
                        obtain ⟨q_21, h⟩ := h
                        refine z_last hE dX12_copy_129 sM_18 q_21 ?_
                        refine zn (G := fun μ_22 => zZ E (zzI Φ) 130 [(0, .ref 0), (1, .int a1), (2, .int a2), (3, .int a3), (4, .int a4), (5, .int a5), (6, .int v6_18)] [] μ_22) h (fun μ_22 h => ?_)
                        refine z_iinc (j := 6) (c := 1) (lv' := [(6, .int (v6_18 + (1 : Int32))), (0, .ref 0), (1, .int a1), (2, .int a2), (3, .int a3), (4, .int a4), (5, .int a5)]) hE dX12_copy_130 rfl zv_i_1 (by decide) rfl ?_
                        refine z_goto (tgt := 102) hE dX12_copy_133 (by decide) ?_
                        exact z_sub [1, 2, 3, 4, 5, 6, 0] rfl (hk102_19 _ _ h)
                    · refine z_bipush (v := -13) hE dX12_copy_96 zv_b_m13 ?_
                      exact z_iret (st := []) hE dX12_copy_98 rfl ⟨_, rfl, h⟩
          · refine z_bipush (v := -12) hE dX12_copy_52 zv_b_m12 ?_
            exact z_iret (st := []) hE dX12_copy_54 rfl ⟨_, rfl, h⟩
        · refine z_bipush (v := -11) hE dX12_copy_34 zv_b_m11 ?_
          exact z_iret (st := []) hE dX12_copy_36 rfl ⟨_, rfl, h⟩
    · refine z_iconst (v := -1) hE dX12_copy_14 zv_i_m1 ?_
      exact z_iret (st := []) hE dX12_copy_15 rfl ⟨_, rfl, h⟩
set_option maxRecDepth 4000 in
theorem c_X12_factored (a1 : Int32) (a2 : Int32) (μ : ZMem) (Φ : Int32 → ZMem → Prop) (h : w_X12_factored a1 a2 μ Φ) : zM SM yX12_factored cX12_factored 4 (some FieldType.int) 2 [.ref 0, .int a1, .int a2] μ (zzI Φ) := by
  refine zM_go (own := RX12) rfl (by decide) (Nat.le_of_ble_eq_true rfl) (fun E hE => ?_)
  show zZ E (zzI Φ) 0 [(0, .ref 0), (1, .int a1), (2, .int a2)] [] μ
  unfold w_X12_factored at h
  refine z_aload_n hE dX12_factored_0 rfl 0 rfl ?_
  refine z_iload_n hE dX12_factored_1 rfl 1 rfl ?_
  refine z_callV hE dX12_factored_2 lV_X12_319 (c_X12_isFactor _ μ _ h) sM_0 rfl (Nat.le_of_ble_eq_true rfl) (by decide) rfl (zk_PI (fun r_1 h => ?_))
  refine z_if_eq (tgt := 20) hE dX12_factored_5 (by decide) h (fun h => ?_) (fun h => ?_)
  · refine z_iconst (v := -1) hE dX12_factored_20 zv_i_m1 ?_
    exact z_iret (st := []) hE dX12_factored_21 rfl ⟨_, rfl, h⟩
  · refine z_iload_n hE dX12_factored_8 rfl 2 rfl ?_
    refine z_i2l hE dX12_factored_9 ?_
    refine z_lconst (v := 0) hE dX12_factored_10 zv_l_0 ?_
    refine z_ldc2 (v := 7) hE dX12_factored_11 lK_X12_331 ?_
    refine z_callS hE dX12_factored_14 lS_X12_83 (c_X12_in _ _ _ μ _ h) rfl (Nat.le_of_ble_eq_true rfl) (by decide) rfl (zk_PI (fun r_3 h => ?_))
    refine z_if_ne (tgt := 22) hE dX12_factored_17 (by decide) h (fun h => ?_) (fun h => ?_)
    · refine z_iconst (v := 0) hE dX12_factored_22 zv_i_0 ?_
      refine z_istore_n (lv' := [(3, .int (0 : Int32)), (0, .ref 0), (1, .int a1), (2, .int a2)]) hE dX12_factored_23 rfl (by decide) rfl ?_
      refine z_aload_n hE dX12_factored_24 rfl 1 rfl ?_
      refine z_iconst (v := 1) hE dX12_factored_25 zv_i_1 ?_
      refine z_aload_n hE dX12_factored_26 rfl 1 rfl ?_
      refine z_getR (t := 1) hE dX12_factored_27 lF_X12_11 sM_0 rfl ?_
      refine z_bipush (v := 14) hE dX12_factored_30 zv_b_14 ?_
      refine z_iald hE dX12_factored_32 sM_1 (zin (by decide)) ?_
      refine z_callV hE dX12_factored_33 lV_X12_97 (c_X12_takes _ _ μ _ h) sM_0 rfl (Nat.le_of_ble_eq_true rfl) (by decide) rfl (zk_V (fun μ_6 h => ?_))
      refine z_join (P := fun (J_9 : Int32 → ZMem → Prop) => ∀ (v3_7 : Int32) (μ_8 : ZMem), J_9 v3_7 μ_8 → zZ E (zzI Φ) 56 [(0, .ref 0), (1, .int a1), (2, .int a2), (3, .int v3_7)] [] μ_8) h (fun v3_7 μ_8 h => ?_) (fun J_9 hJ_9 h => ?_)
      · refine z_iload_n hE dX12_factored_56 rfl 2 rfl ?_
        obtain ⟨g57_0, g57_1, g57_2, g57_3, g57_4, g57_5, g57_6, g57_7, gd_57⟩ := h
        by_cases c57_0 : a2 = (0 : Int32)
        · have h := g57_0 c57_0
          refine z_swIn (tgt := 104) hE dX12_factored_57 (by rw [c57_0]; decide) (by rw [c57_0]; decide) (by rw [c57_0]; rfl) (by decide) ?_
          refine z_aload_n hE dX12_factored_104 rfl 0 rfl ?_
          refine z_getR (t := 1) hE dX12_factored_105 lF_X12_11 sM_0 rfl ?_
          refine z_bipush (v := 33) hE dX12_factored_108 zv_b_33 ?_
          refine z_iload_n hE dX12_factored_110 rfl 1 rfl ?_
          refine z_iadd hE dX12_factored_111 ?_
          obtain ⟨q_10, h⟩ := h
          refine z_iald hE dX12_factored_112 sM_1 q_10 ?_
          exact z_iret (st := []) hE dX12_factored_113 rfl ⟨_, rfl, h⟩
        by_cases c57_1 : a2 = (1 : Int32)
        · have h := g57_1 c57_1
          refine z_swIn (tgt := 114) hE dX12_factored_57 (by rw [c57_1]; decide) (by rw [c57_1]; decide) (by rw [c57_1]; rfl) (by decide) ?_
          refine z_aload_n hE dX12_factored_114 rfl 0 rfl ?_
          refine z_getR (t := 1) hE dX12_factored_115 lF_X12_11 sM_0 rfl ?_
          refine z_bipush (v := 39) hE dX12_factored_118 zv_b_39 ?_
          refine z_iload_n hE dX12_factored_120 rfl 1 rfl ?_
          refine z_iadd hE dX12_factored_121 ?_
          obtain ⟨q_11, h⟩ := h
          refine z_iald hE dX12_factored_122 sM_1 q_11 ?_
          refine z_bipush (v := 100) hE dX12_factored_123 zv_b_100 ?_
          refine z_iadd hE dX12_factored_125 ?_
          exact z_iret (st := []) hE dX12_factored_126 rfl ⟨_, rfl, h⟩
        by_cases c57_2 : a2 = (2 : Int32)
        · have h := g57_2 c57_2
          refine z_swIn (tgt := 127) hE dX12_factored_57 (by rw [c57_2]; decide) (by rw [c57_2]; decide) (by rw [c57_2]; rfl) (by decide) ?_
          refine z_aload_n hE dX12_factored_127 rfl 0 rfl ?_
          refine z_iload_n hE dX12_factored_128 rfl 1 rfl ?_
          refine z_callV hE dX12_factored_129 lV_X12_322 (c_X12_sizeOf _ μ_8 _ h) sM_0 rfl (Nat.le_of_ble_eq_true rfl) (by decide) rfl (zk_PI (fun r_12 h => ?_))
          refine z_iconst (v := 2) hE dX12_factored_132 zv_i_2 ?_
          refine z_icmp_ne (tgt := 151) hE dX12_factored_133 (by decide) h (fun h => ?_) (fun h => ?_)
          · refine z_iconst (v := -1) hE dX12_factored_151 zv_i_m1 ?_
            exact z_iret (st := []) hE dX12_factored_152 rfl ⟨_, rfl, h⟩
          · refine z_aload_n hE dX12_factored_136 rfl 0 rfl ?_
            refine z_getR (t := 1) hE dX12_factored_137 lF_X12_11 sM_0 rfl ?_
            refine z_bipush (v := 45) hE dX12_factored_140 zv_b_45 ?_
            refine z_iload_n hE dX12_factored_142 rfl 1 rfl ?_
            refine z_iadd hE dX12_factored_143 ?_
            obtain ⟨q_14, h⟩ := h
            refine z_iald hE dX12_factored_144 sM_1 q_14 ?_
            refine z_bipush (v := 100) hE dX12_factored_145 zv_b_100 ?_
            refine z_iadd hE dX12_factored_147 ?_
            refine z_goto (tgt := 152) hE dX12_factored_148 (by decide) ?_
            exact z_iret (st := []) hE dX12_factored_152 rfl ⟨_, rfl, h⟩
        by_cases c57_3 : a2 = (3 : Int32)
        · have h := g57_3 c57_3
          refine z_swIn (tgt := 153) hE dX12_factored_57 (by rw [c57_3]; decide) (by rw [c57_3]; decide) (by rw [c57_3]; rfl) (by decide) ?_
          refine z_aload_n hE dX12_factored_153 rfl 0 rfl ?_
          refine z_iload_n hE dX12_factored_154 rfl 1 rfl ?_
          refine z_callV hE dX12_factored_155 lV_X12_322 (c_X12_sizeOf _ μ_8 _ h) sM_0 rfl (Nat.le_of_ble_eq_true rfl) (by decide) rfl (zk_PI (fun r_15 h => ?_))
          exact z_iret (st := []) hE dX12_factored_158 rfl ⟨_, rfl, h⟩
        by_cases c57_4 : a2 = (4 : Int32)
        · have h := g57_4 c57_4
          refine z_swIn (tgt := 161) hE dX12_factored_57 (by rw [c57_4]; decide) (by rw [c57_4]; decide) (by rw [c57_4]; rfl) (by decide) ?_
          refine z_aload_n hE dX12_factored_161 rfl 0 rfl ?_
          refine z_iload_n hE dX12_factored_162 rfl 1 rfl ?_
          refine z_iload_n hE dX12_factored_163 rfl 2 rfl ?_
          refine z_iconst (v := 4) hE dX12_factored_164 zv_i_4 ?_
          refine z_isub hE dX12_factored_165 ?_
          refine z_callV hE dX12_factored_166 lV_X12_325 (c_X12_knownOf _ _ μ_8 _ h) sM_0 rfl (Nat.le_of_ble_eq_true rfl) (by decide) rfl (zk_PI (fun r_17 h => ?_))
          exact z_iret (st := []) hE dX12_factored_169 rfl ⟨_, rfl, h⟩
        by_cases c57_5 : a2 = (5 : Int32)
        · have h := g57_5 c57_5
          refine z_swIn (tgt := 161) hE dX12_factored_57 (by rw [c57_5]; decide) (by rw [c57_5]; decide) (by rw [c57_5]; rfl) (by decide) ?_
          refine z_aload_n hE dX12_factored_161 rfl 0 rfl ?_
          refine z_iload_n hE dX12_factored_162 rfl 1 rfl ?_
          refine z_iload_n hE dX12_factored_163 rfl 2 rfl ?_
          refine z_iconst (v := 4) hE dX12_factored_164 zv_i_4 ?_
          refine z_isub hE dX12_factored_165 ?_
          refine z_callV hE dX12_factored_166 lV_X12_325 (c_X12_knownOf _ _ μ_8 _ h) sM_0 rfl (Nat.le_of_ble_eq_true rfl) (by decide) rfl (zk_PI (fun r_19 h => ?_))
          exact z_iret (st := []) hE dX12_factored_169 rfl ⟨_, rfl, h⟩
        by_cases c57_6 : a2 = (6 : Int32)
        · have h := g57_6 c57_6
          refine z_swIn (tgt := 161) hE dX12_factored_57 (by rw [c57_6]; decide) (by rw [c57_6]; decide) (by rw [c57_6]; rfl) (by decide) ?_
          refine z_aload_n hE dX12_factored_161 rfl 0 rfl ?_
          refine z_iload_n hE dX12_factored_162 rfl 1 rfl ?_
          refine z_iload_n hE dX12_factored_163 rfl 2 rfl ?_
          refine z_iconst (v := 4) hE dX12_factored_164 zv_i_4 ?_
          refine z_isub hE dX12_factored_165 ?_
          refine z_callV hE dX12_factored_166 lV_X12_325 (c_X12_knownOf _ _ μ_8 _ h) sM_0 rfl (Nat.le_of_ble_eq_true rfl) (by decide) rfl (zk_PI (fun r_21 h => ?_))
          exact z_iret (st := []) hE dX12_factored_169 rfl ⟨_, rfl, h⟩
        by_cases c57_7 : a2 = (7 : Int32)
        · have h := g57_7 c57_7
          refine z_swIn (tgt := 159) hE dX12_factored_57 (by rw [c57_7]; decide) (by rw [c57_7]; decide) (by rw [c57_7]; rfl) (by decide) ?_
          refine z_iload_n hE dX12_factored_159 rfl 3 rfl ?_
          exact z_iret (st := []) hE dX12_factored_160 rfl ⟨_, rfl, h⟩
        have h := gd_57 c57_0 c57_1 c57_2 c57_3 c57_4 c57_5 c57_6 c57_7
        refine z_swOut (tgt := 161) hE dX12_factored_57 (by have e0 := lv_neT c57_0 (a := 0) (by decide); have e1 := lv_neT c57_1 (a := 1) (by decide); have e2 := lv_neT c57_2 (a := 2) (by decide); have e3 := lv_neT c57_3 (a := 3) (by decide); have e4 := lv_neT c57_4 (a := 4) (by decide); have e5 := lv_neT c57_5 (a := 5) (by decide); have e6 := lv_neT c57_6 (a := 6) (by decide); have e7 := lv_neT c57_7 (a := 7) (by decide); show _ < (0 : Int) ∨ (7 : Int) < _; omega) (by decide) ?_
        refine z_aload_n hE dX12_factored_161 rfl 0 rfl ?_
        refine z_iload_n hE dX12_factored_162 rfl 1 rfl ?_
        refine z_iload_n hE dX12_factored_163 rfl 2 rfl ?_
        refine z_iconst (v := 4) hE dX12_factored_164 zv_i_4 ?_
        refine z_isub hE dX12_factored_165 ?_
        refine z_callV hE dX12_factored_166 lV_X12_325 (c_X12_knownOf _ _ μ_8 _ h) sM_0 rfl (Nat.le_of_ble_eq_true rfl) (by decide) rfl (zk_PI (fun r_23 h => ?_))
        exact z_iret (st := []) hE dX12_factored_169 rfl ⟨_, rfl, h⟩
      refine z_sub [1, 2, 3, 0] rfl ?_
      obtain ⟨n36, h⟩ := h
      refine z_loop2 (P := fun (v3_25 : Int32) (μ_26 : ZMem) => zZ E (zzI Φ) 36 [(0, .ref 0), (1, .int a1), (2, .int a2), (3, .int v3_25)] [] μ_26) (fun k36_26 hk36_26 v3_25 μ_26 h => ?_) n36 _ _ h
      refine z_iload_n hE dX12_factored_36 rfl 2 rfl ?_
      refine z_bipush (v := 7) hE dX12_factored_37 zv_b_7 ?_
      refine z_icmp_ne (tgt := 56) hE dX12_factored_39 (by decide) h (fun h => ?_) (fun h => ?_)
      · exact hJ_9 _ _ h
      · refine z_aload_n hE dX12_factored_42 rfl 0 rfl ?_
        refine z_iload_n hE dX12_factored_43 rfl 1 rfl ?_
        refine z_callV hE dX12_factored_44 lV_X12_333 (c_X12_isDivided _ μ_26 _ h) sM_0 rfl (Nat.le_of_ble_eq_true rfl) (by decide) rfl (zk_I (fun r_27 μ_28 h => ?_))
        refine z_if_eq (tgt := 56) hE dX12_factored_47 (by decide) h (fun h => ?_) (fun h => ?_)
        · exact hJ_9 _ _ h
        · refine z_iinc (j := 3) (c := 1) (lv' := [(3, .int (v3_25 + (1 : Int32))), (0, .ref 0), (1, .int a1), (2, .int a2)]) hE dX12_factored_50 rfl zv_i_1 (by decide) rfl ?_
          refine z_goto (tgt := 36) hE dX12_factored_53 (by decide) ?_
          exact z_sub [1, 2, 3, 0] rfl (hk36_26 _ _ h)
    · refine z_iconst (v := -1) hE dX12_factored_20 zv_i_m1 ?_
      exact z_iret (st := []) hE dX12_factored_21 rfl ⟨_, rfl, h⟩
set_option maxRecDepth 4000 in
theorem c_X12_forms (a1 : Int32) (μ : ZMem) (Φ : ZMem → Prop) (h : w_X12_forms a1 μ Φ) : zM SM yX12_forms cX12_forms 3 (none) 2 [.ref 0, .int a1] μ (zzV Φ) := by
  refine zM_go (own := RX12) rfl (by decide) (Nat.le_of_ble_eq_true rfl) (fun E hE => ?_)
  show zZ E (zzV Φ) 0 [(0, .ref 0), (1, .int a1)] [] μ
  unfold w_X12_forms at h
  refine z_iload_n hE dX12_forms_0 rfl 1 rfl ?_
  refine z_iconst (v := 3) hE dX12_forms_1 zv_i_3 ?_
  refine z_join (P := fun (J_2 : ZMem → Prop) => ∀ (μ_1 : ZMem), J_2 μ_1 → zZ E (zzV Φ) 108 [(0, .ref 0)] [] μ_1) h (fun μ_1 h => ?_) (fun J_2 hJ_2 h => ?_)
  · refine z_aload_n hE dX12_forms_108 rfl 0 rfl ?_
    refine z_aload_n hE dX12_forms_109 rfl 0 rfl ?_
    refine z_getR (t := 4) hE dX12_forms_110 lF_X12_22 sM_0 rfl ?_
    refine z_callS hE dX12_forms_113 lS_X12_73 (c_X12_degreeOf _ _ sM_4 μ_1 _ h) rfl (Nat.le_of_ble_eq_true rfl) (by decide) rfl (zk_PI (fun r_3 h => ?_))
    refine z_put hE dX12_forms_116 lF_X12_121 sM_0 rfl rfl rfl ?_
    refine zn (G := fun μ_5 => zZ E (zzV Φ) 119 [(0, .ref 0)] [] μ_5) h (fun μ_5 h => ?_)
    refine z_aload_n hE dX12_forms_119 rfl 0 rfl ?_
    refine z_aload_n hE dX12_forms_120 rfl 0 rfl ?_
    refine z_getI hE dX12_forms_121 lF_X12_77 sM_0 rfl ?_
    refine z_join (P := fun (J_7 : Int32 → Prop) => ∀ (x_6 : Int32), J_7 x_6 → zZ E (zzV Φ) 140 [] [.int x_6, .ref 0] μ_5) h (fun x_6 h => ?_) (fun J_7 hJ_7 h => ?_)
    · refine z_put hE dX12_forms_140 lF_X12_124 sM_0 rfl rfl rfl ?_
      refine zn (G := fun μ_8 => zZ E (zzV Φ) 143 [] [] μ_8) h (fun μ_8 h => ?_)
      exact z_vret (st := []) hE dX12_forms_143 rfl ⟨rfl, h⟩
    refine z_if_ge (tgt := 131) hE dX12_forms_124 (by decide) h (fun h => ?_) (fun h => ?_)
    · refine z_aload_n hE dX12_forms_131 rfl 0 rfl ?_
      refine z_getI hE dX12_forms_132 lF_X12_77 sM_0 rfl ?_
      refine z_aload_n hE dX12_forms_135 rfl 0 rfl ?_
      refine z_getI hE dX12_forms_136 lF_X12_121 sM_0 rfl ?_
      refine z_isub hE dX12_forms_139 ?_
      exact z_sub [] rfl (hJ_7 _ h)
    · refine z_iconst (v := 0) hE dX12_forms_127 zv_i_0 ?_
      refine z_goto (tgt := 140) hE dX12_forms_128 (by decide) ?_
      exact z_sub [] rfl (hJ_7 _ h)
  refine z_icmp_ne (tgt := 12) hE dX12_forms_2 (by decide) h (fun h => ?_) (fun h => ?_)
  · refine z_iload_n hE dX12_forms_12 rfl 1 rfl ?_
    refine z_bipush (v := 10) hE dX12_forms_13 zv_b_10 ?_
    refine z_icmp_lt (tgt := 29) hE dX12_forms_15 (by decide) h (fun h => ?_) (fun h => ?_)
    · refine z_iconst (v := 0) hE dX12_forms_29 zv_i_0 ?_
      refine z_istore_n (lv' := [(2, .int (0 : Int32)), (0, .ref 0), (1, .int a1)]) hE dX12_forms_30 rfl (by decide) rfl ?_
      refine z_sub [1, 2, 0] rfl ?_
      obtain ⟨n31, h⟩ := h
      refine z_loop2 (P := fun (v2_9 : Int32) (μ_10 : ZMem) => zZ E (zzV Φ) 31 [(0, .ref 0), (1, .int a1), (2, .int v2_9)] [] μ_10) (fun k31_10 hk31_10 v2_9 μ_10 h => ?_) n31 _ _ h
      refine z_iload_n hE dX12_forms_31 rfl 2 rfl ?_
      refine z_bipush (v := 7) hE dX12_forms_32 zv_b_7 ?_
      refine z_icmp_ge (tgt := 108) hE dX12_forms_34 (by decide) h (fun h => ?_) (fun h => ?_)
      · exact z_sub [0] rfl (hJ_2 _ h)
      · refine z_aload_n hE dX12_forms_37 rfl 0 rfl ?_
        refine z_getR (t := 4) hE dX12_forms_38 lF_X12_22 sM_0 rfl ?_
        refine z_iload_n hE dX12_forms_41 rfl 2 rfl ?_
        refine z_iload_n hE dX12_forms_42 rfl 1 rfl ?_
        refine z_iconst (v := 2) hE dX12_forms_43 zv_i_2 ?_
        refine z_join (P := fun (J_12 : Int64 → Prop) => ∀ (x_11 : Int64), J_12 x_11 → zZ E (zzV Φ) 101 [(0, .ref 0), (1, .int a1), (2, .int v2_9)] [.long x_11, .int v2_9, .ref 4] μ_10) h (fun x_11 h => ?_) (fun J_12 hJ_12 h => ?_)
        · obtain ⟨q_13, h⟩ := h
          refine z_last hE dX12_forms_101 sM_4 q_13 ?_
          refine zn (G := fun μ_14 => zZ E (zzV Φ) 102 [(0, .ref 0), (1, .int a1), (2, .int v2_9)] [] μ_14) h (fun μ_14 h => ?_)
          refine z_iinc (j := 2) (c := 1) (lv' := [(2, .int (v2_9 + (1 : Int32))), (0, .ref 0), (1, .int a1)]) hE dX12_forms_102 rfl zv_i_1 (by decide) rfl ?_
          refine z_goto (tgt := 31) hE dX12_forms_105 (by decide) ?_
          exact z_sub [1, 2, 0] rfl (hk31_10 _ _ h)
        refine z_icmp_ne (tgt := 73) hE dX12_forms_44 (by decide) h (fun h => ?_) (fun h => ?_)
        · refine z_iload_n hE dX12_forms_73 rfl 1 rfl ?_
          refine z_iconst (v := 1) hE dX12_forms_74 zv_i_1 ?_
          refine z_join (P := fun (J_15 : Prop) => J_15 → zZ E (zzV Φ) 95 [(0, .ref 0), (1, .int a1), (2, .int v2_9)] [.int v2_9, .ref 4] μ_10) h (fun  h => ?_) (fun J_15 hJ_15 h => ?_)
          · refine z_aload_n hE dX12_forms_95 rfl 0 rfl ?_
            refine z_getR (t := 3) hE dX12_forms_96 lF_X12_18 sM_0 rfl ?_
            refine z_iload_n hE dX12_forms_99 rfl 2 rfl ?_
            obtain ⟨q_16, h⟩ := h
            refine z_lald hE dX12_forms_100 sM_3 q_16 ?_
            exact hJ_12 _ h
          refine z_icmp_ne (tgt := 95) hE dX12_forms_75 (by decide) h (fun h => ?_) (fun h => ?_)
          · exact hJ_15 h
          · refine z_iload_n hE dX12_forms_78 rfl 2 rfl ?_
            refine z_iconst (v := 2) hE dX12_forms_79 zv_i_2 ?_
            refine z_irem hE dX12_forms_80 (by decide) ?_
            refine z_iconst (v := 1) hE dX12_forms_81 zv_i_1 ?_
            refine z_icmp_ne (tgt := 95) hE dX12_forms_82 (by decide) h (fun h => ?_) (fun h => ?_)
            · exact hJ_15 h
            · refine z_aload_n hE dX12_forms_85 rfl 0 rfl ?_
              refine z_getR (t := 3) hE dX12_forms_86 lF_X12_18 sM_0 rfl ?_
              refine z_iload_n hE dX12_forms_89 rfl 2 rfl ?_
              obtain ⟨q_17, h⟩ := h
              refine z_lald hE dX12_forms_90 sM_3 q_17 ?_
              refine z_lneg hE dX12_forms_91 ?_
              refine z_goto (tgt := 101) hE dX12_forms_92 (by decide) ?_
              exact hJ_12 _ h
        · refine z_iload_n hE dX12_forms_47 rfl 2 rfl ?_
          refine z_aload_n hE dX12_forms_48 rfl 0 rfl ?_
          refine z_getI hE dX12_forms_49 lF_X12_77 sM_0 rfl ?_
          refine z_icmp_gt (tgt := 69) hE dX12_forms_52 (by decide) h (fun h => ?_) (fun h => ?_)
          · refine z_lconst (v := 0) hE dX12_forms_69 zv_l_0 ?_
            refine z_goto (tgt := 101) hE dX12_forms_70 (by decide) ?_
            exact hJ_12 _ h
          · refine z_aload_n hE dX12_forms_55 rfl 0 rfl ?_
            refine z_getR (t := 3) hE dX12_forms_56 lF_X12_18 sM_0 rfl ?_
            refine z_aload_n hE dX12_forms_59 rfl 0 rfl ?_
            refine z_getI hE dX12_forms_60 lF_X12_77 sM_0 rfl ?_
            refine z_iload_n hE dX12_forms_63 rfl 2 rfl ?_
            refine z_isub hE dX12_forms_64 ?_
            obtain ⟨q_18, h⟩ := h
            refine z_lald hE dX12_forms_65 sM_3 q_18 ?_
            refine z_goto (tgt := 101) hE dX12_forms_66 (by decide) ?_
            exact hJ_12 _ h
    · refine z_aload_n hE dX12_forms_18 rfl 0 rfl ?_
      refine z_iload_n hE dX12_forms_19 rfl 1 rfl ?_
      refine z_bipush (v := 30) hE dX12_forms_20 zv_b_30 ?_
      refine z_isub hE dX12_forms_22 ?_
      refine z_callV hE dX12_forms_23 lV_X12_118 (c_X12_shifts _ μ _ h) sM_0 rfl (Nat.le_of_ble_eq_true rfl) (by decide) rfl (zk_V (fun μ_20 h => ?_))
      refine z_goto (tgt := 108) hE dX12_forms_26 (by decide) ?_
      exact z_sub [0] rfl (hJ_2 _ h)
  · refine z_aload_n hE dX12_forms_5 rfl 0 rfl ?_
    refine z_callV hE dX12_forms_6 lV_X12_115 (c_X12_circles  μ _ h) sM_0 rfl (Nat.le_of_ble_eq_true rfl) (by decide) rfl (zk_V (fun μ_22 h => ?_))
    refine z_goto (tgt := 108) hE dX12_forms_9 (by decide) ?_
    exact z_sub [0] rfl (hJ_2 _ h)
set_option maxRecDepth 4000 in
theorem c_X12_get (a1 : Int32) (a2 : Int32) (μ : ZMem) (Φ : Int64 → Prop) (h : w_X12_get a1 a2 μ Φ) : zM SM yX12_get cX12_get 3 (some FieldType.long) 2 [.ref 0, .int a1, .int a2] μ (zzPJ Φ μ) := by
  refine zM_go (own := RX12) rfl (by decide) (Nat.le_of_ble_eq_true rfl) (fun E hE => ?_)
  show zZ E (zzPJ Φ μ) 0 [(0, .ref 0), (1, .int a1), (2, .int a2)] [] μ
  unfold w_X12_get at h
  refine z_iload_n hE dX12_get_0 rfl 1 rfl ?_
  refine z_callS hE dX12_get_1 lS_X12_303 (c_X12_isTray _ μ _ h) rfl (Nat.le_of_ble_eq_true rfl) (by decide) rfl (zk_PI (fun r_1 h => ?_))
  refine z_if_eq (tgt := 39) hE dX12_get_4 (by decide) h (fun h => ?_) (fun h => ?_)
  · refine z_ldc2 (v := -9223372036854775808) hE dX12_get_39 lK_X12_67 ?_
    exact z_lret (st := []) hE dX12_get_42 rfl ⟨_, rfl, rfl, h⟩
  · refine z_iload_n hE dX12_get_7 rfl 2 rfl ?_
    refine z_i2l hE dX12_get_8 ?_
    refine z_lconst (v := 0) hE dX12_get_9 zv_l_0 ?_
    refine z_aload_n hE dX12_get_10 rfl 0 rfl ?_
    refine z_getR (t := 16) hE dX12_get_11 lF_X12_58 sM_0 rfl ?_
    refine z_iload_n hE dX12_get_14 rfl 1 rfl ?_
    obtain ⟨q_3, h⟩ := h
    refine z_iald hE dX12_get_15 sM_16 q_3 ?_
    refine z_iconst (v := 1) hE dX12_get_16 zv_i_1 ?_
    refine z_isub hE dX12_get_17 ?_
    refine z_i2l hE dX12_get_18 ?_
    refine z_callS hE dX12_get_19 lS_X12_83 (c_X12_in _ _ _ μ _ h) rfl (Nat.le_of_ble_eq_true rfl) (by decide) rfl (zk_PI (fun r_4 h => ?_))
    refine z_if_eq (tgt := 39) hE dX12_get_22 (by decide) h (fun h => ?_) (fun h => ?_)
    · refine z_ldc2 (v := -9223372036854775808) hE dX12_get_39 lK_X12_67 ?_
      exact z_lret (st := []) hE dX12_get_42 rfl ⟨_, rfl, rfl, h⟩
    · refine z_aload_n hE dX12_get_25 rfl 0 rfl ?_
      refine z_getR (t := 17) hE dX12_get_26 lF_X12_61 sM_0 rfl ?_
      refine z_bipush (v := 30) hE dX12_get_29 zv_b_30 ?_
      refine z_iload_n hE dX12_get_31 rfl 1 rfl ?_
      refine z_imul hE dX12_get_32 ?_
      refine z_iload_n hE dX12_get_33 rfl 2 rfl ?_
      refine z_iadd hE dX12_get_34 ?_
      obtain ⟨q_6, h⟩ := h
      refine z_lald hE dX12_get_35 sM_17 q_6 ?_
      refine z_goto (tgt := 42) hE dX12_get_36 (by decide) ?_
      exact z_lret (st := []) hE dX12_get_42 rfl ⟨_, rfl, rfl, h⟩
set_option maxRecDepth 4000 in
theorem c_X12_knownAll (a1 : Int32) (μ : ZMem) (Φ : Int32 → Prop) (h : w_X12_knownAll a1 μ Φ) : zM SM yX12_knownAll cX12_knownAll 4 (some FieldType.int) 2 [.ref 0, .int a1] μ (zzPI Φ μ) := by
  refine zM_go (own := RX12) rfl (by decide) (Nat.le_of_ble_eq_true rfl) (fun E hE => ?_)
  show zZ E (zzPI Φ μ) 0 [(0, .ref 0), (1, .int a1)] [] μ
  unfold w_X12_knownAll at h
  refine z_iconst (v := 0) hE dX12_knownAll_0 zv_i_0 ?_
  refine z_istore_n (lv' := [(2, .int (0 : Int32)), (0, .ref 0), (1, .int a1)]) hE dX12_knownAll_1 rfl (by decide) rfl ?_
  refine z_iconst (v := 0) hE dX12_knownAll_2 zv_i_0 ?_
  refine z_istore_n (lv' := [(3, .int (0 : Int32)), (2, .int (0 : Int32)), (0, .ref 0), (1, .int a1)]) hE dX12_knownAll_3 rfl (by decide) rfl ?_
  refine z_sub [2, 3, 1, 0] rfl ?_
  obtain ⟨n4, h⟩ := h
  refine z_loop2 (P := fun (v2_1 : Int32) (v3_2 : Int32) => zZ E (zzPI Φ μ) 4 [(0, .ref 0), (1, .int a1), (2, .int v2_1), (3, .int v3_2)] [] μ) (fun k4_2 hk4_2 v2_1 v3_2 h => ?_) n4 _ _ h
  refine z_iload_n hE dX12_knownAll_4 rfl 3 rfl ?_
  refine z_aload_n hE dX12_knownAll_5 rfl 0 rfl ?_
  refine z_getR (t := 1) hE dX12_knownAll_6 lF_X12_11 sM_0 rfl ?_
  refine z_bipush (v := 32) hE dX12_knownAll_9 zv_b_32 ?_
  refine z_iald hE dX12_knownAll_11 sM_1 (zin (by decide)) ?_
  refine z_icmp_ge (tgt := 43) hE dX12_knownAll_12 (by decide) h (fun h => ?_) (fun h => ?_)
  · refine z_iload_n hE dX12_knownAll_43 rfl 2 rfl ?_
    exact z_iret (st := []) hE dX12_knownAll_44 rfl ⟨_, rfl, rfl, h⟩
  · refine z_iload_n hE dX12_knownAll_15 rfl 2 rfl ?_
    refine z_iload_n hE dX12_knownAll_16 rfl 1 rfl ?_
    refine z_iconst (v := 3) hE dX12_knownAll_17 zv_i_3 ?_
    refine z_join (P := fun (J_4 : Int32 → Prop) => ∀ (x_3 : Int32), J_4 x_3 → zZ E (zzPI Φ μ) 35 [(0, .ref 0), (1, .int a1), (3, .int v3_2)] [.int x_3, .int v2_1] μ) h (fun x_3 h => ?_) (fun J_4 hJ_4 h => ?_)
    · refine z_iadd hE dX12_knownAll_35 ?_
      refine z_istore_n (lv' := [(2, .int (v2_1 + x_3)), (0, .ref 0), (1, .int a1), (3, .int v3_2)]) hE dX12_knownAll_36 rfl (by decide) rfl ?_
      refine zn (G := fun v2_5 => zZ E (zzPI Φ μ) 37 [(2, .int v2_5), (0, .ref 0), (1, .int a1), (3, .int v3_2)] [] μ) h (fun v2_5 h => ?_)
      refine z_iinc (j := 3) (c := 1) (lv' := [(3, .int (v3_2 + (1 : Int32))), (2, .int v2_5), (0, .ref 0), (1, .int a1)]) hE dX12_knownAll_37 rfl zv_i_1 (by decide) rfl ?_
      refine z_goto (tgt := 4) hE dX12_knownAll_40 (by decide) ?_
      exact z_sub [2, 3, 1, 0] rfl (hk4_2 _ _ h)
    refine z_icmp_ne (tgt := 29) hE dX12_knownAll_18 (by decide) h (fun h => ?_) (fun h => ?_)
    · refine z_aload_n hE dX12_knownAll_29 rfl 0 rfl ?_
      refine z_iload_n hE dX12_knownAll_30 rfl 3 rfl ?_
      refine z_iload_n hE dX12_knownAll_31 rfl 1 rfl ?_
      refine z_callV hE dX12_knownAll_32 lV_X12_325 (c_X12_knownOf _ _ μ _ h) sM_0 rfl (Nat.le_of_ble_eq_true rfl) (by decide) rfl (zk_PI (fun r_6 h => ?_))
      exact z_sub [0, 1, 3] rfl (hJ_4 _ h)
    · refine z_aload_n hE dX12_knownAll_21 rfl 0 rfl ?_
      refine z_iload_n hE dX12_knownAll_22 rfl 3 rfl ?_
      refine z_callV hE dX12_knownAll_23 lV_X12_322 (c_X12_sizeOf _ μ _ h) sM_0 rfl (Nat.le_of_ble_eq_true rfl) (by decide) rfl (zk_PI (fun r_8 h => ?_))
      refine z_goto (tgt := 35) hE dX12_knownAll_26 (by decide) ?_
      exact z_sub [0, 1, 3] rfl (hJ_4 _ h)
set_option maxRecDepth 4000 in
theorem c_X12_laysChain  (μ : ZMem) (Φ : Int32 → ZMem → Prop) (h : w_X12_laysChain μ Φ) : zM SM yX12_laysChain cX12_laysChain 2 (some FieldType.int) 2 [.ref 0] μ (zzI Φ) := by
  refine zM_go (own := RX12) rfl (by decide) (Nat.le_of_ble_eq_true rfl) (fun E hE => ?_)
  show zZ E (zzI Φ) 0 [(0, .ref 0)] [] μ
  unfold w_X12_laysChain at h
  refine z_aload_n hE dX12_laysChain_0 rfl 0 rfl ?_
  refine z_iconst (v := 1) hE dX12_laysChain_1 zv_i_1 ?_
  refine z_aload_n hE dX12_laysChain_2 rfl 0 rfl ?_
  refine z_getR (t := 1) hE dX12_laysChain_3 lF_X12_11 sM_0 rfl ?_
  refine z_bipush (v := 14) hE dX12_laysChain_6 zv_b_14 ?_
  refine z_iald hE dX12_laysChain_8 sM_1 (zin (by decide)) ?_
  refine z_callV hE dX12_laysChain_9 lV_X12_97 (c_X12_takes _ _ μ _ h) sM_0 rfl (Nat.le_of_ble_eq_true rfl) (by decide) rfl (zk_V (fun μ_2 h => ?_))
  refine z_aload_n hE dX12_laysChain_12 rfl 0 rfl ?_
  refine z_iconst (v := 0) hE dX12_laysChain_13 zv_i_0 ?_
  refine z_put hE dX12_laysChain_14 lF_X12_69 sM_0 rfl (by decide) (by decide) ?_
  refine zn (G := fun μ_3 => zZ E (zzI Φ) 17 [(0, .ref 0)] [] μ_3) h (fun μ_3 h => ?_)
  refine z_aload_n hE dX12_laysChain_17 rfl 0 rfl ?_
  refine z_iconst (v := 0) hE dX12_laysChain_18 zv_i_0 ?_
  refine z_put hE dX12_laysChain_19 lF_X12_229 sM_0 rfl rfl rfl ?_
  refine zn (G := fun μ_4 => zZ E (zzI Φ) 22 [(0, .ref 0)] [] μ_4) h (fun μ_4 h => ?_)
  refine z_aload_n hE dX12_laysChain_22 rfl 0 rfl ?_
  refine z_getI hE dX12_laysChain_23 lF_X12_77 sM_0 rfl ?_
  refine z_iconst (v := 1) hE dX12_laysChain_26 zv_i_1 ?_
  refine z_icmp_ge (tgt := 33) hE dX12_laysChain_27 (by decide) h (fun h => ?_) (fun h => ?_)
  · refine z_iconst (v := 0) hE dX12_laysChain_33 zv_i_0 ?_
    refine z_istore_n (lv' := [(1, .int (0 : Int32)), (0, .ref 0)]) hE dX12_laysChain_34 rfl (by decide) rfl ?_
    refine z_join (P := fun (J_6 : ZMem → Prop) => ∀ (μ_5 : ZMem), J_6 μ_5 → zZ E (zzI Φ) 91 [(0, .ref 0)] [] μ_5) h (fun μ_5 h => ?_) (fun J_6 hJ_6 h => ?_)
    · refine z_aload_n hE dX12_laysChain_91 rfl 0 rfl ?_
      refine z_iconst (v := 0) hE dX12_laysChain_92 zv_i_0 ?_
      refine z_callV hE dX12_laysChain_93 lV_X12_235 (c_X12_dividesLink _ μ_5 _ h) sM_0 rfl (Nat.le_of_ble_eq_true rfl) (by decide) rfl (zk_V (fun μ_8 h => ?_))
      refine z_aload_n hE dX12_laysChain_96 rfl 0 rfl ?_
      refine z_iconst (v := 1) hE dX12_laysChain_97 zv_i_1 ?_
      refine z_callV hE dX12_laysChain_98 lV_X12_235 (c_X12_dividesLink _ μ_8 _ h) sM_0 rfl (Nat.le_of_ble_eq_true rfl) (by decide) rfl (zk_V (fun μ_10 h => ?_))
      refine z_join (P := fun (J_12 : ZMem → Prop) => ∀ (μ_11 : ZMem), J_12 μ_11 → zZ E (zzI Φ) 119 [(0, .ref 0)] [] μ_11) h (fun μ_11 h => ?_) (fun J_12 hJ_12 h => ?_)
      · refine z_aload_n hE dX12_laysChain_119 rfl 0 rfl ?_
        refine z_getI hE dX12_laysChain_120 lF_X12_69 sM_0 rfl ?_
        refine z_if_eq (tgt := 131) hE dX12_laysChain_123 (by decide) h (fun h => ?_) (fun h => ?_)
        · refine z_iconst (v := 0) hE dX12_laysChain_131 zv_i_0 ?_
          exact z_iret (st := []) hE dX12_laysChain_132 rfl ⟨_, rfl, h⟩
        · refine z_bipush (v := -7) hE dX12_laysChain_126 zv_b_m7 ?_
          refine z_goto (tgt := 132) hE dX12_laysChain_128 (by decide) ?_
          exact z_iret (st := []) hE dX12_laysChain_132 rfl ⟨_, rfl, h⟩
      obtain ⟨n101, h⟩ := h
      refine z_loop1 (P := fun (μ_13 : ZMem) => zZ E (zzI Φ) 101 [(0, .ref 0)] [] μ_13) (fun k101_13 hk101_13 μ_13 h => ?_) n101 _ h
      refine z_aload_n hE dX12_laysChain_101 rfl 0 rfl ?_
      refine z_callV hE dX12_laysChain_102 lV_X12_238 (c_X12_goesOn  μ_13 _ h) sM_0 rfl (Nat.le_of_ble_eq_true rfl) (by decide) rfl (zk_I (fun r_14 μ_15 h => ?_))
      refine z_if_eq (tgt := 119) hE dX12_laysChain_105 (by decide) h (fun h => ?_) (fun h => ?_)
      · exact hJ_12 _ h
      · refine z_aload_n hE dX12_laysChain_108 rfl 0 rfl ?_
        refine z_aload_n hE dX12_laysChain_109 rfl 0 rfl ?_
        refine z_getI hE dX12_laysChain_110 lF_X12_229 sM_0 rfl ?_
        refine z_callV hE dX12_laysChain_113 lV_X12_235 (c_X12_dividesLink _ μ_15 _ h) sM_0 rfl (Nat.le_of_ble_eq_true rfl) (by decide) rfl (zk_V (fun μ_17 h => ?_))
        refine z_goto (tgt := 101) hE dX12_laysChain_116 (by decide) ?_
        exact hk101_13 _ h
    refine z_sub [1, 0] rfl ?_
    obtain ⟨n35, h⟩ := h
    refine z_loop2 (P := fun (v1_18 : Int32) (μ_19 : ZMem) => zZ E (zzI Φ) 35 [(0, .ref 0), (1, .int v1_18)] [] μ_19) (fun k35_19 hk35_19 v1_18 μ_19 h => ?_) n35 _ _ h
    refine z_iload_n hE dX12_laysChain_35 rfl 1 rfl ?_
    refine z_bipush (v := 7) hE dX12_laysChain_36 zv_b_7 ?_
    refine z_icmp_ge (tgt := 91) hE dX12_laysChain_38 (by decide) h (fun h => ?_) (fun h => ?_)
    · exact z_sub [0] rfl (hJ_6 _ h)
    · refine z_aload_n hE dX12_laysChain_41 rfl 0 rfl ?_
      refine z_getR (t := 11) hE dX12_laysChain_42 lF_X12_43 sM_0 rfl ?_
      refine z_iload_n hE dX12_laysChain_45 rfl 1 rfl ?_
      refine z_aload_n hE dX12_laysChain_46 rfl 0 rfl ?_
      refine z_getR (t := 3) hE dX12_laysChain_47 lF_X12_18 sM_0 rfl ?_
      refine z_iload_n hE dX12_laysChain_50 rfl 1 rfl ?_
      obtain ⟨q_20, h⟩ := h
      refine z_lald hE dX12_laysChain_51 sM_3 q_20 ?_
      obtain ⟨q_21, h⟩ := h
      refine z_last hE dX12_laysChain_52 sM_11 q_21 ?_
      refine zn (G := fun μ_22 => zZ E (zzI Φ) 53 [(0, .ref 0), (1, .int v1_18)] [] μ_22) h (fun μ_22 h => ?_)
      refine z_aload_n hE dX12_laysChain_53 rfl 0 rfl ?_
      refine z_getR (t := 11) hE dX12_laysChain_54 lF_X12_43 sM_0 rfl ?_
      refine z_bipush (v := 7) hE dX12_laysChain_57 zv_b_7 ?_
      refine z_iload_n hE dX12_laysChain_59 rfl 1 rfl ?_
      refine z_iadd hE dX12_laysChain_60 ?_
      refine z_iload_n hE dX12_laysChain_61 rfl 1 rfl ?_
      refine z_bipush (v := 6) hE dX12_laysChain_62 zv_b_6 ?_
      refine z_join (P := fun (J_24 : Int64 → Prop) => ∀ (x_23 : Int64), J_24 x_23 → zZ E (zzI Φ) 84 [(0, .ref 0), (1, .int v1_18)] [.long x_23, .int ((7 : Int32) + v1_18), .ref 11] μ_22) h (fun x_23 h => ?_) (fun J_24 hJ_24 h => ?_)
      · obtain ⟨q_25, h⟩ := h
        refine z_last hE dX12_laysChain_84 sM_11 q_25 ?_
        refine zn (G := fun μ_26 => zZ E (zzI Φ) 85 [(0, .ref 0), (1, .int v1_18)] [] μ_26) h (fun μ_26 h => ?_)
        refine z_iinc (j := 1) (c := 1) (lv' := [(1, .int (v1_18 + (1 : Int32))), (0, .ref 0)]) hE dX12_laysChain_85 rfl zv_i_1 (by decide) rfl ?_
        refine z_goto (tgt := 35) hE dX12_laysChain_88 (by decide) ?_
        exact z_sub [1, 0] rfl (hk35_19 _ _ h)
      refine z_icmp_ge (tgt := 83) hE dX12_laysChain_64 (by decide) h (fun h => ?_) (fun h => ?_)
      · refine z_lconst (v := 0) hE dX12_laysChain_83 zv_l_0 ?_
        exact hJ_24 _ h
      · refine z_iload_n hE dX12_laysChain_67 rfl 1 rfl ?_
        refine z_iconst (v := 1) hE dX12_laysChain_68 zv_i_1 ?_
        refine z_iadd hE dX12_laysChain_69 ?_
        refine z_i2l hE dX12_laysChain_70 ?_
        refine z_aload_n hE dX12_laysChain_71 rfl 0 rfl ?_
        refine z_getR (t := 3) hE dX12_laysChain_72 lF_X12_18 sM_0 rfl ?_
        refine z_iload_n hE dX12_laysChain_75 rfl 1 rfl ?_
        refine z_iconst (v := 1) hE dX12_laysChain_76 zv_i_1 ?_
        refine z_iadd hE dX12_laysChain_77 ?_
        obtain ⟨q_27, h⟩ := h
        refine z_lald hE dX12_laysChain_78 sM_3 q_27 ?_
        refine z_lmul hE dX12_laysChain_79 ?_
        refine z_goto (tgt := 84) hE dX12_laysChain_80 (by decide) ?_
        exact hJ_24 _ h
  · refine z_bipush (v := -2) hE dX12_laysChain_30 zv_b_m2 ?_
    exact z_iret (st := []) hE dX12_laysChain_32 rfl ⟨_, rfl, h⟩
set_option maxRecDepth 4000 in
theorem c_X12_mends (a1 : Int32) (μ : ZMem) (Φ : ZMem → Prop) (h : w_X12_mends a1 μ Φ) : zM SM yX12_mends cX12_mends 7 (none) 2 [.ref 0, .int a1] μ (zzV Φ) := by
  refine zM_go (own := RX12) rfl (by decide) (Nat.le_of_ble_eq_true rfl) (fun E hE => ?_)
  show zZ E (zzV Φ) 0 [(0, .ref 0), (1, .int a1)] [] μ
  unfold w_X12_mends at h
  refine z_aload_n hE dX12_mends_0 rfl 0 rfl ?_
  refine z_iload_n hE dX12_mends_1 rfl 1 rfl ?_
  refine z_callV hE dX12_mends_2 lV_X12_144 (c_X12_firstNot _ μ _ h) sM_0 rfl (Nat.le_of_ble_eq_true rfl) (by decide) rfl (zk_PI (fun r_1 h => ?_))
  refine z_istore_n (lv' := [(2, .int r_1), (0, .ref 0), (1, .int a1)]) hE dX12_mends_5 rfl (by decide) rfl ?_
  refine z_aload_n hE dX12_mends_6 rfl 1 rfl ?_
  refine z_iload_n hE dX12_mends_7 rfl 2 rfl ?_
  refine z_callV hE dX12_mends_8 lV_X12_136 (c_X12_itemMany _ μ _ h) sM_0 rfl (Nat.le_of_ble_eq_true rfl) (by decide) rfl (zk_PI (fun r_3 h => ?_))
  refine z_istore_n (lv' := [(3, .int r_3), (2, .int r_1), (0, .ref 0), (1, .int a1)]) hE dX12_mends_11 rfl (by decide) rfl ?_
  refine z_aload_n hE dX12_mends_12 rfl 2 rfl ?_
  refine z_getR (t := 8) hE dX12_mends_13 lF_X12_34 sM_0 rfl ?_
  refine z_iload_n hE dX12_mends_16 rfl 3 rfl ?_
  refine z_iload_n hE dX12_mends_17 rfl 3 rfl ?_
  refine z_join (P := fun (J_6 : Int32 → Prop) => ∀ (x_5 : Int32), J_6 x_5 → zZ E (zzV Φ) 39 [(0, .ref 0), (1, .int a1), (2, .int r_1), (3, .int r_3)] [.int x_5, .int a1, .ref 8] μ) h (fun x_5 h => ?_) (fun J_6 hJ_6 h => ?_)
  · obtain ⟨q_7, h⟩ := h
    refine z_iast hE dX12_mends_39 sM_8 q_7 ?_
    refine zn (G := fun μ_8 => zZ E (zzV Φ) 40 [(0, .ref 0), (1, .int a1), (2, .int r_1), (3, .int r_3)] [] μ_8) h (fun μ_8 h => ?_)
    refine z_iconst (v := 0) hE dX12_mends_40 zv_i_0 ?_
    refine z_istore (lv' := [(4, .int (0 : Int32)), (0, .ref 0), (1, .int a1), (2, .int r_1), (3, .int r_3)]) hE dX12_mends_41 (by decide) rfl ?_
    refine z_join (P := fun (J_10 : ZMem → Prop) => ∀ (μ_9 : ZMem), J_10 μ_9 → zZ E (zzV Φ) 70 [(0, .ref 0), (1, .int a1), (2, .int r_1), (3, .int r_3)] [] μ_9) h (fun μ_9 h => ?_) (fun J_10 hJ_10 h => ?_)
    · refine z_iconst (v := 0) hE dX12_mends_70 zv_i_0 ?_
      refine z_istore (lv' := [(4, .int (0 : Int32)), (0, .ref 0), (1, .int a1), (2, .int r_1), (3, .int r_3)]) hE dX12_mends_71 (by decide) rfl ?_
      refine z_join (P := fun (J_12 : ZMem → Prop) => ∀ (μ_11 : ZMem), J_12 μ_11 → zZ E (zzV Φ) 205 [(0, .ref 0), (1, .int a1), (3, .int r_3)] [] μ_11) h (fun μ_11 h => ?_) (fun J_12 hJ_12 h => ?_)
      · refine z_lconst (v := 0) hE dX12_mends_205 zv_l_0 ?_
        refine z_lstore (lv' := [(4, .long (0 : Int64)), (0, .ref 0), (1, .int a1), (3, .int r_3)]) hE dX12_mends_206 (by decide) rfl ?_
        refine z_iconst (v := 0) hE dX12_mends_208 zv_i_0 ?_
        refine z_istore (lv' := [(6, .int (0 : Int32)), (4, .long (0 : Int64)), (0, .ref 0), (1, .int a1), (3, .int r_3)]) hE dX12_mends_209 (by decide) rfl ?_
        refine z_join (P := fun (J_14 : Int64 → Prop) => ∀ (v4_13 : Int64), J_14 v4_13 → zZ E (zzV Φ) 237 [(0, .ref 0), (1, .int a1), (3, .int r_3), (4, .long v4_13)] [] μ_11) h (fun v4_13 h => ?_) (fun J_14 hJ_14 h => ?_)
        · refine z_iconst (v := 0) hE dX12_mends_237 zv_i_0 ?_
          refine z_istore (lv' := [(6, .int (0 : Int32)), (0, .ref 0), (1, .int a1), (3, .int r_3), (4, .long v4_13)]) hE dX12_mends_238 (by decide) rfl ?_
          refine z_sub [1, 2, 3, 4, 0] rfl ?_
          obtain ⟨n240, h⟩ := h
          refine z_loop2 (P := fun (v6_15 : Int32) (μ_16 : ZMem) => zZ E (zzV Φ) 240 [(0, .ref 0), (1, .int a1), (3, .int r_3), (4, .long v4_13), (6, .int v6_15)] [] μ_16) (fun k240_16 hk240_16 v6_15 μ_16 h => ?_) n240 _ _ h
          refine z_iload hE dX12_mends_240 4 rfl ?_
          refine z_iload_n hE dX12_mends_242 rfl 2 rfl ?_
          refine z_icmp_ge (tgt := 276) hE dX12_mends_243 (by decide) h (fun h => ?_) (fun h => ?_)
          · exact z_vret (st := []) hE dX12_mends_276 rfl ⟨rfl, h⟩
          · refine z_aload_n hE dX12_mends_246 rfl 0 rfl ?_
            refine z_getI hE dX12_mends_247 lF_X12_69 sM_0 rfl ?_
            refine z_if_ne (tgt := 276) hE dX12_mends_250 (by decide) h (fun h => ?_) (fun h => ?_)
            · exact z_vret (st := []) hE dX12_mends_276 rfl ⟨rfl, h⟩
            · refine z_aload_n hE dX12_mends_253 rfl 0 rfl ?_
              refine z_getR (t := 6) hE dX12_mends_254 lF_X12_28 sM_0 rfl ?_
              refine z_bipush (v := 6) hE dX12_mends_257 zv_b_6 ?_
              refine z_iload_n hE dX12_mends_259 rfl 1 rfl ?_
              refine z_imul hE dX12_mends_260 ?_
              refine z_iload hE dX12_mends_261 4 rfl ?_
              refine z_iadd hE dX12_mends_263 ?_
              refine z_dup2 hE dX12_mends_264 rfl rfl ?_
              obtain ⟨q_17, h⟩ := h
              refine z_lald hE dX12_mends_265 sM_6 q_17 ?_
              refine z_lload hE dX12_mends_266 3 rfl ?_
              obtain ⟨q_18, h⟩ := h
              refine z_ldiv hE dX12_mends_268 q_18 ?_
              obtain ⟨q_19, h⟩ := h
              refine z_last hE dX12_mends_269 sM_6 q_19 ?_
              refine zn (G := fun μ_20 => zZ E (zzV Φ) 270 [(0, .ref 0), (1, .int a1), (3, .int r_3), (4, .long v4_13), (6, .int v6_15)] [] μ_20) h (fun μ_20 h => ?_)
              refine z_iinc (j := 4) (c := 1) (lv' := [(6, .int (v6_15 + (1 : Int32))), (0, .ref 0), (1, .int a1), (3, .int r_3), (4, .long v4_13)]) hE dX12_mends_270 rfl zv_i_1 (by decide) rfl ?_
              refine z_goto (tgt := 240) hE dX12_mends_273 (by decide) ?_
              exact z_sub [1, 2, 3, 4, 0] rfl (hk240_16 _ _ h)
        refine z_sub [2, 3, 4, 1, 0] rfl ?_
        obtain ⟨n211, h⟩ := h
        refine z_loop2 (P := fun (v4_21 : Int64) (v6_22 : Int32) => zZ E (zzV Φ) 211 [(0, .ref 0), (1, .int a1), (3, .int r_3), (4, .long v4_21), (6, .int v6_22)] [] μ_11) (fun k211_22 hk211_22 v4_21 v6_22 h => ?_) n211 _ _ h
        refine z_iload hE dX12_mends_211 4 rfl ?_
        refine z_iload_n hE dX12_mends_213 rfl 2 rfl ?_
        refine z_icmp_ge (tgt := 237) hE dX12_mends_214 (by decide) h (fun h => ?_) (fun h => ?_)
        · exact z_sub [0, 1, 2, 3] rfl (hJ_14 _ h)
        · refine z_aload_n hE dX12_mends_217 rfl 0 rfl ?_
          refine z_iload_n hE dX12_mends_218 rfl 1 rfl ?_
          refine z_iload hE dX12_mends_219 4 rfl ?_
          refine z_callV hE dX12_mends_221 lV_X12_140 (c_X12_item _ _ μ_11 _ h) sM_0 rfl (Nat.le_of_ble_eq_true rfl) (by decide) rfl (zk_PJ (fun r_23 h => ?_))
          refine z_lload hE dX12_mends_224 3 rfl ?_
          refine z_callS hE dX12_mends_226 lS_X12_158 (c_X12_common _ _ μ_11 _ h) rfl (Nat.le_of_ble_eq_true rfl) (by decide) rfl (zk_PJ (fun r_25 h => ?_))
          refine z_lstore (lv' := [(4, .long r_25), (0, .ref 0), (1, .int a1), (3, .int r_3), (6, .int v6_22)]) hE dX12_mends_229 (by decide) rfl ?_
          refine z_iinc (j := 4) (c := 1) (lv' := [(6, .int (v6_22 + (1 : Int32))), (4, .long r_25), (0, .ref 0), (1, .int a1), (3, .int r_3)]) hE dX12_mends_231 rfl zv_i_1 (by decide) rfl ?_
          refine z_goto (tgt := 211) hE dX12_mends_234 (by decide) ?_
          exact z_sub [2, 3, 4, 1, 0] rfl (hk211_22 _ _ h)
      refine z_sub [1, 2, 3, 4, 0] rfl ?_
      obtain ⟨n73, h⟩ := h
      refine z_loop2 (P := fun (v4_27 : Int32) (μ_28 : ZMem) => zZ E (zzV Φ) 73 [(0, .ref 0), (1, .int a1), (2, .int r_1), (3, .int r_3), (4, .int v4_27)] [] μ_28) (fun k73_28 hk73_28 v4_27 μ_28 h => ?_) n73 _ _ h
      refine z_iload hE dX12_mends_73 4 rfl ?_
      refine z_iload_n hE dX12_mends_75 rfl 3 rfl ?_
      refine z_icmp_ge (tgt := 205) hE dX12_mends_76 (by decide) h (fun h => ?_) (fun h => ?_)
      · exact z_sub [0, 1, 3] rfl (hJ_12 _ h)
      · refine z_aload_n hE dX12_mends_79 rfl 0 rfl ?_
        refine z_getR (t := 8) hE dX12_mends_80 lF_X12_34 sM_0 rfl ?_
        refine z_iload_n hE dX12_mends_83 rfl 1 rfl ?_
        obtain ⟨q_29, h⟩ := h
        refine z_iald hE dX12_mends_84 sM_8 q_29 ?_
        refine z_if_le (tgt := 205) hE dX12_mends_85 (by decide) h (fun h => ?_) (fun h => ?_)
        · exact z_sub [0, 1, 3] rfl (hJ_12 _ h)
        · refine z_iload hE dX12_mends_88 4 rfl ?_
          refine z_iload_n hE dX12_mends_90 rfl 2 rfl ?_
          refine z_iadd hE dX12_mends_91 ?_
          refine z_iload_n hE dX12_mends_92 rfl 3 rfl ?_
          refine z_join (P := fun (J_32 : Int64 → ZMem → Prop) => ∀ (x_30 : Int64) (μ_31 : ZMem), J_32 x_30 μ_31 → zZ E (zzV Φ) 132 [(0, .ref 0), (1, .int a1), (2, .int r_1), (3, .int r_3), (4, .int v4_27)] [.long x_30] μ_31) h (fun x_30 μ_31 h => ?_) (fun J_32 hJ_32 h => ?_)
          · refine z_lstore (lv' := [(5, .long x_30), (0, .ref 0), (1, .int a1), (2, .int r_1), (3, .int r_3), (4, .int v4_27)]) hE dX12_mends_132 (by decide) rfl ?_
            refine z_aload_n hE dX12_mends_134 rfl 1 rfl ?_
            refine z_getR (t := 6) hE dX12_mends_135 lF_X12_28 sM_0 rfl ?_
            refine z_bipush (v := 6) hE dX12_mends_138 zv_b_6 ?_
            refine z_iload_n hE dX12_mends_140 rfl 2 rfl ?_
            refine z_imul hE dX12_mends_141 ?_
            refine z_iload hE dX12_mends_142 5 rfl ?_
            refine z_iadd hE dX12_mends_144 ?_
            refine z_aload_n hE dX12_mends_145 rfl 1 rfl ?_
            refine z_getR (t := 8) hE dX12_mends_146 lF_X12_34 sM_0 rfl ?_
            refine z_iload_n hE dX12_mends_149 rfl 2 rfl ?_
            obtain ⟨q_33, h⟩ := h
            refine z_iald hE dX12_mends_150 sM_8 q_33 ?_
            refine z_iconst (v := 2) hE dX12_mends_151 zv_i_2 ?_
            refine z_join (P := fun (J_36 : Int64 → ZMem → Prop) => ∀ (x_34 : Int64) (μ_35 : ZMem), J_36 x_34 μ_35 → zZ E (zzV Φ) 198 [(0, .ref 0), (1, .int a1), (2, .int r_1), (3, .int r_3), (4, .int v4_27)] [.long x_34, .int (((6 : Int32) * a1) + v4_27), .ref 6] μ_35) h (fun x_34 μ_35 h => ?_) (fun J_36 hJ_36 h => ?_)
            · obtain ⟨q_37, h⟩ := h
              refine z_last hE dX12_mends_198 sM_6 q_37 ?_
              refine zn (G := fun μ_38 => zZ E (zzV Φ) 199 [(0, .ref 0), (1, .int a1), (2, .int r_1), (3, .int r_3), (4, .int v4_27)] [] μ_38) h (fun μ_38 h => ?_)
              refine z_iinc (j := 4) (c := 1) (lv' := [(4, .int (v4_27 + (1 : Int32))), (0, .ref 0), (1, .int a1), (2, .int r_1), (3, .int r_3)]) hE dX12_mends_199 rfl zv_i_1 (by decide) rfl ?_
              refine z_goto (tgt := 73) hE dX12_mends_202 (by decide) ?_
              exact z_sub [1, 2, 3, 4, 0] rfl (hk73_28 _ _ h)
            refine z_icmp_ne (tgt := 185) hE dX12_mends_152 (by decide) h (fun h => ?_) (fun h => ?_)
            · refine z_aload_n hE dX12_mends_185 rfl 1 rfl ?_
              refine z_aload_n hE dX12_mends_186 rfl 1 rfl ?_
              refine z_getR (t := 7) hE dX12_mends_187 lF_X12_31 sM_0 rfl ?_
              refine z_iload hE dX12_mends_190 5 rfl ?_
              obtain ⟨q_39, h⟩ := h
              refine z_lald hE dX12_mends_192 sM_7 q_39 ?_
              refine z_lload hE dX12_mends_193 0 rfl ?_
              refine z_callV hE dX12_mends_195 lV_X12_155 (c_X12_plus _ _ μ_31 _ h) sM_0 rfl (Nat.le_of_ble_eq_true rfl) (by decide) rfl (zk_J (fun r_40 μ_41 h => ?_))
              exact z_sub [1, 2, 3, 4, 5] rfl (hJ_36 _ _ h)
            · refine z_aload_n hE dX12_mends_155 rfl 1 rfl ?_
              refine z_aload_n hE dX12_mends_156 rfl 1 rfl ?_
              refine z_iload_n hE dX12_mends_157 rfl 2 rfl ?_
              refine z_iconst (v := 1) hE dX12_mends_158 zv_i_1 ?_
              refine z_isub hE dX12_mends_159 ?_
              refine z_iload hE dX12_mends_160 5 rfl ?_
              refine z_callV hE dX12_mends_162 lV_X12_140 (c_X12_item _ _ μ_31 _ h) sM_0 rfl (Nat.le_of_ble_eq_true rfl) (by decide) rfl (zk_PJ (fun r_42 h => ?_))
              refine z_aload_n hE dX12_mends_165 rfl 1 rfl ?_
              refine z_getI hE dX12_mends_166 lF_X12_121 sM_0 rfl ?_
              refine z_iload_n hE dX12_mends_169 rfl 2 rfl ?_
              refine z_isub hE dX12_mends_170 ?_
              refine z_iconst (v := 1) hE dX12_mends_171 zv_i_1 ?_
              refine z_iadd hE dX12_mends_172 ?_
              refine z_iconst (v := 2) hE dX12_mends_173 zv_i_2 ?_
              refine z_iload hE dX12_mends_174 5 rfl ?_
              refine z_imul hE dX12_mends_176 ?_
              refine z_isub hE dX12_mends_177 ?_
              refine z_i2l hE dX12_mends_178 ?_
              refine z_callV hE dX12_mends_179 lV_X12_151 (c_X12_times _ _ μ_31 _ h) sM_0 rfl (Nat.le_of_ble_eq_true rfl) (by decide) rfl (zk_J (fun r_44 μ_45 h => ?_))
              refine z_goto (tgt := 198) hE dX12_mends_182 (by decide) ?_
              exact z_sub [1, 2, 3, 4, 5] rfl (hJ_36 _ _ h)
          refine z_icmp_ge (tgt := 131) hE dX12_mends_93 (by decide) h (fun h => ?_) (fun h => ?_)
          · refine z_lconst (v := 0) hE dX12_mends_131 zv_l_0 ?_
            exact hJ_32 _ _ h
          · refine z_iload_n hE dX12_mends_96 rfl 2 rfl ?_
            refine z_iconst (v := 2) hE dX12_mends_97 zv_i_2 ?_
            refine z_irem hE dX12_mends_98 (by decide) ?_
            refine z_iconst (v := 1) hE dX12_mends_99 zv_i_1 ?_
            refine z_icmp_ne (tgt := 119) hE dX12_mends_100 (by decide) h (fun h => ?_) (fun h => ?_)
            · refine z_aload_n hE dX12_mends_119 rfl 0 rfl ?_
              refine z_getR (t := 7) hE dX12_mends_120 lF_X12_31 sM_0 rfl ?_
              refine z_iload hE dX12_mends_123 4 rfl ?_
              refine z_iload_n hE dX12_mends_125 rfl 2 rfl ?_
              refine z_iadd hE dX12_mends_126 ?_
              obtain ⟨q_46, h⟩ := h
              refine z_lald hE dX12_mends_127 sM_7 q_46 ?_
              refine z_goto (tgt := 132) hE dX12_mends_128 (by decide) ?_
              exact hJ_32 _ _ h
            · refine z_aload_n hE dX12_mends_103 rfl 0 rfl ?_
              refine z_aload_n hE dX12_mends_104 rfl 0 rfl ?_
              refine z_getR (t := 7) hE dX12_mends_105 lF_X12_31 sM_0 rfl ?_
              refine z_iload hE dX12_mends_108 4 rfl ?_
              refine z_iload_n hE dX12_mends_110 rfl 2 rfl ?_
              refine z_iadd hE dX12_mends_111 ?_
              obtain ⟨q_47, h⟩ := h
              refine z_lald hE dX12_mends_112 sM_7 q_47 ?_
              refine z_callV hE dX12_mends_113 lV_X12_147 (c_X12_turned _ μ_28 _ h) sM_0 rfl (Nat.le_of_ble_eq_true rfl) (by decide) rfl (zk_J (fun r_48 μ_49 h => ?_))
              refine z_goto (tgt := 132) hE dX12_mends_116 (by decide) ?_
              exact hJ_32 _ _ h
    refine z_sub [1, 2, 3, 4, 0] rfl ?_
    obtain ⟨n43, h⟩ := h
    refine z_loop2 (P := fun (v4_50 : Int32) (μ_51 : ZMem) => zZ E (zzV Φ) 43 [(0, .ref 0), (1, .int a1), (2, .int r_1), (3, .int r_3), (4, .int v4_50)] [] μ_51) (fun k43_51 hk43_51 v4_50 μ_51 h => ?_) n43 _ _ h
    refine z_iload hE dX12_mends_43 4 rfl ?_
    refine z_bipush (v := 6) hE dX12_mends_45 zv_b_6 ?_
    refine z_icmp_ge (tgt := 70) hE dX12_mends_47 (by decide) h (fun h => ?_) (fun h => ?_)
    · exact z_sub [0, 1, 2, 3] rfl (hJ_10 _ h)
    · refine z_aload_n hE dX12_mends_50 rfl 0 rfl ?_
      refine z_getR (t := 7) hE dX12_mends_51 lF_X12_31 sM_0 rfl ?_
      refine z_iload hE dX12_mends_54 4 rfl ?_
      refine z_aload_n hE dX12_mends_56 rfl 0 rfl ?_
      refine z_iload_n hE dX12_mends_57 rfl 1 rfl ?_
      refine z_iload hE dX12_mends_58 4 rfl ?_
      refine z_callV hE dX12_mends_60 lV_X12_140 (c_X12_item _ _ μ_51 _ h) sM_0 rfl (Nat.le_of_ble_eq_true rfl) (by decide) rfl (zk_PJ (fun r_52 h => ?_))
      obtain ⟨q_54, h⟩ := h
      refine z_last hE dX12_mends_63 sM_7 q_54 ?_
      refine zn (G := fun μ_55 => zZ E (zzV Φ) 64 [(0, .ref 0), (1, .int a1), (2, .int r_1), (3, .int r_3), (4, .int v4_50)] [] μ_55) h (fun μ_55 h => ?_)
      refine z_iinc (j := 4) (c := 1) (lv' := [(4, .int (v4_50 + (1 : Int32))), (0, .ref 0), (1, .int a1), (2, .int r_1), (3, .int r_3)]) hE dX12_mends_64 rfl zv_i_1 (by decide) rfl ?_
      refine z_goto (tgt := 43) hE dX12_mends_67 (by decide) ?_
      exact z_sub [1, 2, 3, 4, 0] rfl (hk43_51 _ _ h)
  refine z_join (P := fun (J_56 : Prop) => J_56 → zZ E (zzV Φ) 25 [(0, .ref 0), (1, .int a1), (2, .int r_1), (3, .int r_3)] [.int a1, .ref 8] μ) h (fun  h => ?_) (fun J_56 hJ_56 h => ?_)
  · refine z_iconst (v := 0) hE dX12_mends_25 zv_i_0 ?_
    refine z_goto (tgt := 39) hE dX12_mends_26 (by decide) ?_
    exact hJ_6 _ h
  refine z_if_eq (tgt := 25) hE dX12_mends_18 (by decide) h (fun h => ?_) (fun h => ?_)
  · exact z_sub [2, 3, 1, 0] rfl (hJ_56 h)
  · refine z_iload_n hE dX12_mends_21 rfl 1 rfl ?_
    refine z_if_ne (tgt := 29) hE dX12_mends_22 (by decide) h (fun h => ?_) (fun h => ?_)
    · refine z_iload_n hE dX12_mends_29 rfl 1 rfl ?_
      refine z_iload_n hE dX12_mends_30 rfl 0 rfl ?_
      refine z_icmp_ne (tgt := 38) hE dX12_mends_31 (by decide) h (fun h => ?_) (fun h => ?_)
      · refine z_iconst (v := 1) hE dX12_mends_38 zv_i_1 ?_
        exact z_sub [2, 3, 1, 0] rfl (hJ_6 _ h)
      · refine z_iconst (v := 2) hE dX12_mends_34 zv_i_2 ?_
        refine z_goto (tgt := 39) hE dX12_mends_35 (by decide) ?_
        exact z_sub [2, 3, 1, 0] rfl (hJ_6 _ h)
    · exact z_sub [2, 3, 1, 0] rfl (hJ_56 h)
set_option maxRecDepth 4000 in
theorem c_X12_of (a1 : Int32) (a2 : Int32) (μ : ZMem) (Φ : Int64 → ZMem → Prop) (h : w_X12_of a1 a2 μ Φ) : zM SM yX12_of cX12_of 3 (some FieldType.long) 2 [.ref 0, .int a1, .int a2] μ (zzJ Φ) := by
  refine zM_go (own := RX12) rfl (by decide) (Nat.le_of_ble_eq_true rfl) (fun E hE => ?_)
  show zZ E (zzJ Φ) 0 [(0, .ref 0), (1, .int a1), (2, .int a2)] [] μ
  unfold w_X12_of at h
  refine z_iload_n hE dX12_of_0 rfl 1 rfl ?_
  refine z_i2l hE dX12_of_1 ?_
  refine z_lconst (v := 0) hE dX12_of_2 zv_l_0 ?_
  refine z_ldc2 (v := 2) hE dX12_of_3 lK_X12_95 ?_
  refine z_callS hE dX12_of_6 lS_X12_83 (c_X12_in _ _ _ μ _ h) rfl (Nat.le_of_ble_eq_true rfl) (by decide) rfl (zk_PI (fun r_1 h => ?_))
  refine z_if_eq (tgt := 19) hE dX12_of_9 (by decide) h (fun h => ?_) (fun h => ?_)
  · refine z_ldc2 (v := -9223372036854775808) hE dX12_of_19 lK_X12_67 ?_
    exact z_lret (st := []) hE dX12_of_22 rfl ⟨_, rfl, h⟩
  · refine z_iload_n hE dX12_of_12 rfl 2 rfl ?_
    refine z_callS hE dX12_of_13 lS_X12_87 (c_X12_isPower _ μ _ h) rfl (Nat.le_of_ble_eq_true rfl) (by decide) rfl (zk_PI (fun r_3 h => ?_))
    refine z_if_ne (tgt := 23) hE dX12_of_16 (by decide) h (fun h => ?_) (fun h => ?_)
    · refine z_aload_n hE dX12_of_23 rfl 0 rfl ?_
      refine z_iconst (v := 1) hE dX12_of_24 zv_i_1 ?_
      refine z_aload_n hE dX12_of_25 rfl 0 rfl ?_
      refine z_getR (t := 1) hE dX12_of_26 lF_X12_11 sM_0 rfl ?_
      refine z_bipush (v := 14) hE dX12_of_29 zv_b_14 ?_
      refine z_iald hE dX12_of_31 sM_1 (zin (by decide)) ?_
      refine z_callV hE dX12_of_32 lV_X12_97 (c_X12_takes _ _ μ _ h) sM_0 rfl (Nat.le_of_ble_eq_true rfl) (by decide) rfl (zk_V (fun μ_6 h => ?_))
      refine z_iload_n hE dX12_of_35 rfl 1 rfl ?_
      refine z_iconst (v := 2) hE dX12_of_36 zv_i_2 ?_
      refine z_icmp_ne (tgt := 49) hE dX12_of_37 (by decide) h (fun h => ?_) (fun h => ?_)
      · refine z_aload_n hE dX12_of_49 rfl 0 rfl ?_
        refine z_getR (t := 1) hE dX12_of_50 lF_X12_11 sM_0 rfl ?_
        refine z_bipush (v := 7) hE dX12_of_53 zv_b_7 ?_
        refine z_iload_n hE dX12_of_55 rfl 1 rfl ?_
        refine z_imul hE dX12_of_56 ?_
        refine z_iload_n hE dX12_of_57 rfl 2 rfl ?_
        refine z_iadd hE dX12_of_58 ?_
        obtain ⟨q_7, h⟩ := h
        refine z_iald hE dX12_of_59 sM_1 q_7 ?_
        refine z_i2l hE dX12_of_60 ?_
        exact z_lret (st := []) hE dX12_of_61 rfl ⟨_, rfl, h⟩
      · refine z_aload_n hE dX12_of_40 rfl 0 rfl ?_
        refine z_getR (t := 3) hE dX12_of_41 lF_X12_18 sM_0 rfl ?_
        refine z_iload_n hE dX12_of_44 rfl 2 rfl ?_
        obtain ⟨q_8, h⟩ := h
        refine z_lald hE dX12_of_45 sM_3 q_8 ?_
        refine z_goto (tgt := 61) hE dX12_of_46 (by decide) ?_
        exact z_lret (st := []) hE dX12_of_61 rfl ⟨_, rfl, h⟩
    · refine z_ldc2 (v := -9223372036854775808) hE dX12_of_19 lK_X12_67 ?_
      exact z_lret (st := []) hE dX12_of_22 rfl ⟨_, rfl, h⟩
set_option maxRecDepth 4000 in
theorem c_X12_put (a1 : Int32) (a2 : Int32) (a3 : Int64) (μ : ZMem) (Φ : Int32 → ZMem → Prop) (h : w_X12_put a1 a2 a3 μ Φ) : zM SM yX12_put cX12_put 5 (some FieldType.int) 2 [.ref 0, .int a1, .int a2, .long a3] μ (zzI Φ) := by
  refine zM_go (own := RX12) rfl (by decide) (Nat.le_of_ble_eq_true rfl) (fun E hE => ?_)
  show zZ E (zzI Φ) 0 [(0, .ref 0), (1, .int a1), (2, .int a2), (3, .long a3)] [] μ
  unfold w_X12_put at h
  refine z_iload_n hE dX12_put_0 rfl 1 rfl ?_
  refine z_callS hE dX12_put_1 lS_X12_303 (c_X12_isTray _ μ _ h) rfl (Nat.le_of_ble_eq_true rfl) (by decide) rfl (zk_PI (fun r_1 h => ?_))
  refine z_if_ne (tgt := 9) hE dX12_put_4 (by decide) h (fun h => ?_) (fun h => ?_)
  · refine z_aload_n hE dX12_put_9 rfl 0 rfl ?_
    refine z_getR (t := 15) hE dX12_put_10 lF_X12_55 sM_0 rfl ?_
    refine z_iload_n hE dX12_put_13 rfl 1 rfl ?_
    obtain ⟨q_3, h⟩ := h
    refine z_iald hE dX12_put_14 sM_15 q_3 ?_
    refine z_if_ge (tgt := 21) hE dX12_put_15 (by decide) h (fun h => ?_) (fun h => ?_)
    · refine z_iload_n hE dX12_put_21 rfl 2 rfl ?_
      refine z_i2l hE dX12_put_22 ?_
      refine z_lconst (v := 0) hE dX12_put_23 zv_l_0 ?_
      refine z_aload_n hE dX12_put_24 rfl 0 rfl ?_
      refine z_getR (t := 16) hE dX12_put_25 lF_X12_58 sM_0 rfl ?_
      refine z_iload_n hE dX12_put_28 rfl 1 rfl ?_
      obtain ⟨q_4, h⟩ := h
      refine z_iald hE dX12_put_29 sM_16 q_4 ?_
      refine z_iconst (v := 1) hE dX12_put_30 zv_i_1 ?_
      refine z_isub hE dX12_put_31 ?_
      refine z_i2l hE dX12_put_32 ?_
      refine z_callS hE dX12_put_33 lS_X12_83 (c_X12_in _ _ _ μ _ h) rfl (Nat.le_of_ble_eq_true rfl) (by decide) rfl (zk_PI (fun r_5 h => ?_))
      refine z_if_ne (tgt := 42) hE dX12_put_36 (by decide) h (fun h => ?_) (fun h => ?_)
      · refine z_aload_n hE dX12_put_42 rfl 0 rfl ?_
        refine z_iload_n hE dX12_put_43 rfl 1 rfl ?_
        refine z_iload_n hE dX12_put_44 rfl 2 rfl ?_
        refine z_lload_n hE dX12_put_45 rfl 3 rfl ?_
        refine z_callV hE dX12_put_46 lV_X12_308 (c_X12_lays _ _ _ μ _ h) sM_0 rfl (Nat.le_of_ble_eq_true rfl) (by decide) rfl (zk_V (fun μ_8 h => ?_))
        refine z_iconst (v := 1) hE dX12_put_49 zv_i_1 ?_
        exact z_iret (st := []) hE dX12_put_50 rfl ⟨_, rfl, h⟩
      · refine z_bipush (v := -13) hE dX12_put_39 zv_b_m13 ?_
        exact z_iret (st := []) hE dX12_put_41 rfl ⟨_, rfl, h⟩
    · refine z_bipush (v := -11) hE dX12_put_18 zv_b_m11 ?_
      exact z_iret (st := []) hE dX12_put_20 rfl ⟨_, rfl, h⟩
  · refine z_iconst (v := -1) hE dX12_put_7 zv_i_m1 ?_
    exact z_iret (st := []) hE dX12_put_8 rfl ⟨_, rfl, h⟩
set_option maxRecDepth 4000 in
theorem c_X12_right  (μ : ZMem) (Φ : Int32 → Prop) (h : w_X12_right μ Φ) : zM SM yX12_right cX12_right 1 (some FieldType.int) 2 [.ref 0] μ (zzPI Φ μ) := by
  refine zM_go (own := RX12) rfl (by decide) (Nat.le_of_ble_eq_true rfl) (fun E hE => ?_)
  show zZ E (zzPI Φ μ) 0 [(0, .ref 0)] [] μ
  unfold w_X12_right at h
  refine z_aload_n hE dX12_right_0 rfl 0 rfl ?_
  refine z_iconst (v := 0) hE dX12_right_1 zv_i_0 ?_
  refine z_aload_n hE dX12_right_2 rfl 0 rfl ?_
  refine z_getI hE dX12_right_3 lF_X12_121 sM_0 rfl ?_
  refine z_callV hE dX12_right_6 lV_X12_179 (c_X12_changesIn _ _ μ _ h) sM_0 rfl (Nat.le_of_ble_eq_true rfl) (by decide) rfl (zk_PI (fun r_1 h => ?_))
  exact z_iret (st := []) hE dX12_right_9 rfl ⟨_, rfl, rfl, h⟩
set_option maxRecDepth 4000 in
theorem c_X12_set (a1 : Int32) (a2 : Int32) (a3 : Int32) (μ : ZMem) (Φ : Int64 → ZMem → Prop) (h : w_X12_set a1 a2 a3 μ Φ) : zM SM yX12_set cX12_set 5 (some FieldType.long) 2 [.ref 0, .int a1, .int a2, .int a3] μ (zzJ Φ) := by
  refine zM_go (own := RX12) rfl (by decide) (Nat.le_of_ble_eq_true rfl) (fun E hE => ?_)
  show zZ E (zzJ Φ) 0 [(0, .ref 0), (1, .int a1), (2, .int a2), (3, .int a3)] [] μ
  unfold w_X12_set at h
  refine z_iload_n hE dX12_set_0 rfl 1 rfl ?_
  refine z_i2l hE dX12_set_1 ?_
  refine z_lconst (v := 0) hE dX12_set_2 zv_l_0 ?_
  refine z_lconst (v := 1) hE dX12_set_3 zv_l_1 ?_
  refine z_callS hE dX12_set_4 lS_X12_83 (c_X12_in _ _ _ μ _ h) rfl (Nat.le_of_ble_eq_true rfl) (by decide) rfl (zk_PI (fun r_1 h => ?_))
  refine z_if_eq (tgt := 31) hE dX12_set_7 (by decide) h (fun h => ?_) (fun h => ?_)
  · refine z_ldc2 (v := -9223372036854775808) hE dX12_set_31 lK_X12_67 ?_
    exact z_lret (st := []) hE dX12_set_34 rfl ⟨_, rfl, h⟩
  · refine z_iload_n hE dX12_set_10 rfl 2 rfl ?_
    refine z_callS hE dX12_set_11 lS_X12_87 (c_X12_isPower _ μ _ h) rfl (Nat.le_of_ble_eq_true rfl) (by decide) rfl (zk_PI (fun r_3 h => ?_))
    refine z_if_eq (tgt := 31) hE dX12_set_14 (by decide) h (fun h => ?_) (fun h => ?_)
    · refine z_ldc2 (v := -9223372036854775808) hE dX12_set_31 lK_X12_67 ?_
      exact z_lret (st := []) hE dX12_set_34 rfl ⟨_, rfl, h⟩
    · refine z_iload_n hE dX12_set_17 rfl 3 rfl ?_
      refine z_i2l hE dX12_set_18 ?_
      refine z_ldc2 (v := -99) hE dX12_set_19 lK_X12_91 ?_
      refine z_ldc2 (v := 99) hE dX12_set_22 lK_X12_93 ?_
      refine z_callS hE dX12_set_25 lS_X12_83 (c_X12_in _ _ _ μ _ h) rfl (Nat.le_of_ble_eq_true rfl) (by decide) rfl (zk_PI (fun r_5 h => ?_))
      refine z_if_ne (tgt := 35) hE dX12_set_28 (by decide) h (fun h => ?_) (fun h => ?_)
      · refine z_aload_n hE dX12_set_35 rfl 0 rfl ?_
        refine z_getR (t := 1) hE dX12_set_36 lF_X12_11 sM_0 rfl ?_
        refine z_bipush (v := 7) hE dX12_set_39 zv_b_7 ?_
        refine z_iload_n hE dX12_set_41 rfl 1 rfl ?_
        refine z_imul hE dX12_set_42 ?_
        refine z_iload_n hE dX12_set_43 rfl 2 rfl ?_
        refine z_iadd hE dX12_set_44 ?_
        obtain ⟨q_7, h⟩ := h
        refine z_iald hE dX12_set_45 sM_1 q_7 ?_
        refine z_istore (lv' := [(4, .int (μ.1 1 (Int32.toNatClampNeg (((7 : Int32) * a1) + a2)))), (0, .ref 0), (1, .int a1), (2, .int a2), (3, .int a3)]) hE dX12_set_46 (by decide) rfl ?_
        refine zn (G := fun v4_8 => zZ E (zzJ Φ) 48 [(4, .int v4_8), (0, .ref 0), (1, .int a1), (2, .int a2), (3, .int a3)] [] μ) h (fun v4_8 h => ?_)
        refine z_aload_n hE dX12_set_48 rfl 1 rfl ?_
        refine z_getR (t := 1) hE dX12_set_49 lF_X12_11 sM_0 rfl ?_
        refine z_bipush (v := 7) hE dX12_set_52 zv_b_7 ?_
        refine z_iload_n hE dX12_set_54 rfl 2 rfl ?_
        refine z_imul hE dX12_set_55 ?_
        refine z_iload_n hE dX12_set_56 rfl 3 rfl ?_
        refine z_iadd hE dX12_set_57 ?_
        refine z_iload_n hE dX12_set_58 rfl 4 rfl ?_
        obtain ⟨q_9, h⟩ := h
        refine z_iast hE dX12_set_59 sM_1 q_9 ?_
        refine zn (G := fun μ_10 => zZ E (zzJ Φ) 60 [(4, .int v4_8), (0, .ref 0), (1, .int a1), (2, .int a2), (3, .int a3)] [] μ_10) h (fun μ_10 h => ?_)
        refine z_iload hE dX12_set_60 0 rfl ?_
        refine z_i2l hE dX12_set_62 ?_
        exact z_lret (st := []) hE dX12_set_63 rfl ⟨_, rfl, h⟩
      · refine z_ldc2 (v := -9223372036854775808) hE dX12_set_31 lK_X12_67 ?_
        exact z_lret (st := []) hE dX12_set_34 rfl ⟨_, rfl, h⟩
set_option maxRecDepth 4000 in
theorem c_X12_term (a1 : Int32) (a2 : Int32) (μ : ZMem) (Φ : ZMem → Prop) (h : w_X12_term a1 a2 μ Φ) : zM SM yX12_term cX12_term 7 (none) 2 [.ref 0, .int a1, .int a2] μ (zzV Φ) := by
  refine zM_go (own := RX12) rfl (by decide) (Nat.le_of_ble_eq_true rfl) (fun E hE => ?_)
  show zZ E (zzV Φ) 0 [(0, .ref 0), (1, .int a1), (2, .int a2)] [] μ
  unfold w_X12_term at h
  refine z_aload_n hE dX12_term_0 rfl 0 rfl ?_
  refine z_getI hE dX12_term_1 lF_X12_256 sM_0 rfl ?_
  refine z_istore_n (lv' := [(3, .int (μ.1 0 23)), (0, .ref 0), (1, .int a1), (2, .int a2)]) hE dX12_term_4 rfl (by decide) rfl ?_
  refine zn (G := fun v3_1 => zZ E (zzV Φ) 5 [(3, .int v3_1), (0, .ref 0), (1, .int a1), (2, .int a2)] [] μ) h (fun v3_1 h => ?_)
  refine z_aload_n hE dX12_term_5 rfl 1 rfl ?_
  refine z_callV hE dX12_term_6 lV_X12_266 (c_X12_isDigit  μ _ h) sM_0 rfl (Nat.le_of_ble_eq_true rfl) (by decide) rfl (zk_PI (fun r_2 h => ?_))
  refine z_join (P := fun (J_4 : Prop) => J_4 → zZ E (zzV Φ) 30 [(0, .ref 0), (1, .int a1), (2, .int a2), (3, .int v3_1)] [] μ) h (fun  h => ?_) (fun J_4 hJ_4 h => ?_)
  · refine z_aload_n hE dX12_term_30 rfl 0 rfl ?_
    refine z_callV hE dX12_term_31 lV_X12_266 (c_X12_isDigit  μ _ h) sM_0 rfl (Nat.le_of_ble_eq_true rfl) (by decide) rfl (zk_PI (fun r_5 h => ?_))
    refine z_join (P := fun (J_8 : Int32 → Prop) => ∀ (x_7 : Int32), J_8 x_7 → zZ E (zzV Φ) 42 [(0, .ref 0), (1, .int a1), (2, .int a2), (3, .int v3_1)] [.int x_7] μ) h (fun x_7 h => ?_) (fun J_8 hJ_8 h => ?_)
    · refine z_istore (lv' := [(4, .int x_7), (0, .ref 0), (1, .int a1), (2, .int a2), (3, .int v3_1)]) hE dX12_term_42 (by decide) rfl ?_
      refine z_iconst (v := 0) hE dX12_term_44 zv_i_0 ?_
      refine z_istore (lv' := [(5, .int (0 : Int32)), (4, .int x_7), (0, .ref 0), (1, .int a1), (2, .int a2), (3, .int v3_1)]) hE dX12_term_45 (by decide) rfl ?_
      refine z_join (P := fun (J_11 : Int32 → ZMem → Prop) => ∀ (v4_9 : Int32) (μ_10 : ZMem), J_11 v4_9 μ_10 → zZ E (zzV Φ) 91 [(0, .ref 0), (1, .int a1), (2, .int a2), (3, .int v3_1), (4, .int v4_9)] [] μ_10) h (fun v4_9 μ_10 h => ?_) (fun J_11 hJ_11 h => ?_)
      · refine z_iconst (v := 0) hE dX12_term_91 zv_i_0 ?_
        refine z_istore (lv' := [(5, .int (0 : Int32)), (0, .ref 0), (1, .int a1), (2, .int a2), (3, .int v3_1), (4, .int v4_9)]) hE dX12_term_92 (by decide) rfl ?_
        refine z_aload_n hE dX12_term_94 rfl 1 rfl ?_
        refine z_callV hE dX12_term_95 lV_X12_259 (c_X12_here  μ_10 _ h) sM_0 rfl (Nat.le_of_ble_eq_true rfl) (by decide) rfl (zk_PI (fun r_12 h => ?_))
        refine z_bipush (v := 115) hE dX12_term_98 zv_b_115 ?_
        refine z_join (P := fun (J_16 : Int32 → ZMem → Prop) => ∀ (v5_14 : Int32) (μ_15 : ZMem), J_16 v5_14 μ_15 → zZ E (zzV Φ) 152 [(0, .ref 0), (1, .int a1), (2, .int a2), (3, .int v3_1), (4, .int v4_9), (5, .int v5_14)] [] μ_15) h (fun v5_14 μ_15 h => ?_) (fun J_16 hJ_16 h => ?_)
        · refine z_bipush (v := 7) hE dX12_term_152 zv_b_7 ?_
          refine z_iload_n hE dX12_term_154 rfl 1 rfl ?_
          refine z_imul hE dX12_term_155 ?_
          refine z_iload hE dX12_term_156 5 rfl ?_
          refine z_iadd hE dX12_term_158 ?_
          refine z_istore (lv' := [(6, .int (((7 : Int32) * a1) + v5_14)), (0, .ref 0), (1, .int a1), (2, .int a2), (3, .int v3_1), (4, .int v4_9), (5, .int v5_14)]) hE dX12_term_159 (by decide) rfl ?_
          refine zn (G := fun v6_17 => zZ E (zzV Φ) 161 [(6, .int v6_17), (0, .ref 0), (1, .int a1), (2, .int a2), (3, .int v3_1), (4, .int v4_9), (5, .int v5_14)] [] μ_15) h (fun v6_17 h => ?_)
          refine z_aload_n hE dX12_term_161 rfl 1 rfl ?_
          refine z_getR (t := 14) hE dX12_term_162 lF_X12_52 sM_0 rfl ?_
          refine z_iload hE dX12_term_165 0 rfl ?_
          refine z_dup2 hE dX12_term_167 rfl rfl ?_
          obtain ⟨q_18, h⟩ := h
          refine z_iald hE dX12_term_168 sM_14 q_18 ?_
          refine z_iload_n hE dX12_term_169 rfl 3 rfl ?_
          refine z_join (P := fun (J_20 : Int32 → Prop) => ∀ (x_19 : Int32), J_20 x_19 → zZ E (zzV Φ) 181 [(0, .ref 0), (3, .int v3_1), (6, .int v6_17)] [.int x_19, .int (μ_15.1 14 (Int32.toNatClampNeg v6_17)), .int v6_17, .ref 14] μ_15) h (fun x_19 h => ?_) (fun J_20 hJ_20 h => ?_)
          · refine z_iadd hE dX12_term_181 ?_
            obtain ⟨q_21, h⟩ := h
            refine z_iast hE dX12_term_182 sM_14 q_21 ?_
            refine zn (G := fun μ_22 => zZ E (zzV Φ) 183 [(0, .ref 0), (3, .int v3_1), (6, .int v6_17)] [] μ_22) h (fun μ_22 h => ?_)
            refine z_aload_n hE dX12_term_183 rfl 0 rfl ?_
            refine z_dup hE dX12_term_184 rfl ?_
            refine z_getI hE dX12_term_185 lF_X12_276 sM_0 rfl ?_
            refine z_iconst (v := 1) hE dX12_term_188 zv_i_1 ?_
            refine z_iadd hE dX12_term_189 ?_
            refine z_put hE dX12_term_190 lF_X12_276 sM_0 rfl rfl rfl ?_
            refine zn (G := fun μ_23 => zZ E (zzV Φ) 193 [(0, .ref 0), (3, .int v3_1), (6, .int v6_17)] [] μ_23) h (fun μ_23 h => ?_)
            refine z_aload_n hE dX12_term_193 rfl 0 rfl ?_
            refine z_aload_n hE dX12_term_194 rfl 0 rfl ?_
            refine z_getR (t := 14) hE dX12_term_195 lF_X12_52 sM_0 rfl ?_
            refine z_iload hE dX12_term_198 2 rfl ?_
            obtain ⟨q_24, h⟩ := h
            refine z_iald hE dX12_term_200 sM_14 q_24 ?_
            refine z_i2l hE dX12_term_201 ?_
            refine z_ldc2 (v := -99) hE dX12_term_202 lK_X12_91 ?_
            refine z_ldc2 (v := 99) hE dX12_term_205 lK_X12_93 ?_
            refine z_callS hE dX12_term_208 lS_X12_83 (c_X12_in _ _ _ μ_23 _ h) rfl (Nat.le_of_ble_eq_true rfl) (by decide) rfl (zk_PI (fun r_25 h => ?_))
            refine z_join (P := fun (J_28 : Int32 → Prop) => ∀ (x_27 : Int32), J_28 x_27 → zZ E (zzV Φ) 222 [] [.int x_27, .ref 0] μ_23) h (fun x_27 h => ?_) (fun J_28 hJ_28 h => ?_)
            · refine z_put hE dX12_term_222 lF_X12_269 sM_0 rfl rfl rfl ?_
              refine zn (G := fun μ_29 => zZ E (zzV Φ) 225 [] [] μ_29) h (fun μ_29 h => ?_)
              exact z_vret (st := []) hE dX12_term_225 rfl ⟨rfl, h⟩
            refine z_if_eq (tgt := 221) hE dX12_term_211 (by decide) h (fun h => ?_) (fun h => ?_)
            · refine z_iload_n hE dX12_term_221 rfl 1 rfl ?_
              exact z_sub [] rfl (hJ_28 _ h)
            · refine z_aload_n hE dX12_term_214 rfl 0 rfl ?_
              refine z_getI hE dX12_term_215 lF_X12_269 sM_0 rfl ?_
              refine z_goto (tgt := 222) hE dX12_term_218 (by decide) ?_
              exact z_sub [] rfl (hJ_28 _ h)
          refine z_if_eq (tgt := 179) hE dX12_term_170 (by decide) h (fun h => ?_) (fun h => ?_)
          · refine z_iload hE dX12_term_179 5 rfl ?_
            exact z_sub [1, 4, 0] rfl (hJ_20 _ h)
          · refine z_iload hE dX12_term_173 5 rfl ?_
            refine z_ineg hE dX12_term_175 ?_
            refine z_goto (tgt := 181) hE dX12_term_176 (by decide) ?_
            exact z_sub [1, 4, 0] rfl (hJ_20 _ h)
        refine z_icmp_ne (tgt := 152) hE dX12_term_100 (by decide) h (fun h => ?_) (fun h => ?_)
        · exact z_sub [1, 2, 3, 4, 5, 0] rfl (hJ_16 _ _ h)
        · refine z_aload_n hE dX12_term_103 rfl 1 rfl ?_
          refine z_dup hE dX12_term_104 rfl ?_
          refine z_getI hE dX12_term_105 lF_X12_256 sM_0 rfl ?_
          refine z_iconst (v := 1) hE dX12_term_108 zv_i_1 ?_
          refine z_iadd hE dX12_term_109 ?_
          refine z_put hE dX12_term_110 lF_X12_256 sM_0 rfl rfl rfl ?_
          refine zn (G := fun μ_30 => zZ E (zzV Φ) 113 [(5, .int (0 : Int32)), (0, .ref 0), (1, .int a1), (2, .int a2), (3, .int v3_1), (4, .int v4_9)] [] μ_30) h (fun μ_30 h => ?_)
          refine z_iconst (v := 1) hE dX12_term_113 zv_i_1 ?_
          refine z_istore (lv' := [(5, .int (1 : Int32)), (0, .ref 0), (1, .int a1), (2, .int a2), (3, .int v3_1), (4, .int v4_9)]) hE dX12_term_114 (by decide) rfl ?_
          refine z_aload_n hE dX12_term_116 rfl 1 rfl ?_
          refine z_callV hE dX12_term_117 lV_X12_259 (c_X12_here  μ_30 _ h) sM_0 rfl (Nat.le_of_ble_eq_true rfl) (by decide) rfl (zk_PI (fun r_31 h => ?_))
          refine z_i2l hE dX12_term_120 ?_
          refine z_ldc2 (v := 49) hE dX12_term_121 lK_X12_272 ?_
          refine z_ldc2 (v := 54) hE dX12_term_124 lK_X12_274 ?_
          refine z_callS hE dX12_term_127 lS_X12_83 (c_X12_in _ _ _ μ_30 _ h) rfl (Nat.le_of_ble_eq_true rfl) (by decide) rfl (zk_PI (fun r_33 h => ?_))
          refine z_if_eq (tgt := 152) hE dX12_term_130 (by decide) h (fun h => ?_) (fun h => ?_)
          · exact z_sub [1, 2, 3, 4, 5, 0] rfl (hJ_16 _ _ h)
          · refine z_aload_n hE dX12_term_133 rfl 1 rfl ?_
            refine z_callV hE dX12_term_134 lV_X12_259 (c_X12_here  μ_30 _ h) sM_0 rfl (Nat.le_of_ble_eq_true rfl) (by decide) rfl (zk_PI (fun r_35 h => ?_))
            refine z_bipush (v := 48) hE dX12_term_137 zv_b_48 ?_
            refine z_isub hE dX12_term_139 ?_
            refine z_istore (lv' := [(5, .int (r_35 - (48 : Int32))), (0, .ref 0), (1, .int a1), (2, .int a2), (3, .int v3_1), (4, .int v4_9)]) hE dX12_term_140 (by decide) rfl ?_
            refine zn (G := fun v5_37 => zZ E (zzV Φ) 142 [(5, .int v5_37), (0, .ref 0), (1, .int a1), (2, .int a2), (3, .int v3_1), (4, .int v4_9)] [] μ_30) h (fun v5_37 h => ?_)
            refine z_aload_n hE dX12_term_142 rfl 1 rfl ?_
            refine z_dup hE dX12_term_143 rfl ?_
            refine z_getI hE dX12_term_144 lF_X12_256 sM_0 rfl ?_
            refine z_iconst (v := 1) hE dX12_term_147 zv_i_1 ?_
            refine z_iadd hE dX12_term_148 ?_
            refine z_put hE dX12_term_149 lF_X12_256 sM_0 rfl rfl rfl ?_
            refine zn (G := fun μ_38 => zZ E (zzV Φ) 152 [(5, .int v5_37), (0, .ref 0), (1, .int a1), (2, .int a2), (3, .int v3_1), (4, .int v4_9)] [] μ_38) h (fun μ_38 h => ?_)
            exact z_sub [1, 2, 3, 4, 5, 0] rfl (hJ_16 _ _ h)
      refine z_sub [2, 3, 4, 5, 1, 0] rfl ?_
      obtain ⟨n47, h⟩ := h
      refine z_loop3 (P := fun (v4_39 : Int32) (v5_40 : Int32) (μ_41 : ZMem) => zZ E (zzV Φ) 47 [(0, .ref 0), (1, .int a1), (2, .int a2), (3, .int v3_1), (4, .int v4_39), (5, .int v5_40)] [] μ_41) (fun k47_41 hk47_41 v4_39 v5_40 μ_41 h => ?_) n47 _ _ _ h
      refine z_iload hE dX12_term_47 5 rfl ?_
      refine z_iconst (v := 2) hE dX12_term_49 zv_i_2 ?_
      refine z_icmp_ge (tgt := 91) hE dX12_term_50 (by decide) h (fun h => ?_) (fun h => ?_)
      · exact z_sub [0, 1, 2, 3, 4] rfl (hJ_11 _ _ h)
      · refine z_aload_n hE dX12_term_53 rfl 0 rfl ?_
        refine z_callV hE dX12_term_54 lV_X12_266 (c_X12_isDigit  μ_41 _ h) sM_0 rfl (Nat.le_of_ble_eq_true rfl) (by decide) rfl (zk_PI (fun r_42 h => ?_))
        refine z_if_eq (tgt := 91) hE dX12_term_57 (by decide) h (fun h => ?_) (fun h => ?_)
        · exact z_sub [0, 1, 2, 3, 4] rfl (hJ_11 _ _ h)
        · refine z_bipush (v := 10) hE dX12_term_60 zv_b_10 ?_
          refine z_iload hE dX12_term_62 4 rfl ?_
          refine z_imul hE dX12_term_64 ?_
          refine z_aload_n hE dX12_term_65 rfl 0 rfl ?_
          refine z_callV hE dX12_term_66 lV_X12_259 (c_X12_here  μ_41 _ h) sM_0 rfl (Nat.le_of_ble_eq_true rfl) (by decide) rfl (zk_PI (fun r_44 h => ?_))
          refine z_iadd hE dX12_term_69 ?_
          refine z_bipush (v := 48) hE dX12_term_70 zv_b_48 ?_
          refine z_isub hE dX12_term_72 ?_
          refine z_istore (lv' := [(4, .int ((((10 : Int32) * v4_39) + r_44) - (48 : Int32))), (0, .ref 0), (1, .int a1), (2, .int a2), (3, .int v3_1), (5, .int v5_40)]) hE dX12_term_73 (by decide) rfl ?_
          refine zn (G := fun v4_46 => zZ E (zzV Φ) 75 [(4, .int v4_46), (0, .ref 0), (1, .int a1), (2, .int a2), (3, .int v3_1), (5, .int v5_40)] [] μ_41) h (fun v4_46 h => ?_)
          refine z_aload_n hE dX12_term_75 rfl 1 rfl ?_
          refine z_dup hE dX12_term_76 rfl ?_
          refine z_getI hE dX12_term_77 lF_X12_256 sM_0 rfl ?_
          refine z_iconst (v := 1) hE dX12_term_80 zv_i_1 ?_
          refine z_iadd hE dX12_term_81 ?_
          refine z_put hE dX12_term_82 lF_X12_256 sM_0 rfl rfl rfl ?_
          refine zn (G := fun μ_47 => zZ E (zzV Φ) 85 [(4, .int v4_46), (0, .ref 0), (1, .int a1), (2, .int a2), (3, .int v3_1), (5, .int v5_40)] [] μ_47) h (fun μ_47 h => ?_)
          refine z_iinc (j := 5) (c := 1) (lv' := [(5, .int (v5_40 + (1 : Int32))), (4, .int v4_46), (0, .ref 0), (1, .int a1), (2, .int a2), (3, .int v3_1)]) hE dX12_term_85 rfl zv_i_1 (by decide) rfl ?_
          refine z_goto (tgt := 47) hE dX12_term_88 (by decide) ?_
          exact z_sub [2, 3, 4, 5, 1, 0] rfl (hk47_41 _ _ _ h)
    refine z_if_eq (tgt := 41) hE dX12_term_34 (by decide) h (fun h => ?_) (fun h => ?_)
    · refine z_iconst (v := 1) hE dX12_term_41 zv_i_1 ?_
      exact hJ_8 _ h
    · refine z_iconst (v := 0) hE dX12_term_37 zv_i_0 ?_
      refine z_goto (tgt := 42) hE dX12_term_38 (by decide) ?_
      exact hJ_8 _ h
  refine z_if_ne (tgt := 30) hE dX12_term_9 (by decide) h (fun h => ?_) (fun h => ?_)
  · exact z_sub [1, 2, 3, 0] rfl (hJ_4 h)
  · refine z_aload_n hE dX12_term_12 rfl 1 rfl ?_
    refine z_callV hE dX12_term_13 lV_X12_259 (c_X12_here  μ _ h) sM_0 rfl (Nat.le_of_ble_eq_true rfl) (by decide) rfl (zk_PI (fun r_48 h => ?_))
    refine z_bipush (v := 115) hE dX12_term_16 zv_b_115 ?_
    refine z_icmp_eq (tgt := 30) hE dX12_term_18 (by decide) h (fun h => ?_) (fun h => ?_)
    · exact z_sub [1, 2, 3, 0] rfl (hJ_4 h)
    · refine z_aload_n hE dX12_term_21 rfl 1 rfl ?_
      refine z_aload_n hE dX12_term_22 rfl 1 rfl ?_
      refine z_getI hE dX12_term_23 lF_X12_256 sM_0 rfl ?_
      refine z_put hE dX12_term_26 lF_X12_269 sM_0 rfl rfl rfl ?_
      refine zn (G := fun μ_50 => zZ E (zzV Φ) 29 [(3, .int v3_1), (0, .ref 0), (1, .int a1), (2, .int a2)] [] μ_50) h (fun μ_50 h => ?_)
      exact z_vret (st := []) hE dX12_term_29 rfl ⟨rfl, h⟩
set_option maxRecDepth 4000 in
theorem c_X12_tray (a1 : Int32) (a2 : Int32) (a3 : Int32) (μ : ZMem) (Φ : Int32 → ZMem → Prop) (h : w_X12_tray a1 a2 a3 μ Φ) : zM SM yX12_tray cX12_tray 5 (some FieldType.int) 2 [.ref 0, .int a1, .int a2, .int a3] μ (zzI Φ) := by
  refine zM_go (own := RX12) rfl (by decide) (Nat.le_of_ble_eq_true rfl) (fun E hE => ?_)
  show zZ E (zzI Φ) 0 [(0, .ref 0), (1, .int a1), (2, .int a2), (3, .int a3)] [] μ
  unfold w_X12_tray at h
  refine z_iload_n hE dX12_tray_0 rfl 1 rfl ?_
  refine z_callS hE dX12_tray_1 lS_X12_303 (c_X12_isTray _ μ _ h) rfl (Nat.le_of_ble_eq_true rfl) (by decide) rfl (zk_PI (fun r_1 h => ?_))
  refine z_if_ne (tgt := 9) hE dX12_tray_4 (by decide) h (fun h => ?_) (fun h => ?_)
  · refine z_iload_n hE dX12_tray_9 rfl 2 rfl ?_
    refine z_i2l hE dX12_tray_10 ?_
    refine z_ldc2 (v := -1) hE dX12_tray_11 lK_X12_306 ?_
    refine z_lconst (v := 1) hE dX12_tray_14 zv_l_1 ?_
    refine z_callS hE dX12_tray_15 lS_X12_83 (c_X12_in _ _ _ μ _ h) rfl (Nat.le_of_ble_eq_true rfl) (by decide) rfl (zk_PI (fun r_3 h => ?_))
    refine z_if_eq (tgt := 31) hE dX12_tray_18 (by decide) h (fun h => ?_) (fun h => ?_)
    · refine z_bipush (v := -2) hE dX12_tray_31 zv_b_m2 ?_
      exact z_iret (st := []) hE dX12_tray_33 rfl ⟨_, rfl, h⟩
    · refine z_iload_n hE dX12_tray_21 rfl 2 rfl ?_
      refine z_join (P := fun (J_5 : Prop) => J_5 → zZ E (zzI Φ) 34 [(0, .ref 0), (1, .int a1), (2, .int a2), (3, .int a3)] [] μ) h (fun  h => ?_) (fun J_5 hJ_5 h => ?_)
      · refine z_iload_n hE dX12_tray_34 rfl 2 rfl ?_
        refine z_join (P := fun (J_6 : Prop) => J_6 → zZ E (zzI Φ) 45 [(0, .ref 0), (1, .int a1), (2, .int a2), (3, .int a3)] [] μ) h (fun  h => ?_) (fun J_6 hJ_6 h => ?_)
        · refine z_aload_n hE dX12_tray_45 rfl 0 rfl ?_
          refine z_getR (t := 15) hE dX12_tray_46 lF_X12_55 sM_0 rfl ?_
          refine z_iload_n hE dX12_tray_49 rfl 1 rfl ?_
          refine z_iload_n hE dX12_tray_50 rfl 2 rfl ?_
          obtain ⟨q_7, h⟩ := h
          refine z_iast hE dX12_tray_51 sM_15 q_7 ?_
          refine zn (G := fun μ_8 => zZ E (zzI Φ) 52 [(0, .ref 0), (1, .int a1), (2, .int a2), (3, .int a3)] [] μ_8) h (fun μ_8 h => ?_)
          refine z_aload_n hE dX12_tray_52 rfl 0 rfl ?_
          refine z_getR (t := 16) hE dX12_tray_53 lF_X12_58 sM_0 rfl ?_
          refine z_iload_n hE dX12_tray_56 rfl 1 rfl ?_
          refine z_iload_n hE dX12_tray_57 rfl 2 rfl ?_
          refine z_join (P := fun (J_10 : Int32 → Prop) => ∀ (x_9 : Int32), J_10 x_9 → zZ E (zzI Φ) 66 [(0, .ref 0), (1, .int a1)] [.int x_9, .int a1, .ref 16] μ_8) h (fun x_9 h => ?_) (fun J_10 hJ_10 h => ?_)
          · obtain ⟨q_11, h⟩ := h
            refine z_iast hE dX12_tray_66 sM_16 q_11 ?_
            refine zn (G := fun μ_12 => zZ E (zzI Φ) 67 [(0, .ref 0), (1, .int a1)] [] μ_12) h (fun μ_12 h => ?_)
            refine z_iconst (v := 0) hE dX12_tray_67 zv_i_0 ?_
            refine z_istore (lv' := [(4, .int (0 : Int32)), (0, .ref 0), (1, .int a1)]) hE dX12_tray_68 (by decide) rfl ?_
            refine z_sub [1, 2, 0] rfl ?_
            obtain ⟨n70, h⟩ := h
            refine z_loop2 (P := fun (v4_13 : Int32) (μ_14 : ZMem) => zZ E (zzI Φ) 70 [(0, .ref 0), (1, .int a1), (4, .int v4_13)] [] μ_14) (fun k70_14 hk70_14 v4_13 μ_14 h => ?_) n70 _ _ h
            refine z_iload hE dX12_tray_70 2 rfl ?_
            refine z_bipush (v := 30) hE dX12_tray_72 zv_b_30 ?_
            refine z_icmp_ge (tgt := 96) hE dX12_tray_74 (by decide) h (fun h => ?_) (fun h => ?_)
            · refine z_iconst (v := 1) hE dX12_tray_96 zv_i_1 ?_
              exact z_iret (st := []) hE dX12_tray_97 rfl ⟨_, rfl, h⟩
            · refine z_aload_n hE dX12_tray_77 rfl 0 rfl ?_
              refine z_getR (t := 17) hE dX12_tray_78 lF_X12_61 sM_0 rfl ?_
              refine z_bipush (v := 30) hE dX12_tray_81 zv_b_30 ?_
              refine z_iload_n hE dX12_tray_83 rfl 1 rfl ?_
              refine z_imul hE dX12_tray_84 ?_
              refine z_iload hE dX12_tray_85 2 rfl ?_
              refine z_iadd hE dX12_tray_87 ?_
              refine z_lconst (v := 0) hE dX12_tray_88 zv_l_0 ?_
              obtain ⟨q_15, h⟩ := h
              refine z_last hE dX12_tray_89 sM_17 q_15 ?_
              refine zn (G := fun μ_16 => zZ E (zzI Φ) 90 [(0, .ref 0), (1, .int a1), (4, .int v4_13)] [] μ_16) h (fun μ_16 h => ?_)
              refine z_iinc (j := 2) (c := 1) (lv' := [(4, .int (v4_13 + (1 : Int32))), (0, .ref 0), (1, .int a1)]) hE dX12_tray_90 rfl zv_i_1 (by decide) rfl ?_
              refine z_goto (tgt := 70) hE dX12_tray_93 (by decide) ?_
              exact z_sub [1, 2, 0] rfl (hk70_14 _ _ h)
          refine z_if_ge (tgt := 65) hE dX12_tray_58 (by decide) h (fun h => ?_) (fun h => ?_)
          · refine z_iload_n hE dX12_tray_65 rfl 3 rfl ?_
            exact z_sub [0, 1] rfl (hJ_10 _ h)
          · refine z_iconst (v := 0) hE dX12_tray_61 zv_i_0 ?_
            refine z_goto (tgt := 66) hE dX12_tray_62 (by decide) ?_
            exact z_sub [0, 1] rfl (hJ_10 _ h)
        refine z_if_lt (tgt := 45) hE dX12_tray_35 (by decide) h (fun h => ?_) (fun h => ?_)
        · exact hJ_6 h
        · refine z_iload_n hE dX12_tray_38 rfl 3 rfl ?_
          refine z_if_ge (tgt := 45) hE dX12_tray_39 (by decide) h (fun h => ?_) (fun h => ?_)
          · exact hJ_6 h
          · refine z_bipush (v := -14) hE dX12_tray_42 zv_b_m14 ?_
            exact z_iret (st := []) hE dX12_tray_44 rfl ⟨_, rfl, h⟩
      refine z_if_lt (tgt := 34) hE dX12_tray_22 (by decide) h (fun h => ?_) (fun h => ?_)
      · exact hJ_5 h
      · refine z_iload_n hE dX12_tray_25 rfl 3 rfl ?_
        refine z_bipush (v := 30) hE dX12_tray_26 zv_b_30 ?_
        refine z_icmp_le (tgt := 34) hE dX12_tray_28 (by decide) h (fun h => ?_) (fun h => ?_)
        · exact hJ_5 h
        · refine z_bipush (v := -2) hE dX12_tray_31 zv_b_m2 ?_
          exact z_iret (st := []) hE dX12_tray_33 rfl ⟨_, rfl, h⟩
  · refine z_iconst (v := -1) hE dX12_tray_7 zv_i_m1 ?_
    exact z_iret (st := []) hE dX12_tray_8 rfl ⟨_, rfl, h⟩
set_option maxRecDepth 4000 in
theorem c_X12_unfactor (a1 : Int32) (μ : ZMem) (Φ : Int32 → ZMem → Prop) (h : w_X12_unfactor a1 μ Φ) : zM SM yX12_unfactor cX12_unfactor 3 (some FieldType.int) 2 [.ref 0, .int a1] μ (zzI Φ) := by
  refine zM_go (own := RX12) rfl (by decide) (Nat.le_of_ble_eq_true rfl) (fun E hE => ?_)
  show zZ E (zzI Φ) 0 [(0, .ref 0), (1, .int a1)] [] μ
  unfold w_X12_unfactor at h
  refine z_aload_n hE dX12_unfactor_0 rfl 0 rfl ?_
  refine z_iload_n hE dX12_unfactor_1 rfl 1 rfl ?_
  refine z_callV hE dX12_unfactor_2 lV_X12_319 (c_X12_isFactor _ μ _ h) sM_0 rfl (Nat.le_of_ble_eq_true rfl) (by decide) rfl (zk_PI (fun r_1 h => ?_))
  refine z_if_ne (tgt := 10) hE dX12_unfactor_5 (by decide) h (fun h => ?_) (fun h => ?_)
  · refine z_aload_n hE dX12_unfactor_10 rfl 0 rfl ?_
    refine z_getR (t := 1) hE dX12_unfactor_11 lF_X12_11 sM_0 rfl ?_
    refine z_bipush (v := 32) hE dX12_unfactor_14 zv_b_32 ?_
    refine z_dup2 hE dX12_unfactor_16 rfl rfl ?_
    refine z_iald hE dX12_unfactor_17 sM_1 (zin (by decide)) ?_
    refine z_iconst (v := 1) hE dX12_unfactor_18 zv_i_1 ?_
    refine z_isub hE dX12_unfactor_19 ?_
    refine z_iast hE dX12_unfactor_20 sM_1 (zin (by decide)) ?_
    refine zn (G := fun μ_3 => zZ E (zzI Φ) 21 [(0, .ref 0), (1, .int a1)] [] μ_3) h (fun μ_3 h => ?_)
    refine z_iload_n hE dX12_unfactor_21 rfl 1 rfl ?_
    refine z_istore_n (lv' := [(2, .int a1), (0, .ref 0), (1, .int a1)]) hE dX12_unfactor_22 rfl (by decide) rfl ?_
    refine z_sub [1, 0] rfl ?_
    obtain ⟨n23, h⟩ := h
    refine z_loop2 (P := fun (v2_4 : Int32) (μ_5 : ZMem) => zZ E (zzI Φ) 23 [(0, .ref 0), (2, .int v2_4)] [] μ_5) (fun k23_5 hk23_5 v2_4 μ_5 h => ?_) n23 _ _ h
    refine z_iload_n hE dX12_unfactor_23 rfl 1 rfl ?_
    refine z_aload_n hE dX12_unfactor_24 rfl 0 rfl ?_
    refine z_getR (t := 1) hE dX12_unfactor_25 lF_X12_11 sM_0 rfl ?_
    refine z_bipush (v := 32) hE dX12_unfactor_28 zv_b_32 ?_
    refine z_iald hE dX12_unfactor_30 sM_1 (zin (by decide)) ?_
    refine z_icmp_ge (tgt := 100) hE dX12_unfactor_31 (by decide) h (fun h => ?_) (fun h => ?_)
    · refine z_aload_n hE dX12_unfactor_100 rfl 0 rfl ?_
      refine z_getR (t := 1) hE dX12_unfactor_101 lF_X12_11 sM_0 rfl ?_
      refine z_bipush (v := 32) hE dX12_unfactor_104 zv_b_32 ?_
      refine z_iald hE dX12_unfactor_106 sM_1 (zin (by decide)) ?_
      exact z_iret (st := []) hE dX12_unfactor_107 rfl ⟨_, rfl, h⟩
    · refine z_aload_n hE dX12_unfactor_34 rfl 0 rfl ?_
      refine z_getR (t := 1) hE dX12_unfactor_35 lF_X12_11 sM_0 rfl ?_
      refine z_bipush (v := 33) hE dX12_unfactor_38 zv_b_33 ?_
      refine z_iload_n hE dX12_unfactor_40 rfl 1 rfl ?_
      refine z_iadd hE dX12_unfactor_41 ?_
      refine z_aload_n hE dX12_unfactor_42 rfl 0 rfl ?_
      refine z_getR (t := 1) hE dX12_unfactor_43 lF_X12_11 sM_0 rfl ?_
      refine z_bipush (v := 33) hE dX12_unfactor_46 zv_b_33 ?_
      refine z_iload_n hE dX12_unfactor_48 rfl 1 rfl ?_
      refine z_iadd hE dX12_unfactor_49 ?_
      refine z_iconst (v := 1) hE dX12_unfactor_50 zv_i_1 ?_
      refine z_iadd hE dX12_unfactor_51 ?_
      obtain ⟨q_6, h⟩ := h
      refine z_iald hE dX12_unfactor_52 sM_1 q_6 ?_
      obtain ⟨q_7, h⟩ := h
      refine z_iast hE dX12_unfactor_53 sM_1 q_7 ?_
      refine zn (G := fun μ_8 => zZ E (zzI Φ) 54 [(0, .ref 0), (2, .int v2_4)] [] μ_8) h (fun μ_8 h => ?_)
      refine z_aload_n hE dX12_unfactor_54 rfl 0 rfl ?_
      refine z_getR (t := 1) hE dX12_unfactor_55 lF_X12_11 sM_0 rfl ?_
      refine z_bipush (v := 39) hE dX12_unfactor_58 zv_b_39 ?_
      refine z_iload_n hE dX12_unfactor_60 rfl 1 rfl ?_
      refine z_iadd hE dX12_unfactor_61 ?_
      refine z_aload_n hE dX12_unfactor_62 rfl 0 rfl ?_
      refine z_getR (t := 1) hE dX12_unfactor_63 lF_X12_11 sM_0 rfl ?_
      refine z_bipush (v := 39) hE dX12_unfactor_66 zv_b_39 ?_
      refine z_iload_n hE dX12_unfactor_68 rfl 1 rfl ?_
      refine z_iadd hE dX12_unfactor_69 ?_
      refine z_iconst (v := 1) hE dX12_unfactor_70 zv_i_1 ?_
      refine z_iadd hE dX12_unfactor_71 ?_
      obtain ⟨q_9, h⟩ := h
      refine z_iald hE dX12_unfactor_72 sM_1 q_9 ?_
      obtain ⟨q_10, h⟩ := h
      refine z_iast hE dX12_unfactor_73 sM_1 q_10 ?_
      refine zn (G := fun μ_11 => zZ E (zzI Φ) 74 [(0, .ref 0), (2, .int v2_4)] [] μ_11) h (fun μ_11 h => ?_)
      refine z_aload_n hE dX12_unfactor_74 rfl 0 rfl ?_
      refine z_getR (t := 1) hE dX12_unfactor_75 lF_X12_11 sM_0 rfl ?_
      refine z_bipush (v := 45) hE dX12_unfactor_78 zv_b_45 ?_
      refine z_iload_n hE dX12_unfactor_80 rfl 1 rfl ?_
      refine z_iadd hE dX12_unfactor_81 ?_
      refine z_aload_n hE dX12_unfactor_82 rfl 0 rfl ?_
      refine z_getR (t := 1) hE dX12_unfactor_83 lF_X12_11 sM_0 rfl ?_
      refine z_bipush (v := 45) hE dX12_unfactor_86 zv_b_45 ?_
      refine z_iload_n hE dX12_unfactor_88 rfl 1 rfl ?_
      refine z_iadd hE dX12_unfactor_89 ?_
      refine z_iconst (v := 1) hE dX12_unfactor_90 zv_i_1 ?_
      refine z_iadd hE dX12_unfactor_91 ?_
      obtain ⟨q_12, h⟩ := h
      refine z_iald hE dX12_unfactor_92 sM_1 q_12 ?_
      obtain ⟨q_13, h⟩ := h
      refine z_iast hE dX12_unfactor_93 sM_1 q_13 ?_
      refine zn (G := fun μ_14 => zZ E (zzI Φ) 94 [(0, .ref 0), (2, .int v2_4)] [] μ_14) h (fun μ_14 h => ?_)
      refine z_iinc (j := 1) (c := 1) (lv' := [(2, .int (v2_4 + (1 : Int32))), (0, .ref 0)]) hE dX12_unfactor_94 rfl zv_i_1 (by decide) rfl ?_
      refine z_goto (tgt := 23) hE dX12_unfactor_97 (by decide) ?_
      exact z_sub [1, 0] rfl (hk23_5 _ _ h)
  · refine z_iconst (v := -1) hE dX12_unfactor_8 zv_i_m1 ?_
    exact z_iret (st := []) hE dX12_unfactor_9 rfl ⟨_, rfl, h⟩
set_option maxRecDepth 4000 in
theorem c_X2_leftCount (t : Nat) (h0 : zT_Factor t) (μ : ZMem) (Φ : Int32 → Prop) (h : w_X2_leftCount t μ Φ) : zM SX yX2_leftCount cX2_leftCount 1 (some FieldType.int) 2 [.ref t] μ (zzPI Φ μ) := by
  refine zM_go (own := RX2) rfl (by decide) (Nat.le_of_ble_eq_true rfl) (fun E hE => ?_)
  show zZ E (zzPI Φ μ) 0 [(0, .ref t)] [] μ
  unfold w_X2_leftCount at h
  refine z_aload_n hE dX2_leftCount_0 rfl 0 rfl ?_
  refine z_callV hE dX2_leftCount_1 lV_X2_21 (c_X2_size _ h0 μ _ h) h0 rfl (Nat.le_of_ble_eq_true rfl) (by decide) rfl (zk_PI (fun r_1 h => ?_))
  refine z_aload_n hE dX2_leftCount_4 rfl 0 rfl ?_
  refine z_callV hE dX2_leftCount_5 lV_X2_25 (c_X2_rightCount _ h0 μ _ h) h0 rfl (Nat.le_of_ble_eq_true rfl) (by decide) rfl (zk_PI (fun r_3 h => ?_))
  refine z_isub hE dX2_leftCount_8 ?_
  refine z_aload_n hE dX2_leftCount_9 rfl 0 rfl ?_
  refine z_callV hE dX2_leftCount_10 lV_X2_28 (c_X2_axisCount _ h0 μ _ h) h0 rfl (Nat.le_of_ble_eq_true rfl) (by decide) rfl (zk_PI (fun r_5 h => ?_))
  refine z_isub hE dX2_leftCount_13 ?_
  exact z_iret (st := []) hE dX2_leftCount_14 rfl ⟨_, rfl, rfl, h⟩
set_option maxRecDepth 4000 in
theorem c_X2_timesWithin (t : Nat) (k1 n1 : Nat) (h0 : zT_Factor t) (h1 : SX[k1]? = some (2, n1, [])) (μ : ZMem) (Φ : Int32 → ZMem → Prop) (h : w_X2_timesWithin t k1 n1 μ Φ) : zM SX yX2_timesWithin cX2_timesWithin 3 (some FieldType.int) 2 [.ref t, .ref k1] μ (zzI Φ) := by
  refine zM_go (own := RX2) rfl (by decide) (Nat.le_of_ble_eq_true rfl) (fun E hE => ?_)
  show zZ E (zzI Φ) 0 [(0, .ref t), (1, .ref k1)] [] μ
  unfold w_X2_timesWithin at h
  refine z_iconst (v := 0) hE dX2_timesWithin_0 zv_i_0 ?_
  refine z_istore_n (lv' := [(2, .int (0 : Int32)), (0, .ref t), (1, .ref k1)]) hE dX2_timesWithin_1 rfl (by decide) rfl ?_
  refine z_sub [1, 2, 0] rfl ?_
  obtain ⟨n2, h⟩ := h
  refine z_loop2 (P := fun (v2_1 : Int32) (μ_2 : ZMem) => zZ E (zzI Φ) 2 [(0, .ref t), (1, .ref k1), (2, .int v2_1)] [] μ_2) (fun k2_2 hk2_2 v2_1 μ_2 h => ?_) n2 _ _ h
  refine z_iload_n hE dX2_timesWithin_2 rfl 2 rfl ?_
  refine z_bipush (v := 7) hE dX2_timesWithin_3 zv_b_7 ?_
  refine z_icmp_ge (tgt := 33) hE dX2_timesWithin_5 (by decide) h (fun h => ?_) (fun h => ?_)
  · refine z_iload_n hE dX2_timesWithin_33 rfl 2 rfl ?_
    exact z_iret (st := []) hE dX2_timesWithin_34 rfl ⟨_, rfl, h⟩
  · refine z_aload_n hE dX2_timesWithin_8 rfl 1 rfl ?_
    refine z_callS hE dX2_timesWithin_9 lS_X2_37 (c_X4_highest _ _ h1 μ_2 _ h) rfl (Nat.le_of_ble_eq_true rfl) (by decide) rfl (zk_PI (fun r_3 h => ?_))
    refine z_aload_n hE dX2_timesWithin_12 rfl 0 rfl ?_
    refine z_callV hE dX2_timesWithin_13 lV_X2_21 (c_X2_size _ h0 μ_2 _ h) h0 rfl (Nat.le_of_ble_eq_true rfl) (by decide) rfl (zk_PI (fun r_5 h => ?_))
    refine z_icmp_lt (tgt := 33) hE dX2_timesWithin_16 (by decide) h (fun h => ?_) (fun h => ?_)
    · refine z_iload_n hE dX2_timesWithin_33 rfl 2 rfl ?_
      exact z_iret (st := []) hE dX2_timesWithin_34 rfl ⟨_, rfl, h⟩
    · refine z_aload_n hE dX2_timesWithin_19 rfl 0 rfl ?_
      refine z_aload_n hE dX2_timesWithin_20 rfl 1 rfl ?_
      refine z_callV hE dX2_timesWithin_21 lV_X2_41 (c_X2_dividesOnce _ _ _ h0 h1 μ_2 _ h) h0 rfl (Nat.le_of_ble_eq_true rfl) (by decide) rfl (zk_I (fun r_7 μ_8 h => ?_))
      refine z_if_eq (tgt := 33) hE dX2_timesWithin_24 (by decide) h (fun h => ?_) (fun h => ?_)
      · refine z_iload_n hE dX2_timesWithin_33 rfl 2 rfl ?_
        exact z_iret (st := []) hE dX2_timesWithin_34 rfl ⟨_, rfl, h⟩
      · refine z_iinc (j := 2) (c := 1) (lv' := [(2, .int (v2_1 + (1 : Int32))), (0, .ref t), (1, .ref k1)]) hE dX2_timesWithin_27 rfl zv_i_1 (by decide) rfl ?_
        refine z_goto (tgt := 2) hE dX2_timesWithin_30 (by decide) ?_
        exact z_sub [1, 2, 0] rfl (hk2_2 _ _ h)
set_option maxRecDepth 4000 in
theorem c_X3_factorsAxis  (μ : ZMem) (Φ : Int32 → Prop) (h : w_X3_factorsAxis μ Φ) : zM SX yX3_factorsAxis cX3_factorsAxis 3 (some FieldType.int) 2 [.ref 1] μ (zzPI Φ μ) := by
  refine zM_go (own := RX3) rfl (by decide) (Nat.le_of_ble_eq_true rfl) (fun E hE => ?_)
  show zZ E (zzPI Φ μ) 0 [(0, .ref 1)] [] μ
  unfold w_X3_factorsAxis at h
  refine z_iconst (v := 0) hE dX3_factorsAxis_0 zv_i_0 ?_
  refine z_istore_n (lv' := [(1, .int (0 : Int32)), (0, .ref 1)]) hE dX3_factorsAxis_1 rfl (by decide) rfl ?_
  refine z_iconst (v := 0) hE dX3_factorsAxis_2 zv_i_0 ?_
  refine z_istore_n (lv' := [(2, .int (0 : Int32)), (1, .int (0 : Int32)), (0, .ref 1)]) hE dX3_factorsAxis_3 rfl (by decide) rfl ?_
  refine z_sub [2, 1, 0] rfl ?_
  obtain ⟨n4, h⟩ := h
  refine z_loop2 (P := fun (v1_1 : Int32) (v2_2 : Int32) => zZ E (zzPI Φ μ) 4 [(0, .ref 1), (1, .int v1_1), (2, .int v2_2)] [] μ) (fun k4_2 hk4_2 v1_1 v2_2 h => ?_) n4 _ _ h
  refine z_iload_n hE dX3_factorsAxis_4 rfl 2 rfl ?_
  refine z_aload_n hE dX3_factorsAxis_5 rfl 0 rfl ?_
  refine z_getI hE dX3_factorsAxis_6 lF_X3_55 sX_1 rfl ?_
  refine z_icmp_ge (tgt := 30) hE dX3_factorsAxis_9 (by decide) h (fun h => ?_) (fun h => ?_)
  · refine z_iload_n hE dX3_factorsAxis_30 rfl 1 rfl ?_
    exact z_iret (st := []) hE dX3_factorsAxis_31 rfl ⟨_, rfl, rfl, h⟩
  · refine z_iload_n hE dX3_factorsAxis_12 rfl 1 rfl ?_
    refine z_aload_n hE dX3_factorsAxis_13 rfl 0 rfl ?_
    refine z_getR (t := 5) hE dX3_factorsAxis_14 lF_X3_24 sX_1 rfl ?_
    refine z_iload_n hE dX3_factorsAxis_17 rfl 2 rfl ?_
    obtain ⟨q_3, h⟩ := h
    refine z_aald1 hE dX3_factorsAxis_18 sX_5 (fun _ => rfl) rfl q_3 ?_
    refine z_callV hE dX3_factorsAxis_19 lV_X3_66 (c_X2_axisCount _ (sXr_6 _ (zz_in_lt q_3)) μ _ h) (sXr_6 _ (zz_in_lt q_3)) rfl (Nat.le_of_ble_eq_true rfl) (by decide) rfl (zk_PI (fun r_4 h => ?_))
    refine z_iadd hE dX3_factorsAxis_22 ?_
    refine z_istore_n (lv' := [(1, .int (v1_1 + r_4)), (0, .ref 1), (2, .int v2_2)]) hE dX3_factorsAxis_23 rfl (by decide) rfl ?_
    refine zn (G := fun v1_6 => zZ E (zzPI Φ μ) 24 [(1, .int v1_6), (0, .ref 1), (2, .int v2_2)] [] μ) h (fun v1_6 h => ?_)
    refine z_iinc (j := 2) (c := 1) (lv' := [(2, .int (v2_2 + (1 : Int32))), (1, .int v1_6), (0, .ref 1)]) hE dX3_factorsAxis_24 rfl zv_i_1 (by decide) rfl ?_
    refine z_goto (tgt := 4) hE dX3_factorsAxis_27 (by decide) ?_
    exact z_sub [2, 1, 0] rfl (hk4_2 _ _ h)
set_option maxRecDepth 4000 in
theorem c_X3_factorsRight  (μ : ZMem) (Φ : Int32 → Prop) (h : w_X3_factorsRight μ Φ) : zM SX yX3_factorsRight cX3_factorsRight 3 (some FieldType.int) 2 [.ref 1] μ (zzPI Φ μ) := by
  refine zM_go (own := RX3) rfl (by decide) (Nat.le_of_ble_eq_true rfl) (fun E hE => ?_)
  show zZ E (zzPI Φ μ) 0 [(0, .ref 1)] [] μ
  unfold w_X3_factorsRight at h
  refine z_iconst (v := 0) hE dX3_factorsRight_0 zv_i_0 ?_
  refine z_istore_n (lv' := [(1, .int (0 : Int32)), (0, .ref 1)]) hE dX3_factorsRight_1 rfl (by decide) rfl ?_
  refine z_iconst (v := 0) hE dX3_factorsRight_2 zv_i_0 ?_
  refine z_istore_n (lv' := [(2, .int (0 : Int32)), (1, .int (0 : Int32)), (0, .ref 1)]) hE dX3_factorsRight_3 rfl (by decide) rfl ?_
  refine z_sub [2, 1, 0] rfl ?_
  obtain ⟨n4, h⟩ := h
  refine z_loop2 (P := fun (v1_1 : Int32) (v2_2 : Int32) => zZ E (zzPI Φ μ) 4 [(0, .ref 1), (1, .int v1_1), (2, .int v2_2)] [] μ) (fun k4_2 hk4_2 v1_1 v2_2 h => ?_) n4 _ _ h
  refine z_iload_n hE dX3_factorsRight_4 rfl 2 rfl ?_
  refine z_aload_n hE dX3_factorsRight_5 rfl 0 rfl ?_
  refine z_getI hE dX3_factorsRight_6 lF_X3_55 sX_1 rfl ?_
  refine z_icmp_ge (tgt := 30) hE dX3_factorsRight_9 (by decide) h (fun h => ?_) (fun h => ?_)
  · refine z_iload_n hE dX3_factorsRight_30 rfl 1 rfl ?_
    exact z_iret (st := []) hE dX3_factorsRight_31 rfl ⟨_, rfl, rfl, h⟩
  · refine z_iload_n hE dX3_factorsRight_12 rfl 1 rfl ?_
    refine z_aload_n hE dX3_factorsRight_13 rfl 0 rfl ?_
    refine z_getR (t := 5) hE dX3_factorsRight_14 lF_X3_24 sX_1 rfl ?_
    refine z_iload_n hE dX3_factorsRight_17 rfl 2 rfl ?_
    obtain ⟨q_3, h⟩ := h
    refine z_aald1 hE dX3_factorsRight_18 sX_5 (fun _ => rfl) rfl q_3 ?_
    refine z_callV hE dX3_factorsRight_19 lV_X3_62 (c_X2_rightCount _ (sXr_6 _ (zz_in_lt q_3)) μ _ h) (sXr_6 _ (zz_in_lt q_3)) rfl (Nat.le_of_ble_eq_true rfl) (by decide) rfl (zk_PI (fun r_4 h => ?_))
    refine z_iadd hE dX3_factorsRight_22 ?_
    refine z_istore_n (lv' := [(1, .int (v1_1 + r_4)), (0, .ref 1), (2, .int v2_2)]) hE dX3_factorsRight_23 rfl (by decide) rfl ?_
    refine zn (G := fun v1_6 => zZ E (zzPI Φ μ) 24 [(1, .int v1_6), (0, .ref 1), (2, .int v2_2)] [] μ) h (fun v1_6 h => ?_)
    refine z_iinc (j := 2) (c := 1) (lv' := [(2, .int (v2_2 + (1 : Int32))), (1, .int v1_6), (0, .ref 1)]) hE dX3_factorsRight_24 rfl zv_i_1 (by decide) rfl ?_
    refine z_goto (tgt := 4) hE dX3_factorsRight_27 (by decide) ?_
    exact z_sub [2, 1, 0] rfl (hk4_2 _ _ h)
set_option maxRecDepth 4000 in
theorem c_X3_productInto (k1 n1 : Nat) (h1 : SX[k1]? = some (2, n1, [])) (μ : ZMem) (Φ : ZMem → Prop) (h : w_X3_productInto k1 n1 μ Φ) : zM SX yX3_productInto cX3_productInto 3 (none) 2 [.ref 1, .ref k1] μ (zzV Φ) := by
  refine zM_go (own := RX3) rfl (by decide) (Nat.le_of_ble_eq_true rfl) (fun E hE => ?_)
  show zZ E (zzV Φ) 0 [(0, .ref 1), (1, .ref k1)] [] μ
  unfold w_X3_productInto at h
  refine z_iconst (v := 0) hE dX3_productInto_0 zv_i_0 ?_
  refine z_istore_n (lv' := [(2, .int (0 : Int32)), (0, .ref 1), (1, .ref k1)]) hE dX3_productInto_1 rfl (by decide) rfl ?_
  refine z_join (P := fun (J_2 : ZMem → Prop) => ∀ (μ_1 : ZMem), J_2 μ_1 → zZ E (zzV Φ) 26 [(0, .ref 1), (1, .ref k1)] [] μ_1) h (fun μ_1 h => ?_) (fun J_2 hJ_2 h => ?_)
  · refine z_iconst (v := 0) hE dX3_productInto_26 zv_i_0 ?_
    refine z_istore_n (lv' := [(2, .int (0 : Int32)), (0, .ref 1), (1, .ref k1)]) hE dX3_productInto_27 rfl (by decide) rfl ?_
    refine z_sub [1, 2, 0] rfl ?_
    obtain ⟨n28, h⟩ := h
    refine z_loop2 (P := fun (v2_3 : Int32) (μ_4 : ZMem) => zZ E (zzV Φ) 28 [(0, .ref 1), (1, .ref k1), (2, .int v2_3)] [] μ_4) (fun k28_4 hk28_4 v2_3 μ_4 h => ?_) n28 _ _ h
    refine z_iload_n hE dX3_productInto_28 rfl 2 rfl ?_
    refine z_aload_n hE dX3_productInto_29 rfl 0 rfl ?_
    refine z_getI hE dX3_productInto_30 lF_X3_55 sX_1 rfl ?_
    refine z_icmp_ge (tgt := 52) hE dX3_productInto_33 (by decide) h (fun h => ?_) (fun h => ?_)
    · exact z_vret (st := []) hE dX3_productInto_52 rfl ⟨rfl, h⟩
    · refine z_aload_n hE dX3_productInto_36 rfl 0 rfl ?_
      refine z_getR (t := 5) hE dX3_productInto_37 lF_X3_24 sX_1 rfl ?_
      refine z_iload_n hE dX3_productInto_40 rfl 2 rfl ?_
      obtain ⟨q_5, h⟩ := h
      refine z_aald1 hE dX3_productInto_41 sX_5 (fun _ => rfl) rfl q_5 ?_
      refine z_aload_n hE dX3_productInto_42 rfl 1 rfl ?_
      refine z_callV hE dX3_productInto_43 lV_X3_81 (c_X2_stretch _ _ _ (sXr_6 _ (zz_in_lt q_5)) h1 μ_4 _ h) (sXr_6 _ (zz_in_lt q_5)) rfl (Nat.le_of_ble_eq_true rfl) (by decide) rfl (zk_V (fun μ_7 h => ?_))
      refine z_iinc (j := 2) (c := 1) (lv' := [(2, .int (v2_3 + (1 : Int32))), (0, .ref 1), (1, .ref k1)]) hE dX3_productInto_46 rfl zv_i_1 (by decide) rfl ?_
      refine z_goto (tgt := 28) hE dX3_productInto_49 (by decide) ?_
      exact z_sub [1, 2, 0] rfl (hk28_4 _ _ h)
  refine z_sub [1, 2, 0] rfl ?_
  obtain ⟨n2, h⟩ := h
  refine z_loop2 (P := fun (v2_8 : Int32) (μ_9 : ZMem) => zZ E (zzV Φ) 2 [(0, .ref 1), (1, .ref k1), (2, .int v2_8)] [] μ_9) (fun k2_9 hk2_9 v2_8 μ_9 h => ?_) n2 _ _ h
  refine z_iload_n hE dX3_productInto_2 rfl 2 rfl ?_
  refine z_bipush (v := 7) hE dX3_productInto_3 zv_b_7 ?_
  refine z_icmp_ge (tgt := 26) hE dX3_productInto_5 (by decide) h (fun h => ?_) (fun h => ?_)
  · exact z_sub [0, 1] rfl (hJ_2 _ h)
  · refine z_aload_n hE dX3_productInto_8 rfl 1 rfl ?_
    refine z_iload_n hE dX3_productInto_9 rfl 2 rfl ?_
    refine z_iload_n hE dX3_productInto_10 rfl 2 rfl ?_
    refine z_join (P := fun (J_11 : Int64 → Prop) => ∀ (x_10 : Int64), J_11 x_10 → zZ E (zzV Φ) 19 [(0, .ref 1), (1, .ref k1), (2, .int v2_8)] [.long x_10, .int v2_8, .ref k1] μ_9) h (fun x_10 h => ?_) (fun J_11 hJ_11 h => ?_)
    · obtain ⟨q_12, h⟩ := h
      refine z_last hE dX3_productInto_19 h1 q_12 ?_
      refine zn (G := fun μ_13 => zZ E (zzV Φ) 20 [(0, .ref 1), (1, .ref k1), (2, .int v2_8)] [] μ_13) h (fun μ_13 h => ?_)
      refine z_iinc (j := 2) (c := 1) (lv' := [(2, .int (v2_8 + (1 : Int32))), (0, .ref 1), (1, .ref k1)]) hE dX3_productInto_20 rfl zv_i_1 (by decide) rfl ?_
      refine z_goto (tgt := 2) hE dX3_productInto_23 (by decide) ?_
      exact z_sub [1, 2, 0] rfl (hk2_9 _ _ h)
    refine z_if_ne (tgt := 18) hE dX3_productInto_11 (by decide) h (fun h => ?_) (fun h => ?_)
    · refine z_lconst (v := 0) hE dX3_productInto_18 zv_l_0 ?_
      exact hJ_11 _ h
    · refine z_lconst (v := 1) hE dX3_productInto_14 zv_l_1 ?_
      refine z_goto (tgt := 19) hE dX3_productInto_15 (by decide) ?_
      exact hJ_11 _ h
set_option maxRecDepth 4000 in
theorem c_X5_jumpAt (a1 : Int32) (μ : ZMem) (Φ : Int32 → Prop) (h : w_X5_jumpAt a1 μ Φ) : zM SX yX5_jumpAt cX5_jumpAt 4 (some FieldType.int) 2 [.ref 70, .int a1] μ (zzPI Φ μ) := by
  refine zM_go (own := RX5) rfl (by decide) (Nat.le_of_ble_eq_true rfl) (fun E hE => ?_)
  show zZ E (zzPI Φ μ) 0 [(0, .ref 70), (1, .int a1)] [] μ
  unfold w_X5_jumpAt at h
  refine z_iconst (v := 0) hE dX5_jumpAt_0 zv_i_0 ?_
  refine z_istore_n (lv' := [(2, .int (0 : Int32)), (0, .ref 70), (1, .int a1)]) hE dX5_jumpAt_1 rfl (by decide) rfl ?_
  refine z_bipush (v := -99) hE dX5_jumpAt_2 zv_b_m99 ?_
  refine z_istore_n (lv' := [(3, .int (-99 : Int32)), (2, .int (0 : Int32)), (0, .ref 70), (1, .int a1)]) hE dX5_jumpAt_4 rfl (by decide) rfl ?_
  refine z_sub [2, 3, 1, 0] rfl ?_
  obtain ⟨n5, h⟩ := h
  refine z_loop2 (P := fun (v2_1 : Int32) (v3_2 : Int32) => zZ E (zzPI Φ μ) 5 [(0, .ref 70), (1, .int a1), (2, .int v2_1), (3, .int v3_2)] [] μ) (fun k5_2 hk5_2 v2_1 v3_2 h => ?_) n5 _ _ h
  refine z_iload_n hE dX5_jumpAt_5 rfl 3 rfl ?_
  refine z_bipush (v := 100) hE dX5_jumpAt_6 zv_b_100 ?_
  refine z_icmp_gt (tgt := 40) hE dX5_jumpAt_8 (by decide) h (fun h => ?_) (fun h => ?_)
  · refine z_bipush (v := 100) hE dX5_jumpAt_40 zv_b_100 ?_
    exact z_iret (st := []) hE dX5_jumpAt_42 rfl ⟨_, rfl, rfl, h⟩
  · refine z_iload_n hE dX5_jumpAt_11 rfl 2 rfl ?_
    refine z_aload_n hE dX5_jumpAt_12 rfl 0 rfl ?_
    refine z_iload_n hE dX5_jumpAt_13 rfl 3 rfl ?_
    refine z_callV hE dX5_jumpAt_14 lV_X5_62 (c_X5_isJump _ μ _ h) sX_70 rfl (Nat.le_of_ble_eq_true rfl) (by decide) rfl (zk_PI (fun r_3 h => ?_))
    refine z_join (P := fun (J_6 : Int32 → Prop) => ∀ (x_5 : Int32), J_6 x_5 → zZ E (zzPI Φ μ) 25 [(0, .ref 70), (1, .int a1), (3, .int v3_2)] [.int x_5, .int v2_1] μ) h (fun x_5 h => ?_) (fun J_6 hJ_6 h => ?_)
    · refine z_iadd hE dX5_jumpAt_25 ?_
      refine z_istore_n (lv' := [(2, .int (v2_1 + x_5)), (0, .ref 70), (1, .int a1), (3, .int v3_2)]) hE dX5_jumpAt_26 rfl (by decide) rfl ?_
      refine zn (G := fun v2_7 => zZ E (zzPI Φ μ) 27 [(2, .int v2_7), (0, .ref 70), (1, .int a1), (3, .int v3_2)] [] μ) h (fun v2_7 h => ?_)
      refine z_iload_n hE dX5_jumpAt_27 rfl 0 rfl ?_
      refine z_iload_n hE dX5_jumpAt_28 rfl 2 rfl ?_
      refine z_icmp_le (tgt := 34) hE dX5_jumpAt_29 (by decide) h (fun h => ?_) (fun h => ?_)
      · refine z_iinc (j := 3) (c := 1) (lv' := [(3, .int (v3_2 + (1 : Int32))), (2, .int v2_7), (0, .ref 70), (1, .int a1)]) hE dX5_jumpAt_34 rfl zv_i_1 (by decide) rfl ?_
        refine z_goto (tgt := 5) hE dX5_jumpAt_37 (by decide) ?_
        exact z_sub [2, 3, 1, 0] rfl (hk5_2 _ _ h)
      · refine z_iload_n hE dX5_jumpAt_32 rfl 3 rfl ?_
        exact z_iret (st := []) hE dX5_jumpAt_33 rfl ⟨_, rfl, rfl, h⟩
    refine z_if_eq (tgt := 24) hE dX5_jumpAt_17 (by decide) h (fun h => ?_) (fun h => ?_)
    · refine z_iconst (v := 0) hE dX5_jumpAt_24 zv_i_0 ?_
      exact z_sub [0, 1, 3] rfl (hJ_6 _ h)
    · refine z_iconst (v := 1) hE dX5_jumpAt_20 zv_i_1 ?_
      refine z_goto (tgt := 25) hE dX5_jumpAt_21 (by decide) ?_
      exact z_sub [0, 1, 3] rfl (hJ_6 _ h)
set_option maxRecDepth 4000 in
theorem c_X5_jumpCount  (μ : ZMem) (Φ : Int32 → Prop) (h : w_X5_jumpCount μ Φ) : zM SX yX5_jumpCount cX5_jumpCount 3 (some FieldType.int) 2 [.ref 70] μ (zzPI Φ μ) := by
  refine zM_go (own := RX5) rfl (by decide) (Nat.le_of_ble_eq_true rfl) (fun E hE => ?_)
  show zZ E (zzPI Φ μ) 0 [(0, .ref 70)] [] μ
  unfold w_X5_jumpCount at h
  refine z_iconst (v := 0) hE dX5_jumpCount_0 zv_i_0 ?_
  refine z_istore_n (lv' := [(1, .int (0 : Int32)), (0, .ref 70)]) hE dX5_jumpCount_1 rfl (by decide) rfl ?_
  refine z_bipush (v := -99) hE dX5_jumpCount_2 zv_b_m99 ?_
  refine z_istore_n (lv' := [(2, .int (-99 : Int32)), (1, .int (0 : Int32)), (0, .ref 70)]) hE dX5_jumpCount_4 rfl (by decide) rfl ?_
  refine z_sub [2, 1, 0] rfl ?_
  obtain ⟨n5, h⟩ := h
  refine z_loop2 (P := fun (v1_1 : Int32) (v2_2 : Int32) => zZ E (zzPI Φ μ) 5 [(0, .ref 70), (1, .int v1_1), (2, .int v2_2)] [] μ) (fun k5_2 hk5_2 v1_1 v2_2 h => ?_) n5 _ _ h
  refine z_iload_n hE dX5_jumpCount_5 rfl 2 rfl ?_
  refine z_bipush (v := 100) hE dX5_jumpCount_6 zv_b_100 ?_
  refine z_icmp_gt (tgt := 33) hE dX5_jumpCount_8 (by decide) h (fun h => ?_) (fun h => ?_)
  · refine z_iload_n hE dX5_jumpCount_33 rfl 1 rfl ?_
    exact z_iret (st := []) hE dX5_jumpCount_34 rfl ⟨_, rfl, rfl, h⟩
  · refine z_iload_n hE dX5_jumpCount_11 rfl 1 rfl ?_
    refine z_aload_n hE dX5_jumpCount_12 rfl 0 rfl ?_
    refine z_iload_n hE dX5_jumpCount_13 rfl 2 rfl ?_
    refine z_callV hE dX5_jumpCount_14 lV_X5_62 (c_X5_isJump _ μ _ h) sX_70 rfl (Nat.le_of_ble_eq_true rfl) (by decide) rfl (zk_PI (fun r_3 h => ?_))
    refine z_join (P := fun (J_6 : Int32 → Prop) => ∀ (x_5 : Int32), J_6 x_5 → zZ E (zzPI Φ μ) 25 [(0, .ref 70), (2, .int v2_2)] [.int x_5, .int v1_1] μ) h (fun x_5 h => ?_) (fun J_6 hJ_6 h => ?_)
    · refine z_iadd hE dX5_jumpCount_25 ?_
      refine z_istore_n (lv' := [(1, .int (v1_1 + x_5)), (0, .ref 70), (2, .int v2_2)]) hE dX5_jumpCount_26 rfl (by decide) rfl ?_
      refine zn (G := fun v1_7 => zZ E (zzPI Φ μ) 27 [(1, .int v1_7), (0, .ref 70), (2, .int v2_2)] [] μ) h (fun v1_7 h => ?_)
      refine z_iinc (j := 2) (c := 1) (lv' := [(2, .int (v2_2 + (1 : Int32))), (1, .int v1_7), (0, .ref 70)]) hE dX5_jumpCount_27 rfl zv_i_1 (by decide) rfl ?_
      refine z_goto (tgt := 5) hE dX5_jumpCount_30 (by decide) ?_
      exact z_sub [2, 1, 0] rfl (hk5_2 _ _ h)
    refine z_if_eq (tgt := 24) hE dX5_jumpCount_17 (by decide) h (fun h => ?_) (fun h => ?_)
    · refine z_iconst (v := 0) hE dX5_jumpCount_24 zv_i_0 ?_
      exact z_sub [0, 2] rfl (hJ_6 _ h)
    · refine z_iconst (v := 1) hE dX5_jumpCount_20 zv_i_1 ?_
      refine z_goto (tgt := 25) hE dX5_jumpCount_21 (by decide) ?_
      exact z_sub [0, 2] rfl (hJ_6 _ h)
set_option maxRecDepth 4000 in
theorem c_X8_build (t : Nat) (h0 : zT_Table t) (μ : ZMem) (Φ : ZMem → Prop) (h : w_X8_build t μ Φ) : zM SX yX8_build cX8_build 2 (none) 2 [.ref t] μ (zzV Φ) := by
  refine zM_go (own := RX8) rfl (by decide) (Nat.le_of_ble_eq_true rfl) (fun E hE => ?_)
  show zZ E (zzV Φ) 0 [(0, .ref t)] [] μ
  unfold w_X8_build at h
  refine z_aload_n hE dX8_build_0 rfl 0 rfl ?_
  refine z_iconst (v := 0) hE dX8_build_1 zv_i_0 ?_
  refine z_put hE dX8_build_2 lF_X8_63 h0.1 rfl (by decide) (by decide) ?_
  refine zn (G := fun μ_1 => zZ E (zzV Φ) 5 [(0, .ref t)] [] μ_1) h (fun μ_1 h => ?_)
  refine z_iconst (v := 0) hE dX8_build_5 zv_i_0 ?_
  refine z_istore_n (lv' := [(1, .int (0 : Int32)), (0, .ref t)]) hE dX8_build_6 rfl (by decide) rfl ?_
  refine z_sub [1, 0] rfl ?_
  obtain ⟨n7, h⟩ := h
  refine z_loop2 (P := fun (v1_2 : Int32) (μ_3 : ZMem) => zZ E (zzV Φ) 7 [(0, .ref t), (1, .int v1_2)] [] μ_3) (fun k7_3 hk7_3 v1_2 μ_3 h => ?_) n7 _ _ h
  refine z_iload_n hE dX8_build_7 rfl 1 rfl ?_
  refine z_aload_n hE dX8_build_8 rfl 0 rfl ?_
  refine z_getI hE dX8_build_9 lF_X8_27 h0.1 rfl ?_
  refine z_icmp_gt (tgt := 94) hE dX8_build_12 (by decide) h (fun h => ?_) (fun h => ?_)
  · exact z_vret (st := []) hE dX8_build_94 rfl ⟨rfl, h⟩
  · refine z_aload_n hE dX8_build_15 rfl 0 rfl ?_
    refine z_getI hE dX8_build_16 lF_X8_63 h0.1 rfl ?_
    refine z_if_ne (tgt := 94) hE dX8_build_19 (by decide) h (fun h => ?_) (fun h => ?_)
    · exact z_vret (st := []) hE dX8_build_94 rfl ⟨rfl, h⟩
    · refine z_iload_n hE dX8_build_22 rfl 1 rfl ?_
      refine z_iconst (v := 2) hE dX8_build_23 zv_i_2 ?_
      refine z_join (P := fun (J_5 : ZMem → Prop) => ∀ (μ_4 : ZMem), J_5 μ_4 → zZ E (zzV Φ) 40 [(0, .ref t), (1, .int v1_2)] [] μ_4) h (fun μ_4 h => ?_) (fun J_5 hJ_5 h => ?_)
      · refine z_aload_n hE dX8_build_40 rfl 0 rfl ?_
        refine z_getR (t := (t + 11)) hE dX8_build_41 lF_X8_23 h0.1 rfl ?_
        refine z_iload_n hE dX8_build_44 rfl 1 rfl ?_
        refine z_iload_n hE dX8_build_45 rfl 1 rfl ?_
        refine z_join (P := fun (J_8 : Int32 → ZMem → Prop) => ∀ (x_6 : Int32) (μ_7 : ZMem), J_8 x_6 μ_7 → zZ E (zzV Φ) 58 [(0, .ref t), (1, .int v1_2)] [.int x_6, .int v1_2, .ref (t + 11)] μ_7) h (fun x_6 μ_7 h => ?_) (fun J_8 hJ_8 h => ?_)
        · obtain ⟨q_9, h⟩ := h
          refine z_iast hE dX8_build_58 h0.2.2.2.2.2 q_9 ?_
          refine zn (G := fun μ_10 => zZ E (zzV Φ) 59 [(0, .ref t), (1, .int v1_2)] [] μ_10) h (fun μ_10 h => ?_)
          refine z_aload_n hE dX8_build_59 rfl 0 rfl ?_
          refine z_aload_n hE dX8_build_60 rfl 0 rfl ?_
          refine z_getR (t := (t + 3)) hE dX8_build_61 lF_X8_20 h0.1 rfl ?_
          refine z_iload_n hE dX8_build_64 rfl 1 rfl ?_
          obtain ⟨q_11, h⟩ := h
          refine z_aald1 hE dX8_build_65 h0.2.2.2.1 (fun _ => rfl) rfl q_11 ?_
          refine z_callS hE dX8_build_66 lS_X8_78 (c_X4_isGreat _ _ (h0.2.2.2.2.1 _ (zz_in_lt q_11)) μ_10 _ h) rfl (Nat.le_of_ble_eq_true rfl) (by decide) rfl (zk_PI (fun r_12 h => ?_))
          obtain ⟨q_14, h⟩ := h
          refine z_put hE dX8_build_69 lF_X8_63 h0.1 rfl (zb_n q_14) (zb_f q_14) ?_
          refine zn (G := fun μ_15 => zZ E (zzV Φ) 72 [(0, .ref t), (1, .int v1_2)] [] μ_15) h (fun μ_15 h => ?_)
          refine z_aload_n hE dX8_build_72 rfl 0 rfl ?_
          refine z_getI hE dX8_build_73 lF_X8_63 h0.1 rfl ?_
          refine z_join (P := fun (J_17 : ZMem → Prop) => ∀ (μ_16 : ZMem), J_17 μ_16 → zZ E (zzV Φ) 88 [(0, .ref t), (1, .int v1_2)] [] μ_16) h (fun μ_16 h => ?_) (fun J_17 hJ_17 h => ?_)
          · refine z_iinc (j := 1) (c := 1) (lv' := [(1, .int (v1_2 + (1 : Int32))), (0, .ref t)]) hE dX8_build_88 rfl zv_i_1 (by decide) rfl ?_
            refine z_goto (tgt := 7) hE dX8_build_91 (by decide) ?_
            exact z_sub [1, 0] rfl (hk7_3 _ _ h)
          refine z_if_ne (tgt := 88) hE dX8_build_76 (by decide) h (fun h => ?_) (fun h => ?_)
          · exact hJ_17 _ h
          · refine z_aload_n hE dX8_build_79 rfl 0 rfl ?_
            refine z_getR (t := (t + 3)) hE dX8_build_80 lF_X8_20 h0.1 rfl ?_
            refine z_iload_n hE dX8_build_83 rfl 1 rfl ?_
            obtain ⟨q_18, h⟩ := h
            refine z_aald1 hE dX8_build_84 h0.2.2.2.1 (fun _ => rfl) rfl q_18 ?_
            refine z_callS hE dX8_build_85 lS_X8_82 (c_X4_shrink _ _ (h0.2.2.2.2.1 _ (zz_in_lt q_18)) μ_15 _ h) rfl (Nat.le_of_ble_eq_true rfl) (by decide) rfl (zk_V (fun μ_20 h => ?_))
            exact hJ_17 _ h
        refine z_if_ne (tgt := 53) hE dX8_build_46 (by decide) h (fun h => ?_) (fun h => ?_)
        · refine z_aload_n hE dX8_build_53 rfl 0 rfl ?_
          refine z_iload_n hE dX8_build_54 rfl 1 rfl ?_
          refine z_callV hE dX8_build_55 lV_X8_74 (c_X8_mendRow _ _ h0 μ_4 _ h) h0.1 rfl (Nat.le_of_ble_eq_true rfl) (by decide) rfl (zk_I (fun r_21 μ_22 h => ?_))
          exact hJ_8 _ _ h
        · refine z_iconst (v := 0) hE dX8_build_49 zv_i_0 ?_
          refine z_goto (tgt := 58) hE dX8_build_50 (by decide) ?_
          exact hJ_8 _ _ h
      refine z_icmp_ge (tgt := 35) hE dX8_build_24 (by decide) h (fun h => ?_) (fun h => ?_)
      · refine z_aload_n hE dX8_build_35 rfl 0 rfl ?_
        refine z_iload_n hE dX8_build_36 rfl 1 rfl ?_
        refine z_callV hE dX8_build_37 lV_X8_71 (c_X8_crossRow _ _ h0 μ_3 _ h) h0.1 rfl (Nat.le_of_ble_eq_true rfl) (by decide) rfl (zk_V (fun μ_24 h => ?_))
        exact hJ_5 _ h
      · refine z_aload_n hE dX8_build_27 rfl 0 rfl ?_
        refine z_iload_n hE dX8_build_28 rfl 1 rfl ?_
        refine z_callV hE dX8_build_29 lV_X8_67 (c_X8_takeRow _ _ h0 μ_3 _ h) h0.1 rfl (Nat.le_of_ble_eq_true rfl) (by decide) rfl (zk_V (fun μ_26 h => ?_))
        refine z_goto (tgt := 40) hE dX8_build_32 (by decide) ?_
        exact hJ_5 _ h
set_option maxRecDepth 4000 in
theorem c_X8_leftCount (t : Nat) (h0 : zT_Table t) (μ : ZMem) (Φ : Int32 → Prop) (h : w_X8_leftCount t μ Φ) : zM SX yX8_leftCount cX8_leftCount 1 (some FieldType.int) 2 [.ref t] μ (zzPI Φ μ) := by
  refine zM_go (own := RX8) rfl (by decide) (Nat.le_of_ble_eq_true rfl) (fun E hE => ?_)
  show zZ E (zzPI Φ μ) 0 [(0, .ref t)] [] μ
  unfold w_X8_leftCount at h
  refine z_aload_n hE dX8_leftCount_0 rfl 0 rfl ?_
  refine z_getI hE dX8_leftCount_1 lF_X8_27 h0.1 rfl ?_
  refine z_iconst (v := 1) hE dX8_leftCount_4 zv_i_1 ?_
  refine z_icmp_ge (tgt := 12) hE dX8_leftCount_5 (by decide) h (fun h => ?_) (fun h => ?_)
  · refine z_aload_n hE dX8_leftCount_12 rfl 0 rfl ?_
    refine z_getI hE dX8_leftCount_13 lF_X8_27 h0.1 rfl ?_
    refine z_aload_n hE dX8_leftCount_16 rfl 0 rfl ?_
    refine z_callV hE dX8_leftCount_17 lV_X8_113 (c_X8_rightCount _ h0 μ _ h) h0.1 rfl (Nat.le_of_ble_eq_true rfl) (by decide) rfl (zk_PI (fun r_1 h => ?_))
    refine z_isub hE dX8_leftCount_20 ?_
    refine z_aload_n hE dX8_leftCount_21 rfl 0 rfl ?_
    refine z_callV hE dX8_leftCount_22 lV_X8_116 (c_X8_axisCount _ h0 μ _ h) h0.1 rfl (Nat.le_of_ble_eq_true rfl) (by decide) rfl (zk_PI (fun r_3 h => ?_))
    refine z_isub hE dX8_leftCount_25 ?_
    exact z_iret (st := []) hE dX8_leftCount_26 rfl ⟨_, rfl, rfl, h⟩
  · refine z_iconst (v := 0) hE dX8_leftCount_8 zv_i_0 ?_
    refine z_goto (tgt := 26) hE dX8_leftCount_9 (by decide) ?_
    exact z_iret (st := []) hE dX8_leftCount_26 rfl ⟨_, rfl, rfl, h⟩
set_option maxRecDepth 4000 in
theorem c_X8_shape (t : Nat) (k1 n1 : Nat) (a2 : Int32) (h0 : zT_Table t) (h1 : SX[k1]? = some (2, n1, [])) (μ : ZMem) (Φ : ZMem → Prop) (h : w_X8_shape t k1 n1 a2 μ Φ) : zM SX yX8_shape cX8_shape 4 (none) 2 [.ref t, .ref k1, .int a2] μ (zzV Φ) := by
  refine zM_go (own := RX8) rfl (by decide) (Nat.le_of_ble_eq_true rfl) (fun E hE => ?_)
  show zZ E (zzV Φ) 0 [(0, .ref t), (1, .ref k1), (2, .int a2)] [] μ
  unfold w_X8_shape at h
  refine z_aload_n hE dX8_shape_0 rfl 1 rfl ?_
  refine z_callS hE dX8_shape_1 lS_X8_31 (c_X4_highest _ _ h1 μ _ h) rfl (Nat.le_of_ble_eq_true rfl) (by decide) rfl (zk_PI (fun r_1 h => ?_))
  refine z_istore_n (lv' := [(3, .int r_1), (0, .ref t), (1, .ref k1), (2, .int a2)]) hE dX8_shape_4 rfl (by decide) rfl ?_
  refine z_aload_n hE dX8_shape_5 rfl 2 rfl ?_
  refine z_iconst (v := 0) hE dX8_shape_6 zv_i_0 ?_
  refine z_aload_n hE dX8_shape_7 rfl 1 rfl ?_
  refine z_getR (t := (t + 1)) hE dX8_shape_8 lF_X8_9 h0.1 rfl ?_
  refine z_iconst (v := 0) hE dX8_shape_11 zv_i_0 ?_
  refine z_bipush (v := 7) hE dX8_shape_12 zv_b_7 ?_
  obtain ⟨q_3, h⟩ := h
  refine z_copyJ hE dX8_shape_14 lA_X8_37 h1 h0.2.1 q_3 (Nat.le_of_ble_eq_true rfl) ?_
  refine zn (G := fun μ_4 => zZ E (zzV Φ) 17 [(3, .int r_1), (0, .ref t), (1, .ref k1), (2, .int a2)] [] μ_4) h (fun μ_4 h => ?_)
  refine z_iload_n hE dX8_shape_17 rfl 3 rfl ?_
  refine z_iconst (v := 1) hE dX8_shape_18 zv_i_1 ?_
  refine z_join (P := fun (J_6 : ZMem → Prop) => ∀ (μ_5 : ZMem), J_6 μ_5 → zZ E (zzV Φ) 70 [(0, .ref t), (3, .int r_1)] [] μ_5) h (fun μ_5 h => ?_) (fun J_6 hJ_6 h => ?_)
  · refine z_aload_n hE dX8_shape_70 rfl 0 rfl ?_
    refine z_aload_n hE dX8_shape_71 rfl 0 rfl ?_
    refine z_getR (t := (t + 1)) hE dX8_shape_72 lF_X8_9 h0.1 rfl ?_
    refine z_callS hE dX8_shape_75 lS_X8_31 (c_X4_highest _ _ h0.2.1 μ_5 _ h) rfl (Nat.le_of_ble_eq_true rfl) (by decide) rfl (zk_PI (fun r_7 h => ?_))
    refine z_put hE dX8_shape_78 lF_X8_27 h0.1 rfl rfl rfl ?_
    refine zn (G := fun μ_9 => zZ E (zzV Φ) 81 [(0, .ref t), (3, .int r_1)] [] μ_9) h (fun μ_9 h => ?_)
    refine z_aload_n hE dX8_shape_81 rfl 0 rfl ?_
    refine z_iload_n hE dX8_shape_82 rfl 1 rfl ?_
    refine z_aload_n hE dX8_shape_83 rfl 0 rfl ?_
    refine z_getI hE dX8_shape_84 lF_X8_27 h0.1 rfl ?_
    refine z_isub hE dX8_shape_87 ?_
    refine z_put hE dX8_shape_88 lF_X8_57 h0.1 rfl rfl rfl ?_
    refine zn (G := fun μ_10 => zZ E (zzV Φ) 91 [(0, .ref t), (3, .int r_1)] [] μ_10) h (fun μ_10 h => ?_)
    exact z_vret (st := []) hE dX8_shape_91 rfl ⟨rfl, h⟩
  refine z_icmp_ne (tgt := 29) hE dX8_shape_19 (by decide) h (fun h => ?_) (fun h => ?_)
  · refine z_iload_n hE dX8_shape_29 rfl 3 rfl ?_
    refine z_iconst (v := 2) hE dX8_shape_30 zv_i_2 ?_
    refine z_icmp_ne (tgt := 43) hE dX8_shape_31 (by decide) h (fun h => ?_) (fun h => ?_)
    · refine z_iload_n hE dX8_shape_43 rfl 3 rfl ?_
      refine z_iconst (v := 3) hE dX8_shape_44 zv_i_3 ?_
      refine z_icmp_ne (tgt := 57) hE dX8_shape_45 (by decide) h (fun h => ?_) (fun h => ?_)
      · refine z_iload_n hE dX8_shape_57 rfl 3 rfl ?_
        refine z_if_eq (tgt := 70) hE dX8_shape_58 (by decide) h (fun h => ?_) (fun h => ?_)
        · exact z_sub [1, 0] rfl (hJ_6 _ h)
        · refine z_aload_n hE dX8_shape_61 rfl 1 rfl ?_
          refine z_iload_n hE dX8_shape_62 rfl 3 rfl ?_
          refine z_bipush (v := 30) hE dX8_shape_63 zv_b_30 ?_
          refine z_isub hE dX8_shape_65 ?_
          refine z_iload_n hE dX8_shape_66 rfl 0 rfl ?_
          refine z_callV hE dX8_shape_67 lV_X8_53 (c_X8_shift _ _ _ h0 μ_4 _ h) h0.1 rfl (Nat.le_of_ble_eq_true rfl) (by decide) rfl (zk_V (fun μ_12 h => ?_))
          exact z_sub [1, 0] rfl (hJ_6 _ h)
      · refine z_aload_n hE dX8_shape_48 rfl 1 rfl ?_
        refine z_aload_n hE dX8_shape_49 rfl 2 rfl ?_
        refine z_iload_n hE dX8_shape_50 rfl 0 rfl ?_
        refine z_callV hE dX8_shape_51 lV_X8_50 (c_X8_carry _ _ _ _ h0 h1 μ_4 _ h) h0.1 rfl (Nat.le_of_ble_eq_true rfl) (by decide) rfl (zk_V (fun μ_14 h => ?_))
        refine z_goto (tgt := 70) hE dX8_shape_54 (by decide) ?_
        exact z_sub [1, 0] rfl (hJ_6 _ h)
    · refine z_aload_n hE dX8_shape_34 rfl 1 rfl ?_
      refine z_aload_n hE dX8_shape_35 rfl 2 rfl ?_
      refine z_iload_n hE dX8_shape_36 rfl 0 rfl ?_
      refine z_callV hE dX8_shape_37 lV_X8_46 (c_X8_turn _ _ _ _ h0 h1 μ_4 _ h) h0.1 rfl (Nat.le_of_ble_eq_true rfl) (by decide) rfl (zk_V (fun μ_16 h => ?_))
      refine z_goto (tgt := 70) hE dX8_shape_40 (by decide) ?_
      exact z_sub [1, 0] rfl (hJ_6 _ h)
  · refine z_aload_n hE dX8_shape_22 rfl 1 rfl ?_
    refine z_callV hE dX8_shape_23 lV_X8_43 (c_X8_mirror _ h0 μ_4 _ h) h0.1 rfl (Nat.le_of_ble_eq_true rfl) (by decide) rfl (zk_V (fun μ_18 h => ?_))
    refine z_goto (tgt := 70) hE dX8_shape_26 (by decide) ?_
    exact z_sub [1, 0] rfl (hJ_6 _ h)
set_option maxRecDepth 4000 in
theorem c_X9_takeTerm (k1 n1 : Nat) (a2 : Int32) (h1 : SX[k1]? = some (2, n1, [])) (μ : ZMem) (Φ : ZMem → Prop) (h : w_X9_takeTerm k1 n1 a2 μ Φ) : zM SX yX9_takeTerm cX9_takeTerm 6 (none) 2 [.ref 23, .ref k1, .int a2] μ (zzV Φ) := by
  refine zM_go (own := RX9) rfl (by decide) (Nat.le_of_ble_eq_true rfl) (fun E hE => ?_)
  show zZ E (zzV Φ) 0 [(0, .ref 23), (1, .ref k1), (2, .int a2)] [] μ
  unfold w_X9_takeTerm at h
  refine z_aload_n hE dX9_takeTerm_0 rfl 0 rfl ?_
  refine z_getI hE dX9_takeTerm_1 lF_X9_32 sX_23 rfl ?_
  refine z_istore_n (lv' := [(3, .int (μ.1 23 6)), (0, .ref 23), (1, .ref k1), (2, .int a2)]) hE dX9_takeTerm_4 rfl (by decide) rfl ?_
  refine zn (G := fun v3_1 => zZ E (zzV Φ) 5 [(3, .int v3_1), (0, .ref 23), (1, .ref k1), (2, .int a2)] [] μ) h (fun v3_1 h => ?_)
  refine z_aload_n hE dX9_takeTerm_5 rfl 1 rfl ?_
  refine z_callV hE dX9_takeTerm_6 lV_X9_57 (c_X9_takeNumber  μ _ h) sX_23 rfl (Nat.le_of_ble_eq_true rfl) (by decide) rfl (zk_I (fun r_2 μ_3 h => ?_))
  refine z_istore (lv' := [(4, .int r_2), (3, .int v3_1), (0, .ref 23), (1, .ref k1), (2, .int a2)]) hE dX9_takeTerm_9 (by decide) rfl ?_
  refine z_iconst (v := 0) hE dX9_takeTerm_11 zv_i_0 ?_
  refine z_istore (lv' := [(5, .int (0 : Int32)), (4, .int r_2), (3, .int v3_1), (0, .ref 23), (1, .ref k1), (2, .int a2)]) hE dX9_takeTerm_12 (by decide) rfl ?_
  refine z_aload_n hE dX9_takeTerm_14 rfl 3 rfl ?_
  refine z_aload_n hE dX9_takeTerm_15 rfl 3 rfl ?_
  refine z_getI hE dX9_takeTerm_16 lF_X9_32 sX_23 rfl ?_
  refine z_callV hE dX9_takeTerm_19 lV_X9_50 (c_X9_letterAt _ μ_3 _ h) sX_23 rfl (Nat.le_of_ble_eq_true rfl) (by decide) rfl (zk_PI (fun r_4 h => ?_))
  refine z_bipush (v := 115) hE dX9_takeTerm_22 zv_b_115 ?_
  refine z_join (P := fun (J_9 : Int32 → Int32 → ZMem → Prop) => ∀ (v4_6 : Int32) (v5_7 : Int32) (μ_8 : ZMem), J_9 v4_6 v5_7 μ_8 → zZ E (zzV Φ) 59 [(0, .ref 23), (1, .ref k1), (2, .int a2), (3, .int v3_1), (4, .int v4_6), (5, .int v5_7)] [] μ_8) h (fun v4_6 v5_7 μ_8 h => ?_) (fun J_9 hJ_9 h => ?_)
  · refine z_aload_n hE dX9_takeTerm_59 rfl 0 rfl ?_
    refine z_getI hE dX9_takeTerm_60 lF_X9_32 sX_23 rfl ?_
    refine z_iload_n hE dX9_takeTerm_63 rfl 3 rfl ?_
    refine z_icmp_ne (tgt := 76) hE dX9_takeTerm_64 (by decide) h (fun h => ?_) (fun h => ?_)
    · refine z_aload_n hE dX9_takeTerm_76 rfl 0 rfl ?_
      refine z_dup hE dX9_takeTerm_77 rfl ?_
      refine z_getI hE dX9_takeTerm_78 lF_X9_26 sX_23 rfl ?_
      refine z_iconst (v := 1) hE dX9_takeTerm_81 zv_i_1 ?_
      refine z_iadd hE dX9_takeTerm_82 ?_
      refine z_put hE dX9_takeTerm_83 lF_X9_26 sX_23 rfl rfl rfl ?_
      refine zn (G := fun μ_10 => zZ E (zzV Φ) 86 [(0, .ref 23), (1, .ref k1), (2, .int a2), (3, .int v3_1), (4, .int v4_6), (5, .int v5_7)] [] μ_10) h (fun μ_10 h => ?_)
      refine z_aload_n hE dX9_takeTerm_86 rfl 1 rfl ?_
      refine z_iload hE dX9_takeTerm_87 5 rfl ?_
      refine z_dup2 hE dX9_takeTerm_89 rfl rfl ?_
      obtain ⟨q_11, h⟩ := h
      refine z_lald hE dX9_takeTerm_90 h1 q_11 ?_
      refine z_iload_n hE dX9_takeTerm_91 rfl 2 rfl ?_
      refine z_iload hE dX9_takeTerm_92 4 rfl ?_
      refine z_imul hE dX9_takeTerm_94 ?_
      refine z_i2l hE dX9_takeTerm_95 ?_
      refine z_ladd hE dX9_takeTerm_96 ?_
      obtain ⟨q_12, h⟩ := h
      refine z_last hE dX9_takeTerm_97 h1 q_12 ?_
      refine zn (G := fun μ_13 => zZ E (zzV Φ) 98 [(0, .ref 23), (1, .ref k1), (2, .int a2), (3, .int v3_1), (4, .int v4_6), (5, .int v5_7)] [] μ_13) h (fun μ_13 h => ?_)
      refine z_aload_n hE dX9_takeTerm_98 rfl 1 rfl ?_
      refine z_iload hE dX9_takeTerm_99 5 rfl ?_
      obtain ⟨q_14, h⟩ := h
      refine z_lald hE dX9_takeTerm_101 h1 q_14 ?_
      refine z_ldc2 (v := -99) hE dX9_takeTerm_102 lK_X9_64 ?_
      refine z_join (P := fun (J_15 : Prop) => J_15 → zZ E (zzV Φ) 120 [(0, .ref 23), (3, .int v3_1)] [] μ_13) h (fun  h => ?_) (fun J_15 hJ_15 h => ?_)
      · refine z_aload_n hE dX9_takeTerm_120 rfl 0 rfl ?_
        refine z_iload_n hE dX9_takeTerm_121 rfl 1 rfl ?_
        refine z_put hE dX9_takeTerm_122 lF_X9_29 sX_23 rfl rfl rfl ?_
        refine zn (G := fun μ_16 => zZ E (zzV Φ) 125 [(0, .ref 23), (3, .int v3_1)] [] μ_16) h (fun μ_16 h => ?_)
        exact z_vret (st := []) hE dX9_takeTerm_125 rfl ⟨rfl, h⟩
      refine z_ljmp_lt (tgt := 120) hE dX9_takeTerm_105 dX9_takeTerm_106 (by decide) h (fun h => ?_) (fun h => ?_)
      · exact z_sub [0, 3] rfl (hJ_15 h)
      · refine z_aload_n hE dX9_takeTerm_109 rfl 1 rfl ?_
        refine z_iload hE dX9_takeTerm_110 5 rfl ?_
        obtain ⟨q_17, h⟩ := h
        refine z_lald hE dX9_takeTerm_112 h1 q_17 ?_
        refine z_ldc2 (v := 99) hE dX9_takeTerm_113 lK_X9_66 ?_
        refine z_ljmp_le (tgt := 125) hE dX9_takeTerm_116 dX9_takeTerm_117 (by decide) h (fun h => ?_) (fun h => ?_)
        · exact z_vret (st := []) hE dX9_takeTerm_125 rfl ⟨rfl, h⟩
        · exact z_sub [0, 3] rfl (hJ_15 h)
    · refine z_aload_n hE dX9_takeTerm_67 rfl 0 rfl ?_
      refine z_aload_n hE dX9_takeTerm_68 rfl 0 rfl ?_
      refine z_getI hE dX9_takeTerm_69 lF_X9_32 sX_23 rfl ?_
      refine z_put hE dX9_takeTerm_72 lF_X9_29 sX_23 rfl rfl rfl ?_
      refine zn (G := fun μ_18 => zZ E (zzV Φ) 75 [(0, .ref 23), (1, .ref k1), (2, .int a2), (3, .int v3_1), (4, .int v4_6), (5, .int v5_7)] [] μ_18) h (fun μ_18 h => ?_)
      exact z_vret (st := []) hE dX9_takeTerm_75 rfl ⟨rfl, h⟩
  refine z_icmp_ne (tgt := 59) hE dX9_takeTerm_24 (by decide) h (fun h => ?_) (fun h => ?_)
  · exact z_sub [3, 4, 5, 2, 1, 0] rfl (hJ_9 _ _ _ h)
  · refine z_aload_n hE dX9_takeTerm_27 rfl 3 rfl ?_
    refine z_getI hE dX9_takeTerm_28 lF_X9_32 sX_23 rfl ?_
    refine z_iload_n hE dX9_takeTerm_31 rfl 2 rfl ?_
    refine z_join (P := fun (J_20 : Int32 → Prop) => ∀ (x_19 : Int32), J_20 x_19 → zZ E (zzV Φ) 41 [(0, .ref 23), (1, .ref k1), (2, .int a2), (3, .int v3_1)] [.int x_19] μ_3) h (fun x_19 h => ?_) (fun J_20 hJ_20 h => ?_)
    · refine z_istore (lv' := [(4, .int x_19), (0, .ref 23), (1, .ref k1), (2, .int a2), (3, .int v3_1)]) hE dX9_takeTerm_41 (by decide) rfl ?_
      refine z_aload_n hE dX9_takeTerm_43 rfl 1 rfl ?_
      refine z_dup hE dX9_takeTerm_44 rfl ?_
      refine z_getI hE dX9_takeTerm_45 lF_X9_32 sX_23 rfl ?_
      refine z_iconst (v := 1) hE dX9_takeTerm_48 zv_i_1 ?_
      refine z_iadd hE dX9_takeTerm_49 ?_
      refine z_put hE dX9_takeTerm_50 lF_X9_32 sX_23 rfl rfl rfl ?_
      refine zn (G := fun μ_21 => zZ E (zzV Φ) 53 [(4, .int x_19), (0, .ref 23), (1, .ref k1), (2, .int a2), (3, .int v3_1)] [] μ_21) h (fun μ_21 h => ?_)
      refine z_aload_n hE dX9_takeTerm_53 rfl 1 rfl ?_
      refine z_callV hE dX9_takeTerm_54 lV_X9_61 (c_X9_takePower  μ_21 _ h) sX_23 rfl (Nat.le_of_ble_eq_true rfl) (by decide) rfl (zk_I (fun r_22 μ_23 h => ?_))
      refine z_istore (lv' := [(5, .int r_22), (4, .int x_19), (0, .ref 23), (1, .ref k1), (2, .int a2), (3, .int v3_1)]) hE dX9_takeTerm_57 (by decide) rfl ?_
      exact z_sub [2, 3, 4, 5, 1, 0] rfl (hJ_9 _ _ _ h)
    refine z_icmp_ne (tgt := 39) hE dX9_takeTerm_32 (by decide) h (fun h => ?_) (fun h => ?_)
    · refine z_iload hE dX9_takeTerm_39 1 rfl ?_
      exact z_sub [3, 4, 5, 2] rfl (hJ_20 _ h)
    · refine z_iconst (v := 1) hE dX9_takeTerm_35 zv_i_1 ?_
      refine z_goto (tgt := 41) hE dX9_takeTerm_36 (by decide) ?_
      exact z_sub [3, 4, 5, 2] rfl (hJ_20 _ h)
set_option maxRecDepth 4000 in
theorem c_X0_build (k1 n1 : Nat) (h1 : SX[k1]? = some (2, n1, [])) (μ : ZMem) (Φ : Int32 → ZMem → Prop) (h : w_X0_build k1 n1 μ Φ) : zM SX yX0_build cX0_build 3 (some FieldType.boolean) 3 [.ref 40, .ref k1] μ (zzI Φ) := by
  refine zM_go (own := RX0) rfl (by decide) (Nat.le_of_ble_eq_true rfl) (fun E hE => ?_)
  show zZ E (zzI Φ) 0 [(0, .ref 40), (1, .ref k1)] [] μ
  unfold w_X0_build at h
  refine z_aload_n hE dX0_build_0 rfl 0 rfl ?_
  refine z_iconst (v := 0) hE dX0_build_1 zv_i_0 ?_
  refine z_put hE dX0_build_2 lF_X0_20 sX_40 rfl rfl rfl ?_
  refine zn (G := fun μ_1 => zZ E (zzI Φ) 5 [(0, .ref 40), (1, .ref k1)] [] μ_1) h (fun μ_1 h => ?_)
  refine z_aload_n hE dX0_build_5 rfl 0 rfl ?_
  refine z_iconst (v := 0) hE dX0_build_6 zv_i_0 ?_
  refine z_put hE dX0_build_7 lF_X0_24 sX_40 rfl (by decide) (by decide) ?_
  refine zn (G := fun μ_2 => zZ E (zzI Φ) 10 [(0, .ref 40), (1, .ref k1)] [] μ_2) h (fun μ_2 h => ?_)
  refine z_aload_n hE dX0_build_10 rfl 1 rfl ?_
  refine z_callS hE dX0_build_11 lS_X0_28 (c_X4_highest _ _ h1 μ_2 _ h) rfl (Nat.le_of_ble_eq_true rfl) (by decide) rfl (zk_PI (fun r_3 h => ?_))
  refine z_iconst (v := 1) hE dX0_build_14 zv_i_1 ?_
  refine z_icmp_ge (tgt := 20) hE dX0_build_15 (by decide) h (fun h => ?_) (fun h => ?_)
  · refine z_aload_n hE dX0_build_20 rfl 0 rfl ?_
    refine z_aload_n hE dX0_build_21 rfl 1 rfl ?_
    refine z_iconst (v := 1) hE dX0_build_22 zv_i_1 ?_
    refine z_callV hE dX0_build_23 lV_X0_34 (c_X0_append _ _ _ h1 μ_2 _ h) sX_40 rfl (Nat.le_of_ble_eq_true rfl) (by decide) rfl (zk_V (fun μ_6 h => ?_))
    refine z_iconst (v := 0) hE dX0_build_26 zv_i_0 ?_
    refine z_istore_n (lv' := [(2, .int (0 : Int32)), (0, .ref 40), (1, .ref k1)]) hE dX0_build_27 rfl (by decide) rfl ?_
    refine z_join (P := fun (J_8 : ZMem → Prop) => ∀ (μ_7 : ZMem), J_8 μ_7 → zZ E (zzI Φ) 68 [(0, .ref 40)] [] μ_7) h (fun μ_7 h => ?_) (fun J_8 hJ_8 h => ?_)
    · refine z_aload_n hE dX0_build_68 rfl 0 rfl ?_
      refine z_aload_n hE dX0_build_69 rfl 0 rfl ?_
      refine z_getR (t := 49) hE dX0_build_70 lF_X0_16 sX_40 rfl ?_
      refine z_iconst (v := 1) hE dX0_build_73 zv_i_1 ?_
      refine z_callV hE dX0_build_74 lV_X0_34 (c_X0_append _ _ _ sX_49 μ_7 _ h) sX_40 rfl (Nat.le_of_ble_eq_true rfl) (by decide) rfl (zk_V (fun μ_10 h => ?_))
      refine z_iconst (v := 2) hE dX0_build_77 zv_i_2 ?_
      refine z_istore_n (lv' := [(2, .int (2 : Int32)), (0, .ref 40)]) hE dX0_build_78 rfl (by decide) rfl ?_
      refine z_sub [1, 0] rfl ?_
      obtain ⟨n79, h⟩ := h
      refine z_loop2 (P := fun (v2_11 : Int32) (μ_12 : ZMem) => zZ E (zzI Φ) 79 [(0, .ref 40), (2, .int v2_11)] [] μ_12) (fun k79_12 hk79_12 v2_11 μ_12 h => ?_) n79 _ _ h
      refine z_iload_n hE dX0_build_79 rfl 1 rfl ?_
      refine z_bipush (v := 7) hE dX0_build_80 zv_b_7 ?_
      refine z_icmp_ge (tgt := 139) hE dX0_build_82 (by decide) h (fun h => ?_) (fun h => ?_)
      · refine z_iconst (v := 1) hE dX0_build_139 zv_i_1 ?_
        exact z_zret (st := []) hE dX0_build_140 rfl (by decide) ⟨_, rfl, h⟩
      · refine z_aload_n hE dX0_build_85 rfl 0 rfl ?_
        refine z_aload_n hE dX0_build_86 rfl 0 rfl ?_
        refine z_getR (t := 41) hE dX0_build_87 lF_X0_11 sX_40 rfl ?_
        refine z_iload_n hE dX0_build_90 rfl 1 rfl ?_
        refine z_iconst (v := 2) hE dX0_build_91 zv_i_2 ?_
        refine z_isub hE dX0_build_92 ?_
        obtain ⟨q_13, h⟩ := h
        refine z_aald1 hE dX0_build_93 sX_41 (fun _ => rfl) rfl q_13 ?_
        refine z_aload_n hE dX0_build_94 rfl 0 rfl ?_
        refine z_getR (t := 41) hE dX0_build_95 lF_X0_11 sX_40 rfl ?_
        refine z_iload_n hE dX0_build_98 rfl 1 rfl ?_
        refine z_iconst (v := 1) hE dX0_build_99 zv_i_1 ?_
        refine z_isub hE dX0_build_100 ?_
        obtain ⟨q_14, h⟩ := h
        refine z_aald1 hE dX0_build_101 sX_41 (fun _ => rfl) rfl q_14 ?_
        refine z_callV hE dX0_build_102 lV_X0_38 (c_X0_divide _ _ _ _ (sXr_42 _ (zz_in_lt q_13)) (sXr_42 _ (zz_in_lt q_14)) μ_12 _ h) sX_40 rfl (Nat.le_of_ble_eq_true rfl) (by decide) rfl (zk_V (fun μ_16 h => ?_))
        refine z_aload_n hE dX0_build_105 rfl 0 rfl ?_
        refine z_getI hE dX0_build_106 lF_X0_24 sX_40 rfl ?_
        refine z_if_ne (tgt := 122) hE dX0_build_109 (by decide) h (fun h => ?_) (fun h => ?_)
        · refine z_iconst (v := 1) hE dX0_build_122 zv_i_1 ?_
          exact z_zret (st := []) hE dX0_build_123 rfl (by decide) ⟨_, rfl, h⟩
        · refine z_aload_n hE dX0_build_112 rfl 0 rfl ?_
          refine z_getR (t := 49) hE dX0_build_113 lF_X0_16 sX_40 rfl ?_
          refine z_callS hE dX0_build_116 lS_X0_28 (c_X4_highest _ _ sX_49 μ_16 _ h) rfl (Nat.le_of_ble_eq_true rfl) (by decide) rfl (zk_PI (fun r_17 h => ?_))
          refine z_if_ge (tgt := 124) hE dX0_build_119 (by decide) h (fun h => ?_) (fun h => ?_)
          · refine z_aload_n hE dX0_build_124 rfl 0 rfl ?_
            refine z_aload_n hE dX0_build_125 rfl 0 rfl ?_
            refine z_getR (t := 49) hE dX0_build_126 lF_X0_16 sX_40 rfl ?_
            refine z_iconst (v := -1) hE dX0_build_129 zv_i_m1 ?_
            refine z_callV hE dX0_build_130 lV_X0_34 (c_X0_append _ _ _ sX_49 μ_16 _ h) sX_40 rfl (Nat.le_of_ble_eq_true rfl) (by decide) rfl (zk_V (fun μ_20 h => ?_))
            refine z_iinc (j := 1) (c := 1) (lv' := [(2, .int (v2_11 + (1 : Int32))), (0, .ref 40)]) hE dX0_build_133 rfl zv_i_1 (by decide) rfl ?_
            refine z_goto (tgt := 79) hE dX0_build_136 (by decide) ?_
            exact z_sub [1, 0] rfl (hk79_12 _ _ h)
          · refine z_iconst (v := 1) hE dX0_build_122 zv_i_1 ?_
            exact z_zret (st := []) hE dX0_build_123 rfl (by decide) ⟨_, rfl, h⟩
    refine z_sub [1, 2, 0] rfl ?_
    obtain ⟨n28, h⟩ := h
    refine z_loop2 (P := fun (v2_21 : Int32) (μ_22 : ZMem) => zZ E (zzI Φ) 28 [(0, .ref 40), (1, .ref k1), (2, .int v2_21)] [] μ_22) (fun k28_22 hk28_22 v2_21 μ_22 h => ?_) n28 _ _ h
    refine z_iload_n hE dX0_build_28 rfl 2 rfl ?_
    refine z_bipush (v := 7) hE dX0_build_29 zv_b_7 ?_
    refine z_icmp_ge (tgt := 68) hE dX0_build_31 (by decide) h (fun h => ?_) (fun h => ?_)
    · exact z_sub [0] rfl (hJ_8 _ h)
    · refine z_aload_n hE dX0_build_34 rfl 0 rfl ?_
      refine z_getR (t := 49) hE dX0_build_35 lF_X0_16 sX_40 rfl ?_
      refine z_iload_n hE dX0_build_38 rfl 2 rfl ?_
      refine z_iload_n hE dX0_build_39 rfl 2 rfl ?_
      refine z_iconst (v := 1) hE dX0_build_40 zv_i_1 ?_
      refine z_iadd hE dX0_build_41 ?_
      refine z_bipush (v := 7) hE dX0_build_42 zv_b_7 ?_
      refine z_join (P := fun (J_24 : Int64 → Prop) => ∀ (x_23 : Int64), J_24 x_23 → zZ E (zzI Φ) 61 [(0, .ref 40), (1, .ref k1), (2, .int v2_21)] [.long x_23, .int v2_21, .ref 49] μ_22) h (fun x_23 h => ?_) (fun J_24 hJ_24 h => ?_)
      · obtain ⟨q_25, h⟩ := h
        refine z_last hE dX0_build_61 sX_49 q_25 ?_
        refine zn (G := fun μ_26 => zZ E (zzI Φ) 62 [(0, .ref 40), (1, .ref k1), (2, .int v2_21)] [] μ_26) h (fun μ_26 h => ?_)
        refine z_iinc (j := 2) (c := 1) (lv' := [(2, .int (v2_21 + (1 : Int32))), (0, .ref 40), (1, .ref k1)]) hE dX0_build_62 rfl zv_i_1 (by decide) rfl ?_
        refine z_goto (tgt := 28) hE dX0_build_65 (by decide) ?_
        exact z_sub [1, 2, 0] rfl (hk28_22 _ _ h)
      refine z_icmp_ge (tgt := 60) hE dX0_build_44 (by decide) h (fun h => ?_) (fun h => ?_)
      · refine z_lconst (v := 0) hE dX0_build_60 zv_l_0 ?_
        exact hJ_24 _ h
      · refine z_iload_n hE dX0_build_47 rfl 2 rfl ?_
        refine z_iconst (v := 1) hE dX0_build_48 zv_i_1 ?_
        refine z_iadd hE dX0_build_49 ?_
        refine z_i2l hE dX0_build_50 ?_
        refine z_aload_n hE dX0_build_51 rfl 1 rfl ?_
        refine z_iload_n hE dX0_build_52 rfl 2 rfl ?_
        refine z_iconst (v := 1) hE dX0_build_53 zv_i_1 ?_
        refine z_iadd hE dX0_build_54 ?_
        obtain ⟨q_27, h⟩ := h
        refine z_lald hE dX0_build_55 h1 q_27 ?_
        refine z_lmul hE dX0_build_56 ?_
        refine z_goto (tgt := 61) hE dX0_build_57 (by decide) ?_
        exact hJ_24 _ h
  · refine z_iconst (v := 0) hE dX0_build_18 zv_i_0 ?_
    exact z_zret (st := []) hE dX0_build_19 rfl (by decide) ⟨_, rfl, h⟩
set_option maxRecDepth 4000 in
theorem c_X11_degree (a1 : Int32) (a2 : Int32) (μ : ZMem) (Φ : Int32 → ZMem → Prop) (h : w_X11_degree a1 a2 μ Φ) : zM SX yX11_degree cX11_degree 3 (some FieldType.int) 3 [.ref 0, .int a1, .int a2] μ (zzI Φ) := by
  refine zM_go (own := RX11) rfl (by decide) (Nat.le_of_ble_eq_true rfl) (fun E hE => ?_)
  show zZ E (zzI Φ) 0 [(0, .ref 0), (1, .int a1), (2, .int a2)] [] μ
  unfold w_X11_degree at h
  refine z_iload_n hE dX11_degree_0 rfl 1 rfl ?_
  refine z_callS hE dX11_degree_1 lS_X11_132 (c_X11_isForm _ μ _ h) rfl (Nat.le_of_ble_eq_true rfl) (by decide) rfl (zk_PI (fun r_1 h => ?_))
  refine z_if_eq (tgt := 16) hE dX11_degree_4 (by decide) h (fun h => ?_) (fun h => ?_)
  · refine z_bipush (v := -2) hE dX11_degree_16 zv_b_m2 ?_
    exact z_iret (st := []) hE dX11_degree_18 rfl ⟨_, rfl, h⟩
  · refine z_iload_n hE dX11_degree_7 rfl 2 rfl ?_
    refine z_if_lt (tgt := 16) hE dX11_degree_8 (by decide) h (fun h => ?_) (fun h => ?_)
    · refine z_bipush (v := -2) hE dX11_degree_16 zv_b_m2 ?_
      exact z_iret (st := []) hE dX11_degree_18 rfl ⟨_, rfl, h⟩
    · refine z_iload_n hE dX11_degree_11 rfl 2 rfl ?_
      refine z_iconst (v := 1) hE dX11_degree_12 zv_i_1 ?_
      refine z_icmp_le (tgt := 19) hE dX11_degree_13 (by decide) h (fun h => ?_) (fun h => ?_)
      · refine z_aload_n hE dX11_degree_19 rfl 0 rfl ?_
        refine z_getR (t := 28) hE dX11_degree_20 lF_X11_37 sX_0 rfl ?_
        refine z_aload_n hE dX11_degree_23 rfl 0 rfl ?_
        refine z_callV hE dX11_degree_24 lV_X11_98 (c_X11_currentC  μ _ h) sX_0 rfl (Nat.le_of_ble_eq_true rfl) (by decide) rfl (zk_R (fun r_3 μ_4 h => ?_))
        obtain ⟨er_3, h⟩ := h
        refine z_iload_n hE dX11_degree_27 rfl 1 rfl ?_
        refine z_callV hE dX11_degree_28 lV_X11_135 (c_X8_shape _ _ _ _ zcX_28 er_3 μ_4 _ h) sX_28 rfl (Nat.le_of_ble_eq_true rfl) (by decide) rfl (zk_V (fun μ_6 h => ?_))
        refine z_iload_n hE dX11_degree_31 rfl 2 rfl ?_
        refine z_if_ne (tgt := 45) hE dX11_degree_32 (by decide) h (fun h => ?_) (fun h => ?_)
        · refine z_aload_n hE dX11_degree_45 rfl 0 rfl ?_
          refine z_getR (t := 28) hE dX11_degree_46 lF_X11_37 sX_0 rfl ?_
          refine z_getI hE dX11_degree_49 lF_X11_145 sX_28 rfl ?_
          exact z_iret (st := []) hE dX11_degree_52 rfl ⟨_, rfl, h⟩
        · refine z_aload_n hE dX11_degree_35 rfl 0 rfl ?_
          refine z_getR (t := 28) hE dX11_degree_36 lF_X11_37 sX_0 rfl ?_
          refine z_getI hE dX11_degree_39 lF_X11_142 sX_28 rfl ?_
          refine z_goto (tgt := 52) hE dX11_degree_42 (by decide) ?_
          exact z_iret (st := []) hE dX11_degree_52 rfl ⟨_, rfl, h⟩
      · refine z_bipush (v := -2) hE dX11_degree_16 zv_b_m2 ?_
        exact z_iret (st := []) hE dX11_degree_18 rfl ⟨_, rfl, h⟩
set_option maxRecDepth 4000 in
theorem c_X11_factored (a1 : Int32) (a2 : Int32) (μ : ZMem) (Φ : Int32 → ZMem → Prop) (h : w_X11_factored a1 a2 μ Φ) : zM SX yX11_factored cX11_factored 4 (some FieldType.int) 3 [.ref 0, .int a1, .int a2] μ (zzI Φ) := by
  refine zM_go (own := RX11) rfl (by decide) (Nat.le_of_ble_eq_true rfl) (fun E hE => ?_)
  show zZ E (zzI Φ) 0 [(0, .ref 0), (1, .int a1), (2, .int a2)] [] μ
  unfold w_X11_factored at h
  refine z_iload_n hE dX11_factored_0 rfl 1 rfl ?_
  refine z_if_lt (tgt := 25) hE dX11_factored_1 (by decide) h (fun h => ?_) (fun h => ?_)
  · refine z_iconst (v := -1) hE dX11_factored_25 zv_i_m1 ?_
    exact z_iret (st := []) hE dX11_factored_26 rfl ⟨_, rfl, h⟩
  · refine z_iload_n hE dX11_factored_4 rfl 1 rfl ?_
    refine z_aload_n hE dX11_factored_5 rfl 0 rfl ?_
    refine z_getR (t := 1) hE dX11_factored_6 lF_X11_14 sX_0 rfl ?_
    refine z_getI hE dX11_factored_9 lF_X11_252 sX_1 rfl ?_
    refine z_icmp_ge (tgt := 25) hE dX11_factored_12 (by decide) h (fun h => ?_) (fun h => ?_)
    · refine z_iconst (v := -1) hE dX11_factored_25 zv_i_m1 ?_
      exact z_iret (st := []) hE dX11_factored_26 rfl ⟨_, rfl, h⟩
    · refine z_iload_n hE dX11_factored_15 rfl 2 rfl ?_
      refine z_if_lt (tgt := 25) hE dX11_factored_16 (by decide) h (fun h => ?_) (fun h => ?_)
      · refine z_iconst (v := -1) hE dX11_factored_25 zv_i_m1 ?_
        exact z_iret (st := []) hE dX11_factored_26 rfl ⟨_, rfl, h⟩
      · refine z_iload_n hE dX11_factored_19 rfl 2 rfl ?_
        refine z_bipush (v := 7) hE dX11_factored_20 zv_b_7 ?_
        refine z_icmp_le (tgt := 27) hE dX11_factored_22 (by decide) h (fun h => ?_) (fun h => ?_)
        · refine z_aload_n hE dX11_factored_27 rfl 0 rfl ?_
          refine z_getR (t := 1) hE dX11_factored_28 lF_X11_14 sX_0 rfl ?_
          refine z_getR (t := 5) hE dX11_factored_31 lF_X11_255 sX_1 rfl ?_
          refine z_iload_n hE dX11_factored_34 rfl 1 rfl ?_
          obtain ⟨q_1, h⟩ := h
          refine z_aald1 hE dX11_factored_35 sX_5 (fun _ => rfl) rfl q_1 ?_
          refine z_astore_n (lv' := [(3, .ref (6 + (Int32.toNatClampNeg a1))), (0, .ref 0), (1, .int a1), (2, .int a2)]) hE dX11_factored_36 rfl (by decide) rfl ?_
          refine z_iload_n hE dX11_factored_37 rfl 3 rfl ?_
          obtain ⟨g38_0, g38_1, g38_2, g38_3, g38_4, g38_5, g38_6, gd_38⟩ := h
          by_cases c38_0 : a2 = (0 : Int32)
          · have h := g38_0 c38_0
            refine z_swIn (tgt := 80) hE dX11_factored_38 (by rw [c38_0]; decide) (by rw [c38_0]; decide) (by rw [c38_0]; rfl) (by decide) ?_
            refine z_aload_n hE dX11_factored_80 rfl 0 rfl ?_
            refine z_getI hE dX11_factored_81 lF_X11_265 (sXr_6 _ (zz_in_lt q_1)) rfl ?_
            exact z_iret (st := []) hE dX11_factored_84 rfl ⟨_, rfl, h⟩
          by_cases c38_1 : a2 = (1 : Int32)
          · have h := g38_1 c38_1
            refine z_swIn (tgt := 85) hE dX11_factored_38 (by rw [c38_1]; decide) (by rw [c38_1]; decide) (by rw [c38_1]; rfl) (by decide) ?_
            refine z_aload_n hE dX11_factored_85 rfl 0 rfl ?_
            refine z_getI hE dX11_factored_86 lF_X11_268 (sXr_6 _ (zz_in_lt q_1)) rfl ?_
            refine z_bipush (v := 100) hE dX11_factored_89 zv_b_100 ?_
            refine z_iadd hE dX11_factored_91 ?_
            exact z_iret (st := []) hE dX11_factored_92 rfl ⟨_, rfl, h⟩
          by_cases c38_2 : a2 = (2 : Int32)
          · have h := g38_2 c38_2
            refine z_swIn (tgt := 93) hE dX11_factored_38 (by rw [c38_2]; decide) (by rw [c38_2]; decide) (by rw [c38_2]; rfl) (by decide) ?_
            refine z_aload_n hE dX11_factored_93 rfl 0 rfl ?_
            refine z_callV hE dX11_factored_94 lV_X11_271 (c_X2_size _ (sXr_6 _ (zz_in_lt q_1)) μ _ h) (sXr_6 _ (zz_in_lt q_1)) rfl (Nat.le_of_ble_eq_true rfl) (by decide) rfl (zk_PI (fun r_2 h => ?_))
            refine z_iconst (v := 1) hE dX11_factored_97 zv_i_1 ?_
            refine z_icmp_ne (tgt := 105) hE dX11_factored_98 (by decide) h (fun h => ?_) (fun h => ?_)
            · refine z_aload_n hE dX11_factored_105 rfl 0 rfl ?_
              refine z_getI hE dX11_factored_106 lF_X11_273 (sXr_6 _ (zz_in_lt q_1)) rfl ?_
              refine z_bipush (v := 100) hE dX11_factored_109 zv_b_100 ?_
              refine z_iadd hE dX11_factored_111 ?_
              exact z_iret (st := []) hE dX11_factored_112 rfl ⟨_, rfl, h⟩
            · refine z_iconst (v := -1) hE dX11_factored_101 zv_i_m1 ?_
              refine z_goto (tgt := 112) hE dX11_factored_102 (by decide) ?_
              exact z_iret (st := []) hE dX11_factored_112 rfl ⟨_, rfl, h⟩
          by_cases c38_3 : a2 = (3 : Int32)
          · have h := g38_3 c38_3
            refine z_swIn (tgt := 113) hE dX11_factored_38 (by rw [c38_3]; decide) (by rw [c38_3]; decide) (by rw [c38_3]; rfl) (by decide) ?_
            refine z_aload_n hE dX11_factored_113 rfl 0 rfl ?_
            refine z_callV hE dX11_factored_114 lV_X11_271 (c_X2_size _ (sXr_6 _ (zz_in_lt q_1)) μ _ h) (sXr_6 _ (zz_in_lt q_1)) rfl (Nat.le_of_ble_eq_true rfl) (by decide) rfl (zk_PI (fun r_4 h => ?_))
            exact z_iret (st := []) hE dX11_factored_117 rfl ⟨_, rfl, h⟩
          by_cases c38_4 : a2 = (4 : Int32)
          · have h := g38_4 c38_4
            refine z_swIn (tgt := 118) hE dX11_factored_38 (by rw [c38_4]; decide) (by rw [c38_4]; decide) (by rw [c38_4]; rfl) (by decide) ?_
            refine z_aload_n hE dX11_factored_118 rfl 0 rfl ?_
            refine z_callV hE dX11_factored_119 lV_X11_276 (c_X2_rightCount _ (sXr_6 _ (zz_in_lt q_1)) μ _ h) (sXr_6 _ (zz_in_lt q_1)) rfl (Nat.le_of_ble_eq_true rfl) (by decide) rfl (zk_PI (fun r_6 h => ?_))
            exact z_iret (st := []) hE dX11_factored_122 rfl ⟨_, rfl, h⟩
          by_cases c38_5 : a2 = (5 : Int32)
          · have h := g38_5 c38_5
            refine z_swIn (tgt := 123) hE dX11_factored_38 (by rw [c38_5]; decide) (by rw [c38_5]; decide) (by rw [c38_5]; rfl) (by decide) ?_
            refine z_aload_n hE dX11_factored_123 rfl 0 rfl ?_
            refine z_callV hE dX11_factored_124 lV_X11_277 (c_X2_axisCount _ (sXr_6 _ (zz_in_lt q_1)) μ _ h) (sXr_6 _ (zz_in_lt q_1)) rfl (Nat.le_of_ble_eq_true rfl) (by decide) rfl (zk_PI (fun r_8 h => ?_))
            exact z_iret (st := []) hE dX11_factored_127 rfl ⟨_, rfl, h⟩
          by_cases c38_6 : a2 = (6 : Int32)
          · have h := g38_6 c38_6
            refine z_swIn (tgt := 128) hE dX11_factored_38 (by rw [c38_6]; decide) (by rw [c38_6]; decide) (by rw [c38_6]; rfl) (by decide) ?_
            refine z_aload_n hE dX11_factored_128 rfl 0 rfl ?_
            refine z_callV hE dX11_factored_129 lV_X11_278 (c_X2_leftCount _ (sXr_6 _ (zz_in_lt q_1)) μ _ h) (sXr_6 _ (zz_in_lt q_1)) rfl (Nat.le_of_ble_eq_true rfl) (by decide) rfl (zk_PI (fun r_10 h => ?_))
            exact z_iret (st := []) hE dX11_factored_132 rfl ⟨_, rfl, h⟩
          have h := gd_38 c38_0 c38_1 c38_2 c38_3 c38_4 c38_5 c38_6
          refine z_swOut (tgt := 133) hE dX11_factored_38 (by have e0 := lv_neT c38_0 (a := 0) (by decide); have e1 := lv_neT c38_1 (a := 1) (by decide); have e2 := lv_neT c38_2 (a := 2) (by decide); have e3 := lv_neT c38_3 (a := 3) (by decide); have e4 := lv_neT c38_4 (a := 4) (by decide); have e5 := lv_neT c38_5 (a := 5) (by decide); have e6 := lv_neT c38_6 (a := 6) (by decide); show _ < (0 : Int) ∨ (6 : Int) < _; omega) (by decide) ?_
          refine z_aload_n hE dX11_factored_133 rfl 0 rfl ?_
          refine z_aload_n hE dX11_factored_134 rfl 1 rfl ?_
          refine z_callV hE dX11_factored_135 lV_X11_98 (c_X11_currentC  μ _ h) sX_0 rfl (Nat.le_of_ble_eq_true rfl) (by decide) rfl (zk_R (fun r_12 μ_13 h => ?_))
          obtain ⟨er_12, h⟩ := h
          refine z_callV hE dX11_factored_138 lV_X11_279 (c_X2_timesWithin _ _ _ (sXr_6 _ (zz_in_lt q_1)) er_12 μ_13 _ h) (sXr_6 _ (zz_in_lt q_1)) rfl (Nat.le_of_ble_eq_true rfl) (by decide) rfl (zk_I (fun r_14 μ_15 h => ?_))
          exact z_iret (st := []) hE dX11_factored_141 rfl ⟨_, rfl, h⟩
        · refine z_iconst (v := -1) hE dX11_factored_25 zv_i_m1 ?_
          exact z_iret (st := []) hE dX11_factored_26 rfl ⟨_, rfl, h⟩
set_option maxRecDepth 4000 in
theorem c_X11_form (a1 : Int32) (a2 : Int32) (μ : ZMem) (Φ : Int64 → ZMem → Prop) (h : w_X11_form a1 a2 μ Φ) : zM SX yX11_form cX11_form 3 (some FieldType.long) 3 [.ref 0, .int a1, .int a2] μ (zzJ Φ) := by
  refine zM_go (own := RX11) rfl (by decide) (Nat.le_of_ble_eq_true rfl) (fun E hE => ?_)
  show zZ E (zzJ Φ) 0 [(0, .ref 0), (1, .int a1), (2, .int a2)] [] μ
  unfold w_X11_form at h
  refine z_iload_n hE dX11_form_0 rfl 1 rfl ?_
  refine z_callS hE dX11_form_1 lS_X11_132 (c_X11_isForm _ μ _ h) rfl (Nat.le_of_ble_eq_true rfl) (by decide) rfl (zk_PI (fun r_1 h => ?_))
  refine z_if_eq (tgt := 14) hE dX11_form_4 (by decide) h (fun h => ?_) (fun h => ?_)
  · refine z_ldc2 (v := -9223372036854775808) hE dX11_form_14 lK_X11_90 ?_
    exact z_lret (st := []) hE dX11_form_17 rfl ⟨_, rfl, h⟩
  · refine z_iload_n hE dX11_form_7 rfl 2 rfl ?_
    refine z_callS hE dX11_form_8 lS_X11_82 (c_X11_isPower _ μ _ h) rfl (Nat.le_of_ble_eq_true rfl) (by decide) rfl (zk_PI (fun r_3 h => ?_))
    refine z_if_ne (tgt := 18) hE dX11_form_11 (by decide) h (fun h => ?_) (fun h => ?_)
    · refine z_aload_n hE dX11_form_18 rfl 0 rfl ?_
      refine z_getR (t := 28) hE dX11_form_19 lF_X11_37 sX_0 rfl ?_
      refine z_aload_n hE dX11_form_22 rfl 0 rfl ?_
      refine z_callV hE dX11_form_23 lV_X11_98 (c_X11_currentC  μ _ h) sX_0 rfl (Nat.le_of_ble_eq_true rfl) (by decide) rfl (zk_R (fun r_5 μ_6 h => ?_))
      obtain ⟨er_5, h⟩ := h
      refine z_iload_n hE dX11_form_26 rfl 1 rfl ?_
      refine z_callV hE dX11_form_27 lV_X11_135 (c_X8_shape _ _ _ _ zcX_28 er_5 μ_6 _ h) sX_28 rfl (Nat.le_of_ble_eq_true rfl) (by decide) rfl (zk_V (fun μ_8 h => ?_))
      refine z_aload_n hE dX11_form_30 rfl 0 rfl ?_
      refine z_getR (t := 28) hE dX11_form_31 lF_X11_37 sX_0 rfl ?_
      refine z_getR (t := 29) hE dX11_form_34 lF_X11_139 sX_28 rfl ?_
      refine z_iload_n hE dX11_form_37 rfl 2 rfl ?_
      obtain ⟨q_9, h⟩ := h
      refine z_lald hE dX11_form_38 sX_29 q_9 ?_
      exact z_lret (st := []) hE dX11_form_39 rfl ⟨_, rfl, h⟩
    · refine z_ldc2 (v := -9223372036854775808) hE dX11_form_14 lK_X11_90 ?_
      exact z_lret (st := []) hE dX11_form_17 rfl ⟨_, rfl, h⟩
