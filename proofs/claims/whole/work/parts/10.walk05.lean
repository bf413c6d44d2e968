set_option maxRecDepth 4000 in
theorem c_X6_survey (t : Nat) (h0 : zT_Spans t) (μ : ZMem) (Φ : ZMem → Prop) (h : w_X6_survey t μ Φ) : zM SX yX6_survey cX6_survey 6 (none) 4 [.ref t, .ref 1, .ref 50] μ (zzV Φ) := by
  refine zM_go (own := RX6) rfl (by decide) (Nat.le_of_ble_eq_true rfl) (fun E hE => ?_)
  show zZ E (zzV Φ) 0 [(0, .ref t), (1, .ref 1), (2, .ref 50)] [] μ
  unfold w_X6_survey at h
  refine z_aload_n hE dX6_survey_0 rfl 0 rfl ?_
  refine z_getI hE dX6_survey_1 lF_X6_22 h0.1 rfl ?_
  refine z_if_eq (tgt := 8) hE dX6_survey_4 (by decide) h (fun h => ?_) (fun h => ?_)
  · refine z_aload_n hE dX6_survey_8 rfl 0 rfl ?_
    refine z_iconst (v := 0) hE dX6_survey_9 zv_i_0 ?_
    refine z_put hE dX6_survey_10 lF_X6_26 h0.1 rfl rfl rfl ?_
    refine zn (G := fun μ_1 => zZ E (zzV Φ) 13 [(0, .ref t), (1, .ref 1), (2, .ref 50)] [] μ_1) h (fun μ_1 h => ?_)
    refine z_iconst (v := 0) hE dX6_survey_13 zv_i_0 ?_
    refine z_istore_n (lv' := [(3, .int (0 : Int32)), (0, .ref t), (1, .ref 1), (2, .ref 50)]) hE dX6_survey_14 rfl (by decide) rfl ?_
    refine z_bipush (v := -100) hE dX6_survey_15 zv_b_m100 ?_
    refine z_istore (lv' := [(4, .int (-100 : Int32)), (3, .int (0 : Int32)), (0, .ref t), (1, .ref 1), (2, .ref 50)]) hE dX6_survey_17 (by decide) rfl ?_
    refine z_join (P := fun (J_3 : ZMem → Prop) => ∀ (μ_2 : ZMem), J_3 μ_2 → zZ E (zzV Φ) 113 [(0, .ref t)] [] μ_2) h (fun μ_2 h => ?_) (fun J_3 hJ_3 h => ?_)
    · refine z_aload_n hE dX6_survey_113 rfl 0 rfl ?_
      refine z_iconst (v := 1) hE dX6_survey_114 zv_i_1 ?_
      refine z_put hE dX6_survey_115 lF_X6_22 h0.1 rfl (by decide) (by decide) ?_
      refine zn (G := fun μ_4 => zZ E (zzV Φ) 118 [(0, .ref t)] [] μ_4) h (fun μ_4 h => ?_)
      exact z_vret (st := []) hE dX6_survey_118 rfl ⟨rfl, h⟩
    refine z_sub [2, 3, 4, 1, 0] rfl ?_
    obtain ⟨n19, h⟩ := h
    refine z_loop3 (P := fun (v3_5 : Int32) (v4_6 : Int32) (μ_7 : ZMem) => zZ E (zzV Φ) 19 [(0, .ref t), (1, .ref 1), (2, .ref 50), (3, .int v3_5), (4, .int v4_6)] [] μ_7) (fun k19_7 hk19_7 v3_5 v4_6 μ_7 h => ?_) n19 _ _ _ h
    refine z_iload hE dX6_survey_19 4 rfl ?_
    refine z_bipush (v := 100) hE dX6_survey_21 zv_b_100 ?_
    refine z_icmp_gt (tgt := 113) hE dX6_survey_23 (by decide) h (fun h => ?_) (fun h => ?_)
    · exact z_sub [0] rfl (hJ_3 _ h)
    · refine z_aload_n hE dX6_survey_26 rfl 2 rfl ?_
      refine z_aload_n hE dX6_survey_27 rfl 1 rfl ?_
      refine z_aload_n hE dX6_survey_28 rfl 0 rfl ?_
      refine z_getI hE dX6_survey_29 lF_X6_18 h0.1 rfl ?_
      refine z_iconst (v := 1) hE dX6_survey_32 zv_i_1 ?_
      refine z_iload hE dX6_survey_33 4 rfl ?_
      refine z_callV hE dX6_survey_35 lV_X6_29 (c_X7_holds _ _ _ μ_7 _ h) sX_50 rfl (Nat.le_of_ble_eq_true rfl) (by decide) rfl (zk_I (fun r_8 μ_9 h => ?_))
      refine z_istore (lv' := [(5, .int r_8), (0, .ref t), (1, .ref 1), (2, .ref 50), (3, .int v3_5), (4, .int v4_6)]) hE dX6_survey_38 (by decide) rfl ?_
      refine z_iload hE dX6_survey_40 0 rfl ?_
      refine z_join (P := fun (J_11 : ZMem → Prop) => ∀ (μ_10 : ZMem), J_11 μ_10 → zZ E (zzV Φ) 79 [(0, .ref t), (1, .ref 1), (2, .ref 50), (4, .int v4_6), (5, .int r_8)] [] μ_10) h (fun μ_10 h => ?_) (fun J_11 hJ_11 h => ?_)
      · refine z_iload hE dX6_survey_79 4 rfl ?_
        refine z_join (P := fun (J_13 : ZMem → Prop) => ∀ (μ_12 : ZMem), J_13 μ_12 → zZ E (zzV Φ) 104 [(0, .ref t), (1, .ref 1), (2, .ref 50), (4, .int v4_6), (5, .int r_8)] [] μ_12) h (fun μ_12 h => ?_) (fun J_13 hJ_13 h => ?_)
        · refine z_iload hE dX6_survey_104 4 rfl ?_
          refine z_istore_n (lv' := [(3, .int r_8), (0, .ref t), (1, .ref 1), (2, .ref 50), (4, .int v4_6), (5, .int r_8)]) hE dX6_survey_106 rfl (by decide) rfl ?_
          refine z_iinc (j := 4) (c := 1) (lv' := [(4, .int (v4_6 + (1 : Int32))), (3, .int r_8), (0, .ref t), (1, .ref 1), (2, .ref 50), (5, .int r_8)]) hE dX6_survey_107 rfl zv_i_1 (by decide) rfl ?_
          refine z_goto (tgt := 19) hE dX6_survey_110 (by decide) ?_
          exact z_sub [2, 3, 4, 1, 0] rfl (hk19_7 _ _ _ h)
        refine z_if_eq (tgt := 104) hE dX6_survey_81 (by decide) h (fun h => ?_) (fun h => ?_)
        · exact hJ_13 _ h
        · refine z_aload_n hE dX6_survey_84 rfl 0 rfl ?_
          refine z_getI hE dX6_survey_85 lF_X6_26 h0.1 rfl ?_
          refine z_if_le (tgt := 104) hE dX6_survey_88 (by decide) h (fun h => ?_) (fun h => ?_)
          · exact hJ_13 _ h
          · refine z_aload_n hE dX6_survey_91 rfl 0 rfl ?_
            refine z_getR (t := (t + 2)) hE dX6_survey_92 lF_X6_15 h0.1 rfl ?_
            refine z_aload_n hE dX6_survey_95 rfl 0 rfl ?_
            refine z_getI hE dX6_survey_96 lF_X6_26 h0.1 rfl ?_
            refine z_iconst (v := 1) hE dX6_survey_99 zv_i_1 ?_
            refine z_isub hE dX6_survey_100 ?_
            refine z_iload hE dX6_survey_101 3 rfl ?_
            obtain ⟨q_14, h⟩ := h
            refine z_iast hE dX6_survey_103 h0.2.2 q_14 ?_
            refine zn (G := fun μ_15 => zZ E (zzV Φ) 104 [(0, .ref t), (1, .ref 1), (2, .ref 50), (4, .int v4_6), (5, .int r_8)] [] μ_15) h (fun μ_15 h => ?_)
            exact hJ_13 _ h
      refine z_if_eq (tgt := 79) hE dX6_survey_42 (by decide) h (fun h => ?_) (fun h => ?_)
      · exact z_sub [1, 2, 3, 5, 0] rfl (hJ_11 _ h)
      · refine z_iload_n hE dX6_survey_45 rfl 4 rfl ?_
        refine z_if_ne (tgt := 79) hE dX6_survey_46 (by decide) h (fun h => ?_) (fun h => ?_)
        · exact z_sub [1, 2, 3, 5, 0] rfl (hJ_11 _ h)
        · refine z_aload_n hE dX6_survey_49 rfl 1 rfl ?_
          refine z_getI hE dX6_survey_50 lF_X6_26 h0.1 rfl ?_
          refine z_bipush (v := 101) hE dX6_survey_53 zv_b_101 ?_
          refine z_icmp_ge (tgt := 79) hE dX6_survey_55 (by decide) h (fun h => ?_) (fun h => ?_)
          · exact z_sub [1, 2, 3, 5, 0] rfl (hJ_11 _ h)
          · refine z_aload_n hE dX6_survey_58 rfl 1 rfl ?_
            refine z_getR (t := (t + 1)) hE dX6_survey_59 lF_X6_11 h0.1 rfl ?_
            refine z_aload_n hE dX6_survey_62 rfl 1 rfl ?_
            refine z_getI hE dX6_survey_63 lF_X6_26 h0.1 rfl ?_
            refine z_iload hE dX6_survey_66 5 rfl ?_
            obtain ⟨q_16, h⟩ := h
            refine z_iast hE dX6_survey_68 h0.2.1 q_16 ?_
            refine zn (G := fun μ_17 => zZ E (zzV Φ) 69 [(5, .int r_8), (0, .ref t), (1, .ref 1), (2, .ref 50), (3, .int v3_5), (4, .int v4_6)] [] μ_17) h (fun μ_17 h => ?_)
            refine z_aload_n hE dX6_survey_69 rfl 1 rfl ?_
            refine z_dup hE dX6_survey_70 rfl ?_
            refine z_getI hE dX6_survey_71 lF_X6_26 h0.1 rfl ?_
            refine z_iconst (v := 1) hE dX6_survey_74 zv_i_1 ?_
            refine z_iadd hE dX6_survey_75 ?_
            refine z_put hE dX6_survey_76 lF_X6_26 h0.1 rfl rfl rfl ?_
            refine zn (G := fun μ_18 => zZ E (zzV Φ) 79 [(5, .int r_8), (0, .ref t), (1, .ref 1), (2, .ref 50), (3, .int v3_5), (4, .int v4_6)] [] μ_18) h (fun μ_18 h => ?_)
            exact z_sub [1, 2, 3, 5, 0] rfl (hJ_11 _ h)
  · exact z_vret (st := []) hE dX6_survey_7 rfl ⟨rfl, h⟩
set_option maxRecDepth 4000 in
theorem c_X9_takeGained  (μ : ZMem) (Φ : ZMem → Prop) (h : w_X9_takeGained μ Φ) : zM SX yX9_takeGained cX9_takeGained 3 (none) 4 [.ref 23] μ (zzV Φ) := by
  refine zM_go (own := RX9) rfl (by decide) (Nat.le_of_ble_eq_true rfl) (fun E hE => ?_)
  show zZ E (zzV Φ) 0 [(0, .ref 23)] [] μ
  unfold w_X9_takeGained at h
  refine z_aload_n hE dX9_takeGained_0 rfl 0 rfl ?_
  refine z_aload_n hE dX9_takeGained_1 rfl 0 rfl ?_
  refine z_getI hE dX9_takeGained_2 lF_X9_32 sX_23 rfl ?_
  refine z_callV hE dX9_takeGained_5 lV_X9_39 (c_X9_signAt _ μ _ h) sX_23 rfl (Nat.le_of_ble_eq_true rfl) (by decide) rfl (zk_PI (fun r_1 h => ?_))
  refine z_istore_n (lv' := [(1, .int r_1), (0, .ref 23)]) hE dX9_takeGained_8 rfl (by decide) rfl ?_
  refine z_aload_n hE dX9_takeGained_9 rfl 1 rfl ?_
  refine z_dup hE dX9_takeGained_10 rfl ?_
  refine z_getI hE dX9_takeGained_11 lF_X9_32 sX_23 rfl ?_
  refine z_iconst (v := 2) hE dX9_takeGained_14 zv_i_2 ?_
  refine z_iadd hE dX9_takeGained_15 ?_
  refine z_put hE dX9_takeGained_16 lF_X9_32 sX_23 rfl rfl rfl ?_
  refine zn (G := fun μ_3 => zZ E (zzV Φ) 19 [(1, .int r_1), (0, .ref 23)] [] μ_3) h (fun μ_3 h => ?_)
  refine z_aload_n hE dX9_takeGained_19 rfl 1 rfl ?_
  refine z_bipush (v := 40) hE dX9_takeGained_20 zv_b_40 ?_
  refine z_callV hE dX9_takeGained_22 lV_X9_46 (c_X9_expect _ μ_3 _ h) sX_23 rfl (Nat.le_of_ble_eq_true rfl) (by decide) rfl (zk_V (fun μ_5 h => ?_))
  refine z_aload_n hE dX9_takeGained_25 rfl 1 rfl ?_
  refine z_getI hE dX9_takeGained_26 lF_X9_29 sX_23 rfl ?_
  refine z_iconst (v := -1) hE dX9_takeGained_29 zv_i_m1 ?_
  refine z_join (P := fun (J_7 : ZMem → Prop) => ∀ (μ_6 : ZMem), J_7 μ_6 → zZ E (zzV Φ) 42 [(0, .ref 23), (1, .int r_1)] [] μ_6) h (fun μ_6 h => ?_) (fun J_7 hJ_7 h => ?_)
  · refine z_aload_n hE dX9_takeGained_42 rfl 0 rfl ?_
    refine z_getI hE dX9_takeGained_43 lF_X9_29 sX_23 rfl ?_
    refine z_iconst (v := -1) hE dX9_takeGained_46 zv_i_m1 ?_
    refine z_join (P := fun (J_9 : ZMem → Prop) => ∀ (μ_8 : ZMem), J_9 μ_8 → zZ E (zzV Φ) 56 [(0, .ref 23), (1, .int r_1)] [] μ_8) h (fun μ_8 h => ?_) (fun J_9 hJ_9 h => ?_)
    · refine z_iconst (v := 0) hE dX9_takeGained_56 zv_i_0 ?_
      refine z_istore_n (lv' := [(2, .int (0 : Int32)), (0, .ref 23), (1, .int r_1)]) hE dX9_takeGained_57 rfl (by decide) rfl ?_
      refine z_sub [1, 2, 0] rfl ?_
      obtain ⟨n58, h⟩ := h
      refine z_loop2 (P := fun (v2_10 : Int32) (μ_11 : ZMem) => zZ E (zzV Φ) 58 [(0, .ref 23), (1, .int r_1), (2, .int v2_10)] [] μ_11) (fun k58_11 hk58_11 v2_10 μ_11 h => ?_) n58 _ _ h
      refine z_iload_n hE dX9_takeGained_58 rfl 2 rfl ?_
      refine z_bipush (v := 7) hE dX9_takeGained_59 zv_b_7 ?_
      refine z_icmp_ge (tgt := 81) hE dX9_takeGained_61 (by decide) h (fun h => ?_) (fun h => ?_)
      · exact z_vret (st := []) hE dX9_takeGained_81 rfl ⟨rfl, h⟩
      · refine z_aload_n hE dX9_takeGained_64 rfl 0 rfl ?_
        refine z_getR (t := 26) hE dX9_takeGained_65 lF_X9_19 sX_23 rfl ?_
        refine z_iload_n hE dX9_takeGained_68 rfl 2 rfl ?_
        refine z_dup2 hE dX9_takeGained_69 rfl rfl ?_
        obtain ⟨q_12, h⟩ := h
        refine z_lald hE dX9_takeGained_70 sX_26 q_12 ?_
        refine z_iload_n hE dX9_takeGained_71 rfl 1 rfl ?_
        refine z_i2l hE dX9_takeGained_72 ?_
        refine z_lmul hE dX9_takeGained_73 ?_
        obtain ⟨q_13, h⟩ := h
        refine z_last hE dX9_takeGained_74 sX_26 q_13 ?_
        refine zn (G := fun μ_14 => zZ E (zzV Φ) 75 [(0, .ref 23), (1, .int r_1), (2, .int v2_10)] [] μ_14) h (fun μ_14 h => ?_)
        refine z_iinc (j := 2) (c := 1) (lv' := [(2, .int (v2_10 + (1 : Int32))), (0, .ref 23), (1, .int r_1)]) hE dX9_takeGained_75 rfl zv_i_1 (by decide) rfl ?_
        refine z_goto (tgt := 58) hE dX9_takeGained_78 (by decide) ?_
        exact z_sub [1, 2, 0] rfl (hk58_11 _ _ h)
    refine z_icmp_ne (tgt := 56) hE dX9_takeGained_47 (by decide) h (fun h => ?_) (fun h => ?_)
    · exact hJ_9 _ h
    · refine z_aload_n hE dX9_takeGained_50 rfl 0 rfl ?_
      refine z_bipush (v := 41) hE dX9_takeGained_51 zv_b_41 ?_
      refine z_callV hE dX9_takeGained_53 lV_X9_46 (c_X9_expect _ μ_6 _ h) sX_23 rfl (Nat.le_of_ble_eq_true rfl) (by decide) rfl (zk_V (fun μ_16 h => ?_))
      exact hJ_9 _ h
  refine z_icmp_ne (tgt := 42) hE dX9_takeGained_30 (by decide) h (fun h => ?_) (fun h => ?_)
  · exact z_sub [1, 0] rfl (hJ_7 _ h)
  · refine z_aload_n hE dX9_takeGained_33 rfl 1 rfl ?_
    refine z_aload_n hE dX9_takeGained_34 rfl 1 rfl ?_
    refine z_getR (t := 26) hE dX9_takeGained_35 lF_X9_19 sX_23 rfl ?_
    refine z_iconst (v := 0) hE dX9_takeGained_38 zv_i_0 ?_
    refine z_callV hE dX9_takeGained_39 lV_X9_35 (c_X9_takeTerms _ _ _ sX_26 μ_5 _ h) sX_23 rfl (Nat.le_of_ble_eq_true rfl) (by decide) rfl (zk_V (fun μ_18 h => ?_))
    exact z_sub [1, 0] rfl (hJ_7 _ h)
set_option maxRecDepth 4000 in
theorem c_X11_fill (a1 : Int32) (a2 : Int32) (a3 : Int32) (μ : ZMem) (Φ : Int32 → ZMem → Prop) (h : w_X11_fill a1 a2 a3 μ Φ) : zM SX yX11_fill cX11_fill 8 (some FieldType.int) 5 [.ref 0, .int a1, .int a2, .int a3] μ (zzI Φ) := by
  refine zM_go (own := RX11) rfl (by decide) (Nat.le_of_ble_eq_true rfl) (fun E hE => ?_)
  show zZ E (zzI Φ) 0 [(0, .ref 0), (1, .int a1), (2, .int a2), (3, .int a3)] [] μ
  unfold w_X11_fill at h
  refine z_aload_n hE dX11_fill_0 rfl 0 rfl ?_
  refine z_iload_n hE dX11_fill_1 rfl 1 rfl ?_
  refine z_iload_n hE dX11_fill_2 rfl 2 rfl ?_
  refine z_iload_n hE dX11_fill_3 rfl 3 rfl ?_
  refine z_callV hE dX11_fill_4 lV_X11_342 (c_X11_refusalOfRow _ _ _ μ _ h) sX_0 rfl (Nat.le_of_ble_eq_true rfl) (by decide) rfl (zk_I (fun r_1 μ_2 h => ?_))
  refine z_istore (lv' := [(4, .int r_1), (0, .ref 0), (1, .int a1), (2, .int a2), (3, .int a3)]) hE dX11_fill_7 (by decide) rfl ?_
  refine z_iload hE dX11_fill_9 0 rfl ?_
  refine z_if_eq (tgt := 17) hE dX11_fill_11 (by decide) h (fun h => ?_) (fun h => ?_)
  · refine z_aload_n hE dX11_fill_17 rfl 1 rfl ?_
    refine z_getR (t := 27) hE dX11_fill_18 lF_X11_30 sX_0 rfl ?_
    refine z_iload_n hE dX11_fill_21 rfl 2 rfl ?_
    obtain ⟨q_3, h⟩ := h
    refine z_aald2 hE dX11_fill_22 sX_27 (fun _ => rfl) rfl q_3 ?_
    refine z_astore (lv' := [(5, .ref (86 + 2 * (Int32.toNatClampNeg a1))), (4, .int r_1), (0, .ref 0), (1, .int a1), (2, .int a2), (3, .int a3)]) hE dX11_fill_23 (by decide) rfl ?_
    refine z_aload hE dX11_fill_25 0 rfl ?_
    refine z_getI hE dX11_fill_27 lF_X11_334 (sXr_86 _ (zz_in_lt q_3)).1 rfl ?_
    refine z_aload_n hE dX11_fill_30 rfl 2 rfl ?_
    refine z_getR (t := 28) hE dX11_fill_31 lF_X11_37 sX_0 rfl ?_
    refine z_iload_n hE dX11_fill_34 rfl 5 rfl ?_
    refine z_callV hE dX11_fill_35 lV_X11_159 (c_X8_width _ _ zcX_28 μ_2 _ h) sX_28 rfl (Nat.le_of_ble_eq_true rfl) (by decide) rfl (zk_PI (fun r_4 h => ?_))
    refine z_mmin hE dX11_fill_38 lM_X11_346 (Nat.le_of_ble_eq_true rfl) ?_
    refine z_istore (lv' := [(6, .int (if r_4 < (μ_2.1 (86 + 2 * (Int32.toNatClampNeg a1)) 2) then r_4 else (μ_2.1 (86 + 2 * (Int32.toNatClampNeg a1)) 2))), (5, .ref (86 + 2 * (Int32.toNatClampNeg a1))), (4, .int r_1), (0, .ref 0), (1, .int a1), (2, .int a2), (3, .int a3)]) hE dX11_fill_41 (by decide) rfl ?_
    refine zn (G := fun v6_6 => zZ E (zzI Φ) 43 [(6, .int v6_6), (5, .ref (86 + 2 * (Int32.toNatClampNeg a1))), (4, .int r_1), (0, .ref 0), (1, .int a1), (2, .int a2), (3, .int a3)] [] μ_2) h (fun v6_6 h => ?_)
    refine z_iconst (v := 0) hE dX11_fill_43 zv_i_0 ?_
    refine z_istore (lv' := [(7, .int (0 : Int32)), (6, .int v6_6), (5, .ref (86 + 2 * (Int32.toNatClampNeg a1))), (4, .int r_1), (0, .ref 0), (1, .int a1), (2, .int a2), (3, .int a3)]) hE dX11_fill_44 (by decide) rfl ?_
    refine z_sub [4, 7, 2, 1, 0] rfl ?_
    obtain ⟨n46, h⟩ := h
    refine z_loop2 (P := fun (v7_7 : Int32) (μ_8 : ZMem) => zZ E (zzI Φ) 46 [(0, .ref 0), (3, .int a3), (5, .ref (86 + 2 * (Int32.toNatClampNeg a1))), (6, .int v6_6), (7, .int v7_7)] [] μ_8) (fun k46_8 hk46_8 v7_7 μ_8 h => ?_) n46 _ _ h
    refine z_iload hE dX11_fill_46 4 rfl ?_
    refine z_iload hE dX11_fill_48 3 rfl ?_
    refine z_icmp_ge (tgt := 76) hE dX11_fill_50 (by decide) h (fun h => ?_) (fun h => ?_)
    · refine z_iload hE dX11_fill_76 3 rfl ?_
      exact z_iret (st := []) hE dX11_fill_78 rfl ⟨_, rfl, h⟩
    · refine z_aload hE dX11_fill_53 2 rfl ?_
      refine z_iload hE dX11_fill_55 4 rfl ?_
      refine z_aload_n hE dX11_fill_57 rfl 0 rfl ?_
      refine z_getR (t := 28) hE dX11_fill_58 lF_X11_37 sX_0 rfl ?_
      refine z_iload_n hE dX11_fill_61 rfl 1 rfl ?_
      refine z_iload hE dX11_fill_62 4 rfl ?_
      refine z_callV hE dX11_fill_64 lV_X11_163 (c_X8_item _ _ _ zcX_28 μ_8 _ h) sX_28 rfl (Nat.le_of_ble_eq_true rfl) (by decide) rfl (zk_PJ (fun r_9 h => ?_))
      refine z_callV hE dX11_fill_67 lV_X11_335 (c_X10_store _ _ _ (sXr_86 _ (zz_in_lt q_3)) μ_8 _ h) (sXr_86 _ (zz_in_lt q_3)).1 rfl (Nat.le_of_ble_eq_true rfl) (by decide) rfl (zk_V (fun μ_12 h => ?_))
      refine z_iinc (j := 4) (c := 1) (lv' := [(7, .int (v7_7 + (1 : Int32))), (0, .ref 0), (3, .int a3), (5, .ref (86 + 2 * (Int32.toNatClampNeg a1))), (6, .int v6_6)]) hE dX11_fill_70 rfl zv_i_1 (by decide) rfl ?_
      refine z_goto (tgt := 46) hE dX11_fill_73 (by decide) ?_
      exact z_sub [1, 2, 3, 4, 0] rfl (hk46_8 _ _ h)
  · refine z_iload hE dX11_fill_14 0 rfl ?_
    exact z_iret (st := []) hE dX11_fill_16 rfl ⟨_, rfl, h⟩
set_option maxRecDepth 4000 in
theorem c_X11_judge (a1 : Int32) (a2 : Int32) (a3 : Int32) (μ : ZMem) (Φ : Int32 → ZMem → Prop) (h : w_X11_judge a1 a2 a3 μ Φ) : zM SX yX11_judge cX11_judge 7 (some FieldType.int) 5 [.ref 0, .int a1, .int a2, .int a3] μ (zzI Φ) := by
  refine zM_go (own := RX11) rfl (by decide) (Nat.le_of_ble_eq_true rfl) (fun E hE => ?_)
  show zZ E (zzI Φ) 0 [(0, .ref 0), (1, .int a1), (2, .int a2), (3, .int a3)] [] μ
  unfold w_X11_judge at h
  refine z_aload_n hE dX11_judge_0 rfl 0 rfl ?_
  refine z_iload_n hE dX11_judge_1 rfl 1 rfl ?_
  refine z_iload_n hE dX11_judge_2 rfl 2 rfl ?_
  refine z_iload_n hE dX11_judge_3 rfl 3 rfl ?_
  refine z_callV hE dX11_judge_4 lV_X11_342 (c_X11_refusalOfRow _ _ _ μ _ h) sX_0 rfl (Nat.le_of_ble_eq_true rfl) (by decide) rfl (zk_I (fun r_1 μ_2 h => ?_))
  refine z_istore (lv' := [(4, .int r_1), (0, .ref 0), (1, .int a1), (2, .int a2), (3, .int a3)]) hE dX11_judge_7 (by decide) rfl ?_
  refine z_iload hE dX11_judge_9 0 rfl ?_
  refine z_if_eq (tgt := 17) hE dX11_judge_11 (by decide) h (fun h => ?_) (fun h => ?_)
  · refine z_aload_n hE dX11_judge_17 rfl 1 rfl ?_
    refine z_getR (t := 27) hE dX11_judge_18 lF_X11_30 sX_0 rfl ?_
    refine z_iload_n hE dX11_judge_21 rfl 2 rfl ?_
    obtain ⟨q_3, h⟩ := h
    refine z_aald2 hE dX11_judge_22 sX_27 (fun _ => rfl) rfl q_3 ?_
    refine z_astore (lv' := [(5, .ref (86 + 2 * (Int32.toNatClampNeg a1))), (4, .int r_1), (0, .ref 0), (1, .int a1), (2, .int a2), (3, .int a3)]) hE dX11_judge_23 (by decide) rfl ?_
    refine z_iconst (v := 0) hE dX11_judge_25 zv_i_0 ?_
    refine z_istore (lv' := [(6, .int (0 : Int32)), (5, .ref (86 + 2 * (Int32.toNatClampNeg a1))), (4, .int r_1), (0, .ref 0), (1, .int a1), (2, .int a2), (3, .int a3)]) hE dX11_judge_26 (by decide) rfl ?_
    refine z_sub [3, 6, 1, 0] rfl ?_
    obtain ⟨n28, h⟩ := h
    refine z_loop1 (P := fun (v6_4 : Int32) => zZ E (zzI Φ) 28 [(0, .ref 0), (3, .int a3), (5, .ref (86 + 2 * (Int32.toNatClampNeg a1))), (6, .int v6_4)] [] μ_2) (fun k28_4 hk28_4 v6_4 h => ?_) n28 _ h
    refine z_iload hE dX11_judge_28 3 rfl ?_
    refine z_aload hE dX11_judge_30 2 rfl ?_
    refine z_getI hE dX11_judge_32 lF_X11_334 (sXr_86 _ (zz_in_lt q_3)).1 rfl ?_
    refine z_icmp_ge (tgt := 82) hE dX11_judge_35 (by decide) h (fun h => ?_) (fun h => ?_)
    · refine z_iconst (v := -1) hE dX11_judge_82 zv_i_m1 ?_
      exact z_iret (st := []) hE dX11_judge_83 rfl ⟨_, rfl, h⟩
    · refine z_iload hE dX11_judge_38 3 rfl ?_
      refine z_aload_n hE dX11_judge_40 rfl 0 rfl ?_
      refine z_getR (t := 28) hE dX11_judge_41 lF_X11_37 sX_0 rfl ?_
      refine z_iload_n hE dX11_judge_44 rfl 1 rfl ?_
      refine z_callV hE dX11_judge_45 lV_X11_159 (c_X8_width _ _ zcX_28 μ_2 _ h) sX_28 rfl (Nat.le_of_ble_eq_true rfl) (by decide) rfl (zk_PI (fun r_5 h => ?_))
      refine z_icmp_ge (tgt := 73) hE dX11_judge_48 (by decide) h (fun h => ?_) (fun h => ?_)
      · refine z_iload hE dX11_judge_73 3 rfl ?_
        exact z_iret (st := []) hE dX11_judge_75 rfl ⟨_, rfl, h⟩
      · refine z_aload hE dX11_judge_51 2 rfl ?_
        refine z_getR (t := ((86 + 2 * (Int32.toNatClampNeg a1)) + 1)) hE dX11_judge_53 lF_X11_339 (sXr_86 _ (zz_in_lt q_3)).1 rfl ?_
        refine z_iload hE dX11_judge_56 3 rfl ?_
        obtain ⟨q_7, h⟩ := h
        refine z_lald hE dX11_judge_58 (sXr_86 _ (zz_in_lt q_3)).2 q_7 ?_
        refine z_aload_n hE dX11_judge_59 rfl 0 rfl ?_
        refine z_getR (t := 28) hE dX11_judge_60 lF_X11_37 sX_0 rfl ?_
        refine z_iload_n hE dX11_judge_63 rfl 1 rfl ?_
        refine z_iload hE dX11_judge_64 3 rfl ?_
        refine z_callV hE dX11_judge_66 lV_X11_163 (c_X8_item _ _ _ zcX_28 μ_2 _ h) sX_28 rfl (Nat.le_of_ble_eq_true rfl) (by decide) rfl (zk_PJ (fun r_8 h => ?_))
        refine z_ljmp_eq (tgt := 76) hE dX11_judge_69 dX11_judge_70 (by decide) h (fun h => ?_) (fun h => ?_)
        · refine z_iinc (j := 3) (c := 1) (lv' := [(6, .int (v6_4 + (1 : Int32))), (0, .ref 0), (3, .int a3), (5, .ref (86 + 2 * (Int32.toNatClampNeg a1)))]) hE dX11_judge_76 rfl zv_i_1 (by decide) rfl ?_
          refine z_goto (tgt := 28) hE dX11_judge_79 (by decide) ?_
          exact z_sub [1, 2, 3, 0] rfl (hk28_4 _ h)
        · refine z_iload hE dX11_judge_73 3 rfl ?_
          exact z_iret (st := []) hE dX11_judge_75 rfl ⟨_, rfl, h⟩
  · refine z_iload hE dX11_judge_14 0 rfl ?_
    exact z_iret (st := []) hE dX11_judge_16 rfl ⟨_, rfl, h⟩
set_option maxRecDepth 4000 in
theorem c_X11_spansOf (a1 : Int32) (μ : ZMem) (Φ : Nat → ZMem → Prop) (h : w_X11_spansOf a1 μ Φ) : zM SX yX11_spansOf cX11_spansOf 3 (Option.some (Jvm.ClassFile.FieldType.object "SignTables$Spans")) 5 [.ref 0, .int a1] μ (zzR Φ) := by
  refine zM_go (own := RX11) rfl (by decide) (Nat.le_of_ble_eq_true rfl) (fun E hE => ?_)
  show zZ E (zzR Φ) 0 [(0, .ref 0), (1, .int a1)] [] μ
  unfold w_X11_spansOf at h
  refine z_iload_n hE dX11_spansOf_0 rfl 1 rfl ?_
  refine z_join (P := fun (J_2 : Nat → Prop) => ∀ (x_1 : Nat), zT_Spans x_1 → J_2 x_1 → zZ E (zzR Φ) 15 [(0, .ref 0)] [.ref x_1] μ) h (fun x_1 ex_1 h => ?_) (fun J_2 hJ_2 h => ?_)
  · refine z_astore_n (lv' := [(2, .ref x_1), (0, .ref 0)]) hE dX11_spansOf_15 rfl (by decide) rfl ?_
    refine z_aload_n hE dX11_spansOf_16 rfl 0 rfl ?_
    refine z_aload_n hE dX11_spansOf_17 rfl 1 rfl ?_
    refine z_getR (t := 1) hE dX11_spansOf_18 lF_X11_14 sX_0 rfl ?_
    refine z_aload_n hE dX11_spansOf_21 rfl 1 rfl ?_
    refine z_getR (t := 50) hE dX11_spansOf_22 lF_X11_51 sX_0 rfl ?_
    refine z_callV hE dX11_spansOf_25 lV_X11_369 (c_X6_survey _ ex_1 μ _ h) ex_1.1 rfl (Nat.le_of_ble_eq_true rfl) (by decide) rfl (zk_V (fun μ_4 h => ?_))
    refine z_aload_n hE dX11_spansOf_28 rfl 0 rfl ?_
    exact z_aret (st := []) hE dX11_spansOf_29 rfl (Or.inl ⟨_, rfl⟩) ⟨_, rfl, h⟩
  refine z_if_ne (tgt := 11) hE dX11_spansOf_1 (by decide) h (fun h => ?_) (fun h => ?_)
  · refine z_aload_n hE dX11_spansOf_11 rfl 0 rfl ?_
    refine z_getR (t := 67) hE dX11_spansOf_12 lF_X11_64 sX_0 rfl ?_
    exact z_sub [0] rfl (hJ_2 _ zcX_67 h)
  · refine z_aload_n hE dX11_spansOf_4 rfl 0 rfl ?_
    refine z_getR (t := 64) hE dX11_spansOf_5 lF_X11_60 sX_0 rfl ?_
    refine z_goto (tgt := 15) hE dX11_spansOf_8 (by decide) ?_
    exact z_sub [0] rfl (hJ_2 _ zcX_64 h)
set_option maxRecDepth 4000 in
theorem c_X12_best  (μ : ZMem) (Φ : Int32 → ZMem → Prop) (h : w_X12_best μ Φ) : zM SM yX12_best cX12_best 6 (some FieldType.int) 5 [.ref 0] μ (zzI Φ) := by
  refine zM_go (own := RX12) rfl (by decide) (Nat.le_of_ble_eq_true rfl) (fun E hE => ?_)
  show zZ E (zzI Φ) 0 [(0, .ref 0)] [] μ
  unfold w_X12_best at h
  refine z_iconst (v := 0) hE dX12_best_0 zv_i_0 ?_
  refine z_istore_n (lv' := [(1, .int (0 : Int32)), (0, .ref 0)]) hE dX12_best_1 rfl (by decide) rfl ?_
  refine z_iconst (v := -1) hE dX12_best_2 zv_i_m1 ?_
  refine z_istore_n (lv' := [(2, .int (-1 : Int32)), (1, .int (0 : Int32)), (0, .ref 0)]) hE dX12_best_3 rfl (by decide) rfl ?_
  refine z_iconst (v := 0) hE dX12_best_4 zv_i_0 ?_
  refine z_istore_n (lv' := [(3, .int (0 : Int32)), (2, .int (-1 : Int32)), (1, .int (0 : Int32)), (0, .ref 0)]) hE dX12_best_5 rfl (by decide) rfl ?_
  refine z_join (P := fun (J_4 : Int32 → Int32 → ZMem → Prop) => ∀ (v1_1 : Int32) (v2_2 : Int32) (μ_3 : ZMem), J_4 v1_1 v2_2 μ_3 → zZ E (zzI Φ) 68 [(1, .int v1_1), (2, .int v2_2)] [] μ_3) h (fun v1_1 v2_2 μ_3 h => ?_) (fun J_4 hJ_4 h => ?_)
  · refine z_iload_n hE dX12_best_68 rfl 1 rfl ?_
    refine z_if_ge (tgt := 76) hE dX12_best_69 (by decide) h (fun h => ?_) (fun h => ?_)
    · refine z_iload_n hE dX12_best_76 rfl 0 rfl ?_
      refine z_sipush (v := 1000) hE dX12_best_77 zv_s_1000 ?_
      refine z_iadd hE dX12_best_80 ?_
      exact z_iret (st := []) hE dX12_best_81 rfl ⟨_, rfl, h⟩
    · refine z_iconst (v := -1) hE dX12_best_72 zv_i_m1 ?_
      refine z_goto (tgt := 81) hE dX12_best_73 (by decide) ?_
      exact z_iret (st := []) hE dX12_best_81 rfl ⟨_, rfl, h⟩
  refine z_sub [3, 2, 1, 0] rfl ?_
  obtain ⟨n6, h⟩ := h
  refine z_loop4 (P := fun (v1_5 : Int32) (v2_6 : Int32) (v3_7 : Int32) (μ_8 : ZMem) => zZ E (zzI Φ) 6 [(0, .ref 0), (1, .int v1_5), (2, .int v2_6), (3, .int v3_7)] [] μ_8) (fun k6_8 hk6_8 v1_5 v2_6 v3_7 μ_8 h => ?_) n6 _ _ _ _ h
  refine z_iload_n hE dX12_best_6 rfl 3 rfl ?_
  refine z_sipush (v := 200) hE dX12_best_7 zv_s_200 ?_
  refine z_icmp_gt (tgt := 68) hE dX12_best_10 (by decide) h (fun h => ?_) (fun h => ?_)
  · exact z_sub [1, 2] rfl (hJ_4 _ _ _ h)
  · refine z_iload_n hE dX12_best_13 rfl 3 rfl ?_
    refine z_iconst (v := 2) hE dX12_best_14 zv_i_2 ?_
    refine z_irem hE dX12_best_15 (by decide) ?_
    refine z_join (P := fun (J_10 : Int32 → Prop) => ∀ (x_9 : Int32), J_10 x_9 → zZ E (zzI Φ) 31 [(0, .ref 0), (1, .int v1_5), (2, .int v2_6), (3, .int v3_7)] [.int x_9] μ_8) h (fun x_9 h => ?_) (fun J_10 hJ_10 h => ?_)
    · refine z_istore (lv' := [(4, .int x_9), (0, .ref 0), (1, .int v1_5), (2, .int v2_6), (3, .int v3_7)]) hE dX12_best_31 (by decide) rfl ?_
      refine z_aload_n hE dX12_best_33 rfl 1 rfl ?_
      refine z_iload hE dX12_best_34 0 rfl ?_
      refine z_callV hE dX12_best_36 lV_X12_336 (c_X12_rightsAt _ μ_8 _ h) sM_0 rfl (Nat.le_of_ble_eq_true rfl) (by decide) rfl (zk_I (fun r_11 μ_12 h => ?_))
      refine z_istore (lv' := [(5, .int r_11), (4, .int x_9), (0, .ref 0), (1, .int v1_5), (2, .int v2_6), (3, .int v3_7)]) hE dX12_best_39 (by decide) rfl ?_
      refine z_iload hE dX12_best_41 0 rfl ?_
      refine z_join (P := fun (J_15 : Int32 → Int32 → Prop) => ∀ (v1_13 : Int32) (v2_14 : Int32), J_15 v1_13 v2_14 → zZ E (zzI Φ) 62 [(0, .ref 0), (1, .int v1_13), (2, .int v2_14), (3, .int v3_7)] [] μ_12) h (fun v1_13 v2_14 h => ?_) (fun J_15 hJ_15 h => ?_)
      · refine z_iinc (j := 3) (c := 1) (lv' := [(3, .int (v3_7 + (1 : Int32))), (0, .ref 0), (1, .int v1_13), (2, .int v2_14)]) hE dX12_best_62 rfl zv_i_1 (by decide) rfl ?_
        refine z_goto (tgt := 6) hE dX12_best_65 (by decide) ?_
        exact z_sub [1, 2, 3, 0] rfl (hk6_8 _ _ _ _ h)
      refine z_if_lt (tgt := 62) hE dX12_best_43 (by decide) h (fun h => ?_) (fun h => ?_)
      · exact z_sub [2, 3, 4, 5] rfl (hJ_15 _ _ h)
      · refine z_iload_n hE dX12_best_46 rfl 4 rfl ?_
        refine z_join (P := fun (J_16 : Prop) => J_16 → zZ E (zzI Φ) 56 [(0, .ref 0), (3, .int v3_7), (4, .int x_9), (5, .int r_11)] [] μ_12) h (fun  h => ?_) (fun J_16 hJ_16 h => ?_)
        · refine z_iload hE dX12_best_56 2 rfl ?_
          refine z_istore_n (lv' := [(1, .int x_9), (0, .ref 0), (3, .int v3_7), (4, .int x_9), (5, .int r_11)]) hE dX12_best_58 rfl (by decide) rfl ?_
          refine z_iload hE dX12_best_59 4 rfl ?_
          refine z_istore_n (lv' := [(2, .int r_11), (1, .int x_9), (0, .ref 0), (3, .int v3_7), (4, .int x_9), (5, .int r_11)]) hE dX12_best_61 rfl (by decide) rfl ?_
          exact z_sub [2, 1, 0, 3] rfl (hJ_15 _ _ h)
        refine z_if_lt (tgt := 56) hE dX12_best_47 (by decide) h (fun h => ?_) (fun h => ?_)
        · exact z_sub [2, 5, 1, 0] rfl (hJ_16 h)
        · refine z_iload hE dX12_best_50 0 rfl ?_
          refine z_iload_n hE dX12_best_52 rfl 4 rfl ?_
          refine z_icmp_ge (tgt := 62) hE dX12_best_53 (by decide) h (fun h => ?_) (fun h => ?_)
          · exact z_sub [2, 3, 4, 5] rfl (hJ_15 _ _ h)
          · exact z_sub [2, 5, 1, 0] rfl (hJ_16 h)
    refine z_if_ne (tgt := 25) hE dX12_best_16 (by decide) h (fun h => ?_) (fun h => ?_)
    · refine z_iload_n hE dX12_best_25 rfl 3 rfl ?_
      refine z_iconst (v := 1) hE dX12_best_26 zv_i_1 ?_
      refine z_iadd hE dX12_best_27 ?_
      refine z_ineg hE dX12_best_28 ?_
      refine z_iconst (v := 2) hE dX12_best_29 zv_i_2 ?_
      refine z_idiv hE dX12_best_30 (by decide) ?_
      exact hJ_10 _ h
    · refine z_iload_n hE dX12_best_19 rfl 3 rfl ?_
      refine z_iconst (v := 2) hE dX12_best_20 zv_i_2 ?_
      refine z_idiv hE dX12_best_21 (by decide) ?_
      refine z_goto (tgt := 31) hE dX12_best_22 (by decide) ?_
      exact hJ_10 _ h
set_option maxRecDepth 4000 in
theorem c_X12_caseOf (a1 : Int32) (a2 : Int32) (μ : ZMem) (Φ : Int32 → ZMem → Prop) (h : w_X12_caseOf a1 a2 μ Φ) : zM SM yX12_caseOf cX12_caseOf 3 (some FieldType.int) 5 [.ref 0, .int a1, .int a2] μ (zzI Φ) := by
  refine zM_go (own := RX12) rfl (by decide) (Nat.le_of_ble_eq_true rfl) (fun E hE => ?_)
  show zZ E (zzI Φ) 0 [(0, .ref 0), (1, .int a1), (2, .int a2)] [] μ
  unfold w_X12_caseOf at h
  refine z_iload_n hE dX12_caseOf_0 rfl 1 rfl ?_
  refine z_callS hE dX12_caseOf_1 lS_X12_130 (c_X12_isForm _ μ _ h) rfl (Nat.le_of_ble_eq_true rfl) (by decide) rfl (zk_PI (fun r_1 h => ?_))
  refine z_if_ne (tgt := 10) hE dX12_caseOf_4 (by decide) h (fun h => ?_) (fun h => ?_)
  · refine z_aload_n hE dX12_caseOf_10 rfl 0 rfl ?_
    refine z_iload_n hE dX12_caseOf_11 rfl 1 rfl ?_
    refine z_callV hE dX12_caseOf_12 lV_X12_173 (c_X12_laysRowsOf _ μ _ h) sM_0 rfl (Nat.le_of_ble_eq_true rfl) (by decide) rfl (zk_V (fun μ_4 h => ?_))
    refine z_aload_n hE dX12_caseOf_15 rfl 0 rfl ?_
    refine z_iload_n hE dX12_caseOf_16 rfl 2 rfl ?_
    refine z_callV hE dX12_caseOf_17 lV_X12_176 (c_X12_isRow _ μ_4 _ h) sM_0 rfl (Nat.le_of_ble_eq_true rfl) (by decide) rfl (zk_PI (fun r_5 h => ?_))
    refine z_if_ne (tgt := 27) hE dX12_caseOf_20 (by decide) h (fun h => ?_) (fun h => ?_)
    · refine z_aload_n hE dX12_caseOf_27 rfl 0 rfl ?_
      refine z_getI hE dX12_caseOf_28 lF_X12_69 sM_0 rfl ?_
      refine z_if_eq (tgt := 39) hE dX12_caseOf_31 (by decide) h (fun h => ?_) (fun h => ?_)
      · refine z_aload_n hE dX12_caseOf_39 rfl 0 rfl ?_
        refine z_getR (t := 8) hE dX12_caseOf_40 lF_X12_34 sM_0 rfl ?_
        refine z_iload_n hE dX12_caseOf_43 rfl 2 rfl ?_
        obtain ⟨q_7, h⟩ := h
        refine z_iald hE dX12_caseOf_44 sM_8 q_7 ?_
        exact z_iret (st := []) hE dX12_caseOf_45 rfl ⟨_, rfl, h⟩
      · refine z_bipush (v := -7) hE dX12_caseOf_34 zv_b_m7 ?_
        refine z_goto (tgt := 45) hE dX12_caseOf_36 (by decide) ?_
        exact z_iret (st := []) hE dX12_caseOf_45 rfl ⟨_, rfl, h⟩
    · refine z_iconst (v := -1) hE dX12_caseOf_23 zv_i_m1 ?_
      refine z_goto (tgt := 45) hE dX12_caseOf_24 (by decide) ?_
      exact z_iret (st := []) hE dX12_caseOf_45 rfl ⟨_, rfl, h⟩
  · refine z_bipush (v := -2) hE dX12_caseOf_7 zv_b_m2 ?_
    exact z_iret (st := []) hE dX12_caseOf_9 rfl ⟨_, rfl, h⟩
set_option maxRecDepth 4000 in
theorem c_X12_changes (a1 : Int32) (a2 : Int32) (a3 : Int32) (μ : ZMem) (Φ : Int32 → ZMem → Prop) (h : w_X12_changes a1 a2 a3 μ Φ) : zM SM yX12_changes cX12_changes 4 (some FieldType.int) 5 [.ref 0, .int a1, .int a2, .int a3] μ (zzI Φ) := by
  refine zM_go (own := RX12) rfl (by decide) (Nat.le_of_ble_eq_true rfl) (fun E hE => ?_)
  show zZ E (zzI Φ) 0 [(0, .ref 0), (1, .int a1), (2, .int a2), (3, .int a3)] [] μ
  unfold w_X12_changes at h
  refine z_iload_n hE dX12_changes_0 rfl 1 rfl ?_
  refine z_callS hE dX12_changes_1 lS_X12_130 (c_X12_isForm _ μ _ h) rfl (Nat.le_of_ble_eq_true rfl) (by decide) rfl (zk_PI (fun r_1 h => ?_))
  refine z_if_ne (tgt := 10) hE dX12_changes_4 (by decide) h (fun h => ?_) (fun h => ?_)
  · refine z_aload_n hE dX12_changes_10 rfl 0 rfl ?_
    refine z_iload_n hE dX12_changes_11 rfl 1 rfl ?_
    refine z_callV hE dX12_changes_12 lV_X12_173 (c_X12_laysRowsOf _ μ _ h) sM_0 rfl (Nat.le_of_ble_eq_true rfl) (by decide) rfl (zk_V (fun μ_4 h => ?_))
    refine z_aload_n hE dX12_changes_15 rfl 0 rfl ?_
    refine z_iload_n hE dX12_changes_16 rfl 2 rfl ?_
    refine z_callV hE dX12_changes_17 lV_X12_176 (c_X12_isRow _ μ_4 _ h) sM_0 rfl (Nat.le_of_ble_eq_true rfl) (by decide) rfl (zk_PI (fun r_5 h => ?_))
    refine z_if_eq (tgt := 36) hE dX12_changes_20 (by decide) h (fun h => ?_) (fun h => ?_)
    · refine z_iconst (v := -1) hE dX12_changes_36 zv_i_m1 ?_
      refine z_goto (tgt := 58) hE dX12_changes_37 (by decide) ?_
      exact z_iret (st := []) hE dX12_changes_58 rfl ⟨_, rfl, h⟩
    · refine z_aload_n hE dX12_changes_23 rfl 0 rfl ?_
      refine z_iload_n hE dX12_changes_24 rfl 3 rfl ?_
      refine z_callV hE dX12_changes_25 lV_X12_176 (c_X12_isRow _ μ_4 _ h) sM_0 rfl (Nat.le_of_ble_eq_true rfl) (by decide) rfl (zk_PI (fun r_7 h => ?_))
      refine z_if_eq (tgt := 36) hE dX12_changes_28 (by decide) h (fun h => ?_) (fun h => ?_)
      · refine z_iconst (v := -1) hE dX12_changes_36 zv_i_m1 ?_
        refine z_goto (tgt := 58) hE dX12_changes_37 (by decide) ?_
        exact z_iret (st := []) hE dX12_changes_58 rfl ⟨_, rfl, h⟩
      · refine z_iload_n hE dX12_changes_31 rfl 3 rfl ?_
        refine z_iload_n hE dX12_changes_32 rfl 2 rfl ?_
        refine z_icmp_ge (tgt := 40) hE dX12_changes_33 (by decide) h (fun h => ?_) (fun h => ?_)
        · refine z_aload_n hE dX12_changes_40 rfl 0 rfl ?_
          refine z_getI hE dX12_changes_41 lF_X12_69 sM_0 rfl ?_
          refine z_if_eq (tgt := 52) hE dX12_changes_44 (by decide) h (fun h => ?_) (fun h => ?_)
          · refine z_aload_n hE dX12_changes_52 rfl 0 rfl ?_
            refine z_iload_n hE dX12_changes_53 rfl 2 rfl ?_
            refine z_iload_n hE dX12_changes_54 rfl 3 rfl ?_
            refine z_callV hE dX12_changes_55 lV_X12_179 (c_X12_changesIn _ _ μ_4 _ h) sM_0 rfl (Nat.le_of_ble_eq_true rfl) (by decide) rfl (zk_PI (fun r_9 h => ?_))
            exact z_iret (st := []) hE dX12_changes_58 rfl ⟨_, rfl, h⟩
          · refine z_bipush (v := -7) hE dX12_changes_47 zv_b_m7 ?_
            refine z_goto (tgt := 58) hE dX12_changes_49 (by decide) ?_
            exact z_iret (st := []) hE dX12_changes_58 rfl ⟨_, rfl, h⟩
        · refine z_iconst (v := -1) hE dX12_changes_36 zv_i_m1 ?_
          refine z_goto (tgt := 58) hE dX12_changes_37 (by decide) ?_
          exact z_iret (st := []) hE dX12_changes_58 rfl ⟨_, rfl, h⟩
  · refine z_bipush (v := -2) hE dX12_changes_7 zv_b_m2 ?_
    exact z_iret (st := []) hE dX12_changes_9 rfl ⟨_, rfl, h⟩
set_option maxRecDepth 4000 in
theorem c_X12_findsJump (a1 : Int32) (μ : ZMem) (Φ : ZMem → Prop) (h : w_X12_findsJump a1 μ Φ) : zM SM yX12_findsJump cX12_findsJump 5 (none) 5 [.ref 0, .int a1] μ (zzV Φ) := by
  refine zM_go (own := RX12) rfl (by decide) (Nat.le_of_ble_eq_true rfl) (fun E hE => ?_)
  show zZ E (zzV Φ) 0 [(0, .ref 0), (1, .int a1)] [] μ
  unfold w_X12_findsJump at h
  refine z_aload_n hE dX12_findsJump_0 rfl 0 rfl ?_
  refine z_iconst (v := 0) hE dX12_findsJump_1 zv_i_0 ?_
  refine z_put hE dX12_findsJump_2 lF_X12_339 sM_0 rfl rfl rfl ?_
  refine zn (G := fun μ_1 => zZ E (zzV Φ) 5 [(0, .ref 0), (1, .int a1)] [] μ_1) h (fun μ_1 h => ?_)
  refine z_aload_n hE dX12_findsJump_5 rfl 0 rfl ?_
  refine z_bipush (v := -100) hE dX12_findsJump_6 zv_b_m100 ?_
  refine z_callV hE dX12_findsJump_8 lV_X12_336 (c_X12_rightsAt _ μ_1 _ h) sM_0 rfl (Nat.le_of_ble_eq_true rfl) (by decide) rfl (zk_I (fun r_2 μ_3 h => ?_))
  refine z_istore_n (lv' := [(2, .int r_2), (0, .ref 0), (1, .int a1)]) hE dX12_findsJump_11 rfl (by decide) rfl ?_
  refine z_bipush (v := -99) hE dX12_findsJump_12 zv_b_m99 ?_
  refine z_istore_n (lv' := [(3, .int (-99 : Int32)), (2, .int r_2), (0, .ref 0), (1, .int a1)]) hE dX12_findsJump_14 rfl (by decide) rfl ?_
  refine z_sub [2, 3, 1, 0] rfl ?_
  obtain ⟨n15, h⟩ := h
  refine z_loop3 (P := fun (v2_4 : Int32) (v3_5 : Int32) (μ_6 : ZMem) => zZ E (zzV Φ) 15 [(0, .ref 0), (1, .int a1), (2, .int v2_4), (3, .int v3_5)] [] μ_6) (fun k15_6 hk15_6 v2_4 v3_5 μ_6 h => ?_) n15 _ _ _ h
  refine z_iload_n hE dX12_findsJump_15 rfl 3 rfl ?_
  refine z_bipush (v := 100) hE dX12_findsJump_16 zv_b_100 ?_
  refine z_icmp_gt (tgt := 73) hE dX12_findsJump_18 (by decide) h (fun h => ?_) (fun h => ?_)
  · exact z_vret (st := []) hE dX12_findsJump_73 rfl ⟨rfl, h⟩
  · refine z_aload_n hE dX12_findsJump_21 rfl 0 rfl ?_
    refine z_iload_n hE dX12_findsJump_22 rfl 3 rfl ?_
    refine z_callV hE dX12_findsJump_23 lV_X12_336 (c_X12_rightsAt _ μ_6 _ h) sM_0 rfl (Nat.le_of_ble_eq_true rfl) (by decide) rfl (zk_I (fun r_7 μ_8 h => ?_))
    refine z_istore (lv' := [(4, .int r_7), (0, .ref 0), (1, .int a1), (2, .int v2_4), (3, .int v3_5)]) hE dX12_findsJump_26 (by decide) rfl ?_
    refine z_iload hE dX12_findsJump_28 0 rfl ?_
    refine z_iload_n hE dX12_findsJump_30 rfl 3 rfl ?_
    refine z_join (P := fun (J_10 : ZMem → Prop) => ∀ (μ_9 : ZMem), J_10 μ_9 → zZ E (zzV Φ) 64 [(0, .ref 0), (1, .int a1), (3, .int v3_5), (4, .int r_7)] [] μ_9) h (fun μ_9 h => ?_) (fun J_10 hJ_10 h => ?_)
    · refine z_iload hE dX12_findsJump_64 3 rfl ?_
      refine z_istore_n (lv' := [(2, .int r_7), (0, .ref 0), (1, .int a1), (3, .int v3_5), (4, .int r_7)]) hE dX12_findsJump_66 rfl (by decide) rfl ?_
      refine z_iinc (j := 3) (c := 1) (lv' := [(3, .int (v3_5 + (1 : Int32))), (2, .int r_7), (0, .ref 0), (1, .int a1), (4, .int r_7)]) hE dX12_findsJump_67 rfl zv_i_1 (by decide) rfl ?_
      refine z_goto (tgt := 15) hE dX12_findsJump_70 (by decide) ?_
      exact z_sub [2, 3, 1, 0] rfl (hk15_6 _ _ _ h)
    refine z_icmp_eq (tgt := 64) hE dX12_findsJump_31 (by decide) h (fun h => ?_) (fun h => ?_)
    · exact z_sub [1, 2, 4, 0] rfl (hJ_10 _ h)
    · refine z_aload_n hE dX12_findsJump_34 rfl 1 rfl ?_
      refine z_aload_n hE dX12_findsJump_35 rfl 1 rfl ?_
      refine z_getI hE dX12_findsJump_36 lF_X12_339 sM_0 rfl ?_
      refine z_iload_n hE dX12_findsJump_39 rfl 2 rfl ?_
      refine z_join (P := fun (J_12 : Int32 → Prop) => ∀ (x_11 : Int32), J_12 x_11 → zZ E (zzV Φ) 51 [(0, .ref 0), (1, .int a1), (3, .int v3_5), (4, .int r_7)] [.int x_11, .ref 0] μ_8) h (fun x_11 h => ?_) (fun J_12 hJ_12 h => ?_)
      · refine z_put hE dX12_findsJump_51 lF_X12_342 sM_0 rfl rfl rfl ?_
        refine zn (G := fun μ_13 => zZ E (zzV Φ) 54 [(0, .ref 0), (1, .int a1), (3, .int v3_5), (4, .int r_7)] [] μ_13) h (fun μ_13 h => ?_)
        refine z_aload_n hE dX12_findsJump_54 rfl 0 rfl ?_
        refine z_dup hE dX12_findsJump_55 rfl ?_
        refine z_getI hE dX12_findsJump_56 lF_X12_339 sM_0 rfl ?_
        refine z_iconst (v := 1) hE dX12_findsJump_59 zv_i_1 ?_
        refine z_iadd hE dX12_findsJump_60 ?_
        refine z_put hE dX12_findsJump_61 lF_X12_339 sM_0 rfl rfl rfl ?_
        refine zn (G := fun μ_14 => zZ E (zzV Φ) 64 [(0, .ref 0), (1, .int a1), (3, .int v3_5), (4, .int r_7)] [] μ_14) h (fun μ_14 h => ?_)
        exact hJ_10 _ h
      refine z_icmp_ne (tgt := 47) hE dX12_findsJump_40 (by decide) h (fun h => ?_) (fun h => ?_)
      · refine z_aload_n hE dX12_findsJump_47 rfl 1 rfl ?_
        refine z_getI hE dX12_findsJump_48 lF_X12_342 sM_0 rfl ?_
        exact z_sub [1, 2, 4, 0] rfl (hJ_12 _ h)
      · refine z_iload_n hE dX12_findsJump_43 rfl 4 rfl ?_
        refine z_goto (tgt := 51) hE dX12_findsJump_44 (by decide) ?_
        exact z_sub [1, 2, 4, 0] rfl (hJ_12 _ h)
set_option maxRecDepth 4000 in
theorem c_X12_firstEdge (a1 : Int32) (a2 : Int32) (μ : ZMem) (Φ : Int32 → ZMem → Prop) (h : w_X12_firstEdge a1 a2 μ Φ) : zM SM yX12_firstEdge cX12_firstEdge 8 (some FieldType.int) 5 [.ref 0, .int a1, .int a2] μ (zzI Φ) := by
  refine zM_go (own := RX12) rfl (by decide) (Nat.le_of_ble_eq_true rfl) (fun E hE => ?_)
  show zZ E (zzI Φ) 0 [(0, .ref 0), (1, .int a1), (2, .int a2)] [] μ
  unfold w_X12_firstEdge at h
  refine z_bipush (v := 16) hE dX12_firstEdge_0 zv_b_16 ?_
  refine z_iload_n hE dX12_firstEdge_2 rfl 2 rfl ?_
  refine z_imul hE dX12_firstEdge_3 ?_
  refine z_istore_n (lv' := [(3, .int ((16 : Int32) * a2)), (0, .ref 0), (1, .int a1), (2, .int a2)]) hE dX12_firstEdge_4 rfl (by decide) rfl ?_
  refine zn (G := fun v3_1 => zZ E (zzI Φ) 5 [(3, .int v3_1), (0, .ref 0), (1, .int a1), (2, .int a2)] [] μ) h (fun v3_1 h => ?_)
  refine z_iload_n hE dX12_firstEdge_5 rfl 0 rfl ?_
  refine z_bipush (v := 16) hE dX12_firstEdge_6 zv_b_16 ?_
  refine z_isub hE dX12_firstEdge_8 ?_
  refine z_istore (lv' := [(4, .int (v3_1 - (16 : Int32))), (3, .int v3_1), (0, .ref 0), (1, .int a1), (2, .int a2)]) hE dX12_firstEdge_9 (by decide) rfl ?_
  refine zn (G := fun v4_2 => zZ E (zzI Φ) 11 [(4, .int v4_2), (3, .int v3_1), (0, .ref 0), (1, .int a1), (2, .int a2)] [] μ) h (fun v4_2 h => ?_)
  refine z_iconst (v := 0) hE dX12_firstEdge_11 zv_i_0 ?_
  refine z_istore (lv' := [(5, .int (0 : Int32)), (4, .int v4_2), (3, .int v3_1), (0, .ref 0), (1, .int a1), (2, .int a2)]) hE dX12_firstEdge_12 (by decide) rfl ?_
  refine z_sub [3, 4, 5, 2, 1, 0] rfl ?_
  obtain ⟨n14, h⟩ := h
  refine z_loop4 (P := fun (v3_3 : Int32) (v4_4 : Int32) (v5_5 : Int32) (μ_6 : ZMem) => zZ E (zzI Φ) 14 [(0, .ref 0), (1, .int a1), (2, .int a2), (3, .int v3_3), (4, .int v4_4), (5, .int v5_5)] [] μ_6) (fun k14_6 hk14_6 v3_3 v4_4 v5_5 μ_6 h => ?_) n14 _ _ _ _ h
  refine z_iload hE dX12_firstEdge_14 5 rfl ?_
  refine z_iconst (v := 4) hE dX12_firstEdge_16 zv_i_4 ?_
  refine z_icmp_ge (tgt := 77) hE dX12_firstEdge_17 (by decide) h (fun h => ?_) (fun h => ?_)
  · refine z_iload_n hE dX12_firstEdge_77 rfl 3 rfl ?_
    exact z_iret (st := []) hE dX12_firstEdge_78 rfl ⟨_, rfl, h⟩
  · refine z_iload_n hE dX12_firstEdge_20 rfl 2 rfl ?_
    refine z_bipush (v := -100) hE dX12_firstEdge_21 zv_b_m100 ?_
    refine z_icmp_le (tgt := 77) hE dX12_firstEdge_23 (by decide) h (fun h => ?_) (fun h => ?_)
    · refine z_iload_n hE dX12_firstEdge_77 rfl 3 rfl ?_
      exact z_iret (st := []) hE dX12_firstEdge_78 rfl ⟨_, rfl, h⟩
    · refine z_iload hE dX12_firstEdge_26 4 rfl ?_
      refine z_iload_n hE dX12_firstEdge_28 rfl 3 rfl ?_
      refine z_iadd hE dX12_firstEdge_29 ?_
      refine z_iconst (v := 2) hE dX12_firstEdge_30 zv_i_2 ?_
      refine z_idiv hE dX12_firstEdge_31 (by decide) ?_
      refine z_istore (lv' := [(6, .int ((v4_4 + v3_3) / (2 : Int32))), (0, .ref 0), (1, .int a1), (2, .int a2), (3, .int v3_3), (4, .int v4_4), (5, .int v5_5)]) hE dX12_firstEdge_32 (by decide) rfl ?_
      refine zn (G := fun v6_7 => zZ E (zzI Φ) 34 [(6, .int v6_7), (0, .ref 0), (1, .int a1), (2, .int a2), (3, .int v3_3), (4, .int v4_4), (5, .int v5_5)] [] μ_6) h (fun v6_7 h => ?_)
      refine z_aload_n hE dX12_firstEdge_34 rfl 1 rfl ?_
      refine z_iload_n hE dX12_firstEdge_35 rfl 2 rfl ?_
      refine z_bipush (v := 16) hE dX12_firstEdge_36 zv_b_16 ?_
      refine z_iload hE dX12_firstEdge_38 0 rfl ?_
      refine z_callV hE dX12_firstEdge_40 lV_X12_213 (c_X12_isSteady _ _ _ μ_6 _ h) sM_0 rfl (Nat.le_of_ble_eq_true rfl) (by decide) rfl (zk_I (fun r_8 μ_9 h => ?_))
      refine z_istore (lv' := [(7, .int r_8), (6, .int v6_7), (0, .ref 0), (1, .int a1), (2, .int a2), (3, .int v3_3), (4, .int v4_4), (5, .int v5_5)]) hE dX12_firstEdge_43 (by decide) rfl ?_
      refine z_iload hE dX12_firstEdge_45 0 rfl ?_
      refine z_join (P := fun (J_11 : Int32 → Prop) => ∀ (x_10 : Int32), J_11 x_10 → zZ E (zzI Φ) 56 [(0, .ref 0), (1, .int a1), (2, .int a2), (4, .int v4_4), (5, .int v5_5), (6, .int v6_7), (7, .int r_8)] [.int x_10] μ_9) h (fun x_10 h => ?_) (fun J_11 hJ_11 h => ?_)
      · refine z_istore_n (lv' := [(3, .int x_10), (0, .ref 0), (1, .int a1), (2, .int a2), (4, .int v4_4), (5, .int v5_5), (6, .int v6_7), (7, .int r_8)]) hE dX12_firstEdge_56 rfl (by decide) rfl ?_
        refine z_iload hE dX12_firstEdge_57 7 rfl ?_
        refine z_join (P := fun (J_13 : Int32 → Prop) => ∀ (x_12 : Int32), J_13 x_12 → zZ E (zzI Φ) 69 [(0, .ref 0), (1, .int a1), (2, .int a2), (3, .int x_10), (5, .int v5_5)] [.int x_12] μ_9) h (fun x_12 h => ?_) (fun J_13 hJ_13 h => ?_)
        · refine z_istore (lv' := [(4, .int x_12), (0, .ref 0), (1, .int a1), (2, .int a2), (3, .int x_10), (5, .int v5_5)]) hE dX12_firstEdge_69 (by decide) rfl ?_
          refine z_iinc (j := 5) (c := 1) (lv' := [(5, .int (v5_5 + (1 : Int32))), (4, .int x_12), (0, .ref 0), (1, .int a1), (2, .int a2), (3, .int x_10)]) hE dX12_firstEdge_71 rfl zv_i_1 (by decide) rfl ?_
          refine z_goto (tgt := 14) hE dX12_firstEdge_74 (by decide) ?_
          exact z_sub [2, 3, 4, 5, 1, 0] rfl (hk14_6 _ _ _ _ h)
        refine z_if_eq (tgt := 67) hE dX12_firstEdge_59 (by decide) h (fun h => ?_) (fun h => ?_)
        · refine z_iload hE dX12_firstEdge_67 6 rfl ?_
          exact z_sub [1, 2, 3, 0, 5] rfl (hJ_13 _ h)
        · refine z_iload hE dX12_firstEdge_62 4 rfl ?_
          refine z_goto (tgt := 69) hE dX12_firstEdge_64 (by decide) ?_
          exact z_sub [1, 2, 3, 0, 5] rfl (hJ_13 _ h)
      refine z_if_eq (tgt := 55) hE dX12_firstEdge_47 (by decide) h (fun h => ?_) (fun h => ?_)
      · refine z_iload_n hE dX12_firstEdge_55 rfl 5 rfl ?_
        exact z_sub [2, 3, 4, 6, 7, 1, 0] rfl (hJ_11 _ h)
      · refine z_iload hE dX12_firstEdge_50 1 rfl ?_
        refine z_goto (tgt := 56) hE dX12_firstEdge_52 (by decide) ?_
        exact z_sub [2, 3, 4, 6, 7, 1, 0] rfl (hJ_11 _ h)
set_option maxRecDepth 4000 in
theorem c_X12_lastEdge (a1 : Int32) (a2 : Int32) (μ : ZMem) (Φ : Int32 → ZMem → Prop) (h : w_X12_lastEdge a1 a2 μ Φ) : zM SM yX12_lastEdge cX12_lastEdge 8 (some FieldType.int) 5 [.ref 0, .int a1, .int a2] μ (zzI Φ) := by
  refine zM_go (own := RX12) rfl (by decide) (Nat.le_of_ble_eq_true rfl) (fun E hE => ?_)
  show zZ E (zzI Φ) 0 [(0, .ref 0), (1, .int a1), (2, .int a2)] [] μ
  unfold w_X12_lastEdge at h
  refine z_bipush (v := 16) hE dX12_lastEdge_0 zv_b_16 ?_
  refine z_iload_n hE dX12_lastEdge_2 rfl 2 rfl ?_
  refine z_imul hE dX12_lastEdge_3 ?_
  refine z_istore_n (lv' := [(3, .int ((16 : Int32) * a2)), (0, .ref 0), (1, .int a1), (2, .int a2)]) hE dX12_lastEdge_4 rfl (by decide) rfl ?_
  refine zn (G := fun v3_1 => zZ E (zzI Φ) 5 [(3, .int v3_1), (0, .ref 0), (1, .int a1), (2, .int a2)] [] μ) h (fun v3_1 h => ?_)
  refine z_iload_n hE dX12_lastEdge_5 rfl 0 rfl ?_
  refine z_bipush (v := 16) hE dX12_lastEdge_6 zv_b_16 ?_
  refine z_iadd hE dX12_lastEdge_8 ?_
  refine z_istore (lv' := [(4, .int (v3_1 + (16 : Int32))), (3, .int v3_1), (0, .ref 0), (1, .int a1), (2, .int a2)]) hE dX12_lastEdge_9 (by decide) rfl ?_
  refine zn (G := fun v4_2 => zZ E (zzI Φ) 11 [(4, .int v4_2), (3, .int v3_1), (0, .ref 0), (1, .int a1), (2, .int a2)] [] μ) h (fun v4_2 h => ?_)
  refine z_iconst (v := 0) hE dX12_lastEdge_11 zv_i_0 ?_
  refine z_istore (lv' := [(5, .int (0 : Int32)), (4, .int v4_2), (3, .int v3_1), (0, .ref 0), (1, .int a1), (2, .int a2)]) hE dX12_lastEdge_12 (by decide) rfl ?_
  refine z_sub [3, 4, 5, 2, 1, 0] rfl ?_
  obtain ⟨n14, h⟩ := h
  refine z_loop4 (P := fun (v3_3 : Int32) (v4_4 : Int32) (v5_5 : Int32) (μ_6 : ZMem) => zZ E (zzI Φ) 14 [(0, .ref 0), (1, .int a1), (2, .int a2), (3, .int v3_3), (4, .int v4_4), (5, .int v5_5)] [] μ_6) (fun k14_6 hk14_6 v3_3 v4_4 v5_5 μ_6 h => ?_) n14 _ _ _ _ h
  refine z_iload hE dX12_lastEdge_14 5 rfl ?_
  refine z_iconst (v := 4) hE dX12_lastEdge_16 zv_i_4 ?_
  refine z_icmp_ge (tgt := 77) hE dX12_lastEdge_17 (by decide) h (fun h => ?_) (fun h => ?_)
  · refine z_iload_n hE dX12_lastEdge_77 rfl 3 rfl ?_
    exact z_iret (st := []) hE dX12_lastEdge_78 rfl ⟨_, rfl, h⟩
  · refine z_iload_n hE dX12_lastEdge_20 rfl 2 rfl ?_
    refine z_bipush (v := 100) hE dX12_lastEdge_21 zv_b_100 ?_
    refine z_icmp_ge (tgt := 77) hE dX12_lastEdge_23 (by decide) h (fun h => ?_) (fun h => ?_)
    · refine z_iload_n hE dX12_lastEdge_77 rfl 3 rfl ?_
      exact z_iret (st := []) hE dX12_lastEdge_78 rfl ⟨_, rfl, h⟩
    · refine z_iload_n hE dX12_lastEdge_26 rfl 3 rfl ?_
      refine z_iload hE dX12_lastEdge_27 4 rfl ?_
      refine z_iadd hE dX12_lastEdge_29 ?_
      refine z_iconst (v := 2) hE dX12_lastEdge_30 zv_i_2 ?_
      refine z_idiv hE dX12_lastEdge_31 (by decide) ?_
      refine z_istore (lv' := [(6, .int ((v3_3 + v4_4) / (2 : Int32))), (0, .ref 0), (1, .int a1), (2, .int a2), (3, .int v3_3), (4, .int v4_4), (5, .int v5_5)]) hE dX12_lastEdge_32 (by decide) rfl ?_
      refine zn (G := fun v6_7 => zZ E (zzI Φ) 34 [(6, .int v6_7), (0, .ref 0), (1, .int a1), (2, .int a2), (3, .int v3_3), (4, .int v4_4), (5, .int v5_5)] [] μ_6) h (fun v6_7 h => ?_)
      refine z_aload_n hE dX12_lastEdge_34 rfl 1 rfl ?_
      refine z_iload_n hE dX12_lastEdge_35 rfl 2 rfl ?_
      refine z_bipush (v := 16) hE dX12_lastEdge_36 zv_b_16 ?_
      refine z_iload hE dX12_lastEdge_38 0 rfl ?_
      refine z_callV hE dX12_lastEdge_40 lV_X12_213 (c_X12_isSteady _ _ _ μ_6 _ h) sM_0 rfl (Nat.le_of_ble_eq_true rfl) (by decide) rfl (zk_I (fun r_8 μ_9 h => ?_))
      refine z_istore (lv' := [(7, .int r_8), (6, .int v6_7), (0, .ref 0), (1, .int a1), (2, .int a2), (3, .int v3_3), (4, .int v4_4), (5, .int v5_5)]) hE dX12_lastEdge_43 (by decide) rfl ?_
      refine z_iload hE dX12_lastEdge_45 0 rfl ?_
      refine z_join (P := fun (J_11 : Int32 → Prop) => ∀ (x_10 : Int32), J_11 x_10 → zZ E (zzI Φ) 56 [(0, .ref 0), (1, .int a1), (2, .int a2), (4, .int v4_4), (5, .int v5_5), (6, .int v6_7), (7, .int r_8)] [.int x_10] μ_9) h (fun x_10 h => ?_) (fun J_11 hJ_11 h => ?_)
      · refine z_istore_n (lv' := [(3, .int x_10), (0, .ref 0), (1, .int a1), (2, .int a2), (4, .int v4_4), (5, .int v5_5), (6, .int v6_7), (7, .int r_8)]) hE dX12_lastEdge_56 rfl (by decide) rfl ?_
        refine z_iload hE dX12_lastEdge_57 7 rfl ?_
        refine z_join (P := fun (J_13 : Int32 → Prop) => ∀ (x_12 : Int32), J_13 x_12 → zZ E (zzI Φ) 69 [(0, .ref 0), (1, .int a1), (2, .int a2), (3, .int x_10), (5, .int v5_5)] [.int x_12] μ_9) h (fun x_12 h => ?_) (fun J_13 hJ_13 h => ?_)
        · refine z_istore (lv' := [(4, .int x_12), (0, .ref 0), (1, .int a1), (2, .int a2), (3, .int x_10), (5, .int v5_5)]) hE dX12_lastEdge_69 (by decide) rfl ?_
          refine z_iinc (j := 5) (c := 1) (lv' := [(5, .int (v5_5 + (1 : Int32))), (4, .int x_12), (0, .ref 0), (1, .int a1), (2, .int a2), (3, .int x_10)]) hE dX12_lastEdge_71 rfl zv_i_1 (by decide) rfl ?_
          refine z_goto (tgt := 14) hE dX12_lastEdge_74 (by decide) ?_
          exact z_sub [2, 3, 4, 5, 1, 0] rfl (hk14_6 _ _ _ _ h)
        refine z_if_eq (tgt := 67) hE dX12_lastEdge_59 (by decide) h (fun h => ?_) (fun h => ?_)
        · refine z_iload hE dX12_lastEdge_67 6 rfl ?_
          exact z_sub [1, 2, 3, 0, 5] rfl (hJ_13 _ h)
        · refine z_iload hE dX12_lastEdge_62 4 rfl ?_
          refine z_goto (tgt := 69) hE dX12_lastEdge_64 (by decide) ?_
          exact z_sub [1, 2, 3, 0, 5] rfl (hJ_13 _ h)
      refine z_if_eq (tgt := 55) hE dX12_lastEdge_47 (by decide) h (fun h => ?_) (fun h => ?_)
      · refine z_iload_n hE dX12_lastEdge_55 rfl 5 rfl ?_
        exact z_sub [2, 3, 4, 6, 7, 1, 0] rfl (hJ_11 _ h)
      · refine z_iload hE dX12_lastEdge_50 1 rfl ?_
        refine z_goto (tgt := 56) hE dX12_lastEdge_52 (by decide) ?_
        exact z_sub [2, 3, 4, 6, 7, 1, 0] rfl (hJ_11 _ h)
set_option maxRecDepth 4000 in
theorem c_X12_laysSpans (a1 : Int32) (μ : ZMem) (Φ : ZMem → Prop) (h : w_X12_laysSpans a1 μ Φ) : zM SM yX12_laysSpans cX12_laysSpans 5 (none) 5 [.ref 0, .int a1] μ (zzV Φ) := by
  refine zM_go (own := RX12) rfl (by decide) (Nat.le_of_ble_eq_true rfl) (fun E hE => ?_)
  show zZ E (zzV Φ) 0 [(0, .ref 0), (1, .int a1)] [] μ
  unfold w_X12_laysSpans at h
  refine z_aload_n hE dX12_laysSpans_0 rfl 0 rfl ?_
  refine z_iconst (v := 0) hE dX12_laysSpans_1 zv_i_0 ?_
  refine z_put hE dX12_laysSpans_2 lF_X12_217 sM_0 rfl rfl rfl ?_
  refine zn (G := fun μ_1 => zZ E (zzV Φ) 5 [(0, .ref 0), (1, .int a1)] [] μ_1) h (fun μ_1 h => ?_)
  refine z_iconst (v := 0) hE dX12_laysSpans_5 zv_i_0 ?_
  refine z_istore_n (lv' := [(2, .int (0 : Int32)), (0, .ref 0), (1, .int a1)]) hE dX12_laysSpans_6 rfl (by decide) rfl ?_
  refine z_bipush (v := -100) hE dX12_laysSpans_7 zv_b_m100 ?_
  refine z_istore_n (lv' := [(3, .int (-100 : Int32)), (2, .int (0 : Int32)), (0, .ref 0), (1, .int a1)]) hE dX12_laysSpans_9 rfl (by decide) rfl ?_
  refine z_sub [2, 3, 1, 0] rfl ?_
  obtain ⟨n10, h⟩ := h
  refine z_loop3 (P := fun (v2_2 : Int32) (v3_3 : Int32) (μ_4 : ZMem) => zZ E (zzV Φ) 10 [(0, .ref 0), (1, .int a1), (2, .int v2_2), (3, .int v3_3)] [] μ_4) (fun k10_4 hk10_4 v2_2 v3_3 μ_4 h => ?_) n10 _ _ _ h
  refine z_iload_n hE dX12_laysSpans_10 rfl 3 rfl ?_
  refine z_bipush (v := 100) hE dX12_laysSpans_11 zv_b_100 ?_
  refine z_icmp_gt (tgt := 80) hE dX12_laysSpans_13 (by decide) h (fun h => ?_) (fun h => ?_)
  · exact z_vret (st := []) hE dX12_laysSpans_80 rfl ⟨rfl, h⟩
  · refine z_aload_n hE dX12_laysSpans_16 rfl 0 rfl ?_
    refine z_iload_n hE dX12_laysSpans_17 rfl 1 rfl ?_
    refine z_iconst (v := 1) hE dX12_laysSpans_18 zv_i_1 ?_
    refine z_iload_n hE dX12_laysSpans_19 rfl 3 rfl ?_
    refine z_callV hE dX12_laysSpans_20 lV_X12_213 (c_X12_isSteady _ _ _ μ_4 _ h) sM_0 rfl (Nat.le_of_ble_eq_true rfl) (by decide) rfl (zk_I (fun r_5 μ_6 h => ?_))
    refine z_istore (lv' := [(4, .int r_5), (0, .ref 0), (1, .int a1), (2, .int v2_2), (3, .int v3_3)]) hE dX12_laysSpans_23 (by decide) rfl ?_
    refine z_iload hE dX12_laysSpans_25 0 rfl ?_
    refine z_join (P := fun (J_8 : ZMem → Prop) => ∀ (μ_7 : ZMem), J_8 μ_7 → zZ E (zzV Φ) 54 [(0, .ref 0), (1, .int a1), (3, .int v3_3), (4, .int r_5)] [] μ_7) h (fun μ_7 h => ?_) (fun J_8 hJ_8 h => ?_)
    · refine z_iload hE dX12_laysSpans_54 3 rfl ?_
      refine z_join (P := fun (J_10 : ZMem → Prop) => ∀ (μ_9 : ZMem), J_10 μ_9 → zZ E (zzV Φ) 71 [(0, .ref 0), (1, .int a1), (3, .int v3_3), (4, .int r_5)] [] μ_9) h (fun μ_9 h => ?_) (fun J_10 hJ_10 h => ?_)
      · refine z_iload hE dX12_laysSpans_71 3 rfl ?_
        refine z_istore_n (lv' := [(2, .int r_5), (0, .ref 0), (1, .int a1), (3, .int v3_3), (4, .int r_5)]) hE dX12_laysSpans_73 rfl (by decide) rfl ?_
        refine z_iinc (j := 3) (c := 1) (lv' := [(3, .int (v3_3 + (1 : Int32))), (2, .int r_5), (0, .ref 0), (1, .int a1), (4, .int r_5)]) hE dX12_laysSpans_74 rfl zv_i_1 (by decide) rfl ?_
        refine z_goto (tgt := 10) hE dX12_laysSpans_77 (by decide) ?_
        exact z_sub [2, 3, 1, 0] rfl (hk10_4 _ _ _ h)
      refine z_if_eq (tgt := 71) hE dX12_laysSpans_56 (by decide) h (fun h => ?_) (fun h => ?_)
      · exact hJ_10 _ h
      · refine z_aload_n hE dX12_laysSpans_59 rfl 0 rfl ?_
        refine z_getR (t := 10) hE dX12_laysSpans_60 lF_X12_40 sM_0 rfl ?_
        refine z_aload_n hE dX12_laysSpans_63 rfl 0 rfl ?_
        refine z_getI hE dX12_laysSpans_64 lF_X12_217 sM_0 rfl ?_
        refine z_iconst (v := 1) hE dX12_laysSpans_67 zv_i_1 ?_
        refine z_isub hE dX12_laysSpans_68 ?_
        refine z_iload_n hE dX12_laysSpans_69 rfl 2 rfl ?_
        obtain ⟨q_11, h⟩ := h
        refine z_iast hE dX12_laysSpans_70 sM_10 q_11 ?_
        refine zn (G := fun μ_12 => zZ E (zzV Φ) 71 [(0, .ref 0), (1, .int a1), (3, .int v3_3), (4, .int r_5)] [] μ_12) h (fun μ_12 h => ?_)
        exact hJ_10 _ h
    refine z_if_eq (tgt := 54) hE dX12_laysSpans_27 (by decide) h (fun h => ?_) (fun h => ?_)
    · exact z_sub [1, 2, 4, 0] rfl (hJ_8 _ h)
    · refine z_iload_n hE dX12_laysSpans_30 rfl 3 rfl ?_
      refine z_if_ne (tgt := 54) hE dX12_laysSpans_31 (by decide) h (fun h => ?_) (fun h => ?_)
      · exact z_sub [1, 2, 4, 0] rfl (hJ_8 _ h)
      · refine z_aload_n hE dX12_laysSpans_34 rfl 1 rfl ?_
        refine z_getR (t := 9) hE dX12_laysSpans_35 lF_X12_37 sM_0 rfl ?_
        refine z_aload_n hE dX12_laysSpans_38 rfl 1 rfl ?_
        refine z_getI hE dX12_laysSpans_39 lF_X12_217 sM_0 rfl ?_
        refine z_iload_n hE dX12_laysSpans_42 rfl 4 rfl ?_
        obtain ⟨q_13, h⟩ := h
        refine z_iast hE dX12_laysSpans_43 sM_9 q_13 ?_
        refine zn (G := fun μ_14 => zZ E (zzV Φ) 44 [(4, .int r_5), (0, .ref 0), (1, .int a1), (2, .int v2_2), (3, .int v3_3)] [] μ_14) h (fun μ_14 h => ?_)
        refine z_aload_n hE dX12_laysSpans_44 rfl 1 rfl ?_
        refine z_dup hE dX12_laysSpans_45 rfl ?_
        refine z_getI hE dX12_laysSpans_46 lF_X12_217 sM_0 rfl ?_
        refine z_iconst (v := 1) hE dX12_laysSpans_49 zv_i_1 ?_
        refine z_iadd hE dX12_laysSpans_50 ?_
        refine z_put hE dX12_laysSpans_51 lF_X12_217 sM_0 rfl rfl rfl ?_
        refine zn (G := fun μ_15 => zZ E (zzV Φ) 54 [(4, .int r_5), (0, .ref 0), (1, .int a1), (2, .int v2_2), (3, .int v3_3)] [] μ_15) h (fun μ_15 h => ?_)
        exact z_sub [1, 2, 4, 0] rfl (hJ_8 _ h)
set_option maxRecDepth 4000 in
theorem c_X12_reach  (μ : ZMem) (Φ : Int32 → ZMem → Prop) (h : w_X12_reach μ Φ) : zM SM yX12_reach cX12_reach 5 (some FieldType.int) 5 [.ref 0] μ (zzI Φ) := by
  refine zM_go (own := RX12) rfl (by decide) (Nat.le_of_ble_eq_true rfl) (fun E hE => ?_)
  show zZ E (zzI Φ) 0 [(0, .ref 0)] [] μ
  unfold w_X12_reach at h
  refine z_aload_n hE dX12_reach_0 rfl 0 rfl ?_
  refine z_iconst (v := 1) hE dX12_reach_1 zv_i_1 ?_
  refine z_aload_n hE dX12_reach_2 rfl 0 rfl ?_
  refine z_getR (t := 1) hE dX12_reach_3 lF_X12_11 sM_0 rfl ?_
  refine z_bipush (v := 14) hE dX12_reach_6 zv_b_14 ?_
  refine z_iald hE dX12_reach_8 sM_1 (zin (by decide)) ?_
  refine z_callV hE dX12_reach_9 lV_X12_97 (c_X12_takes _ _ μ _ h) sM_0 rfl (Nat.le_of_ble_eq_true rfl) (by decide) rfl (zk_V (fun μ_2 h => ?_))
  refine z_aload_n hE dX12_reach_12 rfl 0 rfl ?_
  refine z_getI hE dX12_reach_13 lF_X12_77 sM_0 rfl ?_
  refine z_iconst (v := 1) hE dX12_reach_16 zv_i_1 ?_
  refine z_icmp_ge (tgt := 23) hE dX12_reach_17 (by decide) h (fun h => ?_) (fun h => ?_)
  · refine z_bipush (v := -21) hE dX12_reach_23 zv_b_m21 ?_
    refine z_istore_n (lv' := [(1, .int (-21 : Int32)), (0, .ref 0)]) hE dX12_reach_25 rfl (by decide) rfl ?_
    refine z_bipush (v := 21) hE dX12_reach_26 zv_b_21 ?_
    refine z_istore_n (lv' := [(2, .int (21 : Int32)), (1, .int (-21 : Int32)), (0, .ref 0)]) hE dX12_reach_28 rfl (by decide) rfl ?_
    refine z_join (P := fun (J_5 : Int32 → ZMem → Prop) => ∀ (v2_3 : Int32) (μ_4 : ZMem), J_5 v2_3 μ_4 → zZ E (zzI Φ) 103 [(2, .int v2_3)] [] μ_4) h (fun v2_3 μ_4 h => ?_) (fun J_5 hJ_5 h => ?_)
    · refine z_iload_n hE dX12_reach_103 rfl 0 rfl ?_
      refine z_bipush (v := 20) hE dX12_reach_104 zv_b_20 ?_
      refine z_icmp_le (tgt := 113) hE dX12_reach_106 (by decide) h (fun h => ?_) (fun h => ?_)
      · refine z_iload_n hE dX12_reach_113 rfl 0 rfl ?_
        refine z_sipush (v := 1000) hE dX12_reach_114 zv_s_1000 ?_
        refine z_iadd hE dX12_reach_117 ?_
        exact z_iret (st := []) hE dX12_reach_118 rfl ⟨_, rfl, h⟩
      · refine z_iconst (v := -1) hE dX12_reach_109 zv_i_m1 ?_
        refine z_goto (tgt := 118) hE dX12_reach_110 (by decide) ?_
        exact z_iret (st := []) hE dX12_reach_118 rfl ⟨_, rfl, h⟩
    refine z_sub [2, 1, 0] rfl ?_
    obtain ⟨n29, h⟩ := h
    refine z_loop3 (P := fun (v1_6 : Int32) (v2_7 : Int32) (μ_8 : ZMem) => zZ E (zzI Φ) 29 [(0, .ref 0), (1, .int v1_6), (2, .int v2_7)] [] μ_8) (fun k29_8 hk29_8 v1_6 v2_7 μ_8 h => ?_) n29 _ _ _ h
    refine z_iload_n hE dX12_reach_29 rfl 2 rfl ?_
    refine z_iload_n hE dX12_reach_30 rfl 1 rfl ?_
    refine z_isub hE dX12_reach_31 ?_
    refine z_iconst (v := 1) hE dX12_reach_32 zv_i_1 ?_
    refine z_icmp_le (tgt := 103) hE dX12_reach_33 (by decide) h (fun h => ?_) (fun h => ?_)
    · exact z_sub [2] rfl (hJ_5 _ _ h)
    · refine z_iload_n hE dX12_reach_36 rfl 1 rfl ?_
      refine z_iload_n hE dX12_reach_37 rfl 2 rfl ?_
      refine z_iadd hE dX12_reach_38 ?_
      refine z_iconst (v := 2) hE dX12_reach_39 zv_i_2 ?_
      refine z_idiv hE dX12_reach_40 (by decide) ?_
      refine z_istore_n (lv' := [(3, .int ((v1_6 + v2_7) / (2 : Int32))), (0, .ref 0), (1, .int v1_6), (2, .int v2_7)]) hE dX12_reach_41 rfl (by decide) rfl ?_
      refine zn (G := fun v3_9 => zZ E (zzI Φ) 42 [(3, .int v3_9), (0, .ref 0), (1, .int v1_6), (2, .int v2_7)] [] μ_8) h (fun v3_9 h => ?_)
      refine z_aload_n hE dX12_reach_42 rfl 1 rfl ?_
      refine z_bipush (v := 30) hE dX12_reach_43 zv_b_30 ?_
      refine z_iload_n hE dX12_reach_45 rfl 0 rfl ?_
      refine z_iadd hE dX12_reach_46 ?_
      refine z_callV hE dX12_reach_47 lV_X12_173 (c_X12_laysRowsOf _ μ_8 _ h) sM_0 rfl (Nat.le_of_ble_eq_true rfl) (by decide) rfl (zk_V (fun μ_11 h => ?_))
      refine z_aload_n hE dX12_reach_50 rfl 1 rfl ?_
      refine z_getI hE dX12_reach_51 lF_X12_69 sM_0 rfl ?_
      refine z_if_eq (tgt := 60) hE dX12_reach_54 (by decide) h (fun h => ?_) (fun h => ?_)
      · refine z_aload_n hE dX12_reach_60 rfl 1 rfl ?_
        refine z_callV hE dX12_reach_61 lV_X12_195 (c_X12_left  μ_11 _ h) sM_0 rfl (Nat.le_of_ble_eq_true rfl) (by decide) rfl (zk_PI (fun r_12 h => ?_))
        refine z_aload_n hE dX12_reach_64 rfl 1 rfl ?_
        refine z_getI hE dX12_reach_65 lF_X12_77 sM_0 rfl ?_
        refine z_join (P := fun (J_15 : Int32 → Prop) => ∀ (x_14 : Int32), J_15 x_14 → zZ E (zzI Φ) 76 [(0, .ref 0), (1, .int v1_6), (2, .int v2_7), (3, .int v3_9)] [.int x_14] μ_11) h (fun x_14 h => ?_) (fun J_15 hJ_15 h => ?_)
        · refine z_istore (lv' := [(4, .int x_14), (0, .ref 0), (1, .int v1_6), (2, .int v2_7), (3, .int v3_9)]) hE dX12_reach_76 (by decide) rfl ?_
          refine z_iload hE dX12_reach_78 0 rfl ?_
          refine z_join (P := fun (J_17 : Int32 → Prop) => ∀ (x_16 : Int32), J_17 x_16 → zZ E (zzI Φ) 88 [(0, .ref 0), (1, .int v1_6), (3, .int v3_9), (4, .int x_14)] [.int x_16] μ_11) h (fun x_16 h => ?_) (fun J_17 hJ_17 h => ?_)
          · refine z_istore_n (lv' := [(2, .int x_16), (0, .ref 0), (1, .int v1_6), (3, .int v3_9), (4, .int x_14)]) hE dX12_reach_88 rfl (by decide) rfl ?_
            refine z_iload hE dX12_reach_89 4 rfl ?_
            refine z_join (P := fun (J_19 : Int32 → Prop) => ∀ (x_18 : Int32), J_19 x_18 → zZ E (zzI Φ) 99 [(0, .ref 0), (2, .int x_16)] [.int x_18] μ_11) h (fun x_18 h => ?_) (fun J_19 hJ_19 h => ?_)
            · refine z_istore_n (lv' := [(1, .int x_18), (0, .ref 0), (2, .int x_16)]) hE dX12_reach_99 rfl (by decide) rfl ?_
              refine z_goto (tgt := 29) hE dX12_reach_100 (by decide) ?_
              exact z_sub [1, 0, 2] rfl (hk29_8 _ _ _ h)
            refine z_if_eq (tgt := 98) hE dX12_reach_91 (by decide) h (fun h => ?_) (fun h => ?_)
            · refine z_iload_n hE dX12_reach_98 rfl 3 rfl ?_
              exact z_sub [1, 0] rfl (hJ_19 _ h)
            · refine z_iload_n hE dX12_reach_94 rfl 2 rfl ?_
              refine z_goto (tgt := 99) hE dX12_reach_95 (by decide) ?_
              exact z_sub [1, 0] rfl (hJ_19 _ h)
          refine z_if_eq (tgt := 87) hE dX12_reach_80 (by decide) h (fun h => ?_) (fun h => ?_)
          · refine z_iload_n hE dX12_reach_87 rfl 3 rfl ?_
            exact z_sub [1, 2, 4, 0] rfl (hJ_17 _ h)
          · refine z_iload_n hE dX12_reach_83 rfl 4 rfl ?_
            refine z_goto (tgt := 88) hE dX12_reach_84 (by decide) ?_
            exact z_sub [1, 2, 4, 0] rfl (hJ_17 _ h)
        refine z_icmp_ne (tgt := 75) hE dX12_reach_68 (by decide) h (fun h => ?_) (fun h => ?_)
        · refine z_iconst (v := 0) hE dX12_reach_75 zv_i_0 ?_
          exact z_sub [1, 2, 3, 0] rfl (hJ_15 _ h)
        · refine z_iconst (v := 1) hE dX12_reach_71 zv_i_1 ?_
          refine z_goto (tgt := 76) hE dX12_reach_72 (by decide) ?_
          exact z_sub [1, 2, 3, 0] rfl (hJ_15 _ h)
      · refine z_bipush (v := -7) hE dX12_reach_57 zv_b_m7 ?_
        exact z_iret (st := []) hE dX12_reach_59 rfl ⟨_, rfl, h⟩
  · refine z_bipush (v := -2) hE dX12_reach_20 zv_b_m2 ?_
    exact z_iret (st := []) hE dX12_reach_22 rfl ⟨_, rfl, h⟩
set_option maxRecDepth 4000 in
theorem c_X12_rights (a1 : Int32) (μ : ZMem) (Φ : Int32 → ZMem → Prop) (h : w_X12_rights a1 μ Φ) : zM SM yX12_rights cX12_rights 2 (some FieldType.int) 5 [.ref 0, .int a1] μ (zzI Φ) := by
  refine zM_go (own := RX12) rfl (by decide) (Nat.le_of_ble_eq_true rfl) (fun E hE => ?_)
  show zZ E (zzI Φ) 0 [(0, .ref 0), (1, .int a1)] [] μ
  unfold w_X12_rights at h
  refine z_iload_n hE dX12_rights_0 rfl 1 rfl ?_
  refine z_i2l hE dX12_rights_1 ?_
  refine z_ldc2 (v := -100) hE dX12_rights_2 lK_X12_101 ?_
  refine z_ldc2 (v := 100) hE dX12_rights_5 lK_X12_103 ?_
  refine z_callS hE dX12_rights_8 lS_X12_83 (c_X12_in _ _ _ μ _ h) rfl (Nat.le_of_ble_eq_true rfl) (by decide) rfl (zk_PI (fun r_1 h => ?_))
  refine z_if_eq (tgt := 22) hE dX12_rights_11 (by decide) h (fun h => ?_) (fun h => ?_)
  · refine z_bipush (v := -2) hE dX12_rights_22 zv_b_m2 ?_
    exact z_iret (st := []) hE dX12_rights_24 rfl ⟨_, rfl, h⟩
  · refine z_aload_n hE dX12_rights_14 rfl 0 rfl ?_
    refine z_iload_n hE dX12_rights_15 rfl 1 rfl ?_
    refine z_callV hE dX12_rights_16 lV_X12_336 (c_X12_rightsAt _ μ _ h) sM_0 rfl (Nat.le_of_ble_eq_true rfl) (by decide) rfl (zk_I (fun r_3 μ_4 h => ?_))
    refine z_goto (tgt := 24) hE dX12_rights_19 (by decide) ?_
    exact z_iret (st := []) hE dX12_rights_24 rfl ⟨_, rfl, h⟩
set_option maxRecDepth 4000 in
theorem c_X12_roots (a1 : Int32) (a2 : Int32) (μ : ZMem) (Φ : Int32 → ZMem → Prop) (h : w_X12_roots a1 a2 μ Φ) : zM SM yX12_roots cX12_roots 3 (some FieldType.int) 5 [.ref 0, .int a1, .int a2] μ (zzI Φ) := by
  refine zM_go (own := RX12) rfl (by decide) (Nat.le_of_ble_eq_true rfl) (fun E hE => ?_)
  show zZ E (zzI Φ) 0 [(0, .ref 0), (1, .int a1), (2, .int a2)] [] μ
  unfold w_X12_roots at h
  refine z_iload_n hE dX12_roots_0 rfl 1 rfl ?_
  refine z_callS hE dX12_roots_1 lS_X12_130 (c_X12_isForm _ μ _ h) rfl (Nat.le_of_ble_eq_true rfl) (by decide) rfl (zk_PI (fun r_1 h => ?_))
  refine z_if_eq (tgt := 19) hE dX12_roots_4 (by decide) h (fun h => ?_) (fun h => ?_)
  · refine z_bipush (v := -2) hE dX12_roots_19 zv_b_m2 ?_
    exact z_iret (st := []) hE dX12_roots_21 rfl ⟨_, rfl, h⟩
  · refine z_iload_n hE dX12_roots_7 rfl 2 rfl ?_
    refine z_i2l hE dX12_roots_8 ?_
    refine z_lconst (v := 0) hE dX12_roots_9 zv_l_0 ?_
    refine z_ldc2 (v := 4) hE dX12_roots_10 lK_X12_193 ?_
    refine z_callS hE dX12_roots_13 lS_X12_83 (c_X12_in _ _ _ μ _ h) rfl (Nat.le_of_ble_eq_true rfl) (by decide) rfl (zk_PI (fun r_3 h => ?_))
    refine z_if_ne (tgt := 22) hE dX12_roots_16 (by decide) h (fun h => ?_) (fun h => ?_)
    · refine z_aload_n hE dX12_roots_22 rfl 0 rfl ?_
      refine z_iload_n hE dX12_roots_23 rfl 1 rfl ?_
      refine z_callV hE dX12_roots_24 lV_X12_173 (c_X12_laysRowsOf _ μ _ h) sM_0 rfl (Nat.le_of_ble_eq_true rfl) (by decide) rfl (zk_V (fun μ_6 h => ?_))
      refine z_aload_n hE dX12_roots_27 rfl 0 rfl ?_
      refine z_getI hE dX12_roots_28 lF_X12_69 sM_0 rfl ?_
      refine z_if_eq (tgt := 37) hE dX12_roots_31 (by decide) h (fun h => ?_) (fun h => ?_)
      · refine z_iload_n hE dX12_roots_37 rfl 2 rfl ?_
        obtain ⟨g38_0, g38_1, g38_2, g38_3, gd_38⟩ := h
        by_cases c38_0 : a2 = (0 : Int32)
        · have h := g38_0 c38_0
          refine z_swIn (tgt := 68) hE dX12_roots_38 (by rw [c38_0]; decide) (by rw [c38_0]; decide) (by rw [c38_0]; rfl) (by decide) ?_
          refine z_aload_n hE dX12_roots_68 rfl 0 rfl ?_
          refine z_callV hE dX12_roots_69 lV_X12_187 (c_X12_right  μ_6 _ h) sM_0 rfl (Nat.le_of_ble_eq_true rfl) (by decide) rfl (zk_PI (fun r_7 h => ?_))
          exact z_iret (st := []) hE dX12_roots_72 rfl ⟨_, rfl, h⟩
        by_cases c38_1 : a2 = (1 : Int32)
        · have h := g38_1 c38_1
          refine z_swIn (tgt := 73) hE dX12_roots_38 (by rw [c38_1]; decide) (by rw [c38_1]; decide) (by rw [c38_1]; rfl) (by decide) ?_
          refine z_aload_n hE dX12_roots_73 rfl 0 rfl ?_
          refine z_callV hE dX12_roots_74 lV_X12_190 (c_X12_axis  μ_6 _ h) sM_0 rfl (Nat.le_of_ble_eq_true rfl) (by decide) rfl (zk_PI (fun r_9 h => ?_))
          exact z_iret (st := []) hE dX12_roots_77 rfl ⟨_, rfl, h⟩
        by_cases c38_2 : a2 = (2 : Int32)
        · have h := g38_2 c38_2
          refine z_swIn (tgt := 78) hE dX12_roots_38 (by rw [c38_2]; decide) (by rw [c38_2]; decide) (by rw [c38_2]; rfl) (by decide) ?_
          refine z_aload_n hE dX12_roots_78 rfl 0 rfl ?_
          refine z_callV hE dX12_roots_79 lV_X12_195 (c_X12_left  μ_6 _ h) sM_0 rfl (Nat.le_of_ble_eq_true rfl) (by decide) rfl (zk_PI (fun r_11 h => ?_))
          exact z_iret (st := []) hE dX12_roots_82 rfl ⟨_, rfl, h⟩
        by_cases c38_3 : a2 = (3 : Int32)
        · have h := g38_3 c38_3
          refine z_swIn (tgt := 83) hE dX12_roots_38 (by rw [c38_3]; decide) (by rw [c38_3]; decide) (by rw [c38_3]; rfl) (by decide) ?_
          refine z_aload_n hE dX12_roots_83 rfl 0 rfl ?_
          refine z_callV hE dX12_roots_84 lV_X12_183 (c_X12_firstCase  μ_6 _ h) sM_0 rfl (Nat.le_of_ble_eq_true rfl) (by decide) rfl (zk_PI (fun r_13 h => ?_))
          exact z_iret (st := []) hE dX12_roots_87 rfl ⟨_, rfl, h⟩
        have h := gd_38 c38_0 c38_1 c38_2 c38_3
        refine z_swOut (tgt := 88) hE dX12_roots_38 (by have e0 := lv_neT c38_0 (a := 0) (by decide); have e1 := lv_neT c38_1 (a := 1) (by decide); have e2 := lv_neT c38_2 (a := 2) (by decide); have e3 := lv_neT c38_3 (a := 3) (by decide); show _ < (0 : Int) ∨ (3 : Int) < _; omega) (by decide) ?_
        refine z_aload_n hE dX12_roots_88 rfl 0 rfl ?_
        refine z_callV hE dX12_roots_89 lV_X12_190 (c_X12_axis  μ_6 _ h) sM_0 rfl (Nat.le_of_ble_eq_true rfl) (by decide) rfl (zk_PI (fun r_15 h => ?_))
        refine z_iload_n hE dX12_roots_92 rfl 1 rfl ?_
        refine z_iconst (v := 3) hE dX12_roots_93 zv_i_3 ?_
        refine z_icmp_ne (tgt := 104) hE dX12_roots_94 (by decide) h (fun h => ?_) (fun h => ?_)
        · refine z_iconst (v := 0) hE dX12_roots_104 zv_i_0 ?_
          refine z_iadd hE dX12_roots_105 ?_
          exact z_iret (st := []) hE dX12_roots_106 rfl ⟨_, rfl, h⟩
        · refine z_aload_n hE dX12_roots_97 rfl 0 rfl ?_
          refine z_getI hE dX12_roots_98 lF_X12_124 sM_0 rfl ?_
          refine z_goto (tgt := 105) hE dX12_roots_101 (by decide) ?_
          refine z_iadd hE dX12_roots_105 ?_
          exact z_iret (st := []) hE dX12_roots_106 rfl ⟨_, rfl, h⟩
      · refine z_bipush (v := -7) hE dX12_roots_34 zv_b_m7 ?_
        exact z_iret (st := []) hE dX12_roots_36 rfl ⟨_, rfl, h⟩
    · refine z_bipush (v := -2) hE dX12_roots_19 zv_b_m2 ?_
      exact z_iret (st := []) hE dX12_roots_21 rfl ⟨_, rfl, h⟩
set_option maxRecDepth 4000 in
theorem c_X12_row (a1 : Int32) (a2 : Int32) (a3 : Int32) (μ : ZMem) (Φ : Int64 → ZMem → Prop) (h : w_X12_row a1 a2 a3 μ Φ) : zM SM yX12_row cX12_row 4 (some FieldType.long) 5 [.ref 0, .int a1, .int a2, .int a3] μ (zzJ Φ) := by
  refine zM_go (own := RX12) rfl (by decide) (Nat.le_of_ble_eq_true rfl) (fun E hE => ?_)
  show zZ E (zzJ Φ) 0 [(0, .ref 0), (1, .int a1), (2, .int a2), (3, .int a3)] [] μ
  unfold w_X12_row at h
  refine z_iload_n hE dX12_row_0 rfl 1 rfl ?_
  refine z_callS hE dX12_row_1 lS_X12_130 (c_X12_isForm _ μ _ h) rfl (Nat.le_of_ble_eq_true rfl) (by decide) rfl (zk_PI (fun r_1 h => ?_))
  refine z_if_ne (tgt := 11) hE dX12_row_4 (by decide) h (fun h => ?_) (fun h => ?_)
  · refine z_aload_n hE dX12_row_11 rfl 0 rfl ?_
    refine z_iload_n hE dX12_row_12 rfl 1 rfl ?_
    refine z_callV hE dX12_row_13 lV_X12_173 (c_X12_laysRowsOf _ μ _ h) sM_0 rfl (Nat.le_of_ble_eq_true rfl) (by decide) rfl (zk_V (fun μ_4 h => ?_))
    refine z_aload_n hE dX12_row_16 rfl 0 rfl ?_
    refine z_iload_n hE dX12_row_17 rfl 2 rfl ?_
    refine z_callV hE dX12_row_18 lV_X12_176 (c_X12_isRow _ μ_4 _ h) sM_0 rfl (Nat.le_of_ble_eq_true rfl) (by decide) rfl (zk_PI (fun r_5 h => ?_))
    refine z_if_eq (tgt := 48) hE dX12_row_21 (by decide) h (fun h => ?_) (fun h => ?_)
    · refine z_ldc2 (v := -9223372036854775808) hE dX12_row_48 lK_X12_67 ?_
      refine z_goto (tgt := 60) hE dX12_row_51 (by decide) ?_
      exact z_lret (st := []) hE dX12_row_60 rfl ⟨_, rfl, h⟩
    · refine z_iload_n hE dX12_row_24 rfl 3 rfl ?_
      refine z_i2l hE dX12_row_25 ?_
      refine z_lconst (v := 0) hE dX12_row_26 zv_l_0 ?_
      refine z_aload_n hE dX12_row_27 rfl 0 rfl ?_
      refine z_iload_n hE dX12_row_28 rfl 2 rfl ?_
      refine z_callV hE dX12_row_29 lV_X12_136 (c_X12_itemMany _ μ_4 _ h) sM_0 rfl (Nat.le_of_ble_eq_true rfl) (by decide) rfl (zk_PI (fun r_7 h => ?_))
      refine z_iconst (v := 1) hE dX12_row_32 zv_i_1 ?_
      refine z_isub hE dX12_row_33 ?_
      refine z_i2l hE dX12_row_34 ?_
      refine z_callS hE dX12_row_35 lS_X12_83 (c_X12_in _ _ _ μ_4 _ h) rfl (Nat.le_of_ble_eq_true rfl) (by decide) rfl (zk_PI (fun r_9 h => ?_))
      refine z_if_eq (tgt := 48) hE dX12_row_38 (by decide) h (fun h => ?_) (fun h => ?_)
      · refine z_ldc2 (v := -9223372036854775808) hE dX12_row_48 lK_X12_67 ?_
        refine z_goto (tgt := 60) hE dX12_row_51 (by decide) ?_
        exact z_lret (st := []) hE dX12_row_60 rfl ⟨_, rfl, h⟩
      · refine z_aload_n hE dX12_row_41 rfl 0 rfl ?_
        refine z_getI hE dX12_row_42 lF_X12_69 sM_0 rfl ?_
        refine z_if_eq (tgt := 54) hE dX12_row_45 (by decide) h (fun h => ?_) (fun h => ?_)
        · refine z_aload_n hE dX12_row_54 rfl 0 rfl ?_
          refine z_iload_n hE dX12_row_55 rfl 2 rfl ?_
          refine z_iload_n hE dX12_row_56 rfl 3 rfl ?_
          refine z_callV hE dX12_row_57 lV_X12_140 (c_X12_item _ _ μ_4 _ h) sM_0 rfl (Nat.le_of_ble_eq_true rfl) (by decide) rfl (zk_PJ (fun r_11 h => ?_))
          exact z_lret (st := []) hE dX12_row_60 rfl ⟨_, rfl, h⟩
        · refine z_ldc2 (v := -9223372036854775808) hE dX12_row_48 lK_X12_67 ?_
          refine z_goto (tgt := 60) hE dX12_row_51 (by decide) ?_
          exact z_lret (st := []) hE dX12_row_60 rfl ⟨_, rfl, h⟩
  · refine z_ldc2 (v := -9223372036854775808) hE dX12_row_7 lK_X12_67 ?_
    exact z_lret (st := []) hE dX12_row_10 rfl ⟨_, rfl, h⟩
set_option maxRecDepth 4000 in
theorem c_X12_steady (a1 : Int32) (a2 : Int32) (a3 : Int32) (μ : ZMem) (Φ : Int32 → ZMem → Prop) (h : w_X12_steady a1 a2 a3 μ Φ) : zM SM yX12_steady cX12_steady 4 (some FieldType.int) 5 [.ref 0, .int a1, .int a2, .int a3] μ (zzI Φ) := by
  refine zM_go (own := RX12) rfl (by decide) (Nat.le_of_ble_eq_true rfl) (fun E hE => ?_)
  show zZ E (zzI Φ) 0 [(0, .ref 0), (1, .int a1), (2, .int a2), (3, .int a3)] [] μ
  unfold w_X12_steady at h
  refine z_iload_n hE dX12_steady_0 rfl 1 rfl ?_
  refine z_callS hE dX12_steady_1 lS_X12_204 (c_X12_isKind _ μ _ h) rfl (Nat.le_of_ble_eq_true rfl) (by decide) rfl (zk_PI (fun r_1 h => ?_))
  refine z_if_eq (tgt := 33) hE dX12_steady_4 (by decide) h (fun h => ?_) (fun h => ?_)
  · refine z_bipush (v := -2) hE dX12_steady_33 zv_b_m2 ?_
    exact z_iret (st := []) hE dX12_steady_35 rfl ⟨_, rfl, h⟩
  · refine z_iload_n hE dX12_steady_7 rfl 2 rfl ?_
    refine z_i2l hE dX12_steady_8 ?_
    refine z_lconst (v := 1) hE dX12_steady_9 zv_l_1 ?_
    refine z_ldc2 (v := 16) hE dX12_steady_10 lK_X12_207 ?_
    refine z_callS hE dX12_steady_13 lS_X12_83 (c_X12_in _ _ _ μ _ h) rfl (Nat.le_of_ble_eq_true rfl) (by decide) rfl (zk_PI (fun r_3 h => ?_))
    refine z_if_eq (tgt := 33) hE dX12_steady_16 (by decide) h (fun h => ?_) (fun h => ?_)
    · refine z_bipush (v := -2) hE dX12_steady_33 zv_b_m2 ?_
      exact z_iret (st := []) hE dX12_steady_35 rfl ⟨_, rfl, h⟩
    · refine z_iload_n hE dX12_steady_19 rfl 3 rfl ?_
      refine z_i2l hE dX12_steady_20 ?_
      refine z_ldc2 (v := -1600) hE dX12_steady_21 lK_X12_209 ?_
      refine z_ldc2 (v := 1600) hE dX12_steady_24 lK_X12_211 ?_
      refine z_callS hE dX12_steady_27 lS_X12_83 (c_X12_in _ _ _ μ _ h) rfl (Nat.le_of_ble_eq_true rfl) (by decide) rfl (zk_PI (fun r_5 h => ?_))
      refine z_if_ne (tgt := 36) hE dX12_steady_30 (by decide) h (fun h => ?_) (fun h => ?_)
      · refine z_aload_n hE dX12_steady_36 rfl 0 rfl ?_
        refine z_iload_n hE dX12_steady_37 rfl 1 rfl ?_
        refine z_iload_n hE dX12_steady_38 rfl 2 rfl ?_
        refine z_iload_n hE dX12_steady_39 rfl 3 rfl ?_
        refine z_callV hE dX12_steady_40 lV_X12_213 (c_X12_isSteady _ _ _ μ _ h) sM_0 rfl (Nat.le_of_ble_eq_true rfl) (by decide) rfl (zk_I (fun r_7 μ_8 h => ?_))
        refine z_if_eq (tgt := 50) hE dX12_steady_43 (by decide) h (fun h => ?_) (fun h => ?_)
        · refine z_iconst (v := 0) hE dX12_steady_50 zv_i_0 ?_
          exact z_iret (st := []) hE dX12_steady_51 rfl ⟨_, rfl, h⟩
        · refine z_iconst (v := 1) hE dX12_steady_46 zv_i_1 ?_
          refine z_goto (tgt := 51) hE dX12_steady_47 (by decide) ?_
          exact z_iret (st := []) hE dX12_steady_51 rfl ⟨_, rfl, h⟩
      · refine z_bipush (v := -2) hE dX12_steady_33 zv_b_m2 ?_
        exact z_iret (st := []) hE dX12_steady_35 rfl ⟨_, rfl, h⟩
set_option maxRecDepth 4000 in
theorem c_X12_strip (a1 : Int32) (a2 : Int32) (μ : ZMem) (Φ : Int32 → ZMem → Prop) (h : w_X12_strip a1 a2 μ Φ) : zM SM yX12_strip cX12_strip 5 (some FieldType.int) 5 [.ref 0, .int a1, .int a2] μ (zzI Φ) := by
  refine zM_go (own := RX12) rfl (by decide) (Nat.le_of_ble_eq_true rfl) (fun E hE => ?_)
  show zZ E (zzI Φ) 0 [(0, .ref 0), (1, .int a1), (2, .int a2)] [] μ
  unfold w_X12_strip at h
  refine z_iload_n hE dX12_strip_0 rfl 1 rfl ?_
  refine z_callS hE dX12_strip_1 lS_X12_201 (c_X12_isFar _ μ _ h) rfl (Nat.le_of_ble_eq_true rfl) (by decide) rfl (zk_PI (fun r_1 h => ?_))
  refine z_if_eq (tgt := 19) hE dX12_strip_4 (by decide) h (fun h => ?_) (fun h => ?_)
  · refine z_bipush (v := -2) hE dX12_strip_19 zv_b_m2 ?_
    exact z_iret (st := []) hE dX12_strip_21 rfl ⟨_, rfl, h⟩
  · refine z_iload_n hE dX12_strip_7 rfl 2 rfl ?_
    refine z_callS hE dX12_strip_8 lS_X12_201 (c_X12_isFar _ μ _ h) rfl (Nat.le_of_ble_eq_true rfl) (by decide) rfl (zk_PI (fun r_3 h => ?_))
    refine z_if_eq (tgt := 19) hE dX12_strip_11 (by decide) h (fun h => ?_) (fun h => ?_)
    · refine z_bipush (v := -2) hE dX12_strip_19 zv_b_m2 ?_
      exact z_iret (st := []) hE dX12_strip_21 rfl ⟨_, rfl, h⟩
    · refine z_iload_n hE dX12_strip_14 rfl 2 rfl ?_
      refine z_iload_n hE dX12_strip_15 rfl 1 rfl ?_
      refine z_icmp_gt (tgt := 22) hE dX12_strip_16 (by decide) h (fun h => ?_) (fun h => ?_)
      · refine z_aload_n hE dX12_strip_22 rfl 0 rfl ?_
        refine z_bipush (v := 30) hE dX12_strip_23 zv_b_30 ?_
        refine z_iload_n hE dX12_strip_25 rfl 2 rfl ?_
        refine z_iadd hE dX12_strip_26 ?_
        refine z_callV hE dX12_strip_27 lV_X12_173 (c_X12_laysRowsOf _ μ _ h) sM_0 rfl (Nat.le_of_ble_eq_true rfl) (by decide) rfl (zk_V (fun μ_6 h => ?_))
        refine z_aload_n hE dX12_strip_30 rfl 0 rfl ?_
        refine z_callV hE dX12_strip_31 lV_X12_195 (c_X12_left  μ_6 _ h) sM_0 rfl (Nat.le_of_ble_eq_true rfl) (by decide) rfl (zk_PI (fun r_7 h => ?_))
        refine z_istore_n (lv' := [(3, .int r_7), (0, .ref 0), (1, .int a1), (2, .int a2)]) hE dX12_strip_34 rfl (by decide) rfl ?_
        refine z_aload_n hE dX12_strip_35 rfl 1 rfl ?_
        refine z_getI hE dX12_strip_36 lF_X12_69 sM_0 rfl ?_
        refine z_istore (lv' := [(4, .int (μ_6.1 0 4)), (3, .int r_7), (0, .ref 0), (1, .int a1), (2, .int a2)]) hE dX12_strip_39 (by decide) rfl ?_
        refine zn (G := fun v4_9 => zZ E (zzI Φ) 41 [(4, .int v4_9), (3, .int r_7), (0, .ref 0), (1, .int a1), (2, .int a2)] [] μ_6) h (fun v4_9 h => ?_)
        refine z_aload_n hE dX12_strip_41 rfl 2 rfl ?_
        refine z_bipush (v := 30) hE dX12_strip_42 zv_b_30 ?_
        refine z_iload_n hE dX12_strip_44 rfl 3 rfl ?_
        refine z_iadd hE dX12_strip_45 ?_
        refine z_callV hE dX12_strip_46 lV_X12_173 (c_X12_laysRowsOf _ μ_6 _ h) sM_0 rfl (Nat.le_of_ble_eq_true rfl) (by decide) rfl (zk_V (fun μ_11 h => ?_))
        refine z_iload hE dX12_strip_49 0 rfl ?_
        refine z_if_ne (tgt := 61) hE dX12_strip_51 (by decide) h (fun h => ?_) (fun h => ?_)
        · refine z_bipush (v := -7) hE dX12_strip_61 zv_b_m7 ?_
          refine z_goto (tgt := 77) hE dX12_strip_63 (by decide) ?_
          exact z_iret (st := []) hE dX12_strip_77 rfl ⟨_, rfl, h⟩
        · refine z_aload_n hE dX12_strip_54 rfl 2 rfl ?_
          refine z_getI hE dX12_strip_55 lF_X12_69 sM_0 rfl ?_
          refine z_if_eq (tgt := 66) hE dX12_strip_58 (by decide) h (fun h => ?_) (fun h => ?_)
          · refine z_iload_n hE dX12_strip_66 rfl 1 rfl ?_
            refine z_aload_n hE dX12_strip_67 rfl 2 rfl ?_
            refine z_callV hE dX12_strip_68 lV_X12_195 (c_X12_left  μ_11 _ h) sM_0 rfl (Nat.le_of_ble_eq_true rfl) (by decide) rfl (zk_PI (fun r_12 h => ?_))
            refine z_isub hE dX12_strip_71 ?_
            refine z_aload_n hE dX12_strip_72 rfl 2 rfl ?_
            refine z_callV hE dX12_strip_73 lV_X12_190 (c_X12_axis  μ_11 _ h) sM_0 rfl (Nat.le_of_ble_eq_true rfl) (by decide) rfl (zk_PI (fun r_14 h => ?_))
            refine z_isub hE dX12_strip_76 ?_
            exact z_iret (st := []) hE dX12_strip_77 rfl ⟨_, rfl, h⟩
          · refine z_bipush (v := -7) hE dX12_strip_61 zv_b_m7 ?_
            refine z_goto (tgt := 77) hE dX12_strip_63 (by decide) ?_
            exact z_iret (st := []) hE dX12_strip_77 rfl ⟨_, rfl, h⟩
      · refine z_bipush (v := -2) hE dX12_strip_19 zv_b_m2 ?_
        exact z_iret (st := []) hE dX12_strip_21 rfl ⟨_, rfl, h⟩
set_option maxRecDepth 4000 in
theorem c_X12_weed (a1 : Int32) (a2 : Int32) (μ : ZMem) (Φ : Int32 → ZMem → Prop) (h : w_X12_weed a1 a2 μ Φ) : zM SM yX12_weed cX12_weed 6 (some FieldType.int) 5 [.ref 0, .int a1, .int a2] μ (zzI Φ) := by
  refine zM_go (own := RX12) rfl (by decide) (Nat.le_of_ble_eq_true rfl) (fun E hE => ?_)
  show zZ E (zzI Φ) 0 [(0, .ref 0), (1, .int a1), (2, .int a2)] [] μ
  unfold w_X12_weed at h
  refine z_iload_n hE dX12_weed_0 rfl 1 rfl ?_
  refine z_callS hE dX12_weed_1 lS_X12_204 (c_X12_isKind _ μ _ h) rfl (Nat.le_of_ble_eq_true rfl) (by decide) rfl (zk_PI (fun r_1 h => ?_))
  refine z_if_eq (tgt := 19) hE dX12_weed_4 (by decide) h (fun h => ?_) (fun h => ?_)
  · refine z_bipush (v := -2) hE dX12_weed_19 zv_b_m2 ?_
    exact z_iret (st := []) hE dX12_weed_21 rfl ⟨_, rfl, h⟩
  · refine z_iload_n hE dX12_weed_7 rfl 2 rfl ?_
    refine z_i2l hE dX12_weed_8 ?_
    refine z_lconst (v := 0) hE dX12_weed_9 zv_l_0 ?_
    refine z_ldc2 (v := 2) hE dX12_weed_10 lK_X12_95 ?_
    refine z_callS hE dX12_weed_13 lS_X12_83 (c_X12_in _ _ _ μ _ h) rfl (Nat.le_of_ble_eq_true rfl) (by decide) rfl (zk_PI (fun r_3 h => ?_))
    refine z_if_ne (tgt := 22) hE dX12_weed_16 (by decide) h (fun h => ?_) (fun h => ?_)
    · refine z_aload_n hE dX12_weed_22 rfl 0 rfl ?_
      refine z_getR (t := 1) hE dX12_weed_23 lF_X12_11 sM_0 rfl ?_
      refine z_bipush (v := 15) hE dX12_weed_26 zv_b_15 ?_
      refine z_iald hE dX12_weed_28 sM_1 (zin (by decide)) ?_
      refine z_istore_n (lv' := [(3, .int (μ.1 1 15)), (0, .ref 0), (1, .int a1), (2, .int a2)]) hE dX12_weed_29 rfl (by decide) rfl ?_
      refine zn (G := fun v3_5 => zZ E (zzI Φ) 30 [(3, .int v3_5), (0, .ref 0), (1, .int a1), (2, .int a2)] [] μ) h (fun v3_5 h => ?_)
      refine z_iload_n hE dX12_weed_30 rfl 0 rfl ?_
      refine z_iconst (v := 1) hE dX12_weed_31 zv_i_1 ?_
      refine z_isub hE dX12_weed_32 ?_
      refine z_istore (lv' := [(4, .int (v3_5 - (1 : Int32))), (3, .int v3_5), (0, .ref 0), (1, .int a1), (2, .int a2)]) hE dX12_weed_33 (by decide) rfl ?_
      refine zn (G := fun v4_6 => zZ E (zzI Φ) 35 [(4, .int v4_6), (3, .int v3_5), (0, .ref 0), (1, .int a1), (2, .int a2)] [] μ) h (fun v4_6 h => ?_)
      refine z_sub [2, 3, 4, 1, 0] rfl ?_
      obtain ⟨n35, h⟩ := h
      refine z_loop2 (P := fun (v4_7 : Int32) (μ_8 : ZMem) => zZ E (zzI Φ) 35 [(0, .ref 0), (1, .int a1), (2, .int a2), (3, .int v3_5), (4, .int v4_7)] [] μ_8) (fun k35_8 hk35_8 v4_7 μ_8 h => ?_) n35 _ _ h
      refine z_iload hE dX12_weed_35 4 rfl ?_
      refine z_if_lt (tgt := 107) hE dX12_weed_37 (by decide) h (fun h => ?_) (fun h => ?_)
      · refine z_iload_n hE dX12_weed_107 rfl 3 rfl ?_
        refine z_aload_n hE dX12_weed_108 rfl 0 rfl ?_
        refine z_getR (t := 1) hE dX12_weed_109 lF_X12_11 sM_0 rfl ?_
        refine z_bipush (v := 15) hE dX12_weed_112 zv_b_15 ?_
        refine z_iald hE dX12_weed_114 sM_1 (zin (by decide)) ?_
        refine z_isub hE dX12_weed_115 ?_
        exact z_iret (st := []) hE dX12_weed_116 rfl ⟨_, rfl, h⟩
      · refine z_iload_n hE dX12_weed_40 rfl 2 rfl ?_
        refine z_iconst (v := 2) hE dX12_weed_41 zv_i_2 ?_
        refine z_join (P := fun (J_11 : Int32 → ZMem → Prop) => ∀ (x_9 : Int32) (μ_10 : ZMem), J_11 x_9 μ_10 → zZ E (zzI Φ) 88 [(0, .ref 0), (1, .int a1), (2, .int a2), (3, .int v3_5), (4, .int v4_7)] [.int x_9] μ_10) h (fun x_9 μ_10 h => ?_) (fun J_11 hJ_11 h => ?_)
        · refine z_istore (lv' := [(5, .int x_9), (0, .ref 0), (1, .int a1), (2, .int a2), (3, .int v3_5), (4, .int v4_7)]) hE dX12_weed_88 (by decide) rfl ?_
          refine z_iload hE dX12_weed_90 0 rfl ?_
          refine z_join (P := fun (J_13 : ZMem → Prop) => ∀ (μ_12 : ZMem), J_13 μ_12 → zZ E (zzI Φ) 101 [(0, .ref 0), (1, .int a1), (2, .int a2), (3, .int v3_5), (4, .int v4_7)] [] μ_12) h (fun μ_12 h => ?_) (fun J_13 hJ_13 h => ?_)
          · refine z_iinc (j := 4) (c := -1) (lv' := [(4, .int (v4_7 + (-1 : Int32))), (0, .ref 0), (1, .int a1), (2, .int a2), (3, .int v3_5)]) hE dX12_weed_101 rfl zv_i_m1 (by decide) rfl ?_
            refine z_goto (tgt := 35) hE dX12_weed_104 (by decide) ?_
            exact z_sub [1, 2, 3, 4, 0] rfl (hk35_8 _ _ h)
          refine z_if_eq (tgt := 101) hE dX12_weed_92 (by decide) h (fun h => ?_) (fun h => ?_)
          · exact z_sub [1, 2, 3, 4, 5] rfl (hJ_13 _ h)
          · refine z_aload_n hE dX12_weed_95 rfl 1 rfl ?_
            refine z_iload hE dX12_weed_96 5 rfl ?_
            refine z_callV hE dX12_weed_98 lV_X12_294 (c_X12_leaves _ μ_10 _ h) sM_0 rfl (Nat.le_of_ble_eq_true rfl) (by decide) rfl (zk_V (fun μ_15 h => ?_))
            exact z_sub [1, 2, 3, 4, 5] rfl (hJ_13 _ h)
        refine z_icmp_ne (tgt := 54) hE dX12_weed_42 (by decide) h (fun h => ?_) (fun h => ?_)
        · refine z_aload_n hE dX12_weed_54 rfl 0 rfl ?_
          refine z_iload_n hE dX12_weed_55 rfl 1 rfl ?_
          refine z_iconst (v := 1) hE dX12_weed_56 zv_i_1 ?_
          refine z_aload_n hE dX12_weed_57 rfl 0 rfl ?_
          refine z_getR (t := 1) hE dX12_weed_58 lF_X12_11 sM_0 rfl ?_
          refine z_bipush (v := 16) hE dX12_weed_61 zv_b_16 ?_
          refine z_iload hE dX12_weed_63 4 rfl ?_
          refine z_iadd hE dX12_weed_65 ?_
          obtain ⟨q_16, h⟩ := h
          refine z_iald hE dX12_weed_66 sM_1 q_16 ?_
          refine z_callV hE dX12_weed_67 lV_X12_213 (c_X12_isSteady _ _ _ μ_8 _ h) sM_0 rfl (Nat.le_of_ble_eq_true rfl) (by decide) rfl (zk_I (fun r_17 μ_18 h => ?_))
          refine z_iload_n hE dX12_weed_70 rfl 2 rfl ?_
          refine z_iconst (v := 1) hE dX12_weed_71 zv_i_1 ?_
          refine z_join (P := fun (J_20 : Int32 → Prop) => ∀ (x_19 : Int32), J_20 x_19 → zZ E (zzI Φ) 80 [(0, .ref 0), (1, .int a1), (2, .int a2), (3, .int v3_5), (4, .int v4_7)] [.int x_19, .int r_17] μ_18) h (fun x_19 h => ?_) (fun J_20 hJ_20 h => ?_)
          · refine z_icmp_ne (tgt := 87) hE dX12_weed_80 (by decide) h (fun h => ?_) (fun h => ?_)
            · refine z_iconst (v := 0) hE dX12_weed_87 zv_i_0 ?_
              exact hJ_11 _ _ h
            · refine z_iconst (v := 1) hE dX12_weed_83 zv_i_1 ?_
              refine z_goto (tgt := 88) hE dX12_weed_84 (by decide) ?_
              exact hJ_11 _ _ h
          refine z_icmp_ne (tgt := 79) hE dX12_weed_72 (by decide) h (fun h => ?_) (fun h => ?_)
          · refine z_iconst (v := 0) hE dX12_weed_79 zv_i_0 ?_
            exact hJ_20 _ h
          · refine z_iconst (v := 1) hE dX12_weed_75 zv_i_1 ?_
            refine z_goto (tgt := 80) hE dX12_weed_76 (by decide) ?_
            exact hJ_20 _ h
        · refine z_aload_n hE dX12_weed_45 rfl 0 rfl ?_
          refine z_iload hE dX12_weed_46 4 rfl ?_
          refine z_callV hE dX12_weed_48 lV_X12_297 (c_X12_isTwice _ μ_8 _ h) sM_0 rfl (Nat.le_of_ble_eq_true rfl) (by decide) rfl (zk_PI (fun r_21 h => ?_))
          refine z_goto (tgt := 88) hE dX12_weed_51 (by decide) ?_
          exact hJ_11 _ _ h
    · refine z_bipush (v := -2) hE dX12_weed_19 zv_b_m2 ?_
      exact z_iret (st := []) hE dX12_weed_21 rfl ⟨_, rfl, h⟩
set_option maxRecDepth 4000 in
theorem c_X12_wrongRow (a1 : Int32) (a2 : Int32) (a3 : Int32) (μ : ZMem) (Φ : Int32 → ZMem → Prop) (h : w_X12_wrongRow a1 a2 a3 μ Φ) : zM SM yX12_wrongRow cX12_wrongRow 4 (some FieldType.int) 5 [.ref 0, .int a1, .int a2, .int a3] μ (zzI Φ) := by
  refine zM_go (own := RX12) rfl (by decide) (Nat.le_of_ble_eq_true rfl) (fun E hE => ?_)
  show zZ E (zzI Φ) 0 [(0, .ref 0), (1, .int a1), (2, .int a2), (3, .int a3)] [] μ
  unfold w_X12_wrongRow at h
  refine z_iload_n hE dX12_wrongRow_0 rfl 1 rfl ?_
  refine z_callS hE dX12_wrongRow_1 lS_X12_303 (c_X12_isTray _ μ _ h) rfl (Nat.le_of_ble_eq_true rfl) (by decide) rfl (zk_PI (fun r_1 h => ?_))
  refine z_if_ne (tgt := 9) hE dX12_wrongRow_4 (by decide) h (fun h => ?_) (fun h => ?_)
  · refine z_iload_n hE dX12_wrongRow_9 rfl 2 rfl ?_
    refine z_callS hE dX12_wrongRow_10 lS_X12_130 (c_X12_isForm _ μ _ h) rfl (Nat.le_of_ble_eq_true rfl) (by decide) rfl (zk_PI (fun r_3 h => ?_))
    refine z_if_ne (tgt := 19) hE dX12_wrongRow_13 (by decide) h (fun h => ?_) (fun h => ?_)
    · refine z_aload_n hE dX12_wrongRow_19 rfl 0 rfl ?_
      refine z_getR (t := 15) hE dX12_wrongRow_20 lF_X12_55 sM_0 rfl ?_
      refine z_iload_n hE dX12_wrongRow_23 rfl 1 rfl ?_
      obtain ⟨q_5, h⟩ := h
      refine z_iald hE dX12_wrongRow_24 sM_15 q_5 ?_
      refine z_if_ge (tgt := 31) hE dX12_wrongRow_25 (by decide) h (fun h => ?_) (fun h => ?_)
      · refine z_aload_n hE dX12_wrongRow_31 rfl 0 rfl ?_
        refine z_iload_n hE dX12_wrongRow_32 rfl 2 rfl ?_
        refine z_callV hE dX12_wrongRow_33 lV_X12_173 (c_X12_laysRowsOf _ μ _ h) sM_0 rfl (Nat.le_of_ble_eq_true rfl) (by decide) rfl (zk_V (fun μ_7 h => ?_))
        refine z_aload_n hE dX12_wrongRow_36 rfl 0 rfl ?_
        refine z_iload_n hE dX12_wrongRow_37 rfl 3 rfl ?_
        refine z_callV hE dX12_wrongRow_38 lV_X12_176 (c_X12_isRow _ μ_7 _ h) sM_0 rfl (Nat.le_of_ble_eq_true rfl) (by decide) rfl (zk_PI (fun r_8 h => ?_))
        refine z_if_ne (tgt := 48) hE dX12_wrongRow_41 (by decide) h (fun h => ?_) (fun h => ?_)
        · refine z_aload_n hE dX12_wrongRow_48 rfl 0 rfl ?_
          refine z_getI hE dX12_wrongRow_49 lF_X12_69 sM_0 rfl ?_
          refine z_if_eq (tgt := 60) hE dX12_wrongRow_52 (by decide) h (fun h => ?_) (fun h => ?_)
          · refine z_iconst (v := 0) hE dX12_wrongRow_60 zv_i_0 ?_
            exact z_iret (st := []) hE dX12_wrongRow_61 rfl ⟨_, rfl, h⟩
          · refine z_bipush (v := -7) hE dX12_wrongRow_55 zv_b_m7 ?_
            refine z_goto (tgt := 61) hE dX12_wrongRow_57 (by decide) ?_
            exact z_iret (st := []) hE dX12_wrongRow_61 rfl ⟨_, rfl, h⟩
        · refine z_iconst (v := -1) hE dX12_wrongRow_44 zv_i_m1 ?_
          refine z_goto (tgt := 61) hE dX12_wrongRow_45 (by decide) ?_
          exact z_iret (st := []) hE dX12_wrongRow_61 rfl ⟨_, rfl, h⟩
      · refine z_bipush (v := -11) hE dX12_wrongRow_28 zv_b_m11 ?_
        exact z_iret (st := []) hE dX12_wrongRow_30 rfl ⟨_, rfl, h⟩
    · refine z_bipush (v := -2) hE dX12_wrongRow_16 zv_b_m2 ?_
      exact z_iret (st := []) hE dX12_wrongRow_18 rfl ⟨_, rfl, h⟩
  · refine z_iconst (v := -1) hE dX12_wrongRow_7 zv_i_m1 ?_
    exact z_iret (st := []) hE dX12_wrongRow_8 rfl ⟨_, rfl, h⟩
set_option maxRecDepth 4000 in
theorem c_X6_firstEdge (t : Nat) (a1 : Int32) (h0 : zT_Spans t) (μ : ZMem) (Φ : Int32 → ZMem → Prop) (h : w_X6_firstEdge t a1 μ Φ) : zM SX yX6_firstEdge cX6_firstEdge 5 (some FieldType.int) 5 [.ref t, .int a1, .ref 1, .ref 50] μ (zzI Φ) := by
  refine zM_go (own := RX6) rfl (by decide) (Nat.le_of_ble_eq_true rfl) (fun E hE => ?_)
  show zZ E (zzI Φ) 0 [(0, .ref t), (1, .int a1), (2, .ref 1), (3, .ref 50)] [] μ
  unfold w_X6_firstEdge at h
  refine z_aload_n hE dX6_firstEdge_0 rfl 0 rfl ?_
  refine z_getR (t := (t + 1)) hE dX6_firstEdge_1 lF_X6_11 h0.1 rfl ?_
  refine z_iload_n hE dX6_firstEdge_4 rfl 1 rfl ?_
  obtain ⟨q_1, h⟩ := h
  refine z_iald hE dX6_firstEdge_5 h0.2.1 q_1 ?_
  refine z_istore (lv' := [(4, .int (μ.1 (t + 1) (Int32.toNatClampNeg a1))), (0, .ref t), (1, .int a1), (2, .ref 1), (3, .ref 50)]) hE dX6_firstEdge_6 (by decide) rfl ?_
  refine zn (G := fun v4_2 => zZ E (zzI Φ) 8 [(4, .int v4_2), (0, .ref t), (1, .int a1), (2, .ref 1), (3, .ref 50)] [] μ) h (fun v4_2 h => ?_)
  refine z_iload hE dX6_firstEdge_8 0 rfl ?_
  refine z_bipush (v := -100) hE dX6_firstEdge_10 zv_b_m100 ?_
  refine z_icmp_ne (tgt := 21) hE dX6_firstEdge_12 (by decide) h (fun h => ?_) (fun h => ?_)
  · refine z_aload_n hE dX6_firstEdge_21 rfl 1 rfl ?_
    refine z_iload hE dX6_firstEdge_22 0 rfl ?_
    refine z_iload hE dX6_firstEdge_24 0 rfl ?_
    refine z_iconst (v := 1) hE dX6_firstEdge_26 zv_i_1 ?_
    refine z_isub hE dX6_firstEdge_27 ?_
    refine z_aload_n hE dX6_firstEdge_28 rfl 3 rfl ?_
    refine z_aload_n hE dX6_firstEdge_29 rfl 4 rfl ?_
    refine z_callV hE dX6_firstEdge_30 lV_X6_35 (c_X6_edge _ _ _ h0 μ _ h) h0.1 rfl (Nat.le_of_ble_eq_true rfl) (by decide) rfl (zk_I (fun r_3 μ_4 h => ?_))
    exact z_iret (st := []) hE dX6_firstEdge_33 rfl ⟨_, rfl, h⟩
  · refine z_sipush (v := -1600) hE dX6_firstEdge_15 zv_s_m1600 ?_
    refine z_goto (tgt := 33) hE dX6_firstEdge_18 (by decide) ?_
    exact z_iret (st := []) hE dX6_firstEdge_33 rfl ⟨_, rfl, h⟩
set_option maxRecDepth 4000 in
theorem c_X6_lastEdge (t : Nat) (a1 : Int32) (h0 : zT_Spans t) (μ : ZMem) (Φ : Int32 → ZMem → Prop) (h : w_X6_lastEdge t a1 μ Φ) : zM SX yX6_lastEdge cX6_lastEdge 5 (some FieldType.int) 5 [.ref t, .int a1, .ref 1, .ref 50] μ (zzI Φ) := by
  refine zM_go (own := RX6) rfl (by decide) (Nat.le_of_ble_eq_true rfl) (fun E hE => ?_)
  show zZ E (zzI Φ) 0 [(0, .ref t), (1, .int a1), (2, .ref 1), (3, .ref 50)] [] μ
  unfold w_X6_lastEdge at h
  refine z_aload_n hE dX6_lastEdge_0 rfl 0 rfl ?_
  refine z_getR (t := (t + 2)) hE dX6_lastEdge_1 lF_X6_15 h0.1 rfl ?_
  refine z_iload_n hE dX6_lastEdge_4 rfl 1 rfl ?_
  obtain ⟨q_1, h⟩ := h
  refine z_iald hE dX6_lastEdge_5 h0.2.2 q_1 ?_
  refine z_istore (lv' := [(4, .int (μ.1 (t + 2) (Int32.toNatClampNeg a1))), (0, .ref t), (1, .int a1), (2, .ref 1), (3, .ref 50)]) hE dX6_lastEdge_6 (by decide) rfl ?_
  refine zn (G := fun v4_2 => zZ E (zzI Φ) 8 [(4, .int v4_2), (0, .ref t), (1, .int a1), (2, .ref 1), (3, .ref 50)] [] μ) h (fun v4_2 h => ?_)
  refine z_iload hE dX6_lastEdge_8 0 rfl ?_
  refine z_bipush (v := 100) hE dX6_lastEdge_10 zv_b_100 ?_
  refine z_icmp_ne (tgt := 21) hE dX6_lastEdge_12 (by decide) h (fun h => ?_) (fun h => ?_)
  · refine z_aload_n hE dX6_lastEdge_21 rfl 1 rfl ?_
    refine z_iload hE dX6_lastEdge_22 0 rfl ?_
    refine z_iload hE dX6_lastEdge_24 0 rfl ?_
    refine z_iconst (v := 1) hE dX6_lastEdge_26 zv_i_1 ?_
    refine z_iadd hE dX6_lastEdge_27 ?_
    refine z_aload_n hE dX6_lastEdge_28 rfl 3 rfl ?_
    refine z_aload_n hE dX6_lastEdge_29 rfl 4 rfl ?_
    refine z_callV hE dX6_lastEdge_30 lV_X6_35 (c_X6_edge _ _ _ h0 μ _ h) h0.1 rfl (Nat.le_of_ble_eq_true rfl) (by decide) rfl (zk_I (fun r_3 μ_4 h => ?_))
    exact z_iret (st := []) hE dX6_lastEdge_33 rfl ⟨_, rfl, h⟩
  · refine z_sipush (v := 1600) hE dX6_lastEdge_15 zv_s_1600 ?_
    refine z_goto (tgt := 33) hE dX6_lastEdge_18 (by decide) ?_
    exact z_iret (st := []) hE dX6_lastEdge_33 rfl ⟨_, rfl, h⟩
set_option maxRecDepth 4000 in
theorem c_X9_parse  (μ : ZMem) (Φ : ZMem → Prop) (h : w_X9_parse μ Φ) : zM SX yX9_parse cX9_parse 2 (none) 5 [.ref 23] μ (zzV Φ) := by
  refine zM_go (own := RX9) rfl (by decide) (Nat.le_of_ble_eq_true rfl) (fun E hE => ?_)
  show zZ E (zzV Φ) 0 [(0, .ref 23)] [] μ
  unfold w_X9_parse at h
  refine z_iconst (v := 0) hE dX9_parse_0 zv_i_0 ?_
  refine z_istore_n (lv' := [(1, .int (0 : Int32)), (0, .ref 23)]) hE dX9_parse_1 rfl (by decide) rfl ?_
  refine z_join (P := fun (J_2 : ZMem → Prop) => ∀ (μ_1 : ZMem), J_2 μ_1 → zZ E (zzV Φ) 28 [(0, .ref 23)] [] μ_1) h (fun μ_1 h => ?_) (fun J_2 hJ_2 h => ?_)
  · refine z_aload_n hE dX9_parse_28 rfl 0 rfl ?_
    refine z_iconst (v := 0) hE dX9_parse_29 zv_i_0 ?_
    refine z_put hE dX9_parse_30 lF_X9_26 sX_23 rfl rfl rfl ?_
    refine zn (G := fun μ_3 => zZ E (zzV Φ) 33 [(0, .ref 23)] [] μ_3) h (fun μ_3 h => ?_)
    refine z_aload_n hE dX9_parse_33 rfl 0 rfl ?_
    refine z_iconst (v := -1) hE dX9_parse_34 zv_i_m1 ?_
    refine z_put hE dX9_parse_35 lF_X9_29 sX_23 rfl rfl rfl ?_
    refine zn (G := fun μ_4 => zZ E (zzV Φ) 38 [(0, .ref 23)] [] μ_4) h (fun μ_4 h => ?_)
    refine z_aload_n hE dX9_parse_38 rfl 0 rfl ?_
    refine z_iconst (v := 0) hE dX9_parse_39 zv_i_0 ?_
    refine z_put hE dX9_parse_40 lF_X9_32 sX_23 rfl rfl rfl ?_
    refine zn (G := fun μ_5 => zZ E (zzV Φ) 43 [(0, .ref 23)] [] μ_5) h (fun μ_5 h => ?_)
    refine z_aload_n hE dX9_parse_43 rfl 0 rfl ?_
    refine z_aload_n hE dX9_parse_44 rfl 0 rfl ?_
    refine z_getR (t := 25) hE dX9_parse_45 lF_X9_15 sX_23 rfl ?_
    refine z_iconst (v := 1) hE dX9_parse_48 zv_i_1 ?_
    refine z_callV hE dX9_parse_49 lV_X9_35 (c_X9_takeTerms _ _ _ sX_25 μ_5 _ h) sX_23 rfl (Nat.le_of_ble_eq_true rfl) (by decide) rfl (zk_V (fun μ_7 h => ?_))
    refine z_aload_n hE dX9_parse_52 rfl 0 rfl ?_
    refine z_getI hE dX9_parse_53 lF_X9_29 sX_23 rfl ?_
    refine z_iconst (v := -1) hE dX9_parse_56 zv_i_m1 ?_
    refine z_join (P := fun (J_9 : ZMem → Prop) => ∀ (μ_8 : ZMem), J_9 μ_8 → zZ E (zzV Φ) 75 [(0, .ref 23)] [] μ_8) h (fun μ_8 h => ?_) (fun J_9 hJ_9 h => ?_)
    · refine z_aload_n hE dX9_parse_75 rfl 0 rfl ?_
      refine z_getI hE dX9_parse_76 lF_X9_29 sX_23 rfl ?_
      refine z_iconst (v := -1) hE dX9_parse_79 zv_i_m1 ?_
      refine z_icmp_ne (tgt := 102) hE dX9_parse_80 (by decide) h (fun h => ?_) (fun h => ?_)
      · exact z_vret (st := []) hE dX9_parse_102 rfl ⟨rfl, h⟩
      · refine z_aload_n hE dX9_parse_83 rfl 0 rfl ?_
        refine z_getI hE dX9_parse_84 lF_X9_32 sX_23 rfl ?_
        refine z_aload_n hE dX9_parse_87 rfl 0 rfl ?_
        refine z_getI hE dX9_parse_88 lF_X9_22 sX_23 rfl ?_
        refine z_icmp_ge (tgt := 102) hE dX9_parse_91 (by decide) h (fun h => ?_) (fun h => ?_)
        · exact z_vret (st := []) hE dX9_parse_102 rfl ⟨rfl, h⟩
        · refine z_aload_n hE dX9_parse_94 rfl 0 rfl ?_
          refine z_aload_n hE dX9_parse_95 rfl 0 rfl ?_
          refine z_getI hE dX9_parse_96 lF_X9_32 sX_23 rfl ?_
          refine z_put hE dX9_parse_99 lF_X9_29 sX_23 rfl rfl rfl ?_
          refine zn (G := fun μ_10 => zZ E (zzV Φ) 102 [(0, .ref 23)] [] μ_10) h (fun μ_10 h => ?_)
          exact z_vret (st := []) hE dX9_parse_102 rfl ⟨rfl, h⟩
    refine z_icmp_ne (tgt := 75) hE dX9_parse_57 (by decide) h (fun h => ?_) (fun h => ?_)
    · exact hJ_9 _ h
    · refine z_aload_n hE dX9_parse_60 rfl 0 rfl ?_
      refine z_aload_n hE dX9_parse_61 rfl 0 rfl ?_
      refine z_getI hE dX9_parse_62 lF_X9_32 sX_23 rfl ?_
      refine z_callV hE dX9_parse_65 lV_X9_39 (c_X9_signAt _ μ_7 _ h) sX_23 rfl (Nat.le_of_ble_eq_true rfl) (by decide) rfl (zk_PI (fun r_11 h => ?_))
      refine z_if_eq (tgt := 75) hE dX9_parse_68 (by decide) h (fun h => ?_) (fun h => ?_)
      · exact hJ_9 _ h
      · refine z_aload_n hE dX9_parse_71 rfl 0 rfl ?_
        refine z_callV hE dX9_parse_72 lV_X9_43 (c_X9_takeGained  μ_7 _ h) sX_23 rfl (Nat.le_of_ble_eq_true rfl) (by decide) rfl (zk_V (fun μ_14 h => ?_))
        exact hJ_9 _ h
  refine z_sub [1, 0] rfl ?_
  obtain ⟨n2, h⟩ := h
  refine z_loop2 (P := fun (v1_15 : Int32) (μ_16 : ZMem) => zZ E (zzV Φ) 2 [(0, .ref 23), (1, .int v1_15)] [] μ_16) (fun k2_16 hk2_16 v1_15 μ_16 h => ?_) n2 _ _ h
  refine z_iload_n hE dX9_parse_2 rfl 1 rfl ?_
  refine z_bipush (v := 7) hE dX9_parse_3 zv_b_7 ?_
  refine z_icmp_ge (tgt := 28) hE dX9_parse_5 (by decide) h (fun h => ?_) (fun h => ?_)
  · exact z_sub [0] rfl (hJ_2 _ h)
  · refine z_aload_n hE dX9_parse_8 rfl 0 rfl ?_
    refine z_getR (t := 25) hE dX9_parse_9 lF_X9_15 sX_23 rfl ?_
    refine z_iload_n hE dX9_parse_12 rfl 1 rfl ?_
    refine z_lconst (v := 0) hE dX9_parse_13 zv_l_0 ?_
    obtain ⟨q_17, h⟩ := h
    refine z_last hE dX9_parse_14 sX_25 q_17 ?_
    refine zn (G := fun μ_18 => zZ E (zzV Φ) 15 [(0, .ref 23), (1, .int v1_15)] [] μ_18) h (fun μ_18 h => ?_)
    refine z_aload_n hE dX9_parse_15 rfl 0 rfl ?_
    refine z_getR (t := 26) hE dX9_parse_16 lF_X9_19 sX_23 rfl ?_
    refine z_iload_n hE dX9_parse_19 rfl 1 rfl ?_
    refine z_lconst (v := 0) hE dX9_parse_20 zv_l_0 ?_
    obtain ⟨q_19, h⟩ := h
    refine z_last hE dX9_parse_21 sX_26 q_19 ?_
    refine zn (G := fun μ_20 => zZ E (zzV Φ) 22 [(0, .ref 23), (1, .int v1_15)] [] μ_20) h (fun μ_20 h => ?_)
    refine z_iinc (j := 1) (c := 1) (lv' := [(1, .int (v1_15 + (1 : Int32))), (0, .ref 23)]) hE dX9_parse_22 rfl zv_i_1 (by decide) rfl ?_
    refine z_goto (tgt := 2) hE dX9_parse_25 (by decide) ?_
    exact z_sub [1, 0] rfl (hk2_16 _ _ h)
set_option maxRecDepth 4000 in
theorem c_X11_count (a1 : Int32) (μ : ZMem) (Φ : Int32 → ZMem → Prop) (h : w_X11_count a1 μ Φ) : zM SX yX11_count cX11_count 2 (some FieldType.int) 6 [.ref 0, .int a1] μ (zzI Φ) := by
  refine zM_go (own := RX11) rfl (by decide) (Nat.le_of_ble_eq_true rfl) (fun E hE => ?_)
  show zZ E (zzI Φ) 0 [(0, .ref 0), (1, .int a1)] [] μ
  unfold w_X11_count at h
  refine z_iload_n hE dX11_count_0 rfl 1 rfl ?_
  obtain ⟨g1_0, g1_1, g1_2, g1_3, g1_4, g1_5, gd_1⟩ := h
  by_cases c1_0 : a1 = (0 : Int32)
  · have h := g1_0 c1_0
    refine z_swIn (tgt := 40) hE dX11_count_1 (by rw [c1_0]; decide) (by rw [c1_0]; decide) (by rw [c1_0]; rfl) (by decide) ?_
    refine z_aload_n hE dX11_count_40 rfl 0 rfl ?_
    refine z_getR (t := 1) hE dX11_count_41 lF_X11_14 sX_0 rfl ?_
    refine z_getI hE dX11_count_44 lF_X11_234 sX_1 rfl ?_
    exact z_iret (st := []) hE dX11_count_47 rfl ⟨_, rfl, h⟩
  by_cases c1_1 : a1 = (1 : Int32)
  · have h := g1_1 c1_1
    refine z_swIn (tgt := 48) hE dX11_count_1 (by rw [c1_1]; decide) (by rw [c1_1]; decide) (by rw [c1_1]; rfl) (by decide) ?_
    refine z_aload_n hE dX11_count_48 rfl 0 rfl ?_
    refine z_getR (t := 23) hE dX11_count_49 lF_X11_24 sX_0 rfl ?_
    refine z_getI hE dX11_count_52 lF_X11_106 sX_23 rfl ?_
    exact z_iret (st := []) hE dX11_count_55 rfl ⟨_, rfl, h⟩
  by_cases c1_2 : a1 = (2 : Int32)
  · have h := g1_2 c1_2
    refine z_swIn (tgt := 56) hE dX11_count_1 (by rw [c1_2]; decide) (by rw [c1_2]; decide) (by rw [c1_2]; rfl) (by decide) ?_
    refine z_aload_n hE dX11_count_56 rfl 0 rfl ?_
    refine z_getI hE dX11_count_57 lF_X11_126 sX_0 rfl ?_
    exact z_iret (st := []) hE dX11_count_60 rfl ⟨_, rfl, h⟩
  by_cases c1_3 : a1 = (3 : Int32)
  · have h := g1_3 c1_3
    refine z_swIn (tgt := 61) hE dX11_count_1 (by rw [c1_3]; decide) (by rw [c1_3]; decide) (by rw [c1_3]; rfl) (by decide) ?_
    refine z_aload_n hE dX11_count_61 rfl 0 rfl ?_
    refine z_iconst (v := 0) hE dX11_count_62 zv_i_0 ?_
    refine z_callV hE dX11_count_63 lV_X11_200 (c_X11_spansOf _ μ _ h) sX_0 rfl (Nat.le_of_ble_eq_true rfl) (by decide) rfl (zk_R (fun r_1 μ_2 h => ?_))
    obtain ⟨er_1, h⟩ := h
    refine z_getI hE dX11_count_66 lF_X11_204 er_1.1 rfl ?_
    refine z_aload_n hE dX11_count_69 rfl 0 rfl ?_
    refine z_iconst (v := 1) hE dX11_count_70 zv_i_1 ?_
    refine z_callV hE dX11_count_71 lV_X11_200 (c_X11_spansOf _ μ_2 _ h) sX_0 rfl (Nat.le_of_ble_eq_true rfl) (by decide) rfl (zk_R (fun r_3 μ_4 h => ?_))
    obtain ⟨er_3, h⟩ := h
    refine z_getI hE dX11_count_74 lF_X11_204 er_3.1 rfl ?_
    refine z_iadd hE dX11_count_77 ?_
    exact z_iret (st := []) hE dX11_count_78 rfl ⟨_, rfl, h⟩
  by_cases c1_4 : a1 = (4 : Int32)
  · have h := g1_4 c1_4
    refine z_swIn (tgt := 79) hE dX11_count_1 (by rw [c1_4]; decide) (by rw [c1_4]; decide) (by rw [c1_4]; rfl) (by decide) ?_
    refine z_aload_n hE dX11_count_79 rfl 0 rfl ?_
    refine z_getR (t := 1) hE dX11_count_80 lF_X11_14 sX_0 rfl ?_
    refine z_getI hE dX11_count_83 lF_X11_102 sX_1 rfl ?_
    refine z_sipush (v := 1000) hE dX11_count_86 zv_s_1000 ?_
    refine z_iadd hE dX11_count_89 ?_
    exact z_iret (st := []) hE dX11_count_90 rfl ⟨_, rfl, h⟩
  by_cases c1_5 : a1 = (5 : Int32)
  · have h := g1_5 c1_5
    refine z_swIn (tgt := 91) hE dX11_count_1 (by rw [c1_5]; decide) (by rw [c1_5]; decide) (by rw [c1_5]; rfl) (by decide) ?_
    refine z_aload_n hE dX11_count_91 rfl 0 rfl ?_
    refine z_getR (t := 1) hE dX11_count_92 lF_X11_14 sX_0 rfl ?_
    refine z_getI hE dX11_count_95 lF_X11_252 sX_1 rfl ?_
    exact z_iret (st := []) hE dX11_count_98 rfl ⟨_, rfl, h⟩
  have h := gd_1 c1_0 c1_1 c1_2 c1_3 c1_4 c1_5
  refine z_swOut (tgt := 99) hE dX11_count_1 (by have e0 := lv_neT c1_0 (a := 0) (by decide); have e1 := lv_neT c1_1 (a := 1) (by decide); have e2 := lv_neT c1_2 (a := 2) (by decide); have e3 := lv_neT c1_3 (a := 3) (by decide); have e4 := lv_neT c1_4 (a := 4) (by decide); have e5 := lv_neT c1_5 (a := 5) (by decide); show _ < (0 : Int) ∨ (5 : Int) < _; omega) (by decide) ?_
  refine z_bipush (v := -2) hE dX11_count_99 zv_b_m2 ?_
  exact z_iret (st := []) hE dX11_count_101 rfl ⟨_, rfl, h⟩
set_option maxRecDepth 4000 in
theorem c_X11_nearest (a1 : Int32) (a2 : Int32) (μ : ZMem) (Φ : Int32 → ZMem → Prop) (h : w_X11_nearest a1 a2 μ Φ) : zM SX yX11_nearest cX11_nearest 3 (some FieldType.int) 6 [.ref 0, .int a1, .int a2] μ (zzI Φ) := by
  refine zM_go (own := RX11) rfl (by decide) (Nat.le_of_ble_eq_true rfl) (fun E hE => ?_)
  show zZ E (zzI Φ) 0 [(0, .ref 0), (1, .int a1), (2, .int a2)] [] μ
  unfold w_X11_nearest at h
  refine z_iload_n hE dX11_nearest_0 rfl 1 rfl ?_
  refine z_callS hE dX11_nearest_1 lS_X11_193 (c_X11_isKind _ μ _ h) rfl (Nat.le_of_ble_eq_true rfl) (by decide) rfl (zk_PI (fun r_1 h => ?_))
  refine z_if_eq (tgt := 16) hE dX11_nearest_4 (by decide) h (fun h => ?_) (fun h => ?_)
  · refine z_bipush (v := -2) hE dX11_nearest_16 zv_b_m2 ?_
    exact z_iret (st := []) hE dX11_nearest_18 rfl ⟨_, rfl, h⟩
  · refine z_iload_n hE dX11_nearest_7 rfl 2 rfl ?_
    refine z_bipush (v := 100) hE dX11_nearest_8 zv_b_100 ?_
    refine z_callS hE dX11_nearest_10 lS_X11_86 (c_X11_isWithin _ _ μ _ h) rfl (Nat.le_of_ble_eq_true rfl) (by decide) rfl (zk_PI (fun r_3 h => ?_))
    refine z_if_ne (tgt := 19) hE dX11_nearest_13 (by decide) h (fun h => ?_) (fun h => ?_)
    · refine z_aload_n hE dX11_nearest_19 rfl 0 rfl ?_
      refine z_iload_n hE dX11_nearest_20 rfl 1 rfl ?_
      refine z_callV hE dX11_nearest_21 lV_X11_200 (c_X11_spansOf _ μ _ h) sX_0 rfl (Nat.le_of_ble_eq_true rfl) (by decide) rfl (zk_R (fun r_5 μ_6 h => ?_))
      obtain ⟨er_5, h⟩ := h
      refine z_iload_n hE dX11_nearest_24 rfl 2 rfl ?_
      refine z_callV hE dX11_nearest_25 lV_X11_219 (c_X6_closestTo _ _ er_5 μ_6 _ h) er_5.1 rfl (Nat.le_of_ble_eq_true rfl) (by decide) rfl (zk_PI (fun r_7 h => ?_))
      exact z_iret (st := []) hE dX11_nearest_28 rfl ⟨_, rfl, h⟩
    · refine z_bipush (v := -2) hE dX11_nearest_16 zv_b_m2 ?_
      exact z_iret (st := []) hE dX11_nearest_18 rfl ⟨_, rfl, h⟩
set_option maxRecDepth 4000 in
theorem c_X11_read  (μ : ZMem) (Φ : Int32 → ZMem → Prop) (h : w_X11_read μ Φ) : zM SX yX11_read cX11_read 1 (some FieldType.int) 6 [.ref 0] μ (zzI Φ) := by
  refine zM_go (own := RX11) rfl (by decide) (Nat.le_of_ble_eq_true rfl) (fun E hE => ?_)
  show zZ E (zzI Φ) 0 [(0, .ref 0)] [] μ
  unfold w_X11_read at h
  refine z_aload_n hE dX11_read_0 rfl 0 rfl ?_
  refine z_getR (t := 23) hE dX11_read_1 lF_X11_24 sX_0 rfl ?_
  refine z_callV hE dX11_read_4 lV_X11_112 (c_X9_parse  μ _ h) sX_23 rfl (Nat.le_of_ble_eq_true rfl) (by decide) rfl (zk_V (fun μ_2 h => ?_))
  refine z_aload_n hE dX11_read_7 rfl 0 rfl ?_
  refine z_getR (t := 23) hE dX11_read_8 lF_X11_24 sX_0 rfl ?_
  refine z_iconst (v := 0) hE dX11_read_11 zv_i_0 ?_
  refine z_put hE dX11_read_12 lF_X11_106 sX_23 rfl rfl rfl ?_
  refine zn (G := fun μ_3 => zZ E (zzI Φ) 15 [(0, .ref 0)] [] μ_3) h (fun μ_3 h => ?_)
  refine z_aload_n hE dX11_read_15 rfl 0 rfl ?_
  refine z_getR (t := 23) hE dX11_read_16 lF_X11_24 sX_0 rfl ?_
  refine z_getI hE dX11_read_19 lF_X11_115 sX_23 rfl ?_
  refine z_iconst (v := -1) hE dX11_read_22 zv_i_m1 ?_
  refine z_icmp_eq (tgt := 37) hE dX11_read_23 (by decide) h (fun h => ?_) (fun h => ?_)
  · refine z_aload_n hE dX11_read_37 rfl 0 rfl ?_
    refine z_getR (t := 23) hE dX11_read_38 lF_X11_24 sX_0 rfl ?_
    refine z_getR (t := 25) hE dX11_read_41 lF_X11_118 sX_23 rfl ?_
    refine z_iconst (v := 0) hE dX11_read_44 zv_i_0 ?_
    refine z_aload_n hE dX11_read_45 rfl 0 rfl ?_
    refine z_getR (t := 1) hE dX11_read_46 lF_X11_14 sX_0 rfl ?_
    refine z_getR (t := 2) hE dX11_read_49 lF_X11_78 sX_1 rfl ?_
    refine z_iconst (v := 0) hE dX11_read_52 zv_i_0 ?_
    refine z_bipush (v := 7) hE dX11_read_53 zv_b_7 ?_
    refine z_copyJ hE dX11_read_55 lA_X11_119 sX_25 sX_2 (by decide) (Nat.le_of_ble_eq_true rfl) ?_
    refine zn (G := fun μ_4 => zZ E (zzI Φ) 58 [(0, .ref 0)] [] μ_4) h (fun μ_4 h => ?_)
    refine z_aload_n hE dX11_read_58 rfl 0 rfl ?_
    refine z_getR (t := 23) hE dX11_read_59 lF_X11_24 sX_0 rfl ?_
    refine z_getR (t := 26) hE dX11_read_62 lF_X11_125 sX_23 rfl ?_
    refine z_iconst (v := 0) hE dX11_read_65 zv_i_0 ?_
    refine z_aload_n hE dX11_read_66 rfl 0 rfl ?_
    refine z_getR (t := 1) hE dX11_read_67 lF_X11_14 sX_0 rfl ?_
    refine z_getR (t := 3) hE dX11_read_70 lF_X11_92 sX_1 rfl ?_
    refine z_iconst (v := 0) hE dX11_read_73 zv_i_0 ?_
    refine z_bipush (v := 7) hE dX11_read_74 zv_b_7 ?_
    refine z_copyJ hE dX11_read_76 lA_X11_119 sX_26 sX_3 (by decide) (Nat.le_of_ble_eq_true rfl) ?_
    refine zn (G := fun μ_5 => zZ E (zzI Φ) 79 [(0, .ref 0)] [] μ_5) h (fun μ_5 h => ?_)
    refine z_aload_n hE dX11_read_79 rfl 0 rfl ?_
    refine z_callV hE dX11_read_80 lV_X11_95 (c_X11_forgetSurveys  μ_5 _ h) sX_0 rfl (Nat.le_of_ble_eq_true rfl) (by decide) rfl (zk_V (fun μ_7 h => ?_))
    refine z_aload_n hE dX11_read_83 rfl 0 rfl ?_
    refine z_dup hE dX11_read_84 rfl ?_
    refine z_getI hE dX11_read_85 lF_X11_126 sX_0 rfl ?_
    refine z_iconst (v := 1) hE dX11_read_88 zv_i_1 ?_
    refine z_iadd hE dX11_read_89 ?_
    refine z_put hE dX11_read_90 lF_X11_126 sX_0 rfl rfl rfl ?_
    refine zn (G := fun μ_8 => zZ E (zzI Φ) 93 [(0, .ref 0)] [] μ_8) h (fun μ_8 h => ?_)
    refine z_aload_n hE dX11_read_93 rfl 0 rfl ?_
    refine z_getR (t := 23) hE dX11_read_94 lF_X11_24 sX_0 rfl ?_
    refine z_getI hE dX11_read_97 lF_X11_129 sX_23 rfl ?_
    exact z_iret (st := []) hE dX11_read_100 rfl ⟨_, rfl, h⟩
  · refine z_bipush (v := -100) hE dX11_read_26 zv_b_m100 ?_
    refine z_aload_n hE dX11_read_28 rfl 0 rfl ?_
    refine z_getR (t := 23) hE dX11_read_29 lF_X11_24 sX_0 rfl ?_
    refine z_getI hE dX11_read_32 lF_X11_115 sX_23 rfl ?_
    refine z_isub hE dX11_read_35 ?_
    exact z_iret (st := []) hE dX11_read_36 rfl ⟨_, rfl, h⟩
set_option maxRecDepth 4000 in
theorem c_X11_span (a1 : Int32) (a2 : Int32) (a3 : Int32) (μ : ZMem) (Φ : Int32 → ZMem → Prop) (h : w_X11_span a1 a2 a3 μ Φ) : zM SX yX11_span cX11_span 5 (some FieldType.int) 6 [.ref 0, .int a1, .int a2, .int a3] μ (zzI Φ) := by
  refine zM_go (own := RX11) rfl (by decide) (Nat.le_of_ble_eq_true rfl) (fun E hE => ?_)
  show zZ E (zzI Φ) 0 [(0, .ref 0), (1, .int a1), (2, .int a2), (3, .int a3)] [] μ
  unfold w_X11_span at h
  refine z_iload_n hE dX11_span_0 rfl 1 rfl ?_
  refine z_callS hE dX11_span_1 lS_X11_193 (c_X11_isKind _ μ _ h) rfl (Nat.le_of_ble_eq_true rfl) (by decide) rfl (zk_PI (fun r_1 h => ?_))
  refine z_if_eq (tgt := 16) hE dX11_span_4 (by decide) h (fun h => ?_) (fun h => ?_)
  · refine z_bipush (v := -2) hE dX11_span_16 zv_b_m2 ?_
    exact z_iret (st := []) hE dX11_span_18 rfl ⟨_, rfl, h⟩
  · refine z_iload_n hE dX11_span_7 rfl 3 rfl ?_
    refine z_if_lt (tgt := 16) hE dX11_span_8 (by decide) h (fun h => ?_) (fun h => ?_)
    · refine z_bipush (v := -2) hE dX11_span_16 zv_b_m2 ?_
      exact z_iret (st := []) hE dX11_span_18 rfl ⟨_, rfl, h⟩
    · refine z_iload_n hE dX11_span_11 rfl 3 rfl ?_
      refine z_iconst (v := 4) hE dX11_span_12 zv_i_4 ?_
      refine z_icmp_le (tgt := 19) hE dX11_span_13 (by decide) h (fun h => ?_) (fun h => ?_)
      · refine z_aload_n hE dX11_span_19 rfl 0 rfl ?_
        refine z_iload_n hE dX11_span_20 rfl 1 rfl ?_
        refine z_callV hE dX11_span_21 lV_X11_200 (c_X11_spansOf _ μ _ h) sX_0 rfl (Nat.le_of_ble_eq_true rfl) (by decide) rfl (zk_R (fun r_3 μ_4 h => ?_))
        obtain ⟨er_3, h⟩ := h
        refine z_astore (lv' := [(4, .ref r_3), (0, .ref 0), (1, .int a1), (2, .int a2), (3, .int a3)]) hE dX11_span_24 (by decide) rfl ?_
        refine z_iload_n hE dX11_span_26 rfl 3 rfl ?_
        refine z_if_lt (tgt := 39) hE dX11_span_27 (by decide) h (fun h => ?_) (fun h => ?_)
        · refine z_iconst (v := -1) hE dX11_span_39 zv_i_m1 ?_
          exact z_iret (st := []) hE dX11_span_40 rfl ⟨_, rfl, h⟩
        · refine z_iload_n hE dX11_span_30 rfl 3 rfl ?_
          refine z_aload hE dX11_span_31 0 rfl ?_
          refine z_getI hE dX11_span_33 lF_X11_204 er_3.1 rfl ?_
          refine z_icmp_lt (tgt := 41) hE dX11_span_36 (by decide) h (fun h => ?_) (fun h => ?_)
          · refine z_iload_n hE dX11_span_41 rfl 4 rfl ?_
            obtain ⟨g42_0, g42_1, g42_2, g42_3, gd_42⟩ := h
            by_cases c42_0 : a3 = (0 : Int32)
            · have h := g42_0 c42_0
              refine z_swIn (tgt := 72) hE dX11_span_42 (by rw [c42_0]; decide) (by rw [c42_0]; decide) (by rw [c42_0]; rfl) (by decide) ?_
              refine z_aload hE dX11_span_72 0 rfl ?_
              refine z_getR (t := (r_3 + 1)) hE dX11_span_74 lF_X11_205 er_3.1 rfl ?_
              refine z_iload_n hE dX11_span_77 rfl 3 rfl ?_
              obtain ⟨q_5, h⟩ := h
              refine z_iald hE dX11_span_78 er_3.2.1 q_5 ?_
              refine z_sipush (v := 1000) hE dX11_span_79 zv_s_1000 ?_
              refine z_iadd hE dX11_span_82 ?_
              exact z_iret (st := []) hE dX11_span_83 rfl ⟨_, rfl, h⟩
            by_cases c42_1 : a3 = (1 : Int32)
            · have h := g42_1 c42_1
              refine z_swIn (tgt := 84) hE dX11_span_42 (by rw [c42_1]; decide) (by rw [c42_1]; decide) (by rw [c42_1]; rfl) (by decide) ?_
              refine z_aload hE dX11_span_84 0 rfl ?_
              refine z_getR (t := (r_3 + 2)) hE dX11_span_86 lF_X11_209 er_3.1 rfl ?_
              refine z_iload_n hE dX11_span_89 rfl 3 rfl ?_
              obtain ⟨q_6, h⟩ := h
              refine z_iald hE dX11_span_90 er_3.2.2 q_6 ?_
              refine z_sipush (v := 1000) hE dX11_span_91 zv_s_1000 ?_
              refine z_iadd hE dX11_span_94 ?_
              exact z_iret (st := []) hE dX11_span_95 rfl ⟨_, rfl, h⟩
            by_cases c42_2 : a3 = (2 : Int32)
            · have h := g42_2 c42_2
              refine z_swIn (tgt := 96) hE dX11_span_42 (by rw [c42_2]; decide) (by rw [c42_2]; decide) (by rw [c42_2]; rfl) (by decide) ?_
              refine z_aload hE dX11_span_96 0 rfl ?_
              refine z_iload_n hE dX11_span_98 rfl 3 rfl ?_
              refine z_aload_n hE dX11_span_99 rfl 1 rfl ?_
              refine z_getR (t := 1) hE dX11_span_100 lF_X11_14 sX_0 rfl ?_
              refine z_aload_n hE dX11_span_103 rfl 1 rfl ?_
              refine z_getR (t := 50) hE dX11_span_104 lF_X11_51 sX_0 rfl ?_
              refine z_callV hE dX11_span_107 lV_X11_212 (c_X6_firstEdge _ _ er_3 μ_4 _ h) er_3.1 rfl (Nat.le_of_ble_eq_true rfl) (by decide) rfl (zk_I (fun r_7 μ_8 h => ?_))
              refine z_sipush (v := 10000) hE dX11_span_110 zv_s_10000 ?_
              refine z_iadd hE dX11_span_113 ?_
              exact z_iret (st := []) hE dX11_span_114 rfl ⟨_, rfl, h⟩
            by_cases c42_3 : a3 = (3 : Int32)
            · have h := g42_3 c42_3
              refine z_swIn (tgt := 115) hE dX11_span_42 (by rw [c42_3]; decide) (by rw [c42_3]; decide) (by rw [c42_3]; rfl) (by decide) ?_
              refine z_aload hE dX11_span_115 0 rfl ?_
              refine z_iload_n hE dX11_span_117 rfl 3 rfl ?_
              refine z_aload_n hE dX11_span_118 rfl 1 rfl ?_
              refine z_getR (t := 1) hE dX11_span_119 lF_X11_14 sX_0 rfl ?_
              refine z_aload_n hE dX11_span_122 rfl 1 rfl ?_
              refine z_getR (t := 50) hE dX11_span_123 lF_X11_51 sX_0 rfl ?_
              refine z_callV hE dX11_span_126 lV_X11_216 (c_X6_lastEdge _ _ er_3 μ_4 _ h) er_3.1 rfl (Nat.le_of_ble_eq_true rfl) (by decide) rfl (zk_I (fun r_9 μ_10 h => ?_))
              refine z_sipush (v := 10000) hE dX11_span_129 zv_s_10000 ?_
              refine z_iadd hE dX11_span_132 ?_
              exact z_iret (st := []) hE dX11_span_133 rfl ⟨_, rfl, h⟩
            have h := gd_42 c42_0 c42_1 c42_2 c42_3
            refine z_swOut (tgt := 134) hE dX11_span_42 (by have e0 := lv_neT c42_0 (a := 0) (by decide); have e1 := lv_neT c42_1 (a := 1) (by decide); have e2 := lv_neT c42_2 (a := 2) (by decide); have e3 := lv_neT c42_3 (a := 3) (by decide); show _ < (0 : Int) ∨ (3 : Int) < _; omega) (by decide) ?_
            refine z_aload hE dX11_span_134 0 rfl ?_
            refine z_getR (t := (r_3 + 2)) hE dX11_span_136 lF_X11_209 er_3.1 rfl ?_
            refine z_iload_n hE dX11_span_139 rfl 3 rfl ?_
            obtain ⟨q_11, h⟩ := h
            refine z_iald hE dX11_span_140 er_3.2.2 q_11 ?_
            refine z_aload hE dX11_span_141 0 rfl ?_
            refine z_getR (t := (r_3 + 1)) hE dX11_span_143 lF_X11_205 er_3.1 rfl ?_
            refine z_iload_n hE dX11_span_146 rfl 3 rfl ?_
            obtain ⟨q_12, h⟩ := h
            refine z_iald hE dX11_span_147 er_3.2.1 q_12 ?_
            refine z_isub hE dX11_span_148 ?_
            refine z_iconst (v := 1) hE dX11_span_149 zv_i_1 ?_
            refine z_iadd hE dX11_span_150 ?_
            exact z_iret (st := []) hE dX11_span_151 rfl ⟨_, rfl, h⟩
          · refine z_iconst (v := -1) hE dX11_span_39 zv_i_m1 ?_
            exact z_iret (st := []) hE dX11_span_40 rfl ⟨_, rfl, h⟩
      · refine z_bipush (v := -2) hE dX11_span_16 zv_b_m2 ?_
        exact z_iret (st := []) hE dX11_span_18 rfl ⟨_, rfl, h⟩
set_option maxRecDepth 4000 in
theorem c_X11_spans (a1 : Int32) (μ : ZMem) (Φ : Int32 → ZMem → Prop) (h : w_X11_spans a1 μ Φ) : zM SX yX11_spans cX11_spans 2 (some FieldType.int) 6 [.ref 0, .int a1] μ (zzI Φ) := by
  refine zM_go (own := RX11) rfl (by decide) (Nat.le_of_ble_eq_true rfl) (fun E hE => ?_)
  show zZ E (zzI Φ) 0 [(0, .ref 0), (1, .int a1)] [] μ
  unfold w_X11_spans at h
  refine z_iload_n hE dX11_spans_0 rfl 1 rfl ?_
  refine z_callS hE dX11_spans_1 lS_X11_193 (c_X11_isKind _ μ _ h) rfl (Nat.le_of_ble_eq_true rfl) (by decide) rfl (zk_PI (fun r_1 h => ?_))
  refine z_if_eq (tgt := 18) hE dX11_spans_4 (by decide) h (fun h => ?_) (fun h => ?_)
  · refine z_bipush (v := -2) hE dX11_spans_18 zv_b_m2 ?_
    exact z_iret (st := []) hE dX11_spans_20 rfl ⟨_, rfl, h⟩
  · refine z_aload_n hE dX11_spans_7 rfl 0 rfl ?_
    refine z_iload_n hE dX11_spans_8 rfl 1 rfl ?_
    refine z_callV hE dX11_spans_9 lV_X11_200 (c_X11_spansOf _ μ _ h) sX_0 rfl (Nat.le_of_ble_eq_true rfl) (by decide) rfl (zk_R (fun r_3 μ_4 h => ?_))
    obtain ⟨er_3, h⟩ := h
    refine z_getI hE dX11_spans_12 lF_X11_204 er_3.1 rfl ?_
    refine z_goto (tgt := 20) hE dX11_spans_15 (by decide) ?_
    exact z_iret (st := []) hE dX11_spans_20 rfl ⟨_, rfl, h⟩
set_option maxRecDepth 4000 in
theorem c_X12_fill (a1 : Int32) (a2 : Int32) (a3 : Int32) (μ : ZMem) (Φ : Int32 → ZMem → Prop) (h : w_X12_fill a1 a2 a3 μ Φ) : zM SM yX12_fill cX12_fill 7 (some FieldType.int) 6 [.ref 0, .int a1, .int a2, .int a3] μ (zzI Φ) := by
  refine zM_go (own := RX12) rfl (by decide) (Nat.le_of_ble_eq_true rfl) (fun E hE => ?_)
  show zZ E (zzI Φ) 0 [(0, .ref 0), (1, .int a1), (2, .int a2), (3, .int a3)] [] μ
  unfold w_X12_fill at h
  refine z_aload_n hE dX12_fill_0 rfl 0 rfl ?_
  refine z_iload_n hE dX12_fill_1 rfl 1 rfl ?_
  refine z_iload_n hE dX12_fill_2 rfl 2 rfl ?_
  refine z_iload_n hE dX12_fill_3 rfl 3 rfl ?_
  refine z_callV hE dX12_fill_4 lV_X12_312 (c_X12_wrongRow _ _ _ μ _ h) sM_0 rfl (Nat.le_of_ble_eq_true rfl) (by decide) rfl (zk_I (fun r_1 μ_2 h => ?_))
  refine z_istore (lv' := [(4, .int r_1), (0, .ref 0), (1, .int a1), (2, .int a2), (3, .int a3)]) hE dX12_fill_7 (by decide) rfl ?_
  refine z_iload hE dX12_fill_9 0 rfl ?_
  refine z_if_ge (tgt := 17) hE dX12_fill_11 (by decide) h (fun h => ?_) (fun h => ?_)
  · refine z_aload_n hE dX12_fill_17 rfl 1 rfl ?_
    refine z_iload_n hE dX12_fill_18 rfl 4 rfl ?_
    refine z_callV hE dX12_fill_19 lV_X12_136 (c_X12_itemMany _ μ_2 _ h) sM_0 rfl (Nat.le_of_ble_eq_true rfl) (by decide) rfl (zk_PI (fun r_3 h => ?_))
    refine z_aload_n hE dX12_fill_22 rfl 1 rfl ?_
    refine z_getR (t := 16) hE dX12_fill_23 lF_X12_58 sM_0 rfl ?_
    refine z_iload_n hE dX12_fill_26 rfl 2 rfl ?_
    obtain ⟨q_5, h⟩ := h
    refine z_iald hE dX12_fill_27 sM_16 q_5 ?_
    refine z_join (P := fun (J_7 : Int32 → Prop) => ∀ (x_6 : Int32), J_7 x_6 → zZ E (zzI Φ) 45 [(0, .ref 0), (1, .int a1), (3, .int a3)] [.int x_6] μ_2) h (fun x_6 h => ?_) (fun J_7 hJ_7 h => ?_)
    · refine z_istore (lv' := [(5, .int x_6), (0, .ref 0), (1, .int a1), (3, .int a3)]) hE dX12_fill_45 (by decide) rfl ?_
      refine z_iconst (v := 0) hE dX12_fill_47 zv_i_0 ?_
      refine z_istore (lv' := [(6, .int (0 : Int32)), (5, .int x_6), (0, .ref 0), (1, .int a1), (3, .int a3)]) hE dX12_fill_48 (by decide) rfl ?_
      refine z_sub [2, 3, 4, 1, 0] rfl ?_
      obtain ⟨n50, h⟩ := h
      refine z_loop2 (P := fun (v6_8 : Int32) (μ_9 : ZMem) => zZ E (zzI Φ) 50 [(0, .ref 0), (1, .int a1), (3, .int a3), (5, .int x_6), (6, .int v6_8)] [] μ_9) (fun k50_9 hk50_9 v6_8 μ_9 h => ?_) n50 _ _ h
      refine z_iload hE dX12_fill_50 4 rfl ?_
      refine z_iload hE dX12_fill_52 3 rfl ?_
      refine z_icmp_ge (tgt := 77) hE dX12_fill_54 (by decide) h (fun h => ?_) (fun h => ?_)
      · refine z_iload hE dX12_fill_77 3 rfl ?_
        exact z_iret (st := []) hE dX12_fill_79 rfl ⟨_, rfl, h⟩
      · refine z_aload_n hE dX12_fill_57 rfl 0 rfl ?_
        refine z_iload_n hE dX12_fill_58 rfl 1 rfl ?_
        refine z_iload hE dX12_fill_59 4 rfl ?_
        refine z_aload_n hE dX12_fill_61 rfl 0 rfl ?_
        refine z_iload_n hE dX12_fill_62 rfl 2 rfl ?_
        refine z_iload hE dX12_fill_63 4 rfl ?_
        refine z_callV hE dX12_fill_65 lV_X12_140 (c_X12_item _ _ μ_9 _ h) sM_0 rfl (Nat.le_of_ble_eq_true rfl) (by decide) rfl (zk_PJ (fun r_10 h => ?_))
        refine z_callV hE dX12_fill_68 lV_X12_308 (c_X12_lays _ _ _ μ_9 _ h) sM_0 rfl (Nat.le_of_ble_eq_true rfl) (by decide) rfl (zk_V (fun μ_13 h => ?_))
        refine z_iinc (j := 4) (c := 1) (lv' := [(6, .int (v6_8 + (1 : Int32))), (0, .ref 0), (1, .int a1), (3, .int a3), (5, .int x_6)]) hE dX12_fill_71 rfl zv_i_1 (by decide) rfl ?_
        refine z_goto (tgt := 50) hE dX12_fill_74 (by decide) ?_
        exact z_sub [1, 2, 3, 4, 0] rfl (hk50_9 _ _ h)
    refine z_icmp_ge (tgt := 39) hE dX12_fill_28 (by decide) h (fun h => ?_) (fun h => ?_)
    · refine z_aload_n hE dX12_fill_39 rfl 1 rfl ?_
      refine z_getR (t := 16) hE dX12_fill_40 lF_X12_58 sM_0 rfl ?_
      refine z_iload_n hE dX12_fill_43 rfl 2 rfl ?_
      obtain ⟨q_14, h⟩ := h
      refine z_iald hE dX12_fill_44 sM_16 q_14 ?_
      exact z_sub [1, 2, 4] rfl (hJ_7 _ h)
    · refine z_aload_n hE dX12_fill_31 rfl 1 rfl ?_
      refine z_iload_n hE dX12_fill_32 rfl 4 rfl ?_
      refine z_callV hE dX12_fill_33 lV_X12_136 (c_X12_itemMany _ μ_2 _ h) sM_0 rfl (Nat.le_of_ble_eq_true rfl) (by decide) rfl (zk_PI (fun r_15 h => ?_))
      refine z_goto (tgt := 45) hE dX12_fill_36 (by decide) ?_
      exact z_sub [1, 2, 4] rfl (hJ_7 _ h)
  · refine z_iload hE dX12_fill_14 0 rfl ?_
    exact z_iret (st := []) hE dX12_fill_16 rfl ⟨_, rfl, h⟩
set_option maxRecDepth 4000 in
theorem c_X12_judge (a1 : Int32) (a2 : Int32) (a3 : Int32) (μ : ZMem) (Φ : Int32 → ZMem → Prop) (h : w_X12_judge a1 a2 a3 μ Φ) : zM SM yX12_judge cX12_judge 6 (some FieldType.int) 6 [.ref 0, .int a1, .int a2, .int a3] μ (zzI Φ) := by
  refine zM_go (own := RX12) rfl (by decide) (Nat.le_of_ble_eq_true rfl) (fun E hE => ?_)
  show zZ E (zzI Φ) 0 [(0, .ref 0), (1, .int a1), (2, .int a2), (3, .int a3)] [] μ
  unfold w_X12_judge at h
  refine z_aload_n hE dX12_judge_0 rfl 0 rfl ?_
  refine z_iload_n hE dX12_judge_1 rfl 1 rfl ?_
  refine z_iload_n hE dX12_judge_2 rfl 2 rfl ?_
  refine z_iload_n hE dX12_judge_3 rfl 3 rfl ?_
  refine z_callV hE dX12_judge_4 lV_X12_312 (c_X12_wrongRow _ _ _ μ _ h) sM_0 rfl (Nat.le_of_ble_eq_true rfl) (by decide) rfl (zk_I (fun r_1 μ_2 h => ?_))
  refine z_istore (lv' := [(4, .int r_1), (0, .ref 0), (1, .int a1), (2, .int a2), (3, .int a3)]) hE dX12_judge_7 (by decide) rfl ?_
  refine z_iload hE dX12_judge_9 0 rfl ?_
  refine z_if_ge (tgt := 17) hE dX12_judge_11 (by decide) h (fun h => ?_) (fun h => ?_)
  · refine z_iconst (v := 0) hE dX12_judge_17 zv_i_0 ?_
    refine z_istore (lv' := [(5, .int (0 : Int32)), (4, .int r_1), (0, .ref 0), (1, .int a1), (2, .int a2), (3, .int a3)]) hE dX12_judge_18 (by decide) rfl ?_
    refine z_sub [2, 3, 5, 0] rfl ?_
    obtain ⟨n20, h⟩ := h
    refine z_loop1 (P := fun (v5_3 : Int32) => zZ E (zzI Φ) 20 [(0, .ref 0), (1, .int a1), (3, .int a3), (5, .int v5_3)] [] μ_2) (fun k20_3 hk20_3 v5_3 h => ?_) n20 _ h
    refine z_iload hE dX12_judge_20 3 rfl ?_
    refine z_aload_n hE dX12_judge_22 rfl 0 rfl ?_
    refine z_getR (t := 16) hE dX12_judge_23 lF_X12_58 sM_0 rfl ?_
    refine z_iload_n hE dX12_judge_26 rfl 1 rfl ?_
    obtain ⟨q_4, h⟩ := h
    refine z_iald hE dX12_judge_27 sM_16 q_4 ?_
    refine z_icmp_ge (tgt := 73) hE dX12_judge_28 (by decide) h (fun h => ?_) (fun h => ?_)
    · refine z_iconst (v := -1) hE dX12_judge_73 zv_i_m1 ?_
      exact z_iret (st := []) hE dX12_judge_74 rfl ⟨_, rfl, h⟩
    · refine z_iload hE dX12_judge_31 3 rfl ?_
      refine z_aload_n hE dX12_judge_33 rfl 0 rfl ?_
      refine z_iload_n hE dX12_judge_34 rfl 2 rfl ?_
      refine z_callV hE dX12_judge_35 lV_X12_136 (c_X12_itemMany _ μ_2 _ h) sM_0 rfl (Nat.le_of_ble_eq_true rfl) (by decide) rfl (zk_PI (fun r_5 h => ?_))
      refine z_icmp_ge (tgt := 64) hE dX12_judge_38 (by decide) h (fun h => ?_) (fun h => ?_)
      · refine z_iload hE dX12_judge_64 3 rfl ?_
        exact z_iret (st := []) hE dX12_judge_66 rfl ⟨_, rfl, h⟩
      · refine z_aload_n hE dX12_judge_41 rfl 0 rfl ?_
        refine z_getR (t := 17) hE dX12_judge_42 lF_X12_61 sM_0 rfl ?_
        refine z_bipush (v := 30) hE dX12_judge_45 zv_b_30 ?_
        refine z_iload_n hE dX12_judge_47 rfl 1 rfl ?_
        refine z_imul hE dX12_judge_48 ?_
        refine z_iload hE dX12_judge_49 3 rfl ?_
        refine z_iadd hE dX12_judge_51 ?_
        obtain ⟨q_7, h⟩ := h
        refine z_lald hE dX12_judge_52 sM_17 q_7 ?_
        refine z_aload_n hE dX12_judge_53 rfl 0 rfl ?_
        refine z_iload_n hE dX12_judge_54 rfl 2 rfl ?_
        refine z_iload hE dX12_judge_55 3 rfl ?_
        refine z_callV hE dX12_judge_57 lV_X12_140 (c_X12_item _ _ μ_2 _ h) sM_0 rfl (Nat.le_of_ble_eq_true rfl) (by decide) rfl (zk_PJ (fun r_8 h => ?_))
        refine z_ljmp_eq (tgt := 67) hE dX12_judge_60 dX12_judge_61 (by decide) h (fun h => ?_) (fun h => ?_)
        · refine z_iinc (j := 3) (c := 1) (lv' := [(5, .int (v5_3 + (1 : Int32))), (0, .ref 0), (1, .int a1), (3, .int a3)]) hE dX12_judge_67 rfl zv_i_1 (by decide) rfl ?_
          refine z_goto (tgt := 20) hE dX12_judge_70 (by decide) ?_
          exact z_sub [1, 2, 3, 0] rfl (hk20_3 _ h)
        · refine z_iload hE dX12_judge_64 3 rfl ?_
          exact z_iret (st := []) hE dX12_judge_66 rfl ⟨_, rfl, h⟩
  · refine z_iload hE dX12_judge_14 0 rfl ?_
    exact z_iret (st := []) hE dX12_judge_16 rfl ⟨_, rfl, h⟩
set_option maxRecDepth 4000 in
theorem c_X12_jump (a1 : Int32) (μ : ZMem) (Φ : Int32 → ZMem → Prop) (h : w_X12_jump a1 μ Φ) : zM SM yX12_jump cX12_jump 2 (some FieldType.int) 6 [.ref 0, .int a1] μ (zzI Φ) := by
  refine zM_go (own := RX12) rfl (by decide) (Nat.le_of_ble_eq_true rfl) (fun E hE => ?_)
  show zZ E (zzI Φ) 0 [(0, .ref 0), (1, .int a1)] [] μ
  unfold w_X12_jump at h
  refine z_aload_n hE dX12_jump_0 rfl 0 rfl ?_
  refine z_iload_n hE dX12_jump_1 rfl 1 rfl ?_
  refine z_callV hE dX12_jump_2 lV_X12_345 (c_X12_findsJump _ μ _ h) sM_0 rfl (Nat.le_of_ble_eq_true rfl) (by decide) rfl (zk_V (fun μ_2 h => ?_))
  refine z_iload_n hE dX12_jump_5 rfl 1 rfl ?_
  refine z_i2l hE dX12_jump_6 ?_
  refine z_lconst (v := 0) hE dX12_jump_7 zv_l_0 ?_
  refine z_aload_n hE dX12_jump_8 rfl 0 rfl ?_
  refine z_getI hE dX12_jump_9 lF_X12_339 sM_0 rfl ?_
  refine z_iconst (v := 1) hE dX12_jump_12 zv_i_1 ?_
  refine z_isub hE dX12_jump_13 ?_
  refine z_i2l hE dX12_jump_14 ?_
  refine z_callS hE dX12_jump_15 lS_X12_83 (c_X12_in _ _ _ μ_2 _ h) rfl (Nat.le_of_ble_eq_true rfl) (by decide) rfl (zk_PI (fun r_3 h => ?_))
  refine z_if_eq (tgt := 32) hE dX12_jump_18 (by decide) h (fun h => ?_) (fun h => ?_)
  · refine z_iconst (v := -1) hE dX12_jump_32 zv_i_m1 ?_
    exact z_iret (st := []) hE dX12_jump_33 rfl ⟨_, rfl, h⟩
  · refine z_aload_n hE dX12_jump_21 rfl 0 rfl ?_
    refine z_getI hE dX12_jump_22 lF_X12_342 sM_0 rfl ?_
    refine z_sipush (v := 1000) hE dX12_jump_25 zv_s_1000 ?_
    refine z_iadd hE dX12_jump_28 ?_
    refine z_goto (tgt := 33) hE dX12_jump_29 (by decide) ?_
    exact z_iret (st := []) hE dX12_jump_33 rfl ⟨_, rfl, h⟩
set_option maxRecDepth 4000 in
theorem c_X12_jumps  (μ : ZMem) (Φ : Int32 → ZMem → Prop) (h : w_X12_jumps μ Φ) : zM SM yX12_jumps cX12_jumps 1 (some FieldType.int) 6 [.ref 0] μ (zzI Φ) := by
  refine zM_go (own := RX12) rfl (by decide) (Nat.le_of_ble_eq_true rfl) (fun E hE => ?_)
  show zZ E (zzI Φ) 0 [(0, .ref 0)] [] μ
  unfold w_X12_jumps at h
  refine z_aload_n hE dX12_jumps_0 rfl 0 rfl ?_
  refine z_iconst (v := 0) hE dX12_jumps_1 zv_i_0 ?_
  refine z_callV hE dX12_jumps_2 lV_X12_345 (c_X12_findsJump _ μ _ h) sM_0 rfl (Nat.le_of_ble_eq_true rfl) (by decide) rfl (zk_V (fun μ_2 h => ?_))
  refine z_aload_n hE dX12_jumps_5 rfl 0 rfl ?_
  refine z_getI hE dX12_jumps_6 lF_X12_339 sM_0 rfl ?_
  exact z_iret (st := []) hE dX12_jumps_9 rfl ⟨_, rfl, h⟩
set_option maxRecDepth 4000 in
theorem c_X12_nearest (a1 : Int32) (a2 : Int32) (μ : ZMem) (Φ : Int32 → ZMem → Prop) (h : w_X12_nearest a1 a2 μ Φ) : zM SM yX12_nearest cX12_nearest 7 (some FieldType.int) 6 [.ref 0, .int a1, .int a2] μ (zzI Φ) := by
  refine zM_go (own := RX12) rfl (by decide) (Nat.le_of_ble_eq_true rfl) (fun E hE => ?_)
  show zZ E (zzI Φ) 0 [(0, .ref 0), (1, .int a1), (2, .int a2)] [] μ
  unfold w_X12_nearest at h
  refine z_iload_n hE dX12_nearest_0 rfl 1 rfl ?_
  refine z_callS hE dX12_nearest_1 lS_X12_204 (c_X12_isKind _ μ _ h) rfl (Nat.le_of_ble_eq_true rfl) (by decide) rfl (zk_PI (fun r_1 h => ?_))
  refine z_if_eq (tgt := 21) hE dX12_nearest_4 (by decide) h (fun h => ?_) (fun h => ?_)
  · refine z_bipush (v := -2) hE dX12_nearest_21 zv_b_m2 ?_
    exact z_iret (st := []) hE dX12_nearest_23 rfl ⟨_, rfl, h⟩
  · refine z_iload_n hE dX12_nearest_7 rfl 2 rfl ?_
    refine z_i2l hE dX12_nearest_8 ?_
    refine z_ldc2 (v := -100) hE dX12_nearest_9 lK_X12_101 ?_
    refine z_ldc2 (v := 100) hE dX12_nearest_12 lK_X12_103 ?_
    refine z_callS hE dX12_nearest_15 lS_X12_83 (c_X12_in _ _ _ μ _ h) rfl (Nat.le_of_ble_eq_true rfl) (by decide) rfl (zk_PI (fun r_3 h => ?_))
    refine z_if_ne (tgt := 24) hE dX12_nearest_18 (by decide) h (fun h => ?_) (fun h => ?_)
    · refine z_aload_n hE dX12_nearest_24 rfl 0 rfl ?_
      refine z_iload_n hE dX12_nearest_25 rfl 1 rfl ?_
      refine z_callV hE dX12_nearest_26 lV_X12_220 (c_X12_laysSpans _ μ _ h) sM_0 rfl (Nat.le_of_ble_eq_true rfl) (by decide) rfl (zk_V (fun μ_6 h => ?_))
      refine z_iconst (v := -1) hE dX12_nearest_29 zv_i_m1 ?_
      refine z_istore_n (lv' := [(3, .int (-1 : Int32)), (0, .ref 0), (1, .int a1), (2, .int a2)]) hE dX12_nearest_30 rfl (by decide) rfl ?_
      refine z_iconst (v := 0) hE dX12_nearest_31 zv_i_0 ?_
      refine z_istore (lv' := [(4, .int (0 : Int32)), (3, .int (-1 : Int32)), (0, .ref 0), (1, .int a1), (2, .int a2)]) hE dX12_nearest_32 (by decide) rfl ?_
      refine z_iconst (v := 0) hE dX12_nearest_34 zv_i_0 ?_
      refine z_istore (lv' := [(5, .int (0 : Int32)), (4, .int (0 : Int32)), (3, .int (-1 : Int32)), (0, .ref 0), (1, .int a1), (2, .int a2)]) hE dX12_nearest_35 (by decide) rfl ?_
      refine z_sub [3, 5, 2, 1, 0] rfl ?_
      obtain ⟨n37, h⟩ := h
      refine z_loop3 (P := fun (v3_7 : Int32) (v4_8 : Int32) (v5_9 : Int32) => zZ E (zzI Φ) 37 [(0, .ref 0), (2, .int a2), (3, .int v3_7), (4, .int v4_8), (5, .int v5_9)] [] μ_6) (fun k37_9 hk37_9 v3_7 v4_8 v5_9 h => ?_) n37 _ _ _ h
      refine z_iload hE dX12_nearest_37 4 rfl ?_
      refine z_aload_n hE dX12_nearest_39 rfl 0 rfl ?_
      refine z_getI hE dX12_nearest_40 lF_X12_217 sM_0 rfl ?_
      refine z_icmp_ge (tgt := 119) hE dX12_nearest_43 (by decide) h (fun h => ?_) (fun h => ?_)
      · refine z_iload_n hE dX12_nearest_119 rfl 2 rfl ?_
        exact z_iret (st := []) hE dX12_nearest_120 rfl ⟨_, rfl, h⟩
      · refine z_iload_n hE dX12_nearest_46 rfl 1 rfl ?_
        refine z_aload_n hE dX12_nearest_47 rfl 0 rfl ?_
        refine z_getR (t := 9) hE dX12_nearest_48 lF_X12_37 sM_0 rfl ?_
        refine z_iload hE dX12_nearest_51 4 rfl ?_
        obtain ⟨q_10, h⟩ := h
        refine z_iald hE dX12_nearest_53 sM_9 q_10 ?_
        refine z_join (P := fun (J_12 : Int32 → Prop) => ∀ (x_11 : Int32), J_12 x_11 → zZ E (zzI Φ) 93 [(0, .ref 0), (2, .int a2), (3, .int v3_7), (4, .int v4_8), (5, .int v5_9)] [.int x_11] μ_6) h (fun x_11 h => ?_) (fun J_12 hJ_12 h => ?_)
        · refine z_istore (lv' := [(6, .int x_11), (0, .ref 0), (2, .int a2), (3, .int v3_7), (4, .int v4_8), (5, .int v5_9)]) hE dX12_nearest_93 (by decide) rfl ?_
          refine z_iload_n hE dX12_nearest_95 rfl 3 rfl ?_
          refine z_join (P := fun (J_15 : Int32 → Int32 → Prop) => ∀ (v3_13 : Int32) (v4_14 : Int32), J_15 v3_13 v4_14 → zZ E (zzI Φ) 113 [(0, .ref 0), (2, .int a2), (3, .int v3_13), (4, .int v4_14), (5, .int v5_9)] [] μ_6) h (fun v3_13 v4_14 h => ?_) (fun J_15 hJ_15 h => ?_)
          · refine z_iinc (j := 4) (c := 1) (lv' := [(5, .int (v5_9 + (1 : Int32))), (0, .ref 0), (2, .int a2), (3, .int v3_13), (4, .int v4_14)]) hE dX12_nearest_113 rfl zv_i_1 (by decide) rfl ?_
            refine z_goto (tgt := 37) hE dX12_nearest_116 (by decide) ?_
            exact z_sub [1, 2, 3, 4, 0] rfl (hk37_9 _ _ _ h)
          refine z_join (P := fun (J_16 : Prop) => J_16 → zZ E (zzI Φ) 106 [(0, .ref 0), (2, .int a2), (5, .int v5_9), (6, .int x_11)] [] μ_6) h (fun  h => ?_) (fun J_16 hJ_16 h => ?_)
          · refine z_iload hE dX12_nearest_106 2 rfl ?_
            refine z_istore_n (lv' := [(3, .int v5_9), (0, .ref 0), (2, .int a2), (5, .int v5_9), (6, .int x_11)]) hE dX12_nearest_108 rfl (by decide) rfl ?_
            refine z_iload hE dX12_nearest_109 4 rfl ?_
            refine z_istore (lv' := [(4, .int x_11), (3, .int v5_9), (0, .ref 0), (2, .int a2), (5, .int v5_9), (6, .int x_11)]) hE dX12_nearest_111 (by decide) rfl ?_
            exact z_sub [2, 3, 1, 0, 4] rfl (hJ_15 _ _ h)
          refine z_if_lt (tgt := 106) hE dX12_nearest_96 (by decide) h (fun h => ?_) (fun h => ?_)
          · exact z_sub [1, 2, 5, 0] rfl (hJ_16 h)
          · refine z_iload hE dX12_nearest_99 0 rfl ?_
            refine z_iload hE dX12_nearest_101 4 rfl ?_
            refine z_icmp_ge (tgt := 113) hE dX12_nearest_103 (by decide) h (fun h => ?_) (fun h => ?_)
            · exact z_sub [1, 2, 3, 4, 5] rfl (hJ_15 _ _ h)
            · exact z_sub [1, 2, 5, 0] rfl (hJ_16 h)
        refine z_icmp_ge (tgt := 69) hE dX12_nearest_54 (by decide) h (fun h => ?_) (fun h => ?_)
        · refine z_iload_n hE dX12_nearest_69 rfl 1 rfl ?_
          refine z_aload_n hE dX12_nearest_70 rfl 0 rfl ?_
          refine z_getR (t := 10) hE dX12_nearest_71 lF_X12_40 sM_0 rfl ?_
          refine z_iload hE dX12_nearest_74 4 rfl ?_
          obtain ⟨q_17, h⟩ := h
          refine z_iald hE dX12_nearest_76 sM_10 q_17 ?_
          refine z_icmp_le (tgt := 92) hE dX12_nearest_77 (by decide) h (fun h => ?_) (fun h => ?_)
          · refine z_iconst (v := 0) hE dX12_nearest_92 zv_i_0 ?_
            exact hJ_12 _ h
          · refine z_iload_n hE dX12_nearest_80 rfl 1 rfl ?_
            refine z_aload_n hE dX12_nearest_81 rfl 0 rfl ?_
            refine z_getR (t := 10) hE dX12_nearest_82 lF_X12_40 sM_0 rfl ?_
            refine z_iload hE dX12_nearest_85 4 rfl ?_
            obtain ⟨q_18, h⟩ := h
            refine z_iald hE dX12_nearest_87 sM_10 q_18 ?_
            refine z_isub hE dX12_nearest_88 ?_
            refine z_goto (tgt := 93) hE dX12_nearest_89 (by decide) ?_
            exact hJ_12 _ h
        · refine z_aload_n hE dX12_nearest_57 rfl 0 rfl ?_
          refine z_getR (t := 9) hE dX12_nearest_58 lF_X12_37 sM_0 rfl ?_
          refine z_iload hE dX12_nearest_61 4 rfl ?_
          obtain ⟨q_19, h⟩ := h
          refine z_iald hE dX12_nearest_63 sM_9 q_19 ?_
          refine z_iload_n hE dX12_nearest_64 rfl 1 rfl ?_
          refine z_isub hE dX12_nearest_65 ?_
          refine z_goto (tgt := 93) hE dX12_nearest_66 (by decide) ?_
          exact hJ_12 _ h
    · refine z_bipush (v := -2) hE dX12_nearest_21 zv_b_m2 ?_
      exact z_iret (st := []) hE dX12_nearest_23 rfl ⟨_, rfl, h⟩
set_option maxRecDepth 4000 in
theorem c_X12_span (a1 : Int32) (a2 : Int32) (a3 : Int32) (μ : ZMem) (Φ : Int32 → ZMem → Prop) (h : w_X12_span a1 a2 a3 μ Φ) : zM SM yX12_span cX12_span 6 (some FieldType.int) 6 [.ref 0, .int a1, .int a2, .int a3] μ (zzI Φ) := by
  refine zM_go (own := RX12) rfl (by decide) (Nat.le_of_ble_eq_true rfl) (fun E hE => ?_)
  show zZ E (zzI Φ) 0 [(0, .ref 0), (1, .int a1), (2, .int a2), (3, .int a3)] [] μ
  unfold w_X12_span at h
  refine z_iload_n hE dX12_span_0 rfl 1 rfl ?_
  refine z_callS hE dX12_span_1 lS_X12_204 (c_X12_isKind _ μ _ h) rfl (Nat.le_of_ble_eq_true rfl) (by decide) rfl (zk_PI (fun r_1 h => ?_))
  refine z_if_eq (tgt := 19) hE dX12_span_4 (by decide) h (fun h => ?_) (fun h => ?_)
  · refine z_bipush (v := -2) hE dX12_span_19 zv_b_m2 ?_
    exact z_iret (st := []) hE dX12_span_21 rfl ⟨_, rfl, h⟩
  · refine z_iload_n hE dX12_span_7 rfl 3 rfl ?_
    refine z_i2l hE dX12_span_8 ?_
    refine z_lconst (v := 0) hE dX12_span_9 zv_l_0 ?_
    refine z_ldc2 (v := 4) hE dX12_span_10 lK_X12_193 ?_
    refine z_callS hE dX12_span_13 lS_X12_83 (c_X12_in _ _ _ μ _ h) rfl (Nat.le_of_ble_eq_true rfl) (by decide) rfl (zk_PI (fun r_3 h => ?_))
    refine z_if_ne (tgt := 22) hE dX12_span_16 (by decide) h (fun h => ?_) (fun h => ?_)
    · refine z_aload_n hE dX12_span_22 rfl 0 rfl ?_
      refine z_iload_n hE dX12_span_23 rfl 1 rfl ?_
      refine z_callV hE dX12_span_24 lV_X12_220 (c_X12_laysSpans _ μ _ h) sM_0 rfl (Nat.le_of_ble_eq_true rfl) (by decide) rfl (zk_V (fun μ_6 h => ?_))
      refine z_iload_n hE dX12_span_27 rfl 2 rfl ?_
      refine z_i2l hE dX12_span_28 ?_
      refine z_lconst (v := 0) hE dX12_span_29 zv_l_0 ?_
      refine z_aload_n hE dX12_span_30 rfl 0 rfl ?_
      refine z_getI hE dX12_span_31 lF_X12_217 sM_0 rfl ?_
      refine z_iconst (v := 1) hE dX12_span_34 zv_i_1 ?_
      refine z_isub hE dX12_span_35 ?_
      refine z_i2l hE dX12_span_36 ?_
      refine z_callS hE dX12_span_37 lS_X12_83 (c_X12_in _ _ _ μ_6 _ h) rfl (Nat.le_of_ble_eq_true rfl) (by decide) rfl (zk_PI (fun r_7 h => ?_))
      refine z_if_ne (tgt := 45) hE dX12_span_40 (by decide) h (fun h => ?_) (fun h => ?_)
      · refine z_aload_n hE dX12_span_45 rfl 0 rfl ?_
        refine z_getR (t := 9) hE dX12_span_46 lF_X12_37 sM_0 rfl ?_
        refine z_iload_n hE dX12_span_49 rfl 2 rfl ?_
        obtain ⟨q_9, h⟩ := h
        refine z_iald hE dX12_span_50 sM_9 q_9 ?_
        refine z_istore (lv' := [(4, .int (μ_6.1 9 (Int32.toNatClampNeg a2))), (0, .ref 0), (1, .int a1), (2, .int a2), (3, .int a3)]) hE dX12_span_51 (by decide) rfl ?_
        refine zn (G := fun v4_10 => zZ E (zzI Φ) 53 [(4, .int v4_10), (0, .ref 0), (1, .int a1), (2, .int a2), (3, .int a3)] [] μ_6) h (fun v4_10 h => ?_)
        refine z_aload_n hE dX12_span_53 rfl 1 rfl ?_
        refine z_getR (t := 10) hE dX12_span_54 lF_X12_40 sM_0 rfl ?_
        refine z_iload_n hE dX12_span_57 rfl 3 rfl ?_
        obtain ⟨q_11, h⟩ := h
        refine z_iald hE dX12_span_58 sM_10 q_11 ?_
        refine z_istore (lv' := [(5, .int (μ_6.1 10 (Int32.toNatClampNeg a2))), (4, .int v4_10), (0, .ref 0), (1, .int a1), (2, .int a2), (3, .int a3)]) hE dX12_span_59 (by decide) rfl ?_
        refine zn (G := fun v5_12 => zZ E (zzI Φ) 61 [(5, .int v5_12), (4, .int v4_10), (0, .ref 0), (1, .int a1), (2, .int a2), (3, .int a3)] [] μ_6) h (fun v5_12 h => ?_)
        refine z_iload_n hE dX12_span_61 rfl 5 rfl ?_
        obtain ⟨g62_0, g62_1, g62_2, g62_3, gd_62⟩ := h
        by_cases c62_0 : a3 = (0 : Int32)
        · have h := g62_0 c62_0
          refine z_swIn (tgt := 92) hE dX12_span_62 (by rw [c62_0]; decide) (by rw [c62_0]; decide) (by rw [c62_0]; rfl) (by decide) ?_
          refine z_iload hE dX12_span_92 1 rfl ?_
          refine z_sipush (v := 1000) hE dX12_span_94 zv_s_1000 ?_
          refine z_iadd hE dX12_span_97 ?_
          exact z_iret (st := []) hE dX12_span_98 rfl ⟨_, rfl, h⟩
        by_cases c62_1 : a3 = (1 : Int32)
        · have h := g62_1 c62_1
          refine z_swIn (tgt := 99) hE dX12_span_62 (by rw [c62_1]; decide) (by rw [c62_1]; decide) (by rw [c62_1]; rfl) (by decide) ?_
          refine z_iload hE dX12_span_99 0 rfl ?_
          refine z_sipush (v := 1000) hE dX12_span_101 zv_s_1000 ?_
          refine z_iadd hE dX12_span_104 ?_
          exact z_iret (st := []) hE dX12_span_105 rfl ⟨_, rfl, h⟩
        by_cases c62_2 : a3 = (2 : Int32)
        · have h := g62_2 c62_2
          refine z_swIn (tgt := 106) hE dX12_span_62 (by rw [c62_2]; decide) (by rw [c62_2]; decide) (by rw [c62_2]; rfl) (by decide) ?_
          refine z_aload_n hE dX12_span_106 rfl 2 rfl ?_
          refine z_iload_n hE dX12_span_107 rfl 3 rfl ?_
          refine z_iload hE dX12_span_108 1 rfl ?_
          refine z_callV hE dX12_span_110 lV_X12_223 (c_X12_firstEdge _ _ μ_6 _ h) sM_0 rfl (Nat.le_of_ble_eq_true rfl) (by decide) rfl (zk_I (fun r_13 μ_14 h => ?_))
          refine z_sipush (v := 10000) hE dX12_span_113 zv_s_10000 ?_
          refine z_iadd hE dX12_span_116 ?_
          exact z_iret (st := []) hE dX12_span_117 rfl ⟨_, rfl, h⟩
        by_cases c62_3 : a3 = (3 : Int32)
        · have h := g62_3 c62_3
          refine z_swIn (tgt := 118) hE dX12_span_62 (by rw [c62_3]; decide) (by rw [c62_3]; decide) (by rw [c62_3]; rfl) (by decide) ?_
          refine z_aload_n hE dX12_span_118 rfl 2 rfl ?_
          refine z_iload_n hE dX12_span_119 rfl 3 rfl ?_
          refine z_iload hE dX12_span_120 0 rfl ?_
          refine z_callV hE dX12_span_122 lV_X12_226 (c_X12_lastEdge _ _ μ_6 _ h) sM_0 rfl (Nat.le_of_ble_eq_true rfl) (by decide) rfl (zk_I (fun r_15 μ_16 h => ?_))
          refine z_sipush (v := 10000) hE dX12_span_125 zv_s_10000 ?_
          refine z_iadd hE dX12_span_128 ?_
          exact z_iret (st := []) hE dX12_span_129 rfl ⟨_, rfl, h⟩
        have h := gd_62 c62_0 c62_1 c62_2 c62_3
        refine z_swOut (tgt := 130) hE dX12_span_62 (by have e0 := lv_neT c62_0 (a := 0) (by decide); have e1 := lv_neT c62_1 (a := 1) (by decide); have e2 := lv_neT c62_2 (a := 2) (by decide); have e3 := lv_neT c62_3 (a := 3) (by decide); show _ < (0 : Int) ∨ (3 : Int) < _; omega) (by decide) ?_
        refine z_iload hE dX12_span_130 0 rfl ?_
        refine z_iload hE dX12_span_132 1 rfl ?_
        refine z_isub hE dX12_span_134 ?_
        refine z_iconst (v := 1) hE dX12_span_135 zv_i_1 ?_
        refine z_iadd hE dX12_span_136 ?_
        exact z_iret (st := []) hE dX12_span_137 rfl ⟨_, rfl, h⟩
      · refine z_iconst (v := -1) hE dX12_span_43 zv_i_m1 ?_
        exact z_iret (st := []) hE dX12_span_44 rfl ⟨_, rfl, h⟩
    · refine z_bipush (v := -2) hE dX12_span_19 zv_b_m2 ?_
      exact z_iret (st := []) hE dX12_span_21 rfl ⟨_, rfl, h⟩
set_option maxRecDepth 4000 in
theorem c_X12_spans (a1 : Int32) (μ : ZMem) (Φ : Int32 → ZMem → Prop) (h : w_X12_spans a1 μ Φ) : zM SM yX12_spans cX12_spans 2 (some FieldType.int) 6 [.ref 0, .int a1] μ (zzI Φ) := by
  refine zM_go (own := RX12) rfl (by decide) (Nat.le_of_ble_eq_true rfl) (fun E hE => ?_)
  show zZ E (zzI Φ) 0 [(0, .ref 0), (1, .int a1)] [] μ
  unfold w_X12_spans at h
  refine z_iload_n hE dX12_spans_0 rfl 1 rfl ?_
  refine z_callS hE dX12_spans_1 lS_X12_204 (c_X12_isKind _ μ _ h) rfl (Nat.le_of_ble_eq_true rfl) (by decide) rfl (zk_PI (fun r_1 h => ?_))
  refine z_if_ne (tgt := 10) hE dX12_spans_4 (by decide) h (fun h => ?_) (fun h => ?_)
  · refine z_aload_n hE dX12_spans_10 rfl 0 rfl ?_
    refine z_iload_n hE dX12_spans_11 rfl 1 rfl ?_
    refine z_callV hE dX12_spans_12 lV_X12_220 (c_X12_laysSpans _ μ _ h) sM_0 rfl (Nat.le_of_ble_eq_true rfl) (by decide) rfl (zk_V (fun μ_4 h => ?_))
    refine z_aload_n hE dX12_spans_15 rfl 0 rfl ?_
    refine z_getI hE dX12_spans_16 lF_X12_217 sM_0 rfl ?_
    exact z_iret (st := []) hE dX12_spans_19 rfl ⟨_, rfl, h⟩
  · refine z_bipush (v := -2) hE dX12_spans_7 zv_b_m2 ?_
    exact z_iret (st := []) hE dX12_spans_9 rfl ⟨_, rfl, h⟩
set_option maxRecDepth 4000 in
theorem c_X12_count (a1 : Int32) (μ : ZMem) (Φ : Int32 → ZMem → Prop) (h : w_X12_count a1 μ Φ) : zM SM yX12_count cX12_count 2 (some FieldType.int) 7 [.ref 0, .int a1] μ (zzI Φ) := by
  refine zM_go (own := RX12) rfl (by decide) (Nat.le_of_ble_eq_true rfl) (fun E hE => ?_)
  show zZ E (zzI Φ) 0 [(0, .ref 0), (1, .int a1)] [] μ
  unfold w_X12_count at h
  refine z_iload_n hE dX12_count_0 rfl 1 rfl ?_
  obtain ⟨g1_0, g1_1, g1_2, g1_3, g1_4, g1_5, gd_1⟩ := h
  by_cases c1_0 : a1 = (0 : Int32)
  · have h := g1_0 c1_0
    refine z_swIn (tgt := 40) hE dX12_count_1 (by rw [c1_0]; decide) (by rw [c1_0]; decide) (by rw [c1_0]; rfl) (by decide) ?_
    refine z_aload_n hE dX12_count_40 rfl 0 rfl ?_
    refine z_getR (t := 1) hE dX12_count_41 lF_X12_11 sM_0 rfl ?_
    refine z_bipush (v := 15) hE dX12_count_44 zv_b_15 ?_
    refine z_iald hE dX12_count_46 sM_1 (zin (by decide)) ?_
    exact z_iret (st := []) hE dX12_count_47 rfl ⟨_, rfl, h⟩
  by_cases c1_1 : a1 = (1 : Int32)
  · have h := g1_1 c1_1
    refine z_swIn (tgt := 48) hE dX12_count_1 (by rw [c1_1]; decide) (by rw [c1_1]; decide) (by rw [c1_1]; rfl) (by decide) ?_
    refine z_aload_n hE dX12_count_48 rfl 0 rfl ?_
    refine z_getI hE dX12_count_49 lF_X12_253 sM_0 rfl ?_
    exact z_iret (st := []) hE dX12_count_52 rfl ⟨_, rfl, h⟩
  by_cases c1_2 : a1 = (2 : Int32)
  · have h := g1_2 c1_2
    refine z_swIn (tgt := 53) hE dX12_count_1 (by rw [c1_2]; decide) (by rw [c1_2]; decide) (by rw [c1_2]; rfl) (by decide) ?_
    refine z_aload_n hE dX12_count_53 rfl 0 rfl ?_
    refine z_getI hE dX12_count_54 lF_X12_291 sM_0 rfl ?_
    exact z_iret (st := []) hE dX12_count_57 rfl ⟨_, rfl, h⟩
  by_cases c1_3 : a1 = (3 : Int32)
  · have h := g1_3 c1_3
    refine z_swIn (tgt := 58) hE dX12_count_1 (by rw [c1_3]; decide) (by rw [c1_3]; decide) (by rw [c1_3]; rfl) (by decide) ?_
    refine z_aload_n hE dX12_count_58 rfl 0 rfl ?_
    refine z_iconst (v := 0) hE dX12_count_59 zv_i_0 ?_
    refine z_callV hE dX12_count_60 lV_X12_316 (c_X12_spans _ μ _ h) sM_0 rfl (Nat.le_of_ble_eq_true rfl) (by decide) rfl (zk_I (fun r_1 μ_2 h => ?_))
    refine z_aload_n hE dX12_count_63 rfl 0 rfl ?_
    refine z_iconst (v := 1) hE dX12_count_64 zv_i_1 ?_
    refine z_callV hE dX12_count_65 lV_X12_316 (c_X12_spans _ μ_2 _ h) sM_0 rfl (Nat.le_of_ble_eq_true rfl) (by decide) rfl (zk_I (fun r_3 μ_4 h => ?_))
    refine z_iadd hE dX12_count_68 ?_
    exact z_iret (st := []) hE dX12_count_69 rfl ⟨_, rfl, h⟩
  by_cases c1_4 : a1 = (4 : Int32)
  · have h := g1_4 c1_4
    refine z_swIn (tgt := 70) hE dX12_count_1 (by rw [c1_4]; decide) (by rw [c1_4]; decide) (by rw [c1_4]; rfl) (by decide) ?_
    refine z_aload_n hE dX12_count_70 rfl 0 rfl ?_
    refine z_getR (t := 1) hE dX12_count_71 lF_X12_11 sM_0 rfl ?_
    refine z_bipush (v := 14) hE dX12_count_74 zv_b_14 ?_
    refine z_iald hE dX12_count_76 sM_1 (zin (by decide)) ?_
    refine z_sipush (v := 1000) hE dX12_count_77 zv_s_1000 ?_
    refine z_iadd hE dX12_count_80 ?_
    exact z_iret (st := []) hE dX12_count_81 rfl ⟨_, rfl, h⟩
  by_cases c1_5 : a1 = (5 : Int32)
  · have h := g1_5 c1_5
    refine z_swIn (tgt := 82) hE dX12_count_1 (by rw [c1_5]; decide) (by rw [c1_5]; decide) (by rw [c1_5]; rfl) (by decide) ?_
    refine z_aload_n hE dX12_count_82 rfl 0 rfl ?_
    refine z_getR (t := 1) hE dX12_count_83 lF_X12_11 sM_0 rfl ?_
    refine z_bipush (v := 32) hE dX12_count_86 zv_b_32 ?_
    refine z_iald hE dX12_count_88 sM_1 (zin (by decide)) ?_
    exact z_iret (st := []) hE dX12_count_89 rfl ⟨_, rfl, h⟩
  have h := gd_1 c1_0 c1_1 c1_2 c1_3 c1_4 c1_5
  refine z_swOut (tgt := 90) hE dX12_count_1 (by have e0 := lv_neT c1_0 (a := 0) (by decide); have e1 := lv_neT c1_1 (a := 1) (by decide); have e2 := lv_neT c1_2 (a := 2) (by decide); have e3 := lv_neT c1_3 (a := 3) (by decide); have e4 := lv_neT c1_4 (a := 4) (by decide); have e5 := lv_neT c1_5 (a := 5) (by decide); show _ < (0 : Int) ∨ (5 : Int) < _; omega) (by decide) ?_
  refine z_bipush (v := -2) hE dX12_count_90 zv_b_m2 ?_
  exact z_iret (st := []) hE dX12_count_92 rfl ⟨_, rfl, h⟩
