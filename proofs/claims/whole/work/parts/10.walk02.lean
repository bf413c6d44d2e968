set_option maxRecDepth 4000 in
theorem c_X12_isDivided (a1 : Int32) (μ : ZMem) (Φ : Int32 → ZMem → Prop) (h : w_X12_isDivided a1 μ Φ) : zM SM yX12_isDivided cX12_isDivided 6 (some FieldType.boolean) 1 [.ref 0, .int a1] μ (zzI Φ) := by
  refine zM_go (own := RX12) rfl (by decide) (Nat.le_of_ble_eq_true rfl) (fun E hE => ?_)
  show zZ E (zzI Φ) 0 [(0, .ref 0), (1, .int a1)] [] μ
  unfold w_X12_isDivided at h
  refine z_aload_n hE dX12_isDivided_0 rfl 0 rfl ?_
  refine z_iload_n hE dX12_isDivided_1 rfl 1 rfl ?_
  refine z_callV hE dX12_isDivided_2 lV_X12_322 (c_X12_sizeOf _ μ _ h) sM_0 rfl (Nat.le_of_ble_eq_true rfl) (by decide) rfl (zk_PI (fun r_1 h => ?_))
  refine z_istore_n (lv' := [(2, .int r_1), (0, .ref 0), (1, .int a1)]) hE dX12_isDivided_5 rfl (by decide) rfl ?_
  refine z_aload_n hE dX12_isDivided_6 rfl 1 rfl ?_
  refine z_getR (t := 3) hE dX12_isDivided_7 lF_X12_18 sM_0 rfl ?_
  refine z_callS hE dX12_isDivided_10 lS_X12_73 (c_X12_degreeOf _ _ sM_3 μ _ h) rfl (Nat.le_of_ble_eq_true rfl) (by decide) rfl (zk_PI (fun r_3 h => ?_))
  refine z_istore_n (lv' := [(3, .int r_3), (2, .int r_1), (0, .ref 0), (1, .int a1)]) hE dX12_isDivided_13 rfl (by decide) rfl ?_
  refine z_iconst (v := 0) hE dX12_isDivided_14 zv_i_0 ?_
  refine z_istore (lv' := [(4, .int (0 : Int32)), (3, .int r_3), (2, .int r_1), (0, .ref 0), (1, .int a1)]) hE dX12_isDivided_15 (by decide) rfl ?_
  refine z_join (P := fun (J_6 : ZMem → Prop) => ∀ (μ_5 : ZMem), J_6 μ_5 → zZ E (zzI Φ) 44 [(0, .ref 0), (1, .int a1), (2, .int r_1), (3, .int r_3)] [] μ_5) h (fun μ_5 h => ?_) (fun J_6 hJ_6 h => ?_)
  · refine z_iload_n hE dX12_isDivided_44 rfl 3 rfl ?_
    refine z_istore (lv' := [(4, .int r_3), (0, .ref 0), (1, .int a1), (2, .int r_1), (3, .int r_3)]) hE dX12_isDivided_45 (by decide) rfl ?_
    refine z_join (P := fun (J_8 : ZMem → Prop) => ∀ (μ_7 : ZMem), J_8 μ_7 → zZ E (zzI Φ) 124 [(0, .ref 0), (2, .int r_1), (3, .int r_3)] [] μ_7) h (fun μ_7 h => ?_) (fun J_8 hJ_8 h => ?_)
    · refine z_iload_n hE dX12_isDivided_124 rfl 2 rfl ?_
      refine z_iload_n hE dX12_isDivided_125 rfl 1 rfl ?_
      refine z_join (P := fun (J_10 : Int32 → Prop) => ∀ (x_9 : Int32), J_10 x_9 → zZ E (zzI Φ) 161 [(0, .ref 0), (2, .int r_1)] [.int x_9] μ_7) h (fun x_9 h => ?_) (fun J_10 hJ_10 h => ?_)
      · refine z_istore (lv' := [(4, .int x_9), (0, .ref 0), (2, .int r_1)]) hE dX12_isDivided_161 (by decide) rfl ?_
        refine z_iconst (v := 0) hE dX12_isDivided_163 zv_i_0 ?_
        refine z_istore (lv' := [(5, .int (0 : Int32)), (4, .int x_9), (0, .ref 0), (2, .int r_1)]) hE dX12_isDivided_164 (by decide) rfl ?_
        refine z_sub [2, 3, 1, 0] rfl ?_
        obtain ⟨n166, h⟩ := h
        refine z_loop2 (P := fun (v5_11 : Int32) (μ_12 : ZMem) => zZ E (zzI Φ) 166 [(0, .ref 0), (2, .int r_1), (4, .int x_9), (5, .int v5_11)] [] μ_12) (fun k166_12 hk166_12 v5_11 μ_12 h => ?_) n166 _ _ h
        refine z_iload hE dX12_isDivided_166 3 rfl ?_
        refine z_bipush (v := 7) hE dX12_isDivided_168 zv_b_7 ?_
        refine z_icmp_ge (tgt := 213) hE dX12_isDivided_170 (by decide) h (fun h => ?_) (fun h => ?_)
        · refine z_iload hE dX12_isDivided_213 2 rfl ?_
          obtain ⟨q_13, h⟩ := h
          exact z_zret (st := []) hE dX12_isDivided_215 rfl (zb_n q_13) ⟨_, rfl, h⟩
        · refine z_iload hE dX12_isDivided_173 2 rfl ?_
          refine z_if_eq (tgt := 213) hE dX12_isDivided_175 (by decide) h (fun h => ?_) (fun h => ?_)
          · refine z_iload hE dX12_isDivided_213 2 rfl ?_
            obtain ⟨q_14, h⟩ := h
            exact z_zret (st := []) hE dX12_isDivided_215 rfl (zb_n q_14) ⟨_, rfl, h⟩
          · refine z_aload_n hE dX12_isDivided_178 rfl 0 rfl ?_
            refine z_getR (t := 3) hE dX12_isDivided_179 lF_X12_18 sM_0 rfl ?_
            refine z_iload hE dX12_isDivided_182 3 rfl ?_
            refine z_iload hE dX12_isDivided_184 3 rfl ?_
            refine z_iload_n hE dX12_isDivided_186 rfl 1 rfl ?_
            refine z_iadd hE dX12_isDivided_187 ?_
            refine z_bipush (v := 7) hE dX12_isDivided_188 zv_b_7 ?_
            refine z_join (P := fun (J_16 : Int64 → Prop) => ∀ (x_15 : Int64), J_16 x_15 → zZ E (zzI Φ) 206 [(0, .ref 0), (2, .int r_1), (4, .int x_9), (5, .int v5_11)] [.long x_15, .int v5_11, .ref 3] μ_12) h (fun x_15 h => ?_) (fun J_16 hJ_16 h => ?_)
            · obtain ⟨q_17, h⟩ := h
              refine z_last hE dX12_isDivided_206 sM_3 q_17 ?_
              refine zn (G := fun μ_18 => zZ E (zzI Φ) 207 [(0, .ref 0), (2, .int r_1), (4, .int x_9), (5, .int v5_11)] [] μ_18) h (fun μ_18 h => ?_)
              refine z_iinc (j := 3) (c := 1) (lv' := [(5, .int (v5_11 + (1 : Int32))), (0, .ref 0), (2, .int r_1), (4, .int x_9)]) hE dX12_isDivided_207 rfl zv_i_1 (by decide) rfl ?_
              refine z_goto (tgt := 166) hE dX12_isDivided_210 (by decide) ?_
              exact z_sub [1, 2, 3, 0] rfl (hk166_12 _ _ h)
            refine z_icmp_ge (tgt := 205) hE dX12_isDivided_190 (by decide) h (fun h => ?_) (fun h => ?_)
            · refine z_lconst (v := 0) hE dX12_isDivided_205 zv_l_0 ?_
              exact hJ_16 _ h
            · refine z_aload_n hE dX12_isDivided_193 rfl 0 rfl ?_
              refine z_getR (t := 5) hE dX12_isDivided_194 lF_X12_25 sM_0 rfl ?_
              refine z_iload hE dX12_isDivided_197 3 rfl ?_
              refine z_iload_n hE dX12_isDivided_199 rfl 1 rfl ?_
              refine z_iadd hE dX12_isDivided_200 ?_
              obtain ⟨q_19, h⟩ := h
              refine z_lald hE dX12_isDivided_201 sM_5 q_19 ?_
              refine z_goto (tgt := 206) hE dX12_isDivided_202 (by decide) ?_
              exact hJ_16 _ h
      refine z_join (P := fun (J_20 : Prop) => J_20 → zZ E (zzI Φ) 160 [(0, .ref 0), (2, .int r_1)] [] μ_7) h (fun  h => ?_) (fun J_20 hJ_20 h => ?_)
      · refine z_iconst (v := 0) hE dX12_isDivided_160 zv_i_0 ?_
        exact hJ_10 _ h
      refine z_icmp_lt (tgt := 160) hE dX12_isDivided_126 (by decide) h (fun h => ?_) (fun h => ?_)
      · exact z_sub [0, 1] rfl (hJ_20 h)
      · refine z_aload_n hE dX12_isDivided_129 rfl 0 rfl ?_
        refine z_getR (t := 5) hE dX12_isDivided_130 lF_X12_25 sM_0 rfl ?_
        refine z_iconst (v := 0) hE dX12_isDivided_133 zv_i_0 ?_
        refine z_lald hE dX12_isDivided_134 sM_5 (zin (by decide)) ?_
        refine z_lconst (v := 0) hE dX12_isDivided_135 zv_l_0 ?_
        refine z_ljmp_ne (tgt := 160) hE dX12_isDivided_136 dX12_isDivided_137 (by decide) h (fun h => ?_) (fun h => ?_)
        · exact z_sub [0, 1] rfl (hJ_20 h)
        · refine z_iload_n hE dX12_isDivided_140 rfl 1 rfl ?_
          refine z_iconst (v := 1) hE dX12_isDivided_141 zv_i_1 ?_
          refine z_join (P := fun (J_21 : Prop) => J_21 → zZ E (zzI Φ) 156 [(0, .ref 0), (2, .int r_1)] [] μ_7) h (fun  h => ?_) (fun J_21 hJ_21 h => ?_)
          · refine z_iconst (v := 1) hE dX12_isDivided_156 zv_i_1 ?_
            refine z_goto (tgt := 161) hE dX12_isDivided_157 (by decide) ?_
            exact hJ_10 _ h
          refine z_icmp_eq (tgt := 156) hE dX12_isDivided_142 (by decide) h (fun h => ?_) (fun h => ?_)
          · exact z_sub [0, 1] rfl (hJ_21 h)
          · refine z_aload_n hE dX12_isDivided_145 rfl 0 rfl ?_
            refine z_getR (t := 5) hE dX12_isDivided_146 lF_X12_25 sM_0 rfl ?_
            refine z_iconst (v := 1) hE dX12_isDivided_149 zv_i_1 ?_
            refine z_lald hE dX12_isDivided_150 sM_5 (zin (by decide)) ?_
            refine z_lconst (v := 0) hE dX12_isDivided_151 zv_l_0 ?_
            refine z_ljmp_ne (tgt := 160) hE dX12_isDivided_152 dX12_isDivided_153 (by decide) h (fun h => ?_) (fun h => ?_)
            · exact z_sub [0, 1] rfl (hJ_20 h)
            · exact z_sub [0, 1] rfl (hJ_21 h)
    refine z_sub [1, 2, 3, 4, 0] rfl ?_
    obtain ⟨n47, h⟩ := h
    refine z_loop2 (P := fun (v4_22 : Int32) (μ_23 : ZMem) => zZ E (zzI Φ) 47 [(0, .ref 0), (1, .int a1), (2, .int r_1), (3, .int r_3), (4, .int v4_22)] [] μ_23) (fun k47_23 hk47_23 v4_22 μ_23 h => ?_) n47 _ _ h
    refine z_iload hE dX12_isDivided_47 4 rfl ?_
    refine z_iload_n hE dX12_isDivided_49 rfl 2 rfl ?_
    refine z_icmp_lt (tgt := 124) hE dX12_isDivided_50 (by decide) h (fun h => ?_) (fun h => ?_)
    · exact z_sub [0, 2, 3] rfl (hJ_8 _ h)
    · refine z_aload_n hE dX12_isDivided_53 rfl 0 rfl ?_
      refine z_getR (t := 5) hE dX12_isDivided_54 lF_X12_25 sM_0 rfl ?_
      refine z_iload hE dX12_isDivided_57 4 rfl ?_
      refine z_iconst (v := 1) hE dX12_isDivided_59 zv_i_1 ?_
      refine z_isub hE dX12_isDivided_60 ?_
      refine z_dup2 hE dX12_isDivided_61 rfl rfl ?_
      obtain ⟨q_24, h⟩ := h
      refine z_lald hE dX12_isDivided_62 sM_5 q_24 ?_
      refine z_aload_n hE dX12_isDivided_63 rfl 0 rfl ?_
      refine z_getR (t := 1) hE dX12_isDivided_64 lF_X12_11 sM_0 rfl ?_
      refine z_bipush (v := 39) hE dX12_isDivided_67 zv_b_39 ?_
      refine z_iload_n hE dX12_isDivided_69 rfl 1 rfl ?_
      refine z_iadd hE dX12_isDivided_70 ?_
      obtain ⟨q_25, h⟩ := h
      refine z_iald hE dX12_isDivided_71 sM_1 q_25 ?_
      refine z_i2l hE dX12_isDivided_72 ?_
      refine z_aload_n hE dX12_isDivided_73 rfl 0 rfl ?_
      refine z_getR (t := 5) hE dX12_isDivided_74 lF_X12_25 sM_0 rfl ?_
      refine z_iload hE dX12_isDivided_77 4 rfl ?_
      obtain ⟨q_26, h⟩ := h
      refine z_lald hE dX12_isDivided_79 sM_5 q_26 ?_
      refine z_lmul hE dX12_isDivided_80 ?_
      refine z_lsub hE dX12_isDivided_81 ?_
      obtain ⟨q_27, h⟩ := h
      refine z_last hE dX12_isDivided_82 sM_5 q_27 ?_
      refine zn (G := fun μ_28 => zZ E (zzI Φ) 83 [(0, .ref 0), (1, .int a1), (2, .int r_1), (3, .int r_3), (4, .int v4_22)] [] μ_28) h (fun μ_28 h => ?_)
      refine z_iload_n hE dX12_isDivided_83 rfl 2 rfl ?_
      refine z_iconst (v := 2) hE dX12_isDivided_84 zv_i_2 ?_
      refine z_join (P := fun (J_30 : ZMem → Prop) => ∀ (μ_29 : ZMem), J_30 μ_29 → zZ E (zzI Φ) 118 [(0, .ref 0), (1, .int a1), (2, .int r_1), (3, .int r_3), (4, .int v4_22)] [] μ_29) h (fun μ_29 h => ?_) (fun J_30 hJ_30 h => ?_)
      · refine z_iinc (j := 4) (c := -1) (lv' := [(4, .int (v4_22 + (-1 : Int32))), (0, .ref 0), (1, .int a1), (2, .int r_1), (3, .int r_3)]) hE dX12_isDivided_118 rfl zv_i_m1 (by decide) rfl ?_
        refine z_goto (tgt := 47) hE dX12_isDivided_121 (by decide) ?_
        exact z_sub [1, 2, 3, 4, 0] rfl (hk47_23 _ _ h)
      refine z_icmp_ne (tgt := 118) hE dX12_isDivided_85 (by decide) h (fun h => ?_) (fun h => ?_)
      · exact hJ_30 _ h
      · refine z_aload_n hE dX12_isDivided_88 rfl 0 rfl ?_
        refine z_getR (t := 5) hE dX12_isDivided_89 lF_X12_25 sM_0 rfl ?_
        refine z_iload hE dX12_isDivided_92 4 rfl ?_
        refine z_iconst (v := 2) hE dX12_isDivided_94 zv_i_2 ?_
        refine z_isub hE dX12_isDivided_95 ?_
        refine z_dup2 hE dX12_isDivided_96 rfl rfl ?_
        obtain ⟨q_31, h⟩ := h
        refine z_lald hE dX12_isDivided_97 sM_5 q_31 ?_
        refine z_aload_n hE dX12_isDivided_98 rfl 0 rfl ?_
        refine z_getR (t := 1) hE dX12_isDivided_99 lF_X12_11 sM_0 rfl ?_
        refine z_bipush (v := 45) hE dX12_isDivided_102 zv_b_45 ?_
        refine z_iload_n hE dX12_isDivided_104 rfl 1 rfl ?_
        refine z_iadd hE dX12_isDivided_105 ?_
        obtain ⟨q_32, h⟩ := h
        refine z_iald hE dX12_isDivided_106 sM_1 q_32 ?_
        refine z_i2l hE dX12_isDivided_107 ?_
        refine z_aload_n hE dX12_isDivided_108 rfl 0 rfl ?_
        refine z_getR (t := 5) hE dX12_isDivided_109 lF_X12_25 sM_0 rfl ?_
        refine z_iload hE dX12_isDivided_112 4 rfl ?_
        obtain ⟨q_33, h⟩ := h
        refine z_lald hE dX12_isDivided_114 sM_5 q_33 ?_
        refine z_lmul hE dX12_isDivided_115 ?_
        refine z_lsub hE dX12_isDivided_116 ?_
        obtain ⟨q_34, h⟩ := h
        refine z_last hE dX12_isDivided_117 sM_5 q_34 ?_
        refine zn (G := fun μ_35 => zZ E (zzI Φ) 118 [(0, .ref 0), (1, .int a1), (2, .int r_1), (3, .int r_3), (4, .int v4_22)] [] μ_35) h (fun μ_35 h => ?_)
        exact hJ_30 _ h
  refine z_sub [3, 4, 2, 1, 0] rfl ?_
  obtain ⟨n17, h⟩ := h
  refine z_loop2 (P := fun (v4_36 : Int32) (μ_37 : ZMem) => zZ E (zzI Φ) 17 [(0, .ref 0), (1, .int a1), (2, .int r_1), (3, .int r_3), (4, .int v4_36)] [] μ_37) (fun k17_37 hk17_37 v4_36 μ_37 h => ?_) n17 _ _ h
  refine z_iload hE dX12_isDivided_17 4 rfl ?_
  refine z_bipush (v := 7) hE dX12_isDivided_19 zv_b_7 ?_
  refine z_icmp_ge (tgt := 44) hE dX12_isDivided_21 (by decide) h (fun h => ?_) (fun h => ?_)
  · exact z_sub [0, 1, 2, 3] rfl (hJ_6 _ h)
  · refine z_aload_n hE dX12_isDivided_24 rfl 0 rfl ?_
    refine z_getR (t := 5) hE dX12_isDivided_25 lF_X12_25 sM_0 rfl ?_
    refine z_iload hE dX12_isDivided_28 4 rfl ?_
    refine z_aload_n hE dX12_isDivided_30 rfl 0 rfl ?_
    refine z_getR (t := 3) hE dX12_isDivided_31 lF_X12_18 sM_0 rfl ?_
    refine z_iload hE dX12_isDivided_34 4 rfl ?_
    obtain ⟨q_38, h⟩ := h
    refine z_lald hE dX12_isDivided_36 sM_3 q_38 ?_
    obtain ⟨q_39, h⟩ := h
    refine z_last hE dX12_isDivided_37 sM_5 q_39 ?_
    refine zn (G := fun μ_40 => zZ E (zzI Φ) 38 [(0, .ref 0), (1, .int a1), (2, .int r_1), (3, .int r_3), (4, .int v4_36)] [] μ_40) h (fun μ_40 h => ?_)
    refine z_iinc (j := 4) (c := 1) (lv' := [(4, .int (v4_36 + (1 : Int32))), (0, .ref 0), (1, .int a1), (2, .int r_1), (3, .int r_3)]) hE dX12_isDivided_38 rfl zv_i_1 (by decide) rfl ?_
    refine z_goto (tgt := 17) hE dX12_isDivided_41 (by decide) ?_
    exact z_sub [1, 2, 3, 4, 0] rfl (hk17_37 _ _ h)
set_option maxRecDepth 4000 in
theorem c_X12_isFactor (a1 : Int32) (μ : ZMem) (Φ : Int32 → Prop) (h : w_X12_isFactor a1 μ Φ) : zM SM yX12_isFactor cX12_isFactor 2 (some FieldType.boolean) 1 [.ref 0, .int a1] μ (zzPI Φ μ) := by
  refine zM_go (own := RX12) rfl (by decide) (Nat.le_of_ble_eq_true rfl) (fun E hE => ?_)
  show zZ E (zzPI Φ μ) 0 [(0, .ref 0), (1, .int a1)] [] μ
  unfold w_X12_isFactor at h
  refine z_iload_n hE dX12_isFactor_0 rfl 1 rfl ?_
  refine z_i2l hE dX12_isFactor_1 ?_
  refine z_lconst (v := 0) hE dX12_isFactor_2 zv_l_0 ?_
  refine z_aload_n hE dX12_isFactor_3 rfl 0 rfl ?_
  refine z_getR (t := 1) hE dX12_isFactor_4 lF_X12_11 sM_0 rfl ?_
  refine z_bipush (v := 32) hE dX12_isFactor_7 zv_b_32 ?_
  refine z_iald hE dX12_isFactor_9 sM_1 (zin (by decide)) ?_
  refine z_iconst (v := 1) hE dX12_isFactor_10 zv_i_1 ?_
  refine z_isub hE dX12_isFactor_11 ?_
  refine z_i2l hE dX12_isFactor_12 ?_
  refine z_callS hE dX12_isFactor_13 lS_X12_83 (c_X12_in _ _ _ μ _ h) rfl (Nat.le_of_ble_eq_true rfl) (by decide) rfl (zk_PI (fun r_1 h => ?_))
  obtain ⟨q_3, h⟩ := h
  exact z_zret (st := []) hE dX12_isFactor_16 rfl (zb_n q_3) ⟨_, rfl, rfl, h⟩
set_option maxRecDepth 4000 in
theorem c_X12_isFar (a0 : Int32) (μ : ZMem) (Φ : Int32 → Prop) (h : w_X12_isFar a0 Φ) : zM SM yX12_isFar cX12_isFar 1 (some FieldType.boolean) 1 [.int a0] μ (zzPI Φ μ) := by
  refine zM_go (own := RX12) rfl (by decide) (Nat.le_of_ble_eq_true rfl) (fun E hE => ?_)
  show zZ E (zzPI Φ μ) 0 [(0, .int a0)] [] μ
  unfold w_X12_isFar at h
  refine z_iload_n hE dX12_isFar_0 rfl 0 rfl ?_
  refine z_i2l hE dX12_isFar_1 ?_
  refine z_ldc2 (v := -20) hE dX12_isFar_2 lK_X12_197 ?_
  refine z_ldc2 (v := 20) hE dX12_isFar_5 lK_X12_199 ?_
  refine z_callS hE dX12_isFar_8 lS_X12_83 (c_X12_in _ _ _ μ _ h) rfl (Nat.le_of_ble_eq_true rfl) (by decide) rfl (zk_PI (fun r_1 h => ?_))
  obtain ⟨q_3, h⟩ := h
  exact z_zret (st := []) hE dX12_isFar_11 rfl (zb_n q_3) ⟨_, rfl, rfl, h⟩
set_option maxRecDepth 4000 in
theorem c_X12_isForm (a0 : Int32) (μ : ZMem) (Φ : Int32 → Prop) (h : w_X12_isForm a0 Φ) : zM SM yX12_isForm cX12_isForm 1 (some FieldType.boolean) 1 [.int a0] μ (zzPI Φ μ) := by
  refine zM_go (own := RX12) rfl (by decide) (Nat.le_of_ble_eq_true rfl) (fun E hE => ?_)
  show zZ E (zzPI Φ μ) 0 [(0, .int a0)] [] μ
  unfold w_X12_isForm at h
  refine z_iload_n hE dX12_isForm_0 rfl 0 rfl ?_
  refine z_i2l hE dX12_isForm_1 ?_
  refine z_lconst (v := 0) hE dX12_isForm_2 zv_l_0 ?_
  refine z_ldc2 (v := 3) hE dX12_isForm_3 lK_X12_105 ?_
  refine z_callS hE dX12_isForm_6 lS_X12_83 (c_X12_in _ _ _ μ _ h) rfl (Nat.le_of_ble_eq_true rfl) (by decide) rfl (zk_PI (fun r_1 h => ?_))
  refine z_if_ne (tgt := 26) hE dX12_isForm_9 (by decide) h (fun h => ?_) (fun h => ?_)
  · refine z_iconst (v := 1) hE dX12_isForm_26 zv_i_1 ?_
    refine z_goto (tgt := 31) hE dX12_isForm_27 (by decide) ?_
    exact z_zret (st := []) hE dX12_isForm_31 rfl (by decide) ⟨_, rfl, rfl, h⟩
  · refine z_iload_n hE dX12_isForm_12 rfl 0 rfl ?_
    refine z_i2l hE dX12_isForm_13 ?_
    refine z_ldc2 (v := 10) hE dX12_isForm_14 lK_X12_107 ?_
    refine z_ldc2 (v := 50) hE dX12_isForm_17 lK_X12_109 ?_
    refine z_callS hE dX12_isForm_20 lS_X12_83 (c_X12_in _ _ _ μ _ h) rfl (Nat.le_of_ble_eq_true rfl) (by decide) rfl (zk_PI (fun r_3 h => ?_))
    refine z_if_eq (tgt := 30) hE dX12_isForm_23 (by decide) h (fun h => ?_) (fun h => ?_)
    · refine z_iconst (v := 0) hE dX12_isForm_30 zv_i_0 ?_
      exact z_zret (st := []) hE dX12_isForm_31 rfl (by decide) ⟨_, rfl, rfl, h⟩
    · refine z_iconst (v := 1) hE dX12_isForm_26 zv_i_1 ?_
      refine z_goto (tgt := 31) hE dX12_isForm_27 (by decide) ?_
      exact z_zret (st := []) hE dX12_isForm_31 rfl (by decide) ⟨_, rfl, rfl, h⟩
set_option maxRecDepth 4000 in
theorem c_X12_isKind (a0 : Int32) (μ : ZMem) (Φ : Int32 → Prop) (h : w_X12_isKind a0 Φ) : zM SM yX12_isKind cX12_isKind 1 (some FieldType.boolean) 1 [.int a0] μ (zzPI Φ μ) := by
  refine zM_go (own := RX12) rfl (by decide) (Nat.le_of_ble_eq_true rfl) (fun E hE => ?_)
  show zZ E (zzPI Φ μ) 0 [(0, .int a0)] [] μ
  unfold w_X12_isKind at h
  refine z_iload_n hE dX12_isKind_0 rfl 0 rfl ?_
  refine z_i2l hE dX12_isKind_1 ?_
  refine z_lconst (v := 0) hE dX12_isKind_2 zv_l_0 ?_
  refine z_lconst (v := 1) hE dX12_isKind_3 zv_l_1 ?_
  refine z_callS hE dX12_isKind_4 lS_X12_83 (c_X12_in _ _ _ μ _ h) rfl (Nat.le_of_ble_eq_true rfl) (by decide) rfl (zk_PI (fun r_1 h => ?_))
  obtain ⟨q_3, h⟩ := h
  exact z_zret (st := []) hE dX12_isKind_7 rfl (zb_n q_3) ⟨_, rfl, rfl, h⟩
set_option maxRecDepth 4000 in
theorem c_X12_isPower (a0 : Int32) (μ : ZMem) (Φ : Int32 → Prop) (h : w_X12_isPower a0 Φ) : zM SM yX12_isPower cX12_isPower 1 (some FieldType.boolean) 1 [.int a0] μ (zzPI Φ μ) := by
  refine zM_go (own := RX12) rfl (by decide) (Nat.le_of_ble_eq_true rfl) (fun E hE => ?_)
  show zZ E (zzPI Φ μ) 0 [(0, .int a0)] [] μ
  unfold w_X12_isPower at h
  refine z_iload_n hE dX12_isPower_0 rfl 0 rfl ?_
  refine z_i2l hE dX12_isPower_1 ?_
  refine z_lconst (v := 0) hE dX12_isPower_2 zv_l_0 ?_
  refine z_ldc2 (v := 6) hE dX12_isPower_3 lK_X12_81 ?_
  refine z_callS hE dX12_isPower_6 lS_X12_83 (c_X12_in _ _ _ μ _ h) rfl (Nat.le_of_ble_eq_true rfl) (by decide) rfl (zk_PI (fun r_1 h => ?_))
  obtain ⟨q_3, h⟩ := h
  exact z_zret (st := []) hE dX12_isPower_9 rfl (zb_n q_3) ⟨_, rfl, rfl, h⟩
set_option maxRecDepth 4000 in
theorem c_X12_isRow (a1 : Int32) (μ : ZMem) (Φ : Int32 → Prop) (h : w_X12_isRow a1 μ Φ) : zM SM yX12_isRow cX12_isRow 2 (some FieldType.boolean) 1 [.ref 0, .int a1] μ (zzPI Φ μ) := by
  refine zM_go (own := RX12) rfl (by decide) (Nat.le_of_ble_eq_true rfl) (fun E hE => ?_)
  show zZ E (zzPI Φ μ) 0 [(0, .ref 0), (1, .int a1)] [] μ
  unfold w_X12_isRow at h
  refine z_iload_n hE dX12_isRow_0 rfl 1 rfl ?_
  refine z_i2l hE dX12_isRow_1 ?_
  refine z_lconst (v := 0) hE dX12_isRow_2 zv_l_0 ?_
  refine z_aload_n hE dX12_isRow_3 rfl 0 rfl ?_
  refine z_getI hE dX12_isRow_4 lF_X12_121 sM_0 rfl ?_
  refine z_i2l hE dX12_isRow_7 ?_
  refine z_callS hE dX12_isRow_8 lS_X12_83 (c_X12_in _ _ _ μ _ h) rfl (Nat.le_of_ble_eq_true rfl) (by decide) rfl (zk_PI (fun r_1 h => ?_))
  obtain ⟨q_3, h⟩ := h
  exact z_zret (st := []) hE dX12_isRow_11 rfl (zb_n q_3) ⟨_, rfl, rfl, h⟩
set_option maxRecDepth 4000 in
theorem c_X12_isSign  (μ : ZMem) (Φ : Int32 → Prop) (h : w_X12_isSign μ Φ) : zM SM yX12_isSign cX12_isSign 1 (some FieldType.boolean) 1 [.ref 0] μ (zzPI Φ μ) := by
  refine zM_go (own := RX12) rfl (by decide) (Nat.le_of_ble_eq_true rfl) (fun E hE => ?_)
  show zZ E (zzPI Φ μ) 0 [(0, .ref 0)] [] μ
  unfold w_X12_isSign at h
  refine z_aload_n hE dX12_isSign_0 rfl 0 rfl ?_
  refine z_callV hE dX12_isSign_1 lV_X12_259 (c_X12_here  μ _ h) sM_0 rfl (Nat.le_of_ble_eq_true rfl) (by decide) rfl (zk_PI (fun r_1 h => ?_))
  refine z_bipush (v := 43) hE dX12_isSign_4 zv_b_43 ?_
  refine z_icmp_eq (tgt := 18) hE dX12_isSign_6 (by decide) h (fun h => ?_) (fun h => ?_)
  · refine z_iconst (v := 1) hE dX12_isSign_18 zv_i_1 ?_
    refine z_goto (tgt := 23) hE dX12_isSign_19 (by decide) ?_
    exact z_zret (st := []) hE dX12_isSign_23 rfl (by decide) ⟨_, rfl, rfl, h⟩
  · refine z_aload_n hE dX12_isSign_9 rfl 0 rfl ?_
    refine z_callV hE dX12_isSign_10 lV_X12_259 (c_X12_here  μ _ h) sM_0 rfl (Nat.le_of_ble_eq_true rfl) (by decide) rfl (zk_PI (fun r_3 h => ?_))
    refine z_bipush (v := 45) hE dX12_isSign_13 zv_b_45 ?_
    refine z_icmp_ne (tgt := 22) hE dX12_isSign_15 (by decide) h (fun h => ?_) (fun h => ?_)
    · refine z_iconst (v := 0) hE dX12_isSign_22 zv_i_0 ?_
      exact z_zret (st := []) hE dX12_isSign_23 rfl (by decide) ⟨_, rfl, rfl, h⟩
    · refine z_iconst (v := 1) hE dX12_isSign_18 zv_i_1 ?_
      refine z_goto (tgt := 23) hE dX12_isSign_19 (by decide) ?_
      exact z_zret (st := []) hE dX12_isSign_23 rfl (by decide) ⟨_, rfl, rfl, h⟩
set_option maxRecDepth 4000 in
theorem c_X12_isTray (a0 : Int32) (μ : ZMem) (Φ : Int32 → Prop) (h : w_X12_isTray a0 Φ) : zM SM yX12_isTray cX12_isTray 1 (some FieldType.boolean) 1 [.int a0] μ (zzPI Φ μ) := by
  refine zM_go (own := RX12) rfl (by decide) (Nat.le_of_ble_eq_true rfl) (fun E hE => ?_)
  show zZ E (zzPI Φ μ) 0 [(0, .int a0)] [] μ
  unfold w_X12_isTray at h
  refine z_iload_n hE dX12_isTray_0 rfl 0 rfl ?_
  refine z_i2l hE dX12_isTray_1 ?_
  refine z_lconst (v := 0) hE dX12_isTray_2 zv_l_0 ?_
  refine z_ldc2 (v := 3) hE dX12_isTray_3 lK_X12_105 ?_
  refine z_callS hE dX12_isTray_6 lS_X12_83 (c_X12_in _ _ _ μ _ h) rfl (Nat.le_of_ble_eq_true rfl) (by decide) rfl (zk_PI (fun r_1 h => ?_))
  obtain ⟨q_3, h⟩ := h
  exact z_zret (st := []) hE dX12_isTray_9 rfl (zb_n q_3) ⟨_, rfl, rfl, h⟩
set_option maxRecDepth 4000 in
theorem c_X12_knownOf (a1 : Int32) (a2 : Int32) (μ : ZMem) (Φ : Int32 → Prop) (h : w_X12_knownOf a1 a2 μ Φ) : zM SM yX12_knownOf cX12_knownOf 7 (some FieldType.int) 1 [.ref 0, .int a1, .int a2] μ (zzPI Φ μ) := by
  refine zM_go (own := RX12) rfl (by decide) (Nat.le_of_ble_eq_true rfl) (fun E hE => ?_)
  show zZ E (zzPI Φ μ) 0 [(0, .ref 0), (1, .int a1), (2, .int a2)] [] μ
  unfold w_X12_knownOf at h
  refine z_aload_n hE dX12_knownOf_0 rfl 0 rfl ?_
  refine z_getR (t := 1) hE dX12_knownOf_1 lF_X12_11 sM_0 rfl ?_
  refine z_bipush (v := 39) hE dX12_knownOf_4 zv_b_39 ?_
  refine z_iload_n hE dX12_knownOf_6 rfl 1 rfl ?_
  refine z_iadd hE dX12_knownOf_7 ?_
  obtain ⟨q_1, h⟩ := h
  refine z_iald hE dX12_knownOf_8 sM_1 q_1 ?_
  refine z_istore_n (lv' := [(3, .int (μ.1 1 (Int32.toNatClampNeg ((39 : Int32) + a1)))), (0, .ref 0), (1, .int a1), (2, .int a2)]) hE dX12_knownOf_9 rfl (by decide) rfl ?_
  refine zn (G := fun v3_2 => zZ E (zzPI Φ μ) 10 [(3, .int v3_2), (0, .ref 0), (1, .int a1), (2, .int a2)] [] μ) h (fun v3_2 h => ?_)
  refine z_aload_n hE dX12_knownOf_10 rfl 1 rfl ?_
  refine z_getR (t := 1) hE dX12_knownOf_11 lF_X12_11 sM_0 rfl ?_
  refine z_bipush (v := 45) hE dX12_knownOf_14 zv_b_45 ?_
  refine z_iload_n hE dX12_knownOf_16 rfl 2 rfl ?_
  refine z_iadd hE dX12_knownOf_17 ?_
  obtain ⟨q_3, h⟩ := h
  refine z_iald hE dX12_knownOf_18 sM_1 q_3 ?_
  refine z_istore (lv' := [(4, .int (μ.1 1 (Int32.toNatClampNeg ((45 : Int32) + a1)))), (3, .int v3_2), (0, .ref 0), (1, .int a1), (2, .int a2)]) hE dX12_knownOf_19 (by decide) rfl ?_
  refine zn (G := fun v4_4 => zZ E (zzPI Φ μ) 21 [(4, .int v4_4), (3, .int v3_2), (0, .ref 0), (1, .int a1), (2, .int a2)] [] μ) h (fun v4_4 h => ?_)
  refine z_iload_n hE dX12_knownOf_21 rfl 1 rfl ?_
  refine z_join (P := fun (J_6 : Int32 → Prop) => ∀ (x_5 : Int32), J_6 x_5 → zZ E (zzPI Φ μ) 38 [(0, .ref 0), (1, .int a1), (2, .int a2), (4, .int v4_4)] [.int x_5] μ) h (fun x_5 h => ?_) (fun J_6 hJ_6 h => ?_)
  · refine z_istore (lv' := [(5, .int x_5), (0, .ref 0), (1, .int a1), (2, .int a2), (4, .int v4_4)]) hE dX12_knownOf_38 (by decide) rfl ?_
    refine z_iload hE dX12_knownOf_40 0 rfl ?_
    refine z_iload_n hE dX12_knownOf_42 rfl 3 rfl ?_
    refine z_join (P := fun (J_8 : Int32 → Prop) => ∀ (x_7 : Int32), J_8 x_7 → zZ E (zzPI Φ μ) 51 [(0, .ref 0), (1, .int a1), (2, .int a2), (4, .int v4_4)] [.int x_7] μ) h (fun x_7 h => ?_) (fun J_8 hJ_8 h => ?_)
    · refine z_istore (lv' := [(6, .int x_7), (0, .ref 0), (1, .int a1), (2, .int a2), (4, .int v4_4)]) hE dX12_knownOf_51 (by decide) rfl ?_
      refine z_aload_n hE dX12_knownOf_53 rfl 1 rfl ?_
      refine z_iload_n hE dX12_knownOf_54 rfl 2 rfl ?_
      refine z_callV hE dX12_knownOf_55 lV_X12_322 (c_X12_sizeOf _ μ _ h) sM_0 rfl (Nat.le_of_ble_eq_true rfl) (by decide) rfl (zk_PI (fun r_9 h => ?_))
      refine z_iconst (v := 1) hE dX12_knownOf_58 zv_i_1 ?_
      refine z_icmp_ne (tgt := 65) hE dX12_knownOf_59 (by decide) h (fun h => ?_) (fun h => ?_)
      · refine z_iload hE dX12_knownOf_65 4 rfl ?_
        refine z_if_ge (tgt := 83) hE dX12_knownOf_67 (by decide) h (fun h => ?_) (fun h => ?_)
        · refine z_iload hE dX12_knownOf_83 4 rfl ?_
          refine z_if_ne (tgt := 104) hE dX12_knownOf_85 (by decide) h (fun h => ?_) (fun h => ?_)
          · refine z_iconst (v := 2) hE dX12_knownOf_104 zv_i_2 ?_
            refine z_iload hE dX12_knownOf_105 0 rfl ?_
            refine z_imul hE dX12_knownOf_107 ?_
            exact z_iret (st := []) hE dX12_knownOf_108 rfl ⟨_, rfl, rfl, h⟩
          · refine z_iload hE dX12_knownOf_88 0 rfl ?_
            refine z_iload_n hE dX12_knownOf_90 rfl 3 rfl ?_
            refine z_iconst (v := 1) hE dX12_knownOf_91 zv_i_1 ?_
            refine z_icmp_ne (tgt := 99) hE dX12_knownOf_92 (by decide) h (fun h => ?_) (fun h => ?_)
            · refine z_iconst (v := 0) hE dX12_knownOf_99 zv_i_0 ?_
              refine z_iadd hE dX12_knownOf_100 ?_
              refine z_goto (tgt := 108) hE dX12_knownOf_101 (by decide) ?_
              exact z_iret (st := []) hE dX12_knownOf_108 rfl ⟨_, rfl, rfl, h⟩
            · refine z_iconst (v := 1) hE dX12_knownOf_95 zv_i_1 ?_
              refine z_goto (tgt := 100) hE dX12_knownOf_96 (by decide) ?_
              refine z_iadd hE dX12_knownOf_100 ?_
              refine z_goto (tgt := 108) hE dX12_knownOf_101 (by decide) ?_
              exact z_iret (st := []) hE dX12_knownOf_108 rfl ⟨_, rfl, rfl, h⟩
        · refine z_iload_n hE dX12_knownOf_70 rfl 3 rfl ?_
          refine z_iconst (v := 1) hE dX12_knownOf_71 zv_i_1 ?_
          refine z_icmp_ne (tgt := 79) hE dX12_knownOf_72 (by decide) h (fun h => ?_) (fun h => ?_)
          · refine z_iconst (v := 1) hE dX12_knownOf_79 zv_i_1 ?_
            refine z_goto (tgt := 108) hE dX12_knownOf_80 (by decide) ?_
            exact z_iret (st := []) hE dX12_knownOf_108 rfl ⟨_, rfl, rfl, h⟩
          · refine z_iconst (v := 0) hE dX12_knownOf_75 zv_i_0 ?_
            refine z_goto (tgt := 108) hE dX12_knownOf_76 (by decide) ?_
            exact z_iret (st := []) hE dX12_knownOf_108 rfl ⟨_, rfl, rfl, h⟩
      · refine z_iload hE dX12_knownOf_62 0 rfl ?_
        exact z_iret (st := []) hE dX12_knownOf_64 rfl ⟨_, rfl, rfl, h⟩
    refine z_icmp_ne (tgt := 50) hE dX12_knownOf_43 (by decide) h (fun h => ?_) (fun h => ?_)
    · refine z_iconst (v := 0) hE dX12_knownOf_50 zv_i_0 ?_
      exact z_sub [1, 2, 3, 4] rfl (hJ_8 _ h)
    · refine z_iconst (v := 1) hE dX12_knownOf_46 zv_i_1 ?_
      refine z_goto (tgt := 51) hE dX12_knownOf_47 (by decide) ?_
      exact z_sub [1, 2, 3, 4] rfl (hJ_8 _ h)
  refine z_if_ge (tgt := 29) hE dX12_knownOf_22 (by decide) h (fun h => ?_) (fun h => ?_)
  · refine z_iload_n hE dX12_knownOf_29 rfl 1 rfl ?_
    refine z_if_ne (tgt := 37) hE dX12_knownOf_30 (by decide) h (fun h => ?_) (fun h => ?_)
    · refine z_iconst (v := 2) hE dX12_knownOf_37 zv_i_2 ?_
      exact z_sub [2, 3, 4, 0] rfl (hJ_6 _ h)
    · refine z_iconst (v := 1) hE dX12_knownOf_33 zv_i_1 ?_
      refine z_goto (tgt := 38) hE dX12_knownOf_34 (by decide) ?_
      exact z_sub [2, 3, 4, 0] rfl (hJ_6 _ h)
  · refine z_iconst (v := 0) hE dX12_knownOf_25 zv_i_0 ?_
    refine z_goto (tgt := 38) hE dX12_knownOf_26 (by decide) ?_
    exact z_sub [2, 3, 4, 0] rfl (hJ_6 _ h)
set_option maxRecDepth 4000 in
theorem c_X12_must (a1 : Int32) (μ : ZMem) (Φ : ZMem → Prop) (h : w_X12_must a1 μ Φ) : zM SM yX12_must cX12_must 2 (none) 1 [.ref 0, .int a1] μ (zzV Φ) := by
  refine zM_go (own := RX12) rfl (by decide) (Nat.le_of_ble_eq_true rfl) (fun E hE => ?_)
  show zZ E (zzV Φ) 0 [(0, .ref 0), (1, .int a1)] [] μ
  unfold w_X12_must at h
  refine z_aload_n hE dX12_must_0 rfl 0 rfl ?_
  refine z_getI hE dX12_must_1 lF_X12_269 sM_0 rfl ?_
  refine z_if_ge (tgt := 40) hE dX12_must_4 (by decide) h (fun h => ?_) (fun h => ?_)
  · exact z_vret (st := []) hE dX12_must_40 rfl ⟨rfl, h⟩
  · refine z_aload_n hE dX12_must_7 rfl 0 rfl ?_
    refine z_aload_n hE dX12_must_8 rfl 0 rfl ?_
    refine z_callV hE dX12_must_9 lV_X12_259 (c_X12_here  μ _ h) sM_0 rfl (Nat.le_of_ble_eq_true rfl) (by decide) rfl (zk_PI (fun r_1 h => ?_))
    refine z_iload_n hE dX12_must_12 rfl 1 rfl ?_
    refine z_join (P := fun (J_4 : Int32 → Prop) => ∀ (x_3 : Int32), J_4 x_3 → zZ E (zzV Φ) 27 [(0, .ref 0)] [.int x_3, .ref 0] μ) h (fun x_3 h => ?_) (fun J_4 hJ_4 h => ?_)
    · refine z_put hE dX12_must_27 lF_X12_269 sM_0 rfl rfl rfl ?_
      refine zn (G := fun μ_5 => zZ E (zzV Φ) 30 [(0, .ref 0)] [] μ_5) h (fun μ_5 h => ?_)
      refine z_aload_n hE dX12_must_30 rfl 0 rfl ?_
      refine z_dup hE dX12_must_31 rfl ?_
      refine z_getI hE dX12_must_32 lF_X12_256 sM_0 rfl ?_
      refine z_iconst (v := 1) hE dX12_must_35 zv_i_1 ?_
      refine z_iadd hE dX12_must_36 ?_
      refine z_put hE dX12_must_37 lF_X12_256 sM_0 rfl rfl rfl ?_
      refine zn (G := fun μ_6 => zZ E (zzV Φ) 40 [(0, .ref 0)] [] μ_6) h (fun μ_6 h => ?_)
      exact z_vret (st := []) hE dX12_must_40 rfl ⟨rfl, h⟩
    refine z_icmp_ne (tgt := 23) hE dX12_must_13 (by decide) h (fun h => ?_) (fun h => ?_)
    · refine z_aload_n hE dX12_must_23 rfl 0 rfl ?_
      refine z_getI hE dX12_must_24 lF_X12_256 sM_0 rfl ?_
      exact z_sub [0] rfl (hJ_4 _ h)
    · refine z_aload_n hE dX12_must_16 rfl 0 rfl ?_
      refine z_getI hE dX12_must_17 lF_X12_269 sM_0 rfl ?_
      refine z_goto (tgt := 27) hE dX12_must_20 (by decide) ?_
      exact z_sub [0] rfl (hJ_4 _ h)
set_option maxRecDepth 4000 in
theorem c_X12_next  (μ : ZMem) (Φ : Int32 → ZMem → Prop) (h : w_X12_next μ Φ) : zM SM yX12_next cX12_next 1 (some FieldType.int) 1 [.ref 0] μ (zzI Φ) := by
  refine zM_go (own := RX12) rfl (by decide) (Nat.le_of_ble_eq_true rfl) (fun E hE => ?_)
  show zZ E (zzI Φ) 0 [(0, .ref 0)] [] μ
  unfold w_X12_next at h
  refine z_aload_n hE dX12_next_0 rfl 0 rfl ?_
  refine z_getR (t := 1) hE dX12_next_1 lF_X12_11 sM_0 rfl ?_
  refine z_bipush (v := 15) hE dX12_next_4 zv_b_15 ?_
  refine z_iald hE dX12_next_6 sM_1 (zin (by decide)) ?_
  refine z_if_ne (tgt := 13) hE dX12_next_7 (by decide) h (fun h => ?_) (fun h => ?_)
  · refine z_aload_n hE dX12_next_13 rfl 0 rfl ?_
    refine z_getR (t := 1) hE dX12_next_14 lF_X12_11 sM_0 rfl ?_
    refine z_bipush (v := 14) hE dX12_next_17 zv_b_14 ?_
    refine z_aload_n hE dX12_next_19 rfl 0 rfl ?_
    refine z_getR (t := 1) hE dX12_next_20 lF_X12_11 sM_0 rfl ?_
    refine z_bipush (v := 16) hE dX12_next_23 zv_b_16 ?_
    refine z_iald hE dX12_next_25 sM_1 (zin (by decide)) ?_
    refine z_iast hE dX12_next_26 sM_1 (zin (by decide)) ?_
    refine zn (G := fun μ_1 => zZ E (zzI Φ) 27 [(0, .ref 0)] [] μ_1) h (fun μ_1 h => ?_)
    refine z_aload_n hE dX12_next_27 rfl 0 rfl ?_
    refine z_iconst (v := 0) hE dX12_next_28 zv_i_0 ?_
    refine z_callV hE dX12_next_29 lV_X12_294 (c_X12_leaves _ μ_1 _ h) sM_0 rfl (Nat.le_of_ble_eq_true rfl) (by decide) rfl (zk_V (fun μ_3 h => ?_))
    refine z_aload_n hE dX12_next_32 rfl 0 rfl ?_
    refine z_getR (t := 1) hE dX12_next_33 lF_X12_11 sM_0 rfl ?_
    refine z_bipush (v := 15) hE dX12_next_36 zv_b_15 ?_
    refine z_iald hE dX12_next_38 sM_1 (zin (by decide)) ?_
    exact z_iret (st := []) hE dX12_next_39 rfl ⟨_, rfl, h⟩
  · refine z_bipush (v := -3) hE dX12_next_10 zv_b_m3 ?_
    exact z_iret (st := []) hE dX12_next_12 rfl ⟨_, rfl, h⟩
set_option maxRecDepth 4000 in
theorem c_X12_shifts (a1 : Int32) (μ : ZMem) (Φ : ZMem → Prop) (h : w_X12_shifts a1 μ Φ) : zM SM yX12_shifts cX12_shifts 3 (none) 1 [.ref 0, .int a1] μ (zzV Φ) := by
  refine zM_go (own := RX12) rfl (by decide) (Nat.le_of_ble_eq_true rfl) (fun E hE => ?_)
  show zZ E (zzV Φ) 0 [(0, .ref 0), (1, .int a1)] [] μ
  unfold w_X12_shifts at h
  refine z_iconst (v := 0) hE dX12_shifts_0 zv_i_0 ?_
  refine z_istore_n (lv' := [(2, .int (0 : Int32)), (0, .ref 0), (1, .int a1)]) hE dX12_shifts_1 rfl (by decide) rfl ?_
  refine z_join (P := fun (J_2 : ZMem → Prop) => ∀ (μ_1 : ZMem), J_2 μ_1 → zZ E (zzV Φ) 21 [(0, .ref 0), (1, .int a1)] [] μ_1) h (fun μ_1 h => ?_) (fun J_2 hJ_2 h => ?_)
  · refine z_aload_n hE dX12_shifts_21 rfl 0 rfl ?_
    refine z_getI hE dX12_shifts_22 lF_X12_77 sM_0 rfl ?_
    refine z_istore_n (lv' := [(2, .int (μ_1.1 0 8)), (0, .ref 0), (1, .int a1)]) hE dX12_shifts_25 rfl (by decide) rfl ?_
    refine zn (G := fun v2_3 => zZ E (zzV Φ) 26 [(2, .int v2_3), (0, .ref 0), (1, .int a1)] [] μ_1) h (fun v2_3 h => ?_)
    refine z_join (P := fun (J_5 : ZMem → Prop) => ∀ (μ_4 : ZMem), J_5 μ_4 → zZ E (zzV Φ) 56 [(0, .ref 0)] [] μ_4) h (fun μ_4 h => ?_) (fun J_5 hJ_5 h => ?_)
    · refine z_iconst (v := 0) hE dX12_shifts_56 zv_i_0 ?_
      refine z_istore_n (lv' := [(2, .int (0 : Int32)), (0, .ref 0)]) hE dX12_shifts_57 rfl (by decide) rfl ?_
      refine z_sub [1, 0] rfl ?_
      obtain ⟨n58, h⟩ := h
      refine z_loop2 (P := fun (v2_6 : Int32) (μ_7 : ZMem) => zZ E (zzV Φ) 58 [(0, .ref 0), (2, .int v2_6)] [] μ_7) (fun k58_7 hk58_7 v2_6 μ_7 h => ?_) n58 _ _ h
      refine z_iload_n hE dX12_shifts_58 rfl 1 rfl ?_
      refine z_bipush (v := 7) hE dX12_shifts_59 zv_b_7 ?_
      refine z_icmp_ge (tgt := 82) hE dX12_shifts_61 (by decide) h (fun h => ?_) (fun h => ?_)
      · exact z_vret (st := []) hE dX12_shifts_82 rfl ⟨rfl, h⟩
      · refine z_aload_n hE dX12_shifts_64 rfl 0 rfl ?_
        refine z_getR (t := 4) hE dX12_shifts_65 lF_X12_22 sM_0 rfl ?_
        refine z_iload_n hE dX12_shifts_68 rfl 1 rfl ?_
        refine z_aload_n hE dX12_shifts_69 rfl 0 rfl ?_
        refine z_getR (t := 5) hE dX12_shifts_70 lF_X12_25 sM_0 rfl ?_
        refine z_iload_n hE dX12_shifts_73 rfl 1 rfl ?_
        obtain ⟨q_8, h⟩ := h
        refine z_lald hE dX12_shifts_74 sM_5 q_8 ?_
        obtain ⟨q_9, h⟩ := h
        refine z_last hE dX12_shifts_75 sM_4 q_9 ?_
        refine zn (G := fun μ_10 => zZ E (zzV Φ) 76 [(0, .ref 0), (2, .int v2_6)] [] μ_10) h (fun μ_10 h => ?_)
        refine z_iinc (j := 1) (c := 1) (lv' := [(2, .int (v2_6 + (1 : Int32))), (0, .ref 0)]) hE dX12_shifts_76 rfl zv_i_1 (by decide) rfl ?_
        refine z_goto (tgt := 58) hE dX12_shifts_79 (by decide) ?_
        exact z_sub [1, 0] rfl (hk58_7 _ _ h)
    refine z_sub [1, 2, 0] rfl ?_
    obtain ⟨n26, h⟩ := h
    refine z_loop2 (P := fun (v2_11 : Int32) (μ_12 : ZMem) => zZ E (zzV Φ) 26 [(0, .ref 0), (1, .int a1), (2, .int v2_11)] [] μ_12) (fun k26_12 hk26_12 v2_11 μ_12 h => ?_) n26 _ _ h
    refine z_iload_n hE dX12_shifts_26 rfl 2 rfl ?_
    refine z_if_lt (tgt := 56) hE dX12_shifts_27 (by decide) h (fun h => ?_) (fun h => ?_)
    · exact z_sub [0] rfl (hJ_5 _ h)
    · refine z_aload_n hE dX12_shifts_30 rfl 0 rfl ?_
      refine z_iload_n hE dX12_shifts_31 rfl 1 rfl ?_
      refine z_callV hE dX12_shifts_32 lV_X12_111 (c_X12_wider _ μ_12 _ h) sM_0 rfl (Nat.le_of_ble_eq_true rfl) (by decide) rfl (zk_V (fun μ_14 h => ?_))
      refine z_aload_n hE dX12_shifts_35 rfl 0 rfl ?_
      refine z_getR (t := 5) hE dX12_shifts_36 lF_X12_25 sM_0 rfl ?_
      refine z_iconst (v := 0) hE dX12_shifts_39 zv_i_0 ?_
      refine z_dup2 hE dX12_shifts_40 rfl rfl ?_
      refine z_lald hE dX12_shifts_41 sM_5 (zin (by decide)) ?_
      refine z_aload_n hE dX12_shifts_42 rfl 0 rfl ?_
      refine z_getR (t := 3) hE dX12_shifts_43 lF_X12_18 sM_0 rfl ?_
      refine z_iload_n hE dX12_shifts_46 rfl 2 rfl ?_
      obtain ⟨q_15, h⟩ := h
      refine z_lald hE dX12_shifts_47 sM_3 q_15 ?_
      refine z_ladd hE dX12_shifts_48 ?_
      refine z_last hE dX12_shifts_49 sM_5 (zin (by decide)) ?_
      refine zn (G := fun μ_16 => zZ E (zzV Φ) 50 [(0, .ref 0), (1, .int a1), (2, .int v2_11)] [] μ_16) h (fun μ_16 h => ?_)
      refine z_iinc (j := 2) (c := -1) (lv' := [(2, .int (v2_11 + (-1 : Int32))), (0, .ref 0), (1, .int a1)]) hE dX12_shifts_50 rfl zv_i_m1 (by decide) rfl ?_
      refine z_goto (tgt := 26) hE dX12_shifts_53 (by decide) ?_
      exact z_sub [1, 2, 0] rfl (hk26_12 _ _ h)
  refine z_sub [1, 2, 0] rfl ?_
  obtain ⟨n2, h⟩ := h
  refine z_loop2 (P := fun (v2_17 : Int32) (μ_18 : ZMem) => zZ E (zzV Φ) 2 [(0, .ref 0), (1, .int a1), (2, .int v2_17)] [] μ_18) (fun k2_18 hk2_18 v2_17 μ_18 h => ?_) n2 _ _ h
  refine z_iload_n hE dX12_shifts_2 rfl 2 rfl ?_
  refine z_bipush (v := 7) hE dX12_shifts_3 zv_b_7 ?_
  refine z_icmp_ge (tgt := 21) hE dX12_shifts_5 (by decide) h (fun h => ?_) (fun h => ?_)
  · exact z_sub [0, 1] rfl (hJ_2 _ h)
  · refine z_aload_n hE dX12_shifts_8 rfl 0 rfl ?_
    refine z_getR (t := 5) hE dX12_shifts_9 lF_X12_25 sM_0 rfl ?_
    refine z_iload_n hE dX12_shifts_12 rfl 2 rfl ?_
    refine z_lconst (v := 0) hE dX12_shifts_13 zv_l_0 ?_
    obtain ⟨q_19, h⟩ := h
    refine z_last hE dX12_shifts_14 sM_5 q_19 ?_
    refine zn (G := fun μ_20 => zZ E (zzV Φ) 15 [(0, .ref 0), (1, .int a1), (2, .int v2_17)] [] μ_20) h (fun μ_20 h => ?_)
    refine z_iinc (j := 2) (c := 1) (lv' := [(2, .int (v2_17 + (1 : Int32))), (0, .ref 0), (1, .int a1)]) hE dX12_shifts_15 rfl zv_i_1 (by decide) rfl ?_
    refine z_goto (tgt := 2) hE dX12_shifts_18 (by decide) ?_
    exact z_sub [1, 2, 0] rfl (hk2_18 _ _ h)
set_option maxRecDepth 4000 in
theorem c_X12_swap (a1 : Int32) (μ : ZMem) (Φ : Int32 → ZMem → Prop) (h : w_X12_swap a1 μ Φ) : zM SM yX12_swap cX12_swap 5 (some FieldType.int) 1 [.ref 0, .int a1] μ (zzI Φ) := by
  refine zM_go (own := RX12) rfl (by decide) (Nat.le_of_ble_eq_true rfl) (fun E hE => ?_)
  show zZ E (zzI Φ) 0 [(0, .ref 0), (1, .int a1)] [] μ
  unfold w_X12_swap at h
  refine z_iload_n hE dX12_swap_0 rfl 1 rfl ?_
  refine z_i2l hE dX12_swap_1 ?_
  refine z_lconst (v := 0) hE dX12_swap_2 zv_l_0 ?_
  refine z_ldc2 (v := 2) hE dX12_swap_3 lK_X12_95 ?_
  refine z_callS hE dX12_swap_6 lS_X12_83 (c_X12_in _ _ _ μ _ h) rfl (Nat.le_of_ble_eq_true rfl) (by decide) rfl (zk_PI (fun r_1 h => ?_))
  refine z_if_ne (tgt := 15) hE dX12_swap_9 (by decide) h (fun h => ?_) (fun h => ?_)
  · refine z_iconst (v := 0) hE dX12_swap_15 zv_i_0 ?_
    refine z_istore_n (lv' := [(2, .int (0 : Int32)), (0, .ref 0), (1, .int a1)]) hE dX12_swap_16 rfl (by decide) rfl ?_
    refine z_sub [1, 2, 0] rfl ?_
    obtain ⟨n17, h⟩ := h
    refine z_loop2 (P := fun (v2_3 : Int32) (μ_4 : ZMem) => zZ E (zzI Φ) 17 [(0, .ref 0), (1, .int a1), (2, .int v2_3)] [] μ_4) (fun k17_4 hk17_4 v2_3 μ_4 h => ?_) n17 _ _ h
    refine z_iload_n hE dX12_swap_17 rfl 2 rfl ?_
    refine z_aload_n hE dX12_swap_18 rfl 0 rfl ?_
    refine z_getR (t := 1) hE dX12_swap_19 lF_X12_11 sM_0 rfl ?_
    refine z_bipush (v := 15) hE dX12_swap_22 zv_b_15 ?_
    refine z_iald hE dX12_swap_24 sM_1 (zin (by decide)) ?_
    refine z_icmp_ge (tgt := 141) hE dX12_swap_25 (by decide) h (fun h => ?_) (fun h => ?_)
    · refine z_aload_n hE dX12_swap_141 rfl 0 rfl ?_
      refine z_getR (t := 1) hE dX12_swap_142 lF_X12_11 sM_0 rfl ?_
      refine z_bipush (v := 15) hE dX12_swap_145 zv_b_15 ?_
      refine z_iald hE dX12_swap_147 sM_1 (zin (by decide)) ?_
      exact z_iret (st := []) hE dX12_swap_148 rfl ⟨_, rfl, h⟩
    · refine z_iload_n hE dX12_swap_28 rfl 2 rfl ?_
      refine z_iconst (v := 1) hE dX12_swap_29 zv_i_1 ?_
      refine z_iadd hE dX12_swap_30 ?_
      refine z_istore_n (lv' := [(3, .int (v2_3 + (1 : Int32))), (0, .ref 0), (1, .int a1), (2, .int v2_3)]) hE dX12_swap_31 rfl (by decide) rfl ?_
      refine zn (G := fun v3_5 => zZ E (zzI Φ) 32 [(3, .int v3_5), (0, .ref 0), (1, .int a1), (2, .int v2_3)] [] μ_4) h (fun v3_5 h => ?_)
      refine z_join (P := fun (J_7 : ZMem → Prop) => ∀ (μ_6 : ZMem), J_7 μ_6 → zZ E (zzI Φ) 135 [(0, .ref 0), (1, .int a1), (2, .int v2_3)] [] μ_6) h (fun μ_6 h => ?_) (fun J_7 hJ_7 h => ?_)
      · refine z_iinc (j := 2) (c := 1) (lv' := [(2, .int (v2_3 + (1 : Int32))), (0, .ref 0), (1, .int a1)]) hE dX12_swap_135 rfl zv_i_1 (by decide) rfl ?_
        refine z_goto (tgt := 17) hE dX12_swap_138 (by decide) ?_
        exact z_sub [1, 2, 0] rfl (hk17_4 _ _ h)
      refine z_sub [1, 2, 3, 0] rfl ?_
      obtain ⟨n32, h⟩ := h
      refine z_loop2 (P := fun (v3_8 : Int32) (μ_9 : ZMem) => zZ E (zzI Φ) 32 [(0, .ref 0), (1, .int a1), (2, .int v2_3), (3, .int v3_8)] [] μ_9) (fun k32_9 hk32_9 v3_8 μ_9 h => ?_) n32 _ _ h
      refine z_iload_n hE dX12_swap_32 rfl 3 rfl ?_
      refine z_aload_n hE dX12_swap_33 rfl 0 rfl ?_
      refine z_getR (t := 1) hE dX12_swap_34 lF_X12_11 sM_0 rfl ?_
      refine z_bipush (v := 15) hE dX12_swap_37 zv_b_15 ?_
      refine z_iald hE dX12_swap_39 sM_1 (zin (by decide)) ?_
      refine z_icmp_ge (tgt := 135) hE dX12_swap_40 (by decide) h (fun h => ?_) (fun h => ?_)
      · exact z_sub [0, 1, 2] rfl (hJ_7 _ h)
      · refine z_iload_n hE dX12_swap_43 rfl 1 rfl ?_
        refine z_join (P := fun (J_11 : Int32 → Prop) => ∀ (x_10 : Int32), J_11 x_10 → zZ E (zzI Φ) 116 [(0, .ref 0), (1, .int a1), (2, .int v2_3), (3, .int v3_8)] [.int x_10] μ_9) h (fun x_10 h => ?_) (fun J_11 hJ_11 h => ?_)
        · refine z_istore (lv' := [(4, .int x_10), (0, .ref 0), (1, .int a1), (2, .int v2_3), (3, .int v3_8)]) hE dX12_swap_116 (by decide) rfl ?_
          refine z_iload hE dX12_swap_118 0 rfl ?_
          refine z_join (P := fun (J_13 : ZMem → Prop) => ∀ (μ_12 : ZMem), J_13 μ_12 → zZ E (zzI Φ) 129 [(0, .ref 0), (1, .int a1), (2, .int v2_3), (3, .int v3_8)] [] μ_12) h (fun μ_12 h => ?_) (fun J_13 hJ_13 h => ?_)
          · refine z_iinc (j := 3) (c := 1) (lv' := [(3, .int (v3_8 + (1 : Int32))), (0, .ref 0), (1, .int a1), (2, .int v2_3)]) hE dX12_swap_129 rfl zv_i_1 (by decide) rfl ?_
            refine z_goto (tgt := 32) hE dX12_swap_132 (by decide) ?_
            exact z_sub [1, 2, 3, 0] rfl (hk32_9 _ _ h)
          refine z_if_eq (tgt := 129) hE dX12_swap_120 (by decide) h (fun h => ?_) (fun h => ?_)
          · exact z_sub [1, 2, 3, 4] rfl (hJ_13 _ h)
          · refine z_aload_n hE dX12_swap_123 rfl 1 rfl ?_
            refine z_iload_n hE dX12_swap_124 rfl 3 rfl ?_
            refine z_iload_n hE dX12_swap_125 rfl 4 rfl ?_
            refine z_callV hE dX12_swap_126 lV_X12_300 (c_X12_exchanges _ _ μ_9 _ h) sM_0 rfl (Nat.le_of_ble_eq_true rfl) (by decide) rfl (zk_V (fun μ_15 h => ?_))
            exact z_sub [1, 2, 3, 4] rfl (hJ_13 _ h)
        refine z_if_ne (tgt := 70) hE dX12_swap_44 (by decide) h (fun h => ?_) (fun h => ?_)
        · refine z_iload_n hE dX12_swap_70 rfl 1 rfl ?_
          refine z_iconst (v := 1) hE dX12_swap_71 zv_i_1 ?_
          refine z_icmp_ne (tgt := 104) hE dX12_swap_72 (by decide) h (fun h => ?_) (fun h => ?_)
          · refine z_iload_n hE dX12_swap_104 rfl 3 rfl ?_
            refine z_iload_n hE dX12_swap_105 rfl 2 rfl ?_
            refine z_iconst (v := 1) hE dX12_swap_106 zv_i_1 ?_
            refine z_iadd hE dX12_swap_107 ?_
            refine z_icmp_ne (tgt := 115) hE dX12_swap_108 (by decide) h (fun h => ?_) (fun h => ?_)
            · refine z_iconst (v := 0) hE dX12_swap_115 zv_i_0 ?_
              exact hJ_11 _ h
            · refine z_iconst (v := 1) hE dX12_swap_111 zv_i_1 ?_
              refine z_goto (tgt := 116) hE dX12_swap_112 (by decide) ?_
              exact hJ_11 _ h
          · refine z_aload_n hE dX12_swap_75 rfl 0 rfl ?_
            refine z_getR (t := 1) hE dX12_swap_76 lF_X12_11 sM_0 rfl ?_
            refine z_bipush (v := 16) hE dX12_swap_79 zv_b_16 ?_
            refine z_iload_n hE dX12_swap_81 rfl 3 rfl ?_
            refine z_iadd hE dX12_swap_82 ?_
            obtain ⟨q_16, h⟩ := h
            refine z_iald hE dX12_swap_83 sM_1 q_16 ?_
            refine z_aload_n hE dX12_swap_84 rfl 0 rfl ?_
            refine z_getR (t := 1) hE dX12_swap_85 lF_X12_11 sM_0 rfl ?_
            refine z_bipush (v := 16) hE dX12_swap_88 zv_b_16 ?_
            refine z_iload_n hE dX12_swap_90 rfl 2 rfl ?_
            refine z_iadd hE dX12_swap_91 ?_
            obtain ⟨q_17, h⟩ := h
            refine z_iald hE dX12_swap_92 sM_1 q_17 ?_
            refine z_icmp_ge (tgt := 100) hE dX12_swap_93 (by decide) h (fun h => ?_) (fun h => ?_)
            · refine z_iconst (v := 0) hE dX12_swap_100 zv_i_0 ?_
              refine z_goto (tgt := 116) hE dX12_swap_101 (by decide) ?_
              exact hJ_11 _ h
            · refine z_iconst (v := 1) hE dX12_swap_96 zv_i_1 ?_
              refine z_goto (tgt := 116) hE dX12_swap_97 (by decide) ?_
              exact hJ_11 _ h
        · refine z_iload_n hE dX12_swap_47 rfl 2 rfl ?_
          refine z_iload_n hE dX12_swap_48 rfl 3 rfl ?_
          refine z_iadd hE dX12_swap_49 ?_
          refine z_aload_n hE dX12_swap_50 rfl 0 rfl ?_
          refine z_getR (t := 1) hE dX12_swap_51 lF_X12_11 sM_0 rfl ?_
          refine z_bipush (v := 15) hE dX12_swap_54 zv_b_15 ?_
          refine z_iald hE dX12_swap_56 sM_1 (zin (by decide)) ?_
          refine z_iconst (v := 1) hE dX12_swap_57 zv_i_1 ?_
          refine z_isub hE dX12_swap_58 ?_
          refine z_icmp_ne (tgt := 66) hE dX12_swap_59 (by decide) h (fun h => ?_) (fun h => ?_)
          · refine z_iconst (v := 0) hE dX12_swap_66 zv_i_0 ?_
            refine z_goto (tgt := 116) hE dX12_swap_67 (by decide) ?_
            exact hJ_11 _ h
          · refine z_iconst (v := 1) hE dX12_swap_62 zv_i_1 ?_
            refine z_goto (tgt := 116) hE dX12_swap_63 (by decide) ?_
            exact hJ_11 _ h
  · refine z_bipush (v := -2) hE dX12_swap_12 zv_b_m2 ?_
    exact z_iret (st := []) hE dX12_swap_14 rfl ⟨_, rfl, h⟩
set_option maxRecDepth 4000 in
theorem c_X12_takes (a1 : Int32) (a2 : Int32) (μ : ZMem) (Φ : ZMem → Prop) (h : w_X12_takes a1 a2 μ Φ) : zM SM yX12_takes cX12_takes 4 (none) 1 [.ref 0, .int a1, .int a2] μ (zzV Φ) := by
  refine zM_go (own := RX12) rfl (by decide) (Nat.le_of_ble_eq_true rfl) (fun E hE => ?_)
  show zZ E (zzV Φ) 0 [(0, .ref 0), (1, .int a1), (2, .int a2)] [] μ
  unfold w_X12_takes at h
  refine z_iconst (v := 0) hE dX12_takes_0 zv_i_0 ?_
  refine z_istore_n (lv' := [(3, .int (0 : Int32)), (0, .ref 0), (1, .int a1), (2, .int a2)]) hE dX12_takes_1 rfl (by decide) rfl ?_
  refine z_join (P := fun (J_2 : ZMem → Prop) => ∀ (μ_1 : ZMem), J_2 μ_1 → zZ E (zzV Φ) 46 [(0, .ref 0)] [] μ_1) h (fun μ_1 h => ?_) (fun J_2 hJ_2 h => ?_)
  · refine z_aload_n hE dX12_takes_46 rfl 0 rfl ?_
    refine z_aload_n hE dX12_takes_47 rfl 0 rfl ?_
    refine z_getR (t := 3) hE dX12_takes_48 lF_X12_18 sM_0 rfl ?_
    refine z_callS hE dX12_takes_51 lS_X12_73 (c_X12_degreeOf _ _ sM_3 μ_1 _ h) rfl (Nat.le_of_ble_eq_true rfl) (by decide) rfl (zk_PI (fun r_3 h => ?_))
    refine z_put hE dX12_takes_54 lF_X12_77 sM_0 rfl rfl rfl ?_
    refine zn (G := fun μ_5 => zZ E (zzV Φ) 57 [(0, .ref 0)] [] μ_5) h (fun μ_5 h => ?_)
    exact z_vret (st := []) hE dX12_takes_57 rfl ⟨rfl, h⟩
  refine z_sub [1, 2, 3, 0] rfl ?_
  obtain ⟨n2, h⟩ := h
  refine z_loop2 (P := fun (v3_6 : Int32) (μ_7 : ZMem) => zZ E (zzV Φ) 2 [(0, .ref 0), (1, .int a1), (2, .int a2), (3, .int v3_6)] [] μ_7) (fun k2_7 hk2_7 v3_6 μ_7 h => ?_) n2 _ _ h
  refine z_iload_n hE dX12_takes_2 rfl 3 rfl ?_
  refine z_bipush (v := 7) hE dX12_takes_3 zv_b_7 ?_
  refine z_icmp_ge (tgt := 46) hE dX12_takes_5 (by decide) h (fun h => ?_) (fun h => ?_)
  · exact z_sub [0] rfl (hJ_2 _ h)
  · refine z_aload_n hE dX12_takes_8 rfl 0 rfl ?_
    refine z_getR (t := 3) hE dX12_takes_9 lF_X12_18 sM_0 rfl ?_
    refine z_iload_n hE dX12_takes_12 rfl 3 rfl ?_
    refine z_iload_n hE dX12_takes_13 rfl 1 rfl ?_
    refine z_i2l hE dX12_takes_14 ?_
    refine z_aload_n hE dX12_takes_15 rfl 0 rfl ?_
    refine z_getR (t := 1) hE dX12_takes_16 lF_X12_11 sM_0 rfl ?_
    refine z_iconst (v := 0) hE dX12_takes_19 zv_i_0 ?_
    refine z_iload_n hE dX12_takes_20 rfl 3 rfl ?_
    refine z_iadd hE dX12_takes_21 ?_
    obtain ⟨q_8, h⟩ := h
    refine z_iald hE dX12_takes_22 sM_1 q_8 ?_
    refine z_i2l hE dX12_takes_23 ?_
    refine z_lmul hE dX12_takes_24 ?_
    refine z_iload_n hE dX12_takes_25 rfl 2 rfl ?_
    refine z_i2l hE dX12_takes_26 ?_
    refine z_aload_n hE dX12_takes_27 rfl 0 rfl ?_
    refine z_getR (t := 1) hE dX12_takes_28 lF_X12_11 sM_0 rfl ?_
    refine z_bipush (v := 7) hE dX12_takes_31 zv_b_7 ?_
    refine z_iload_n hE dX12_takes_33 rfl 3 rfl ?_
    refine z_iadd hE dX12_takes_34 ?_
    obtain ⟨q_9, h⟩ := h
    refine z_iald hE dX12_takes_35 sM_1 q_9 ?_
    refine z_i2l hE dX12_takes_36 ?_
    refine z_lmul hE dX12_takes_37 ?_
    refine z_ladd hE dX12_takes_38 ?_
    obtain ⟨q_10, h⟩ := h
    refine z_last hE dX12_takes_39 sM_3 q_10 ?_
    refine zn (G := fun μ_11 => zZ E (zzV Φ) 40 [(0, .ref 0), (1, .int a1), (2, .int a2), (3, .int v3_6)] [] μ_11) h (fun μ_11 h => ?_)
    refine z_iinc (j := 3) (c := 1) (lv' := [(3, .int (v3_6 + (1 : Int32))), (0, .ref 0), (1, .int a1), (2, .int a2)]) hE dX12_takes_40 rfl zv_i_1 (by decide) rfl ?_
    refine z_goto (tgt := 2) hE dX12_takes_43 (by decide) ?_
    exact z_sub [1, 2, 3, 0] rfl (hk2_7 _ _ h)
set_option maxRecDepth 4000 in
theorem c_X12_undo  (μ : ZMem) (Φ : Int32 → ZMem → Prop) (h : w_X12_undo μ Φ) : zM SM yX12_undo cX12_undo 1 (some FieldType.int) 1 [.ref 0] μ (zzI Φ) := by
  refine zM_go (own := RX12) rfl (by decide) (Nat.le_of_ble_eq_true rfl) (fun E hE => ?_)
  show zZ E (zzI Φ) 0 [(0, .ref 0)] [] μ
  unfold w_X12_undo at h
  refine z_aload_n hE dX12_undo_0 rfl 0 rfl ?_
  refine z_getI hE dX12_undo_1 lF_X12_352 sM_0 rfl ?_
  refine z_if_ne (tgt := 10) hE dX12_undo_4 (by decide) h (fun h => ?_) (fun h => ?_)
  · refine z_aload_n hE dX12_undo_10 rfl 0 rfl ?_
    refine z_getR (t := 2) hE dX12_undo_11 lF_X12_15 sM_0 rfl ?_
    refine z_aload_n hE dX12_undo_14 rfl 0 rfl ?_
    refine z_getR (t := 1) hE dX12_undo_15 lF_X12_11 sM_0 rfl ?_
    refine z_callS hE dX12_undo_18 lS_X12_348 (c_X12_copies _ _ _ _ sM_2 sM_1 μ _ h) rfl (Nat.le_of_ble_eq_true rfl) (by decide) rfl (zk_V (fun μ_2 h => ?_))
    refine z_aload_n hE dX12_undo_21 rfl 0 rfl ?_
    refine z_getR (t := 1) hE dX12_undo_22 lF_X12_11 sM_0 rfl ?_
    refine z_bipush (v := 15) hE dX12_undo_25 zv_b_15 ?_
    refine z_iald hE dX12_undo_27 sM_1 (zin (by decide)) ?_
    exact z_iret (st := []) hE dX12_undo_28 rfl ⟨_, rfl, h⟩
  · refine z_bipush (v := -3) hE dX12_undo_7 zv_b_m3 ?_
    exact z_iret (st := []) hE dX12_undo_9 rfl ⟨_, rfl, h⟩
set_option maxRecDepth 4000 in
theorem c_X12_valueAt (a1 : Int32) (a2 : Int32) (μ : ZMem) (Φ : Int64 → ZMem → Prop) (h : w_X12_valueAt a1 a2 μ Φ) : zM SM yX12_valueAt cX12_valueAt 7 (some FieldType.long) 1 [.ref 0, .int a1, .int a2] μ (zzJ Φ) := by
  refine zM_go (own := RX12) rfl (by decide) (Nat.le_of_ble_eq_true rfl) (fun E hE => ?_)
  show zZ E (zzJ Φ) 0 [(0, .ref 0), (1, .int a1), (2, .int a2)] [] μ
  unfold w_X12_valueAt at h
  refine z_aload_n hE dX12_valueAt_0 rfl 0 rfl ?_
  refine z_iload_n hE dX12_valueAt_1 rfl 1 rfl ?_
  refine z_callV hE dX12_valueAt_2 lV_X12_232 (c_X12_degreeOfLink _ μ _ h) sM_0 rfl (Nat.le_of_ble_eq_true rfl) (by decide) rfl (zk_PI (fun r_1 h => ?_))
  refine z_istore_n (lv' := [(3, .int r_1), (0, .ref 0), (1, .int a1), (2, .int a2)]) hE dX12_valueAt_5 rfl (by decide) rfl ?_
  refine z_aload_n hE dX12_valueAt_6 rfl 1 rfl ?_
  refine z_getR (t := 11) hE dX12_valueAt_7 lF_X12_43 sM_0 rfl ?_
  refine z_bipush (v := 7) hE dX12_valueAt_10 zv_b_7 ?_
  refine z_iload_n hE dX12_valueAt_12 rfl 2 rfl ?_
  refine z_imul hE dX12_valueAt_13 ?_
  refine z_iload_n hE dX12_valueAt_14 rfl 0 rfl ?_
  refine z_iadd hE dX12_valueAt_15 ?_
  obtain ⟨q_3, h⟩ := h
  refine z_lald hE dX12_valueAt_16 sM_11 q_3 ?_
  refine z_lstore (lv' := [(4, .long (μ.2 11 (Int32.toNatClampNeg (((7 : Int32) * a1) + r_1)))), (3, .int r_1), (0, .ref 0), (1, .int a1), (2, .int a2)]) hE dX12_valueAt_17 (by decide) rfl ?_
  refine zn (G := fun v4_4 => zZ E (zzJ Φ) 19 [(4, .long v4_4), (3, .int r_1), (0, .ref 0), (1, .int a1), (2, .int a2)] [] μ) h (fun v4_4 h => ?_)
  refine z_iload_n hE dX12_valueAt_19 rfl 1 rfl ?_
  refine z_iconst (v := 1) hE dX12_valueAt_20 zv_i_1 ?_
  refine z_isub hE dX12_valueAt_21 ?_
  refine z_istore (lv' := [(6, .int (r_1 - (1 : Int32))), (4, .long v4_4), (3, .int r_1), (0, .ref 0), (1, .int a1), (2, .int a2)]) hE dX12_valueAt_22 (by decide) rfl ?_
  refine zn (G := fun v6_5 => zZ E (zzJ Φ) 24 [(6, .int v6_5), (4, .long v4_4), (3, .int r_1), (0, .ref 0), (1, .int a1), (2, .int a2)] [] μ) h (fun v6_5 h => ?_)
  refine z_sub [3, 4, 5, 1, 0] rfl ?_
  obtain ⟨n24, h⟩ := h
  refine z_loop3 (P := fun (v4_6 : Int64) (v6_7 : Int32) (μ_8 : ZMem) => zZ E (zzJ Φ) 24 [(0, .ref 0), (1, .int a1), (2, .int a2), (4, .long v4_6), (6, .int v6_7)] [] μ_8) (fun k24_8 hk24_8 v4_6 v6_7 μ_8 h => ?_) n24 _ _ _ h
  refine z_iload hE dX12_valueAt_24 4 rfl ?_
  refine z_if_lt (tgt := 61) hE dX12_valueAt_26 (by decide) h (fun h => ?_) (fun h => ?_)
  · refine z_lload hE dX12_valueAt_61 3 rfl ?_
    exact z_lret (st := []) hE dX12_valueAt_63 rfl ⟨_, rfl, h⟩
  · refine z_aload_n hE dX12_valueAt_29 rfl 0 rfl ?_
    refine z_aload_n hE dX12_valueAt_30 rfl 0 rfl ?_
    refine z_lload hE dX12_valueAt_31 3 rfl ?_
    refine z_iload_n hE dX12_valueAt_33 rfl 2 rfl ?_
    refine z_i2l hE dX12_valueAt_34 ?_
    refine z_callV hE dX12_valueAt_35 lV_X12_151 (c_X12_times _ _ μ_8 _ h) sM_0 rfl (Nat.le_of_ble_eq_true rfl) (by decide) rfl (zk_J (fun r_9 μ_10 h => ?_))
    refine z_aload_n hE dX12_valueAt_38 rfl 0 rfl ?_
    refine z_getR (t := 11) hE dX12_valueAt_39 lF_X12_43 sM_0 rfl ?_
    refine z_bipush (v := 7) hE dX12_valueAt_42 zv_b_7 ?_
    refine z_iload_n hE dX12_valueAt_44 rfl 1 rfl ?_
    refine z_imul hE dX12_valueAt_45 ?_
    refine z_iload hE dX12_valueAt_46 4 rfl ?_
    refine z_iadd hE dX12_valueAt_48 ?_
    obtain ⟨q_11, h⟩ := h
    refine z_lald hE dX12_valueAt_49 sM_11 q_11 ?_
    refine z_callV hE dX12_valueAt_50 lV_X12_155 (c_X12_plus _ _ μ_10 _ h) sM_0 rfl (Nat.le_of_ble_eq_true rfl) (by decide) rfl (zk_J (fun r_12 μ_13 h => ?_))
    refine z_lstore (lv' := [(4, .long r_12), (0, .ref 0), (1, .int a1), (2, .int a2), (6, .int v6_7)]) hE dX12_valueAt_53 (by decide) rfl ?_
    refine z_iinc (j := 4) (c := -1) (lv' := [(6, .int (v6_7 + (-1 : Int32))), (4, .long r_12), (0, .ref 0), (1, .int a1), (2, .int a2)]) hE dX12_valueAt_55 rfl zv_i_m1 (by decide) rfl ?_
    refine z_goto (tgt := 24) hE dX12_valueAt_58 (by decide) ?_
    exact z_sub [2, 3, 4, 1, 0] rfl (hk24_8 _ _ _ h)
set_option maxRecDepth 4000 in
theorem c_X12_waiting (a1 : Int32) (μ : ZMem) (Φ : Int32 → Prop) (h : w_X12_waiting a1 μ Φ) : zM SM yX12_waiting cX12_waiting 2 (some FieldType.int) 1 [.ref 0, .int a1] μ (zzPI Φ μ) := by
  refine zM_go (own := RX12) rfl (by decide) (Nat.le_of_ble_eq_true rfl) (fun E hE => ?_)
  show zZ E (zzPI Φ μ) 0 [(0, .ref 0), (1, .int a1)] [] μ
  unfold w_X12_waiting at h
  refine z_iload_n hE dX12_waiting_0 rfl 1 rfl ?_
  refine z_i2l hE dX12_waiting_1 ?_
  refine z_lconst (v := 0) hE dX12_waiting_2 zv_l_0 ?_
  refine z_aload_n hE dX12_waiting_3 rfl 0 rfl ?_
  refine z_getR (t := 1) hE dX12_waiting_4 lF_X12_11 sM_0 rfl ?_
  refine z_bipush (v := 15) hE dX12_waiting_7 zv_b_15 ?_
  refine z_iald hE dX12_waiting_9 sM_1 (zin (by decide)) ?_
  refine z_iconst (v := 1) hE dX12_waiting_10 zv_i_1 ?_
  refine z_isub hE dX12_waiting_11 ?_
  refine z_i2l hE dX12_waiting_12 ?_
  refine z_callS hE dX12_waiting_13 lS_X12_83 (c_X12_in _ _ _ μ _ h) rfl (Nat.le_of_ble_eq_true rfl) (by decide) rfl (zk_PI (fun r_1 h => ?_))
  refine z_if_eq (tgt := 35) hE dX12_waiting_16 (by decide) h (fun h => ?_) (fun h => ?_)
  · refine z_iconst (v := -1) hE dX12_waiting_35 zv_i_m1 ?_
    exact z_iret (st := []) hE dX12_waiting_36 rfl ⟨_, rfl, rfl, h⟩
  · refine z_aload_n hE dX12_waiting_19 rfl 0 rfl ?_
    refine z_getR (t := 1) hE dX12_waiting_20 lF_X12_11 sM_0 rfl ?_
    refine z_bipush (v := 16) hE dX12_waiting_23 zv_b_16 ?_
    refine z_iload_n hE dX12_waiting_25 rfl 1 rfl ?_
    refine z_iadd hE dX12_waiting_26 ?_
    obtain ⟨q_3, h⟩ := h
    refine z_iald hE dX12_waiting_27 sM_1 q_3 ?_
    refine z_sipush (v := 1000) hE dX12_waiting_28 zv_s_1000 ?_
    refine z_iadd hE dX12_waiting_31 ?_
    refine z_goto (tgt := 36) hE dX12_waiting_32 (by decide) ?_
    exact z_iret (st := []) hE dX12_waiting_36 rfl ⟨_, rfl, rfl, h⟩
set_option maxRecDepth 4000 in
theorem c_X12_works (a1 : Int32) (μ : ZMem) (Φ : ZMem → Prop) (h : w_X12_works a1 μ Φ) : zM SM yX12_works cX12_works 9 (none) 1 [.ref 0, .int a1] μ (zzV Φ) := by
  refine zM_go (own := RX12) rfl (by decide) (Nat.le_of_ble_eq_true rfl) (fun E hE => ?_)
  show zZ E (zzV Φ) 0 [(0, .ref 0), (1, .int a1)] [] μ
  unfold w_X12_works at h
  refine z_aload_n hE dX12_works_0 rfl 0 rfl ?_
  refine z_iload_n hE dX12_works_1 rfl 1 rfl ?_
  refine z_iconst (v := 2) hE dX12_works_2 zv_i_2 ?_
  refine z_isub hE dX12_works_3 ?_
  refine z_iconst (v := 0) hE dX12_works_4 zv_i_0 ?_
  refine z_callV hE dX12_works_5 lV_X12_140 (c_X12_item _ _ μ _ h) sM_0 rfl (Nat.le_of_ble_eq_true rfl) (by decide) rfl (zk_PJ (fun r_1 h => ?_))
  refine z_lstore_n (lv' := [(2, .long r_1), (0, .ref 0), (1, .int a1)]) hE dX12_works_8 rfl (by decide) rfl ?_
  refine z_aload_n hE dX12_works_9 rfl 1 rfl ?_
  refine z_iload_n hE dX12_works_10 rfl 2 rfl ?_
  refine z_iconst (v := 1) hE dX12_works_11 zv_i_1 ?_
  refine z_isub hE dX12_works_12 ?_
  refine z_iconst (v := 0) hE dX12_works_13 zv_i_0 ?_
  refine z_callV hE dX12_works_14 lV_X12_140 (c_X12_item _ _ μ _ h) sM_0 rfl (Nat.le_of_ble_eq_true rfl) (by decide) rfl (zk_PJ (fun r_3 h => ?_))
  refine z_lstore (lv' := [(4, .long r_3), (2, .long r_1), (0, .ref 0), (1, .int a1)]) hE dX12_works_17 (by decide) rfl ?_
  refine z_iconst (v := 0) hE dX12_works_19 zv_i_0 ?_
  refine z_istore (lv' := [(6, .int (0 : Int32)), (4, .long r_3), (2, .long r_1), (0, .ref 0), (1, .int a1)]) hE dX12_works_20 (by decide) rfl ?_
  refine z_sub [3, 4, 2, 1, 0] rfl ?_
  obtain ⟨n22, h⟩ := h
  refine z_loop2 (P := fun (v6_5 : Int32) (μ_6 : ZMem) => zZ E (zzV Φ) 22 [(0, .ref 0), (1, .int a1), (2, .long r_1), (4, .long r_3), (6, .int v6_5)] [] μ_6) (fun k22_6 hk22_6 v6_5 μ_6 h => ?_) n22 _ _ h
  refine z_iload hE dX12_works_22 4 rfl ?_
  refine z_aload_n hE dX12_works_24 rfl 0 rfl ?_
  refine z_iload_n hE dX12_works_25 rfl 1 rfl ?_
  refine z_callV hE dX12_works_26 lV_X12_136 (c_X12_itemMany _ μ_6 _ h) sM_0 rfl (Nat.le_of_ble_eq_true rfl) (by decide) rfl (zk_PI (fun r_7 h => ?_))
  refine z_icmp_ge (tgt := 107) hE dX12_works_29 (by decide) h (fun h => ?_) (fun h => ?_)
  · exact z_vret (st := []) hE dX12_works_107 rfl ⟨rfl, h⟩
  · refine z_aload_n hE dX12_works_32 rfl 0 rfl ?_
    refine z_aload_n hE dX12_works_33 rfl 0 rfl ?_
    refine z_lload hE dX12_works_34 3 rfl ?_
    refine z_aload_n hE dX12_works_36 rfl 0 rfl ?_
    refine z_iload_n hE dX12_works_37 rfl 1 rfl ?_
    refine z_iconst (v := 2) hE dX12_works_38 zv_i_2 ?_
    refine z_isub hE dX12_works_39 ?_
    refine z_iload hE dX12_works_40 4 rfl ?_
    refine z_iconst (v := 1) hE dX12_works_42 zv_i_1 ?_
    refine z_iadd hE dX12_works_43 ?_
    refine z_callV hE dX12_works_44 lV_X12_140 (c_X12_item _ _ μ_6 _ h) sM_0 rfl (Nat.le_of_ble_eq_true rfl) (by decide) rfl (zk_PJ (fun r_9 h => ?_))
    refine z_callV hE dX12_works_47 lV_X12_151 (c_X12_times _ _ μ_6 _ h) sM_0 rfl (Nat.le_of_ble_eq_true rfl) (by decide) rfl (zk_J (fun r_11 μ_12 h => ?_))
    refine z_aload_n hE dX12_works_50 rfl 0 rfl ?_
    refine z_lload_n hE dX12_works_51 rfl 2 rfl ?_
    refine z_aload_n hE dX12_works_52 rfl 0 rfl ?_
    refine z_iload_n hE dX12_works_53 rfl 1 rfl ?_
    refine z_iconst (v := 1) hE dX12_works_54 zv_i_1 ?_
    refine z_isub hE dX12_works_55 ?_
    refine z_iload hE dX12_works_56 4 rfl ?_
    refine z_iconst (v := 1) hE dX12_works_58 zv_i_1 ?_
    refine z_iadd hE dX12_works_59 ?_
    refine z_callV hE dX12_works_60 lV_X12_140 (c_X12_item _ _ μ_12 _ h) sM_0 rfl (Nat.le_of_ble_eq_true rfl) (by decide) rfl (zk_PJ (fun r_13 h => ?_))
    refine z_callV hE dX12_works_63 lV_X12_151 (c_X12_times _ _ μ_12 _ h) sM_0 rfl (Nat.le_of_ble_eq_true rfl) (by decide) rfl (zk_J (fun r_15 μ_16 h => ?_))
    refine z_callV hE dX12_works_66 lV_X12_161 (c_X12_less _ _ μ_16 _ h) sM_0 rfl (Nat.le_of_ble_eq_true rfl) (by decide) rfl (zk_J (fun r_17 μ_18 h => ?_))
    refine z_lstore (lv' := [(7, .long r_17), (0, .ref 0), (1, .int a1), (2, .long r_1), (4, .long r_3), (6, .int v6_5)]) hE dX12_works_69 (by decide) rfl ?_
    refine z_aload_n hE dX12_works_71 rfl 1 rfl ?_
    refine z_getR (t := 6) hE dX12_works_72 lF_X12_28 sM_0 rfl ?_
    refine z_bipush (v := 6) hE dX12_works_75 zv_b_6 ?_
    refine z_iload_n hE dX12_works_77 rfl 2 rfl ?_
    refine z_imul hE dX12_works_78 ?_
    refine z_iload hE dX12_works_79 5 rfl ?_
    refine z_iadd hE dX12_works_81 ?_
    refine z_lload hE dX12_works_82 4 rfl ?_
    refine z_lconst (v := 0) hE dX12_works_84 zv_l_0 ?_
    refine z_join (P := fun (J_21 : Int64 → ZMem → Prop) => ∀ (x_19 : Int64) (μ_20 : ZMem), J_21 x_19 μ_20 → zZ E (zzV Φ) 100 [(0, .ref 0), (1, .int a1), (2, .long r_1), (4, .long r_3), (6, .int v6_5)] [.long x_19, .int (((6 : Int32) * a1) + v6_5), .ref 6] μ_20) h (fun x_19 μ_20 h => ?_) (fun J_21 hJ_21 h => ?_)
    · obtain ⟨q_22, h⟩ := h
      refine z_last hE dX12_works_100 sM_6 q_22 ?_
      refine zn (G := fun μ_23 => zZ E (zzV Φ) 101 [(0, .ref 0), (1, .int a1), (2, .long r_1), (4, .long r_3), (6, .int v6_5)] [] μ_23) h (fun μ_23 h => ?_)
      refine z_iinc (j := 4) (c := 1) (lv' := [(6, .int (v6_5 + (1 : Int32))), (0, .ref 0), (1, .int a1), (2, .long r_1), (4, .long r_3)]) hE dX12_works_101 rfl zv_i_1 (by decide) rfl ?_
      refine z_goto (tgt := 22) hE dX12_works_104 (by decide) ?_
      exact z_sub [1, 2, 3, 4, 0] rfl (hk22_6 _ _ h)
    refine z_ljmp_ge (tgt := 98) hE dX12_works_85 dX12_works_86 (by decide) h (fun h => ?_) (fun h => ?_)
    · refine z_lload hE dX12_works_98 0 rfl ?_
      exact z_sub [1, 2, 3, 4, 5] rfl (hJ_21 _ _ h)
    · refine z_aload_n hE dX12_works_89 rfl 1 rfl ?_
      refine z_lload hE dX12_works_90 0 rfl ?_
      refine z_callV hE dX12_works_92 lV_X12_147 (c_X12_turned _ μ_18 _ h) sM_0 rfl (Nat.le_of_ble_eq_true rfl) (by decide) rfl (zk_J (fun r_24 μ_25 h => ?_))
      refine z_goto (tgt := 100) hE dX12_works_95 (by decide) ?_
      exact z_sub [1, 2, 3, 4, 5] rfl (hJ_21 _ _ h)
set_option maxRecDepth 4000 in
theorem c_X2_axisCount (t : Nat) (h0 : zT_Factor t) (μ : ZMem) (Φ : Int32 → Prop) (h : w_X2_axisCount t μ Φ) : zM SX yX2_axisCount cX2_axisCount 1 (some FieldType.int) 1 [.ref t] μ (zzPI Φ μ) := by
  refine zM_go (own := RX2) rfl (by decide) (Nat.le_of_ble_eq_true rfl) (fun E hE => ?_)
  show zZ E (zzPI Φ μ) 0 [(0, .ref t)] [] μ
  unfold w_X2_axisCount at h
  refine z_aload_n hE dX2_axisCount_0 rfl 0 rfl ?_
  refine z_callV hE dX2_axisCount_1 lV_X2_21 (c_X2_size _ h0 μ _ h) h0 rfl (Nat.le_of_ble_eq_true rfl) (by decide) rfl (zk_PI (fun r_1 h => ?_))
  refine z_iconst (v := 1) hE dX2_axisCount_4 zv_i_1 ?_
  refine z_icmp_ne (tgt := 21) hE dX2_axisCount_5 (by decide) h (fun h => ?_) (fun h => ?_)
  · refine z_aload_n hE dX2_axisCount_21 rfl 0 rfl ?_
    refine z_getI hE dX2_axisCount_22 lF_X2_18 h0 rfl ?_
    refine z_if_ge (tgt := 30) hE dX2_axisCount_25 (by decide) h (fun h => ?_) (fun h => ?_)
    · refine z_aload_n hE dX2_axisCount_30 rfl 0 rfl ?_
      refine z_getI hE dX2_axisCount_31 lF_X2_18 h0 rfl ?_
      refine z_if_ne (tgt := 50) hE dX2_axisCount_34 (by decide) h (fun h => ?_) (fun h => ?_)
      · refine z_aload_n hE dX2_axisCount_50 rfl 0 rfl ?_
        refine z_getI hE dX2_axisCount_51 lF_X2_15 h0 rfl ?_
        refine z_if_ne (tgt := 61) hE dX2_axisCount_54 (by decide) h (fun h => ?_) (fun h => ?_)
        · refine z_iconst (v := 0) hE dX2_axisCount_61 zv_i_0 ?_
          exact z_iret (st := []) hE dX2_axisCount_62 rfl ⟨_, rfl, rfl, h⟩
        · refine z_iconst (v := 2) hE dX2_axisCount_57 zv_i_2 ?_
          refine z_goto (tgt := 62) hE dX2_axisCount_58 (by decide) ?_
          exact z_iret (st := []) hE dX2_axisCount_62 rfl ⟨_, rfl, rfl, h⟩
      · refine z_aload_n hE dX2_axisCount_37 rfl 0 rfl ?_
        refine z_getI hE dX2_axisCount_38 lF_X2_15 h0 rfl ?_
        refine z_if_ne (tgt := 48) hE dX2_axisCount_41 (by decide) h (fun h => ?_) (fun h => ?_)
        · refine z_iconst (v := 1) hE dX2_axisCount_48 zv_i_1 ?_
          exact z_iret (st := []) hE dX2_axisCount_49 rfl ⟨_, rfl, rfl, h⟩
        · refine z_iconst (v := 2) hE dX2_axisCount_44 zv_i_2 ?_
          refine z_goto (tgt := 49) hE dX2_axisCount_45 (by decide) ?_
          exact z_iret (st := []) hE dX2_axisCount_49 rfl ⟨_, rfl, rfl, h⟩
    · refine z_iconst (v := 0) hE dX2_axisCount_28 zv_i_0 ?_
      exact z_iret (st := []) hE dX2_axisCount_29 rfl ⟨_, rfl, rfl, h⟩
  · refine z_aload_n hE dX2_axisCount_8 rfl 0 rfl ?_
    refine z_getI hE dX2_axisCount_9 lF_X2_15 h0 rfl ?_
    refine z_if_ne (tgt := 19) hE dX2_axisCount_12 (by decide) h (fun h => ?_) (fun h => ?_)
    · refine z_iconst (v := 0) hE dX2_axisCount_19 zv_i_0 ?_
      exact z_iret (st := []) hE dX2_axisCount_20 rfl ⟨_, rfl, rfl, h⟩
    · refine z_iconst (v := 1) hE dX2_axisCount_15 zv_i_1 ?_
      refine z_goto (tgt := 20) hE dX2_axisCount_16 (by decide) ?_
      exact z_iret (st := []) hE dX2_axisCount_20 rfl ⟨_, rfl, rfl, h⟩
set_option maxRecDepth 4000 in
theorem c_X2_dividesOnce (t : Nat) (k1 n1 : Nat) (h0 : zT_Factor t) (h1 : SX[k1]? = some (2, n1, [])) (μ : ZMem) (Φ : Int32 → ZMem → Prop) (h : w_X2_dividesOnce t k1 n1 μ Φ) : zM SX yX2_dividesOnce cX2_dividesOnce 4 (some FieldType.boolean) 1 [.ref t, .ref k1] μ (zzI Φ) := by
  refine zM_go (own := RX2) rfl (by decide) (Nat.le_of_ble_eq_true rfl) (fun E hE => ?_)
  show zZ E (zzI Φ) 0 [(0, .ref t), (1, .ref k1)] [] μ
  unfold w_X2_dividesOnce at h
  refine z_aload_n hE dX2_dividesOnce_0 rfl 0 rfl ?_
  refine z_callV hE dX2_dividesOnce_1 lV_X2_21 (c_X2_size _ h0 μ _ h) h0 rfl (Nat.le_of_ble_eq_true rfl) (by decide) rfl (zk_PI (fun r_1 h => ?_))
  refine z_istore_n (lv' := [(2, .int r_1), (0, .ref t), (1, .ref k1)]) hE dX2_dividesOnce_4 rfl (by decide) rfl ?_
  refine z_aload_n hE dX2_dividesOnce_5 rfl 2 rfl ?_
  refine z_callS hE dX2_dividesOnce_6 lS_X2_37 (c_X4_highest _ _ h1 μ _ h) rfl (Nat.le_of_ble_eq_true rfl) (by decide) rfl (zk_PI (fun r_3 h => ?_))
  refine z_istore_n (lv' := [(3, .int r_3), (2, .int r_1), (0, .ref t), (1, .ref k1)]) hE dX2_dividesOnce_9 rfl (by decide) rfl ?_
  refine z_join (P := fun (J_6 : ZMem → Prop) => ∀ (μ_5 : ZMem), J_6 μ_5 → zZ E (zzI Φ) 60 [(1, .ref k1), (2, .int r_1)] [] μ_5) h (fun μ_5 h => ?_) (fun J_6 hJ_6 h => ?_)
  · refine z_aload_n hE dX2_dividesOnce_60 rfl 0 rfl ?_
    refine z_iconst (v := 0) hE dX2_dividesOnce_61 zv_i_0 ?_
    obtain ⟨q_7, h⟩ := h
    refine z_lald hE dX2_dividesOnce_62 h1 q_7 ?_
    refine z_lconst (v := 0) hE dX2_dividesOnce_63 zv_l_0 ?_
    refine z_ljmp_ne (tgt := 81) hE dX2_dividesOnce_64 dX2_dividesOnce_65 (by decide) h (fun h => ?_) (fun h => ?_)
    · refine z_iconst (v := 0) hE dX2_dividesOnce_81 zv_i_0 ?_
      exact z_zret (st := []) hE dX2_dividesOnce_82 rfl (by decide) ⟨_, rfl, h⟩
    · refine z_iload_n hE dX2_dividesOnce_68 rfl 1 rfl ?_
      refine z_iconst (v := 2) hE dX2_dividesOnce_69 zv_i_2 ?_
      refine z_join (P := fun (J_8 : Prop) => J_8 → zZ E (zzI Φ) 83 [(1, .ref k1), (2, .int r_1)] [] μ_5) h (fun  h => ?_) (fun J_8 hJ_8 h => ?_)
      · refine z_iconst (v := 0) hE dX2_dividesOnce_83 zv_i_0 ?_
        refine z_istore_n (lv' := [(3, .int (0 : Int32)), (1, .ref k1), (2, .int r_1)]) hE dX2_dividesOnce_84 rfl (by decide) rfl ?_
        refine z_sub [1, 2, 0] rfl ?_
        obtain ⟨n85, h⟩ := h
        refine z_loop2 (P := fun (v3_9 : Int32) (μ_10 : ZMem) => zZ E (zzI Φ) 85 [(1, .ref k1), (2, .int r_1), (3, .int v3_9)] [] μ_10) (fun k85_10 hk85_10 v3_9 μ_10 h => ?_) n85 _ _ h
        refine z_iload_n hE dX2_dividesOnce_85 rfl 2 rfl ?_
        refine z_bipush (v := 7) hE dX2_dividesOnce_86 zv_b_7 ?_
        refine z_icmp_ge (tgt := 117) hE dX2_dividesOnce_88 (by decide) h (fun h => ?_) (fun h => ?_)
        · refine z_iconst (v := 1) hE dX2_dividesOnce_117 zv_i_1 ?_
          exact z_zret (st := []) hE dX2_dividesOnce_118 rfl (by decide) ⟨_, rfl, h⟩
        · refine z_aload_n hE dX2_dividesOnce_91 rfl 0 rfl ?_
          refine z_iload_n hE dX2_dividesOnce_92 rfl 2 rfl ?_
          refine z_iload_n hE dX2_dividesOnce_93 rfl 2 rfl ?_
          refine z_iload_n hE dX2_dividesOnce_94 rfl 1 rfl ?_
          refine z_iadd hE dX2_dividesOnce_95 ?_
          refine z_bipush (v := 7) hE dX2_dividesOnce_96 zv_b_7 ?_
          refine z_join (P := fun (J_12 : Int64 → Prop) => ∀ (x_11 : Int64), J_12 x_11 → zZ E (zzI Φ) 110 [(1, .ref k1), (2, .int r_1), (3, .int v3_9)] [.long x_11, .int v3_9, .ref k1] μ_10) h (fun x_11 h => ?_) (fun J_12 hJ_12 h => ?_)
          · obtain ⟨q_13, h⟩ := h
            refine z_last hE dX2_dividesOnce_110 h1 q_13 ?_
            refine zn (G := fun μ_14 => zZ E (zzI Φ) 111 [(1, .ref k1), (2, .int r_1), (3, .int v3_9)] [] μ_14) h (fun μ_14 h => ?_)
            refine z_iinc (j := 2) (c := 1) (lv' := [(3, .int (v3_9 + (1 : Int32))), (1, .ref k1), (2, .int r_1)]) hE dX2_dividesOnce_111 rfl zv_i_1 (by decide) rfl ?_
            refine z_goto (tgt := 85) hE dX2_dividesOnce_114 (by decide) ?_
            exact z_sub [1, 2, 0] rfl (hk85_10 _ _ h)
          refine z_icmp_ge (tgt := 109) hE dX2_dividesOnce_98 (by decide) h (fun h => ?_) (fun h => ?_)
          · refine z_lconst (v := 0) hE dX2_dividesOnce_109 zv_l_0 ?_
            exact hJ_12 _ h
          · refine z_aload_n hE dX2_dividesOnce_101 rfl 0 rfl ?_
            refine z_iload_n hE dX2_dividesOnce_102 rfl 2 rfl ?_
            refine z_iload_n hE dX2_dividesOnce_103 rfl 1 rfl ?_
            refine z_iadd hE dX2_dividesOnce_104 ?_
            obtain ⟨q_15, h⟩ := h
            refine z_lald hE dX2_dividesOnce_105 h1 q_15 ?_
            refine z_goto (tgt := 110) hE dX2_dividesOnce_106 (by decide) ?_
            exact hJ_12 _ h
      refine z_icmp_ne (tgt := 83) hE dX2_dividesOnce_70 (by decide) h (fun h => ?_) (fun h => ?_)
      · exact hJ_8 h
      · refine z_aload_n hE dX2_dividesOnce_73 rfl 0 rfl ?_
        refine z_iconst (v := 1) hE dX2_dividesOnce_74 zv_i_1 ?_
        obtain ⟨q_16, h⟩ := h
        refine z_lald hE dX2_dividesOnce_75 h1 q_16 ?_
        refine z_lconst (v := 0) hE dX2_dividesOnce_76 zv_l_0 ?_
        refine z_ljmp_eq (tgt := 83) hE dX2_dividesOnce_77 dX2_dividesOnce_78 (by decide) h (fun h => ?_) (fun h => ?_)
        · exact hJ_8 h
        · refine z_iconst (v := 0) hE dX2_dividesOnce_81 zv_i_0 ?_
          exact z_zret (st := []) hE dX2_dividesOnce_82 rfl (by decide) ⟨_, rfl, h⟩
  refine z_sub [2, 3, 1, 0] rfl ?_
  obtain ⟨n10, h⟩ := h
  refine z_loop2 (P := fun (v3_17 : Int32) (μ_18 : ZMem) => zZ E (zzI Φ) 10 [(0, .ref t), (1, .ref k1), (2, .int r_1), (3, .int v3_17)] [] μ_18) (fun k10_18 hk10_18 v3_17 μ_18 h => ?_) n10 _ _ h
  refine z_iload_n hE dX2_dividesOnce_10 rfl 3 rfl ?_
  refine z_iload_n hE dX2_dividesOnce_11 rfl 2 rfl ?_
  refine z_icmp_lt (tgt := 60) hE dX2_dividesOnce_12 (by decide) h (fun h => ?_) (fun h => ?_)
  · exact z_sub [1, 2] rfl (hJ_6 _ h)
  · refine z_aload_n hE dX2_dividesOnce_15 rfl 1 rfl ?_
    refine z_iload_n hE dX2_dividesOnce_16 rfl 3 rfl ?_
    refine z_iconst (v := 1) hE dX2_dividesOnce_17 zv_i_1 ?_
    refine z_isub hE dX2_dividesOnce_18 ?_
    refine z_dup2 hE dX2_dividesOnce_19 rfl rfl ?_
    obtain ⟨q_19, h⟩ := h
    refine z_lald hE dX2_dividesOnce_20 h1 q_19 ?_
    refine z_aload_n hE dX2_dividesOnce_21 rfl 0 rfl ?_
    refine z_getI hE dX2_dividesOnce_22 lF_X2_15 h0 rfl ?_
    refine z_i2l hE dX2_dividesOnce_25 ?_
    refine z_aload_n hE dX2_dividesOnce_26 rfl 1 rfl ?_
    refine z_iload_n hE dX2_dividesOnce_27 rfl 3 rfl ?_
    obtain ⟨q_20, h⟩ := h
    refine z_lald hE dX2_dividesOnce_28 h1 q_20 ?_
    refine z_lmul hE dX2_dividesOnce_29 ?_
    refine z_lsub hE dX2_dividesOnce_30 ?_
    obtain ⟨q_21, h⟩ := h
    refine z_last hE dX2_dividesOnce_31 h1 q_21 ?_
    refine zn (G := fun μ_22 => zZ E (zzI Φ) 32 [(0, .ref t), (1, .ref k1), (2, .int r_1), (3, .int v3_17)] [] μ_22) h (fun μ_22 h => ?_)
    refine z_iload_n hE dX2_dividesOnce_32 rfl 2 rfl ?_
    refine z_iconst (v := 2) hE dX2_dividesOnce_33 zv_i_2 ?_
    refine z_join (P := fun (J_24 : ZMem → Prop) => ∀ (μ_23 : ZMem), J_24 μ_23 → zZ E (zzI Φ) 54 [(0, .ref t), (1, .ref k1), (2, .int r_1), (3, .int v3_17)] [] μ_23) h (fun μ_23 h => ?_) (fun J_24 hJ_24 h => ?_)
    · refine z_iinc (j := 3) (c := -1) (lv' := [(3, .int (v3_17 + (-1 : Int32))), (0, .ref t), (1, .ref k1), (2, .int r_1)]) hE dX2_dividesOnce_54 rfl zv_i_m1 (by decide) rfl ?_
      refine z_goto (tgt := 10) hE dX2_dividesOnce_57 (by decide) ?_
      exact z_sub [1, 2, 3, 0] rfl (hk10_18 _ _ h)
    refine z_icmp_ne (tgt := 54) hE dX2_dividesOnce_34 (by decide) h (fun h => ?_) (fun h => ?_)
    · exact hJ_24 _ h
    · refine z_aload_n hE dX2_dividesOnce_37 rfl 1 rfl ?_
      refine z_iload_n hE dX2_dividesOnce_38 rfl 3 rfl ?_
      refine z_iconst (v := 2) hE dX2_dividesOnce_39 zv_i_2 ?_
      refine z_isub hE dX2_dividesOnce_40 ?_
      refine z_dup2 hE dX2_dividesOnce_41 rfl rfl ?_
      obtain ⟨q_25, h⟩ := h
      refine z_lald hE dX2_dividesOnce_42 h1 q_25 ?_
      refine z_aload_n hE dX2_dividesOnce_43 rfl 0 rfl ?_
      refine z_getI hE dX2_dividesOnce_44 lF_X2_18 h0 rfl ?_
      refine z_i2l hE dX2_dividesOnce_47 ?_
      refine z_aload_n hE dX2_dividesOnce_48 rfl 1 rfl ?_
      refine z_iload_n hE dX2_dividesOnce_49 rfl 3 rfl ?_
      obtain ⟨q_26, h⟩ := h
      refine z_lald hE dX2_dividesOnce_50 h1 q_26 ?_
      refine z_lmul hE dX2_dividesOnce_51 ?_
      refine z_lsub hE dX2_dividesOnce_52 ?_
      obtain ⟨q_27, h⟩ := h
      refine z_last hE dX2_dividesOnce_53 h1 q_27 ?_
      refine zn (G := fun μ_28 => zZ E (zzI Φ) 54 [(0, .ref t), (1, .ref k1), (2, .int r_1), (3, .int v3_17)] [] μ_28) h (fun μ_28 h => ?_)
      exact hJ_24 _ h
set_option maxRecDepth 4000 in
theorem c_X2_rightCount (t : Nat) (h0 : zT_Factor t) (μ : ZMem) (Φ : Int32 → Prop) (h : w_X2_rightCount t μ Φ) : zM SX yX2_rightCount cX2_rightCount 1 (some FieldType.int) 1 [.ref t] μ (zzPI Φ μ) := by
  refine zM_go (own := RX2) rfl (by decide) (Nat.le_of_ble_eq_true rfl) (fun E hE => ?_)
  show zZ E (zzPI Φ μ) 0 [(0, .ref t)] [] μ
  unfold w_X2_rightCount at h
  refine z_aload_n hE dX2_rightCount_0 rfl 0 rfl ?_
  refine z_callV hE dX2_rightCount_1 lV_X2_21 (c_X2_size _ h0 μ _ h) h0 rfl (Nat.le_of_ble_eq_true rfl) (by decide) rfl (zk_PI (fun r_1 h => ?_))
  refine z_iconst (v := 2) hE dX2_rightCount_4 zv_i_2 ?_
  refine z_join (P := fun (J_3 : Prop) => J_3 → zZ E (zzPI Φ μ) 17 [(0, .ref t)] [] μ) h (fun  h => ?_) (fun J_3 hJ_3 h => ?_)
  · refine z_aload_n hE dX2_rightCount_17 rfl 0 rfl ?_
    refine z_getI hE dX2_rightCount_18 lF_X2_15 h0 rfl ?_
    refine z_if_lt (tgt := 26) hE dX2_rightCount_21 (by decide) h (fun h => ?_) (fun h => ?_)
    · refine z_aload_n hE dX2_rightCount_26 rfl 0 rfl ?_
      refine z_callV hE dX2_rightCount_27 lV_X2_21 (c_X2_size _ h0 μ _ h) h0 rfl (Nat.le_of_ble_eq_true rfl) (by decide) rfl (zk_PI (fun r_4 h => ?_))
      refine z_iconst (v := 2) hE dX2_rightCount_30 zv_i_2 ?_
      refine z_icmp_ne (tgt := 45) hE dX2_rightCount_31 (by decide) h (fun h => ?_) (fun h => ?_)
      · refine z_iconst (v := 1) hE dX2_rightCount_45 zv_i_1 ?_
        exact z_iret (st := []) hE dX2_rightCount_46 rfl ⟨_, rfl, rfl, h⟩
      · refine z_aload_n hE dX2_rightCount_34 rfl 0 rfl ?_
        refine z_getI hE dX2_rightCount_35 lF_X2_18 h0 rfl ?_
        refine z_if_le (tgt := 45) hE dX2_rightCount_38 (by decide) h (fun h => ?_) (fun h => ?_)
        · refine z_iconst (v := 1) hE dX2_rightCount_45 zv_i_1 ?_
          exact z_iret (st := []) hE dX2_rightCount_46 rfl ⟨_, rfl, rfl, h⟩
        · refine z_iconst (v := 2) hE dX2_rightCount_41 zv_i_2 ?_
          refine z_goto (tgt := 46) hE dX2_rightCount_42 (by decide) ?_
          exact z_iret (st := []) hE dX2_rightCount_46 rfl ⟨_, rfl, rfl, h⟩
    · refine z_iconst (v := 0) hE dX2_rightCount_24 zv_i_0 ?_
      exact z_iret (st := []) hE dX2_rightCount_25 rfl ⟨_, rfl, rfl, h⟩
  refine z_icmp_ne (tgt := 17) hE dX2_rightCount_5 (by decide) h (fun h => ?_) (fun h => ?_)
  · exact hJ_3 h
  · refine z_aload_n hE dX2_rightCount_8 rfl 0 rfl ?_
    refine z_getI hE dX2_rightCount_9 lF_X2_18 h0 rfl ?_
    refine z_if_ge (tgt := 17) hE dX2_rightCount_12 (by decide) h (fun h => ?_) (fun h => ?_)
    · exact hJ_3 h
    · refine z_iconst (v := 1) hE dX2_rightCount_15 zv_i_1 ?_
      exact z_iret (st := []) hE dX2_rightCount_16 rfl ⟨_, rfl, rfl, h⟩
set_option maxRecDepth 4000 in
theorem c_X2_stretch (t : Nat) (k1 n1 : Nat) (h0 : zT_Factor t) (h1 : SX[k1]? = some (2, n1, [])) (μ : ZMem) (Φ : ZMem → Prop) (h : w_X2_stretch t k1 n1 μ Φ) : zM SX yX2_stretch cX2_stretch 7 (none) 1 [.ref t, .ref k1] μ (zzV Φ) := by
  refine zM_go (own := RX2) rfl (by decide) (Nat.le_of_ble_eq_true rfl) (fun E hE => ?_)
  show zZ E (zzV Φ) 0 [(0, .ref t), (1, .ref k1)] [] μ
  unfold w_X2_stretch at h
  refine z_aload_n hE dX2_stretch_0 rfl 0 rfl ?_
  refine z_callV hE dX2_stretch_1 lV_X2_21 (c_X2_size _ h0 μ _ h) h0 rfl (Nat.le_of_ble_eq_true rfl) (by decide) rfl (zk_PI (fun r_1 h => ?_))
  refine z_iconst (v := 1) hE dX2_stretch_4 zv_i_1 ?_
  refine z_icmp_ne (tgt := 17) hE dX2_stretch_5 (by decide) h (fun h => ?_) (fun h => ?_)
  · refine z_bipush (v := 6) hE dX2_stretch_17 zv_b_6 ?_
    refine z_istore_n (lv' := [(2, .int (6 : Int32)), (0, .ref t), (1, .ref k1)]) hE dX2_stretch_19 rfl (by decide) rfl ?_
    refine z_sub [1, 2, 0] rfl ?_
    obtain ⟨n20, h⟩ := h
    refine z_loop2 (P := fun (v2_3 : Int32) (μ_4 : ZMem) => zZ E (zzV Φ) 20 [(0, .ref t), (1, .ref k1), (2, .int v2_3)] [] μ_4) (fun k20_4 hk20_4 v2_3 μ_4 h => ?_) n20 _ _ h
    refine z_iload_n hE dX2_stretch_20 rfl 2 rfl ?_
    refine z_if_lt (tgt := 84) hE dX2_stretch_21 (by decide) h (fun h => ?_) (fun h => ?_)
    · exact z_vret (st := []) hE dX2_stretch_84 rfl ⟨rfl, h⟩
    · refine z_iload_n hE dX2_stretch_24 rfl 2 rfl ?_
      refine z_iconst (v := 2) hE dX2_stretch_25 zv_i_2 ?_
      refine z_join (P := fun (J_6 : Int64 → Prop) => ∀ (x_5 : Int64), J_6 x_5 → zZ E (zzV Φ) 38 [(0, .ref t), (1, .ref k1), (2, .int v2_3)] [.long x_5] μ_4) h (fun x_5 h => ?_) (fun J_6 hJ_6 h => ?_)
      · refine z_lstore_n (lv' := [(3, .long x_5), (0, .ref t), (1, .ref k1), (2, .int v2_3)]) hE dX2_stretch_38 rfl (by decide) rfl ?_
        refine z_iload_n hE dX2_stretch_39 rfl 3 rfl ?_
        refine z_iconst (v := 1) hE dX2_stretch_40 zv_i_1 ?_
        refine z_join (P := fun (J_8 : Int64 → Prop) => ∀ (x_7 : Int64), J_8 x_7 → zZ E (zzV Φ) 53 [(0, .ref t), (1, .ref k1), (2, .int v2_3), (3, .long x_5)] [.long x_7] μ_4) h (fun x_7 h => ?_) (fun J_8 hJ_8 h => ?_)
        · refine z_lstore (lv' := [(5, .long x_7), (0, .ref t), (1, .ref k1), (2, .int v2_3), (3, .long x_5)]) hE dX2_stretch_53 (by decide) rfl ?_
          refine z_aload_n hE dX2_stretch_55 rfl 2 rfl ?_
          refine z_iload_n hE dX2_stretch_56 rfl 3 rfl ?_
          refine z_lload_n hE dX2_stretch_57 rfl 4 rfl ?_
          refine z_aload_n hE dX2_stretch_58 rfl 1 rfl ?_
          refine z_getI hE dX2_stretch_59 lF_X2_15 h0 rfl ?_
          refine z_i2l hE dX2_stretch_62 ?_
          refine z_lload hE dX2_stretch_63 0 rfl ?_
          refine z_lmul hE dX2_stretch_65 ?_
          refine z_ladd hE dX2_stretch_66 ?_
          refine z_aload_n hE dX2_stretch_67 rfl 1 rfl ?_
          refine z_getI hE dX2_stretch_68 lF_X2_18 h0 rfl ?_
          refine z_i2l hE dX2_stretch_71 ?_
          refine z_aload_n hE dX2_stretch_72 rfl 2 rfl ?_
          refine z_iload_n hE dX2_stretch_73 rfl 3 rfl ?_
          obtain ⟨q_9, h⟩ := h
          refine z_lald hE dX2_stretch_74 h1 q_9 ?_
          refine z_lmul hE dX2_stretch_75 ?_
          refine z_ladd hE dX2_stretch_76 ?_
          obtain ⟨q_10, h⟩ := h
          refine z_last hE dX2_stretch_77 h1 q_10 ?_
          refine zn (G := fun μ_11 => zZ E (zzV Φ) 78 [(5, .long x_7), (0, .ref t), (1, .ref k1), (2, .int v2_3), (3, .long x_5)] [] μ_11) h (fun μ_11 h => ?_)
          refine z_iinc (j := 3) (c := -1) (lv' := [(2, .int (v2_3 + (-1 : Int32))), (5, .long x_7), (0, .ref t), (1, .ref k1), (3, .long x_5)]) hE dX2_stretch_78 rfl zv_i_m1 (by decide) rfl ?_
          refine z_goto (tgt := 20) hE dX2_stretch_81 (by decide) ?_
          exact z_sub [2, 3, 0] rfl (hk20_4 _ _ h)
        refine z_icmp_ge (tgt := 48) hE dX2_stretch_41 (by decide) h (fun h => ?_) (fun h => ?_)
        · refine z_aload_n hE dX2_stretch_48 rfl 2 rfl ?_
          refine z_iload_n hE dX2_stretch_49 rfl 3 rfl ?_
          refine z_iconst (v := 1) hE dX2_stretch_50 zv_i_1 ?_
          refine z_isub hE dX2_stretch_51 ?_
          obtain ⟨q_12, h⟩ := h
          refine z_lald hE dX2_stretch_52 h1 q_12 ?_
          exact z_sub [1, 2, 3, 0] rfl (hJ_8 _ h)
        · refine z_lconst (v := 0) hE dX2_stretch_44 zv_l_0 ?_
          refine z_goto (tgt := 53) hE dX2_stretch_45 (by decide) ?_
          exact z_sub [1, 2, 3, 0] rfl (hJ_8 _ h)
      refine z_icmp_ge (tgt := 33) hE dX2_stretch_26 (by decide) h (fun h => ?_) (fun h => ?_)
      · refine z_aload_n hE dX2_stretch_33 rfl 1 rfl ?_
        refine z_iload_n hE dX2_stretch_34 rfl 2 rfl ?_
        refine z_iconst (v := 2) hE dX2_stretch_35 zv_i_2 ?_
        refine z_isub hE dX2_stretch_36 ?_
        obtain ⟨q_13, h⟩ := h
        refine z_lald hE dX2_stretch_37 h1 q_13 ?_
        exact hJ_6 _ h
      · refine z_lconst (v := 0) hE dX2_stretch_29 zv_l_0 ?_
        refine z_goto (tgt := 38) hE dX2_stretch_30 (by decide) ?_
        exact hJ_6 _ h
  · refine z_aload_n hE dX2_stretch_8 rfl 1 rfl ?_
    refine z_aload_n hE dX2_stretch_9 rfl 0 rfl ?_
    refine z_getI hE dX2_stretch_10 lF_X2_15 h0 rfl ?_
    refine z_callS hE dX2_stretch_13 lS_X2_31 (c_X4_stretch _ _ _ h1 μ _ h) rfl (Nat.le_of_ble_eq_true rfl) (by decide) rfl (zk_V (fun μ_15 h => ?_))
    exact z_vret (st := []) hE dX2_stretch_16 rfl ⟨rfl, h⟩
set_option maxRecDepth 4000 in
theorem c_X3_dropFactor (a1 : Int32) (μ : ZMem) (Φ : ZMem → Prop) (h : w_X3_dropFactor a1 μ Φ) : zM SX yX3_dropFactor cX3_dropFactor 4 (none) 1 [.ref 1, .int a1] μ (zzV Φ) := by
  refine zM_go (own := RX3) rfl (by decide) (Nat.le_of_ble_eq_true rfl) (fun E hE => ?_)
  show zZ E (zzV Φ) 0 [(0, .ref 1), (1, .int a1)] [] μ
  unfold w_X3_dropFactor at h
  refine z_aload_n hE dX3_dropFactor_0 rfl 0 rfl ?_
  refine z_dup hE dX3_dropFactor_1 rfl ?_
  refine z_getI hE dX3_dropFactor_2 lF_X3_55 sX_1 rfl ?_
  refine z_iconst (v := 1) hE dX3_dropFactor_5 zv_i_1 ?_
  refine z_isub hE dX3_dropFactor_6 ?_
  refine z_put hE dX3_dropFactor_7 lF_X3_55 sX_1 rfl rfl rfl ?_
  refine zn (G := fun μ_1 => zZ E (zzV Φ) 10 [(0, .ref 1), (1, .int a1)] [] μ_1) h (fun μ_1 h => ?_)
  refine z_iload_n hE dX3_dropFactor_10 rfl 1 rfl ?_
  refine z_istore_n (lv' := [(2, .int a1), (0, .ref 1), (1, .int a1)]) hE dX3_dropFactor_11 rfl (by decide) rfl ?_
  refine z_sub [1, 0] rfl ?_
  obtain ⟨n12, h⟩ := h
  refine z_loop2 (P := fun (v2_2 : Int32) (μ_3 : ZMem) => zZ E (zzV Φ) 12 [(0, .ref 1), (2, .int v2_2)] [] μ_3) (fun k12_3 hk12_3 v2_2 μ_3 h => ?_) n12 _ _ h
  refine z_iload_n hE dX3_dropFactor_12 rfl 1 rfl ?_
  refine z_aload_n hE dX3_dropFactor_13 rfl 0 rfl ?_
  refine z_getI hE dX3_dropFactor_14 lF_X3_55 sX_1 rfl ?_
  refine z_icmp_ge (tgt := 56) hE dX3_dropFactor_17 (by decide) h (fun h => ?_) (fun h => ?_)
  · exact z_vret (st := []) hE dX3_dropFactor_56 rfl ⟨rfl, h⟩
  · refine z_aload_n hE dX3_dropFactor_20 rfl 0 rfl ?_
    refine z_getR (t := 5) hE dX3_dropFactor_21 lF_X3_24 sX_1 rfl ?_
    refine z_iload_n hE dX3_dropFactor_24 rfl 1 rfl ?_
    refine z_iconst (v := 1) hE dX3_dropFactor_25 zv_i_1 ?_
    refine z_iadd hE dX3_dropFactor_26 ?_
    obtain ⟨q_4, h⟩ := h
    refine z_aald1 hE dX3_dropFactor_27 sX_5 (fun _ => rfl) rfl q_4 ?_
    refine z_astore_n (lv' := [(3, .ref (6 + (Int32.toNatClampNeg (v2_2 + (1 : Int32))))), (0, .ref 1), (2, .int v2_2)]) hE dX3_dropFactor_28 rfl (by decide) rfl ?_
    refine z_aload_n hE dX3_dropFactor_29 rfl 1 rfl ?_
    refine z_getR (t := 5) hE dX3_dropFactor_30 lF_X3_24 sX_1 rfl ?_
    refine z_iload_n hE dX3_dropFactor_33 rfl 2 rfl ?_
    obtain ⟨q_5, h⟩ := h
    refine z_aald1 hE dX3_dropFactor_34 sX_5 (fun _ => rfl) rfl q_5 ?_
    refine z_aload_n hE dX3_dropFactor_35 rfl 0 rfl ?_
    refine z_getI hE dX3_dropFactor_36 lF_X3_42 (sXr_6 _ (zz_in_lt q_4)) rfl ?_
    refine z_aload_n hE dX3_dropFactor_39 rfl 0 rfl ?_
    refine z_getI hE dX3_dropFactor_40 lF_X3_45 (sXr_6 _ (zz_in_lt q_4)) rfl ?_
    refine z_aload_n hE dX3_dropFactor_43 rfl 0 rfl ?_
    refine z_getI hE dX3_dropFactor_44 lF_X3_48 (sXr_6 _ (zz_in_lt q_4)) rfl ?_
    refine z_callV hE dX3_dropFactor_47 lV_X3_51 (c_X2_become _ _ _ _ (sXr_6 _ (zz_in_lt q_5)) μ_3 _ h) (sXr_6 _ (zz_in_lt q_5)) rfl (Nat.le_of_ble_eq_true rfl) (by decide) rfl (zk_V (fun μ_7 h => ?_))
    refine z_iinc (j := 2) (c := 1) (lv' := [(2, .int (v2_2 + (1 : Int32))), (3, .ref (6 + (Int32.toNatClampNeg (v2_2 + (1 : Int32))))), (0, .ref 1)]) hE dX3_dropFactor_50 rfl zv_i_1 (by decide) rfl ?_
    refine z_goto (tgt := 12) hE dX3_dropFactor_53 (by decide) ?_
    exact z_sub [2, 0] rfl (hk12_3 _ _ h)
set_option maxRecDepth 4000 in
theorem c_X3_factorsSize  (μ : ZMem) (Φ : Int32 → Prop) (h : w_X3_factorsSize μ Φ) : zM SX yX3_factorsSize cX3_factorsSize 3 (some FieldType.int) 1 [.ref 1] μ (zzPI Φ μ) := by
  refine zM_go (own := RX3) rfl (by decide) (Nat.le_of_ble_eq_true rfl) (fun E hE => ?_)
  show zZ E (zzPI Φ μ) 0 [(0, .ref 1)] [] μ
  unfold w_X3_factorsSize at h
  refine z_iconst (v := 0) hE dX3_factorsSize_0 zv_i_0 ?_
  refine z_istore_n (lv' := [(1, .int (0 : Int32)), (0, .ref 1)]) hE dX3_factorsSize_1 rfl (by decide) rfl ?_
  refine z_iconst (v := 0) hE dX3_factorsSize_2 zv_i_0 ?_
  refine z_istore_n (lv' := [(2, .int (0 : Int32)), (1, .int (0 : Int32)), (0, .ref 1)]) hE dX3_factorsSize_3 rfl (by decide) rfl ?_
  refine z_sub [2, 1, 0] rfl ?_
  obtain ⟨n4, h⟩ := h
  refine z_loop2 (P := fun (v1_1 : Int32) (v2_2 : Int32) => zZ E (zzPI Φ μ) 4 [(0, .ref 1), (1, .int v1_1), (2, .int v2_2)] [] μ) (fun k4_2 hk4_2 v1_1 v2_2 h => ?_) n4 _ _ h
  refine z_iload_n hE dX3_factorsSize_4 rfl 2 rfl ?_
  refine z_aload_n hE dX3_factorsSize_5 rfl 0 rfl ?_
  refine z_getI hE dX3_factorsSize_6 lF_X3_55 sX_1 rfl ?_
  refine z_icmp_ge (tgt := 30) hE dX3_factorsSize_9 (by decide) h (fun h => ?_) (fun h => ?_)
  · refine z_iload_n hE dX3_factorsSize_30 rfl 1 rfl ?_
    exact z_iret (st := []) hE dX3_factorsSize_31 rfl ⟨_, rfl, rfl, h⟩
  · refine z_iload_n hE dX3_factorsSize_12 rfl 1 rfl ?_
    refine z_aload_n hE dX3_factorsSize_13 rfl 0 rfl ?_
    refine z_getR (t := 5) hE dX3_factorsSize_14 lF_X3_24 sX_1 rfl ?_
    refine z_iload_n hE dX3_factorsSize_17 rfl 2 rfl ?_
    obtain ⟨q_3, h⟩ := h
    refine z_aald1 hE dX3_factorsSize_18 sX_5 (fun _ => rfl) rfl q_3 ?_
    refine z_callV hE dX3_factorsSize_19 lV_X3_78 (c_X2_size _ (sXr_6 _ (zz_in_lt q_3)) μ _ h) (sXr_6 _ (zz_in_lt q_3)) rfl (Nat.le_of_ble_eq_true rfl) (by decide) rfl (zk_PI (fun r_4 h => ?_))
    refine z_iadd hE dX3_factorsSize_22 ?_
    refine z_istore_n (lv' := [(1, .int (v1_1 + r_4)), (0, .ref 1), (2, .int v2_2)]) hE dX3_factorsSize_23 rfl (by decide) rfl ?_
    refine zn (G := fun v1_6 => zZ E (zzPI Φ μ) 24 [(1, .int v1_6), (0, .ref 1), (2, .int v2_2)] [] μ) h (fun v1_6 h => ?_)
    refine z_iinc (j := 2) (c := 1) (lv' := [(2, .int (v2_2 + (1 : Int32))), (1, .int v1_6), (0, .ref 1)]) hE dX3_factorsSize_24 rfl zv_i_1 (by decide) rfl ?_
    refine z_goto (tgt := 4) hE dX3_factorsSize_27 (by decide) ?_
    exact z_sub [2, 1, 0] rfl (hk4_2 _ _ h)
set_option maxRecDepth 4000 in
theorem c_X3_firstBecomesLast  (μ : ZMem) (Φ : ZMem → Prop) (h : w_X3_firstBecomesLast μ Φ) : zM SX yX3_firstBecomesLast cX3_firstBecomesLast 2 (none) 1 [.ref 1] μ (zzV Φ) := by
  refine zM_go (own := RX3) rfl (by decide) (Nat.le_of_ble_eq_true rfl) (fun E hE => ?_)
  show zZ E (zzV Φ) 0 [(0, .ref 1)] [] μ
  unfold w_X3_firstBecomesLast at h
  refine z_iconst (v := 1) hE dX3_firstBecomesLast_0 zv_i_1 ?_
  refine z_istore_n (lv' := [(1, .int (1 : Int32)), (0, .ref 1)]) hE dX3_firstBecomesLast_1 rfl (by decide) rfl ?_
  refine z_sub [1, 0] rfl ?_
  obtain ⟨n2, h⟩ := h
  refine z_loop2 (P := fun (v1_1 : Int32) (μ_2 : ZMem) => zZ E (zzV Φ) 2 [(0, .ref 1), (1, .int v1_1)] [] μ_2) (fun k2_2 hk2_2 v1_1 μ_2 h => ?_) n2 _ _ h
  refine z_iload_n hE dX3_firstBecomesLast_2 rfl 1 rfl ?_
  refine z_aload_n hE dX3_firstBecomesLast_3 rfl 0 rfl ?_
  refine z_getI hE dX3_firstBecomesLast_4 lF_X3_39 sX_1 rfl ?_
  refine z_icmp_ge (tgt := 24) hE dX3_firstBecomesLast_7 (by decide) h (fun h => ?_) (fun h => ?_)
  · exact z_vret (st := []) hE dX3_firstBecomesLast_24 rfl ⟨rfl, h⟩
  · refine z_aload_n hE dX3_firstBecomesLast_10 rfl 0 rfl ?_
    refine z_iload_n hE dX3_firstBecomesLast_11 rfl 1 rfl ?_
    refine z_iconst (v := 1) hE dX3_firstBecomesLast_12 zv_i_1 ?_
    refine z_isub hE dX3_firstBecomesLast_13 ?_
    refine z_iload_n hE dX3_firstBecomesLast_14 rfl 1 rfl ?_
    refine z_callV hE dX3_firstBecomesLast_15 lV_X3_58 (c_X3_exchange _ _ μ_2 _ h) sX_1 rfl (Nat.le_of_ble_eq_true rfl) (by decide) rfl (zk_V (fun μ_4 h => ?_))
    refine z_iinc (j := 1) (c := 1) (lv' := [(1, .int (v1_1 + (1 : Int32))), (0, .ref 1)]) hE dX3_firstBecomesLast_18 rfl zv_i_1 (by decide) rfl ?_
    refine z_goto (tgt := 2) hE dX3_firstBecomesLast_21 (by decide) ?_
    exact z_sub [1, 0] rfl (hk2_2 _ _ h)
set_option maxRecDepth 4000 in
theorem c_X3_sortLine  (μ : ZMem) (Φ : ZMem → Prop) (h : w_X3_sortLine μ Φ) : zM SX yX3_sortLine cX3_sortLine 3 (none) 1 [.ref 1] μ (zzV Φ) := by
  refine zM_go (own := RX3) rfl (by decide) (Nat.le_of_ble_eq_true rfl) (fun E hE => ?_)
  show zZ E (zzV Φ) 0 [(0, .ref 1)] [] μ
  unfold w_X3_sortLine at h
  refine z_iconst (v := 1) hE dX3_sortLine_0 zv_i_1 ?_
  refine z_istore_n (lv' := [(1, .int (1 : Int32)), (0, .ref 1)]) hE dX3_sortLine_1 rfl (by decide) rfl ?_
  refine z_sub [1, 0] rfl ?_
  obtain ⟨n2, h⟩ := h
  refine z_loop2 (P := fun (v1_1 : Int32) (μ_2 : ZMem) => zZ E (zzV Φ) 2 [(0, .ref 1), (1, .int v1_1)] [] μ_2) (fun k2_2 hk2_2 v1_1 μ_2 h => ?_) n2 _ _ h
  refine z_iload_n hE dX3_sortLine_2 rfl 1 rfl ?_
  refine z_aload_n hE dX3_sortLine_3 rfl 0 rfl ?_
  refine z_getI hE dX3_sortLine_4 lF_X3_39 sX_1 rfl ?_
  refine z_icmp_ge (tgt := 53) hE dX3_sortLine_7 (by decide) h (fun h => ?_) (fun h => ?_)
  · exact z_vret (st := []) hE dX3_sortLine_53 rfl ⟨rfl, h⟩
  · refine z_iload_n hE dX3_sortLine_10 rfl 1 rfl ?_
    refine z_istore_n (lv' := [(2, .int v1_1), (0, .ref 1), (1, .int v1_1)]) hE dX3_sortLine_11 rfl (by decide) rfl ?_
    refine z_join (P := fun (J_4 : ZMem → Prop) => ∀ (μ_3 : ZMem), J_4 μ_3 → zZ E (zzV Φ) 47 [(0, .ref 1), (1, .int v1_1)] [] μ_3) h (fun μ_3 h => ?_) (fun J_4 hJ_4 h => ?_)
    · refine z_iinc (j := 1) (c := 1) (lv' := [(1, .int (v1_1 + (1 : Int32))), (0, .ref 1)]) hE dX3_sortLine_47 rfl zv_i_1 (by decide) rfl ?_
      refine z_goto (tgt := 2) hE dX3_sortLine_50 (by decide) ?_
      exact z_sub [1, 0] rfl (hk2_2 _ _ h)
    refine z_sub [1, 2, 0] rfl ?_
    obtain ⟨n12, h⟩ := h
    refine z_loop2 (P := fun (v2_5 : Int32) (μ_6 : ZMem) => zZ E (zzV Φ) 12 [(0, .ref 1), (1, .int v1_1), (2, .int v2_5)] [] μ_6) (fun k12_6 hk12_6 v2_5 μ_6 h => ?_) n12 _ _ h
    refine z_iload_n hE dX3_sortLine_12 rfl 2 rfl ?_
    refine z_if_le (tgt := 47) hE dX3_sortLine_13 (by decide) h (fun h => ?_) (fun h => ?_)
    · exact z_sub [0, 1] rfl (hJ_4 _ h)
    · refine z_aload_n hE dX3_sortLine_16 rfl 0 rfl ?_
      refine z_getR (t := 4) hE dX3_sortLine_17 lF_X3_18 sX_1 rfl ?_
      refine z_iload_n hE dX3_sortLine_20 rfl 2 rfl ?_
      refine z_iconst (v := 1) hE dX3_sortLine_21 zv_i_1 ?_
      refine z_isub hE dX3_sortLine_22 ?_
      obtain ⟨q_7, h⟩ := h
      refine z_iald hE dX3_sortLine_23 sX_4 q_7 ?_
      refine z_aload_n hE dX3_sortLine_24 rfl 0 rfl ?_
      refine z_getR (t := 4) hE dX3_sortLine_25 lF_X3_18 sX_1 rfl ?_
      refine z_iload_n hE dX3_sortLine_28 rfl 2 rfl ?_
      obtain ⟨q_8, h⟩ := h
      refine z_iald hE dX3_sortLine_29 sX_4 q_8 ?_
      refine z_icmp_le (tgt := 47) hE dX3_sortLine_30 (by decide) h (fun h => ?_) (fun h => ?_)
      · exact z_sub [0, 1] rfl (hJ_4 _ h)
      · refine z_aload_n hE dX3_sortLine_33 rfl 0 rfl ?_
        refine z_iload_n hE dX3_sortLine_34 rfl 2 rfl ?_
        refine z_iconst (v := 1) hE dX3_sortLine_35 zv_i_1 ?_
        refine z_isub hE dX3_sortLine_36 ?_
        refine z_iload_n hE dX3_sortLine_37 rfl 2 rfl ?_
        refine z_callV hE dX3_sortLine_38 lV_X3_58 (c_X3_exchange _ _ μ_6 _ h) sX_1 rfl (Nat.le_of_ble_eq_true rfl) (by decide) rfl (zk_V (fun μ_10 h => ?_))
        refine z_iinc (j := 2) (c := -1) (lv' := [(2, .int (v2_5 + (-1 : Int32))), (0, .ref 1), (1, .int v1_1)]) hE dX3_sortLine_41 rfl zv_i_m1 (by decide) rfl ?_
        refine z_goto (tgt := 12) hE dX3_sortLine_44 (by decide) ?_
        exact z_sub [1, 2, 0] rfl (hk12_6 _ _ h)
set_option maxRecDepth 4000 in
theorem c_X3_takeOver_k  (μ : ZMem) (Φ : ZMem → Prop) (h : w_X3_takeOver_k μ Φ) : zM SX yX3_takeOver cX3_takeOver 4 (none) 1 [.ref 12, .ref 1] μ (zzV Φ) := by
  refine zM_go (own := RX3) rfl (by decide) (Nat.le_of_ble_eq_true rfl) (fun E hE => ?_)
  show zZ E (zzV Φ) 0 [(0, .ref 12), (1, .ref 1)] [] μ
  unfold w_X3_takeOver_k at h
  refine z_aload_n hE dX3_takeOver_0 rfl 1 rfl ?_
  refine z_getR (t := 2) hE dX3_takeOver_1 lF_X3_9 sX_1 rfl ?_
  refine z_iconst (v := 0) hE dX3_takeOver_4 zv_i_0 ?_
  refine z_aload_n hE dX3_takeOver_5 rfl 0 rfl ?_
  refine z_getR (t := 13) hE dX3_takeOver_6 lF_X3_9 sX_12 rfl ?_
  refine z_iconst (v := 0) hE dX3_takeOver_9 zv_i_0 ?_
  refine z_bipush (v := 7) hE dX3_takeOver_10 zv_b_7 ?_
  refine z_copyJ hE dX3_takeOver_12 lA_X3_29 sX_2 sX_13 (by decide) (Nat.le_of_ble_eq_true rfl) ?_
  refine zn (G := fun μ_1 => zZ E (zzV Φ) 15 [(0, .ref 12), (1, .ref 1)] [] μ_1) h (fun μ_1 h => ?_)
  refine z_aload_n hE dX3_takeOver_15 rfl 1 rfl ?_
  refine z_getR (t := 3) hE dX3_takeOver_16 lF_X3_15 sX_1 rfl ?_
  refine z_iconst (v := 0) hE dX3_takeOver_19 zv_i_0 ?_
  refine z_aload_n hE dX3_takeOver_20 rfl 0 rfl ?_
  refine z_getR (t := 14) hE dX3_takeOver_21 lF_X3_15 sX_12 rfl ?_
  refine z_iconst (v := 0) hE dX3_takeOver_24 zv_i_0 ?_
  refine z_bipush (v := 7) hE dX3_takeOver_25 zv_b_7 ?_
  refine z_copyJ hE dX3_takeOver_27 lA_X3_29 sX_3 sX_14 (by decide) (Nat.le_of_ble_eq_true rfl) ?_
  refine zn (G := fun μ_2 => zZ E (zzV Φ) 30 [(0, .ref 12), (1, .ref 1)] [] μ_2) h (fun μ_2 h => ?_)
  refine z_aload_n hE dX3_takeOver_30 rfl 0 rfl ?_
  refine z_aload_n hE dX3_takeOver_31 rfl 1 rfl ?_
  refine z_getI hE dX3_takeOver_32 lF_X3_35 sX_1 rfl ?_
  refine z_put hE dX3_takeOver_35 lF_X3_35 sX_12 rfl rfl rfl ?_
  refine zn (G := fun μ_3 => zZ E (zzV Φ) 38 [(0, .ref 12), (1, .ref 1)] [] μ_3) h (fun μ_3 h => ?_)
  refine z_aload_n hE dX3_takeOver_38 rfl 1 rfl ?_
  refine z_getR (t := 4) hE dX3_takeOver_39 lF_X3_18 sX_1 rfl ?_
  refine z_iconst (v := 0) hE dX3_takeOver_42 zv_i_0 ?_
  refine z_aload_n hE dX3_takeOver_43 rfl 0 rfl ?_
  refine z_getR (t := 15) hE dX3_takeOver_44 lF_X3_18 sX_12 rfl ?_
  refine z_iconst (v := 0) hE dX3_takeOver_47 zv_i_0 ?_
  refine z_bipush (v := 16) hE dX3_takeOver_48 zv_b_16 ?_
  refine z_copyI hE dX3_takeOver_50 lA_X3_29 sX_4 sX_15 (by decide) (Nat.le_of_ble_eq_true rfl) ?_
  refine zn (G := fun μ_4 => zZ E (zzV Φ) 53 [(0, .ref 12), (1, .ref 1)] [] μ_4) h (fun μ_4 h => ?_)
  refine z_aload_n hE dX3_takeOver_53 rfl 0 rfl ?_
  refine z_aload_n hE dX3_takeOver_54 rfl 1 rfl ?_
  refine z_getI hE dX3_takeOver_55 lF_X3_39 sX_1 rfl ?_
  refine z_put hE dX3_takeOver_58 lF_X3_39 sX_12 rfl rfl rfl ?_
  refine zn (G := fun μ_5 => zZ E (zzV Φ) 61 [(0, .ref 12), (1, .ref 1)] [] μ_5) h (fun μ_5 h => ?_)
  refine z_iconst (v := 0) hE dX3_takeOver_61 zv_i_0 ?_
  refine z_istore_n (lv' := [(2, .int (0 : Int32)), (0, .ref 12), (1, .ref 1)]) hE dX3_takeOver_62 rfl (by decide) rfl ?_
  refine z_join (P := fun (J_7 : ZMem → Prop) => ∀ (μ_6 : ZMem), J_7 μ_6 → zZ E (zzV Φ) 103 [(0, .ref 12), (1, .ref 1)] [] μ_6) h (fun μ_6 h => ?_) (fun J_7 hJ_7 h => ?_)
  · refine z_aload_n hE dX3_takeOver_103 rfl 0 rfl ?_
    refine z_aload_n hE dX3_takeOver_104 rfl 1 rfl ?_
    refine z_getI hE dX3_takeOver_105 lF_X3_55 sX_1 rfl ?_
    refine z_put hE dX3_takeOver_108 lF_X3_55 sX_12 rfl rfl rfl ?_
    refine zn (G := fun μ_8 => zZ E (zzV Φ) 111 [(0, .ref 12), (1, .ref 1)] [] μ_8) h (fun μ_8 h => ?_)
    exact z_vret (st := []) hE dX3_takeOver_111 rfl ⟨rfl, h⟩
  refine z_sub [1, 2, 0] rfl ?_
  obtain ⟨n63, h⟩ := h
  refine z_loop2 (P := fun (v2_9 : Int32) (μ_10 : ZMem) => zZ E (zzV Φ) 63 [(0, .ref 12), (1, .ref 1), (2, .int v2_9)] [] μ_10) (fun k63_10 hk63_10 v2_9 μ_10 h => ?_) n63 _ _ h
  refine z_iload_n hE dX3_takeOver_63 rfl 2 rfl ?_
  refine z_bipush (v := 6) hE dX3_takeOver_64 zv_b_6 ?_
  refine z_icmp_ge (tgt := 103) hE dX3_takeOver_66 (by decide) h (fun h => ?_) (fun h => ?_)
  · exact z_sub [0, 1] rfl (hJ_7 _ h)
  · refine z_aload_n hE dX3_takeOver_69 rfl 1 rfl ?_
    refine z_getR (t := 5) hE dX3_takeOver_70 lF_X3_24 sX_1 rfl ?_
    refine z_iload_n hE dX3_takeOver_73 rfl 2 rfl ?_
    obtain ⟨q_11, h⟩ := h
    refine z_aald1 hE dX3_takeOver_74 sX_5 (fun _ => rfl) rfl q_11 ?_
    refine z_astore_n (lv' := [(3, .ref (6 + (Int32.toNatClampNeg v2_9))), (0, .ref 12), (1, .ref 1), (2, .int v2_9)]) hE dX3_takeOver_75 rfl (by decide) rfl ?_
    refine z_aload_n hE dX3_takeOver_76 rfl 1 rfl ?_
    refine z_getR (t := 16) hE dX3_takeOver_77 lF_X3_24 sX_12 rfl ?_
    refine z_iload_n hE dX3_takeOver_80 rfl 3 rfl ?_
    obtain ⟨q_12, h⟩ := h
    refine z_aald1 hE dX3_takeOver_81 sX_16 (fun _ => rfl) rfl q_12 ?_
    refine z_aload_n hE dX3_takeOver_82 rfl 0 rfl ?_
    refine z_getI hE dX3_takeOver_83 lF_X3_42 (sXr_6 _ (zz_in_lt q_11)) rfl ?_
    refine z_aload_n hE dX3_takeOver_86 rfl 0 rfl ?_
    refine z_getI hE dX3_takeOver_87 lF_X3_45 (sXr_6 _ (zz_in_lt q_11)) rfl ?_
    refine z_aload_n hE dX3_takeOver_90 rfl 0 rfl ?_
    refine z_getI hE dX3_takeOver_91 lF_X3_48 (sXr_6 _ (zz_in_lt q_11)) rfl ?_
    refine z_callV hE dX3_takeOver_94 lV_X3_51 (c_X2_become _ _ _ _ (sXr_17 _ (zz_in_lt q_12)) μ_10 _ h) (sXr_17 _ (zz_in_lt q_12)) rfl (Nat.le_of_ble_eq_true rfl) (by decide) rfl (zk_V (fun μ_14 h => ?_))
    refine z_iinc (j := 3) (c := 1) (lv' := [(2, .int (v2_9 + (1 : Int32))), (3, .ref (6 + (Int32.toNatClampNeg v2_9))), (0, .ref 12), (1, .ref 1)]) hE dX3_takeOver_97 rfl zv_i_1 (by decide) rfl ?_
    refine z_goto (tgt := 63) hE dX3_takeOver_100 (by decide) ?_
    exact z_sub [2, 3, 0] rfl (hk63_10 _ _ h)
set_option maxRecDepth 4000 in
theorem c_X3_takeOver_n  (μ : ZMem) (Φ : ZMem → Prop) (h : w_X3_takeOver_n μ Φ) : zM SX yX3_takeOver cX3_takeOver 4 (none) 1 [.ref 1, .ref 12] μ (zzV Φ) := by
  refine zM_go (own := RX3) rfl (by decide) (Nat.le_of_ble_eq_true rfl) (fun E hE => ?_)
  show zZ E (zzV Φ) 0 [(0, .ref 1), (1, .ref 12)] [] μ
  unfold w_X3_takeOver_n at h
  refine z_aload_n hE dX3_takeOver_0 rfl 1 rfl ?_
  refine z_getR (t := 13) hE dX3_takeOver_1 lF_X3_9 sX_12 rfl ?_
  refine z_iconst (v := 0) hE dX3_takeOver_4 zv_i_0 ?_
  refine z_aload_n hE dX3_takeOver_5 rfl 0 rfl ?_
  refine z_getR (t := 2) hE dX3_takeOver_6 lF_X3_9 sX_1 rfl ?_
  refine z_iconst (v := 0) hE dX3_takeOver_9 zv_i_0 ?_
  refine z_bipush (v := 7) hE dX3_takeOver_10 zv_b_7 ?_
  refine z_copyJ hE dX3_takeOver_12 lA_X3_29 sX_13 sX_2 (by decide) (Nat.le_of_ble_eq_true rfl) ?_
  refine zn (G := fun μ_1 => zZ E (zzV Φ) 15 [(0, .ref 1), (1, .ref 12)] [] μ_1) h (fun μ_1 h => ?_)
  refine z_aload_n hE dX3_takeOver_15 rfl 1 rfl ?_
  refine z_getR (t := 14) hE dX3_takeOver_16 lF_X3_15 sX_12 rfl ?_
  refine z_iconst (v := 0) hE dX3_takeOver_19 zv_i_0 ?_
  refine z_aload_n hE dX3_takeOver_20 rfl 0 rfl ?_
  refine z_getR (t := 3) hE dX3_takeOver_21 lF_X3_15 sX_1 rfl ?_
  refine z_iconst (v := 0) hE dX3_takeOver_24 zv_i_0 ?_
  refine z_bipush (v := 7) hE dX3_takeOver_25 zv_b_7 ?_
  refine z_copyJ hE dX3_takeOver_27 lA_X3_29 sX_14 sX_3 (by decide) (Nat.le_of_ble_eq_true rfl) ?_
  refine zn (G := fun μ_2 => zZ E (zzV Φ) 30 [(0, .ref 1), (1, .ref 12)] [] μ_2) h (fun μ_2 h => ?_)
  refine z_aload_n hE dX3_takeOver_30 rfl 0 rfl ?_
  refine z_aload_n hE dX3_takeOver_31 rfl 1 rfl ?_
  refine z_getI hE dX3_takeOver_32 lF_X3_35 sX_12 rfl ?_
  refine z_put hE dX3_takeOver_35 lF_X3_35 sX_1 rfl rfl rfl ?_
  refine zn (G := fun μ_3 => zZ E (zzV Φ) 38 [(0, .ref 1), (1, .ref 12)] [] μ_3) h (fun μ_3 h => ?_)
  refine z_aload_n hE dX3_takeOver_38 rfl 1 rfl ?_
  refine z_getR (t := 15) hE dX3_takeOver_39 lF_X3_18 sX_12 rfl ?_
  refine z_iconst (v := 0) hE dX3_takeOver_42 zv_i_0 ?_
  refine z_aload_n hE dX3_takeOver_43 rfl 0 rfl ?_
  refine z_getR (t := 4) hE dX3_takeOver_44 lF_X3_18 sX_1 rfl ?_
  refine z_iconst (v := 0) hE dX3_takeOver_47 zv_i_0 ?_
  refine z_bipush (v := 16) hE dX3_takeOver_48 zv_b_16 ?_
  refine z_copyI hE dX3_takeOver_50 lA_X3_29 sX_15 sX_4 (by decide) (Nat.le_of_ble_eq_true rfl) ?_
  refine zn (G := fun μ_4 => zZ E (zzV Φ) 53 [(0, .ref 1), (1, .ref 12)] [] μ_4) h (fun μ_4 h => ?_)
  refine z_aload_n hE dX3_takeOver_53 rfl 0 rfl ?_
  refine z_aload_n hE dX3_takeOver_54 rfl 1 rfl ?_
  refine z_getI hE dX3_takeOver_55 lF_X3_39 sX_12 rfl ?_
  refine z_put hE dX3_takeOver_58 lF_X3_39 sX_1 rfl rfl rfl ?_
  refine zn (G := fun μ_5 => zZ E (zzV Φ) 61 [(0, .ref 1), (1, .ref 12)] [] μ_5) h (fun μ_5 h => ?_)
  refine z_iconst (v := 0) hE dX3_takeOver_61 zv_i_0 ?_
  refine z_istore_n (lv' := [(2, .int (0 : Int32)), (0, .ref 1), (1, .ref 12)]) hE dX3_takeOver_62 rfl (by decide) rfl ?_
  refine z_join (P := fun (J_7 : ZMem → Prop) => ∀ (μ_6 : ZMem), J_7 μ_6 → zZ E (zzV Φ) 103 [(0, .ref 1), (1, .ref 12)] [] μ_6) h (fun μ_6 h => ?_) (fun J_7 hJ_7 h => ?_)
  · refine z_aload_n hE dX3_takeOver_103 rfl 0 rfl ?_
    refine z_aload_n hE dX3_takeOver_104 rfl 1 rfl ?_
    refine z_getI hE dX3_takeOver_105 lF_X3_55 sX_12 rfl ?_
    refine z_put hE dX3_takeOver_108 lF_X3_55 sX_1 rfl rfl rfl ?_
    refine zn (G := fun μ_8 => zZ E (zzV Φ) 111 [(0, .ref 1), (1, .ref 12)] [] μ_8) h (fun μ_8 h => ?_)
    exact z_vret (st := []) hE dX3_takeOver_111 rfl ⟨rfl, h⟩
  refine z_sub [1, 2, 0] rfl ?_
  obtain ⟨n63, h⟩ := h
  refine z_loop2 (P := fun (v2_9 : Int32) (μ_10 : ZMem) => zZ E (zzV Φ) 63 [(0, .ref 1), (1, .ref 12), (2, .int v2_9)] [] μ_10) (fun k63_10 hk63_10 v2_9 μ_10 h => ?_) n63 _ _ h
  refine z_iload_n hE dX3_takeOver_63 rfl 2 rfl ?_
  refine z_bipush (v := 6) hE dX3_takeOver_64 zv_b_6 ?_
  refine z_icmp_ge (tgt := 103) hE dX3_takeOver_66 (by decide) h (fun h => ?_) (fun h => ?_)
  · exact z_sub [0, 1] rfl (hJ_7 _ h)
  · refine z_aload_n hE dX3_takeOver_69 rfl 1 rfl ?_
    refine z_getR (t := 16) hE dX3_takeOver_70 lF_X3_24 sX_12 rfl ?_
    refine z_iload_n hE dX3_takeOver_73 rfl 2 rfl ?_
    obtain ⟨q_11, h⟩ := h
    refine z_aald1 hE dX3_takeOver_74 sX_16 (fun _ => rfl) rfl q_11 ?_
    refine z_astore_n (lv' := [(3, .ref (17 + (Int32.toNatClampNeg v2_9))), (0, .ref 1), (1, .ref 12), (2, .int v2_9)]) hE dX3_takeOver_75 rfl (by decide) rfl ?_
    refine z_aload_n hE dX3_takeOver_76 rfl 1 rfl ?_
    refine z_getR (t := 5) hE dX3_takeOver_77 lF_X3_24 sX_1 rfl ?_
    refine z_iload_n hE dX3_takeOver_80 rfl 3 rfl ?_
    obtain ⟨q_12, h⟩ := h
    refine z_aald1 hE dX3_takeOver_81 sX_5 (fun _ => rfl) rfl q_12 ?_
    refine z_aload_n hE dX3_takeOver_82 rfl 0 rfl ?_
    refine z_getI hE dX3_takeOver_83 lF_X3_42 (sXr_17 _ (zz_in_lt q_11)) rfl ?_
    refine z_aload_n hE dX3_takeOver_86 rfl 0 rfl ?_
    refine z_getI hE dX3_takeOver_87 lF_X3_45 (sXr_17 _ (zz_in_lt q_11)) rfl ?_
    refine z_aload_n hE dX3_takeOver_90 rfl 0 rfl ?_
    refine z_getI hE dX3_takeOver_91 lF_X3_48 (sXr_17 _ (zz_in_lt q_11)) rfl ?_
    refine z_callV hE dX3_takeOver_94 lV_X3_51 (c_X2_become _ _ _ _ (sXr_6 _ (zz_in_lt q_12)) μ_10 _ h) (sXr_6 _ (zz_in_lt q_12)) rfl (Nat.le_of_ble_eq_true rfl) (by decide) rfl (zk_V (fun μ_14 h => ?_))
    refine z_iinc (j := 3) (c := 1) (lv' := [(2, .int (v2_9 + (1 : Int32))), (3, .ref (17 + (Int32.toNatClampNeg v2_9))), (0, .ref 1), (1, .ref 12)]) hE dX3_takeOver_97 rfl zv_i_1 (by decide) rfl ?_
    refine z_goto (tgt := 63) hE dX3_takeOver_100 (by decide) ?_
    exact z_sub [2, 3, 0] rfl (hk63_10 _ _ h)
set_option maxRecDepth 4000 in
theorem c_X3_turnLine  (μ : ZMem) (Φ : ZMem → Prop) (h : w_X3_turnLine μ Φ) : zM SX yX3_turnLine cX3_turnLine 2 (none) 1 [.ref 1] μ (zzV Φ) := by
  refine zM_go (own := RX3) rfl (by decide) (Nat.le_of_ble_eq_true rfl) (fun E hE => ?_)
  show zZ E (zzV Φ) 0 [(0, .ref 1)] [] μ
  unfold w_X3_turnLine at h
  refine z_iconst (v := 0) hE dX3_turnLine_0 zv_i_0 ?_
  refine z_istore_n (lv' := [(1, .int (0 : Int32)), (0, .ref 1)]) hE dX3_turnLine_1 rfl (by decide) rfl ?_
  refine z_sub [1, 0] rfl ?_
  obtain ⟨n2, h⟩ := h
  refine z_loop2 (P := fun (v1_1 : Int32) (μ_2 : ZMem) => zZ E (zzV Φ) 2 [(0, .ref 1), (1, .int v1_1)] [] μ_2) (fun k2_2 hk2_2 v1_1 μ_2 h => ?_) n2 _ _ h
  refine z_iload_n hE dX3_turnLine_2 rfl 1 rfl ?_
  refine z_aload_n hE dX3_turnLine_3 rfl 0 rfl ?_
  refine z_getI hE dX3_turnLine_4 lF_X3_39 sX_1 rfl ?_
  refine z_iconst (v := 2) hE dX3_turnLine_7 zv_i_2 ?_
  refine z_idiv hE dX3_turnLine_8 (by decide) ?_
  refine z_icmp_ge (tgt := 31) hE dX3_turnLine_9 (by decide) h (fun h => ?_) (fun h => ?_)
  · exact z_vret (st := []) hE dX3_turnLine_31 rfl ⟨rfl, h⟩
  · refine z_aload_n hE dX3_turnLine_12 rfl 0 rfl ?_
    refine z_iload_n hE dX3_turnLine_13 rfl 1 rfl ?_
    refine z_aload_n hE dX3_turnLine_14 rfl 0 rfl ?_
    refine z_getI hE dX3_turnLine_15 lF_X3_39 sX_1 rfl ?_
    refine z_iconst (v := 1) hE dX3_turnLine_18 zv_i_1 ?_
    refine z_isub hE dX3_turnLine_19 ?_
    refine z_iload_n hE dX3_turnLine_20 rfl 1 rfl ?_
    refine z_isub hE dX3_turnLine_21 ?_
    refine z_callV hE dX3_turnLine_22 lV_X3_58 (c_X3_exchange _ _ μ_2 _ h) sX_1 rfl (Nat.le_of_ble_eq_true rfl) (by decide) rfl (zk_V (fun μ_4 h => ?_))
    refine z_iinc (j := 1) (c := 1) (lv' := [(1, .int (v1_1 + (1 : Int32))), (0, .ref 1)]) hE dX3_turnLine_25 rfl zv_i_1 (by decide) rfl ?_
    refine z_goto (tgt := 2) hE dX3_turnLine_28 (by decide) ?_
    exact z_sub [1, 0] rfl (hk2_2 _ _ h)
set_option maxRecDepth 4000 in
theorem c_X4_shrink (k0 n0 : Nat) (h0 : SX[k0]? = some (2, n0, [])) (μ : ZMem) (Φ : ZMem → Prop) (h : w_X4_shrink k0 n0 μ Φ) : zM SX yX4_shrink cX4_shrink 4 (none) 1 [.ref k0] μ (zzV Φ) := by
  refine zM_go (own := RX4) rfl (by decide) (Nat.le_of_ble_eq_true rfl) (fun E hE => ?_)
  show zZ E (zzV Φ) 0 [(0, .ref k0)] [] μ
  unfold w_X4_shrink at h
  refine z_lconst (v := 0) hE dX4_shrink_0 zv_l_0 ?_
  refine z_lstore_n (lv' := [(1, .long (0 : Int64)), (0, .ref k0)]) hE dX4_shrink_1 rfl (by decide) rfl ?_
  refine z_iconst (v := 0) hE dX4_shrink_2 zv_i_0 ?_
  refine z_istore_n (lv' := [(3, .int (0 : Int32)), (1, .long (0 : Int64)), (0, .ref k0)]) hE dX4_shrink_3 rfl (by decide) rfl ?_
  refine z_join (P := fun (J_2 : Int64 → Prop) => ∀ (v1_1 : Int64), J_2 v1_1 → zZ E (zzV Φ) 24 [(0, .ref k0), (1, .long v1_1)] [] μ) h (fun v1_1 h => ?_) (fun J_2 hJ_2 h => ?_)
  · refine z_lload_n hE dX4_shrink_24 rfl 1 rfl ?_
    refine z_ldc2 (v := 2) hE dX4_shrink_25 lK_X4_17 ?_
    refine z_ljmp_ge (tgt := 33) hE dX4_shrink_28 dX4_shrink_29 (by decide) h (fun h => ?_) (fun h => ?_)
    · refine z_iconst (v := 0) hE dX4_shrink_33 zv_i_0 ?_
      refine z_istore_n (lv' := [(3, .int (0 : Int32)), (0, .ref k0), (1, .long v1_1)]) hE dX4_shrink_34 rfl (by decide) rfl ?_
      refine z_sub [1, 2, 0] rfl ?_
      obtain ⟨n35, h⟩ := h
      refine z_loop2 (P := fun (v3_3 : Int32) (μ_4 : ZMem) => zZ E (zzV Φ) 35 [(0, .ref k0), (1, .long v1_1), (3, .int v3_3)] [] μ_4) (fun k35_4 hk35_4 v3_3 μ_4 h => ?_) n35 _ _ h
      refine z_iload_n hE dX4_shrink_35 rfl 2 rfl ?_
      refine z_aload_n hE dX4_shrink_36 rfl 0 rfl ?_
      refine z_alenJ hE dX4_shrink_37 h0 rfl ?_
      refine z_icmp_ge (tgt := 54) hE dX4_shrink_38 (by decide) h (fun h => ?_) (fun h => ?_)
      · exact z_vret (st := []) hE dX4_shrink_54 rfl ⟨rfl, h⟩
      · refine z_aload_n hE dX4_shrink_41 rfl 0 rfl ?_
        refine z_iload_n hE dX4_shrink_42 rfl 2 rfl ?_
        refine z_dup2 hE dX4_shrink_43 rfl rfl ?_
        obtain ⟨q_5, h⟩ := h
        refine z_lald hE dX4_shrink_44 h0 q_5 ?_
        refine z_lload_n hE dX4_shrink_45 rfl 1 rfl ?_
        obtain ⟨q_6, h⟩ := h
        refine z_ldiv hE dX4_shrink_46 q_6 ?_
        obtain ⟨q_7, h⟩ := h
        refine z_last hE dX4_shrink_47 h0 q_7 ?_
        refine zn (G := fun μ_8 => zZ E (zzV Φ) 48 [(0, .ref k0), (1, .long v1_1), (3, .int v3_3)] [] μ_8) h (fun μ_8 h => ?_)
        refine z_iinc (j := 2) (c := 1) (lv' := [(3, .int (v3_3 + (1 : Int32))), (0, .ref k0), (1, .long v1_1)]) hE dX4_shrink_48 rfl zv_i_1 (by decide) rfl ?_
        refine z_goto (tgt := 35) hE dX4_shrink_51 (by decide) ?_
        exact z_sub [1, 2, 0] rfl (hk35_4 _ _ h)
    · exact z_vret (st := []) hE dX4_shrink_32 rfl ⟨rfl, h⟩
  refine z_sub [2, 1, 0] rfl ?_
  obtain ⟨n4, h⟩ := h
  refine z_loop2 (P := fun (v1_9 : Int64) (v3_10 : Int32) => zZ E (zzV Φ) 4 [(0, .ref k0), (1, .long v1_9), (3, .int v3_10)] [] μ) (fun k4_10 hk4_10 v1_9 v3_10 h => ?_) n4 _ _ h
  refine z_iload_n hE dX4_shrink_4 rfl 2 rfl ?_
  refine z_aload_n hE dX4_shrink_5 rfl 0 rfl ?_
  refine z_alenJ hE dX4_shrink_6 h0 rfl ?_
  refine z_icmp_ge (tgt := 24) hE dX4_shrink_7 (by decide) h (fun h => ?_) (fun h => ?_)
  · exact z_sub [0, 1] rfl (hJ_2 _ h)
  · refine z_lload_n hE dX4_shrink_10 rfl 1 rfl ?_
    refine z_aload_n hE dX4_shrink_11 rfl 0 rfl ?_
    refine z_iload_n hE dX4_shrink_12 rfl 2 rfl ?_
    obtain ⟨q_11, h⟩ := h
    refine z_lald hE dX4_shrink_13 h0 q_11 ?_
    refine z_callS hE dX4_shrink_14 lS_X4_11 (c_X1_divisor _ _ μ _ h) rfl (Nat.le_of_ble_eq_true rfl) (by decide) rfl (zk_PJ (fun r_12 h => ?_))
    refine z_lstore_n (lv' := [(1, .long r_12), (0, .ref k0), (3, .int v3_10)]) hE dX4_shrink_17 rfl (by decide) rfl ?_
    refine z_iinc (j := 2) (c := 1) (lv' := [(3, .int (v3_10 + (1 : Int32))), (1, .long r_12), (0, .ref k0)]) hE dX4_shrink_18 rfl zv_i_1 (by decide) rfl ?_
    refine z_goto (tgt := 4) hE dX4_shrink_21 (by decide) ?_
    exact z_sub [2, 1, 0] rfl (hk4_10 _ _ h)
set_option maxRecDepth 4000 in
theorem c_X5_bestGain  (μ : ZMem) (Φ : Int32 → Prop) (h : w_X5_bestGain μ Φ) : zM SX yX5_bestGain cX5_bestGain 6 (some FieldType.int) 1 [.ref 70] μ (zzPI Φ μ) := by
  refine zM_go (own := RX5) rfl (by decide) (Nat.le_of_ble_eq_true rfl) (fun E hE => ?_)
  show zZ E (zzPI Φ μ) 0 [(0, .ref 70)] [] μ
  unfold w_X5_bestGain at h
  refine z_bipush (v := 100) hE dX5_bestGain_0 zv_b_100 ?_
  refine z_istore_n (lv' := [(1, .int (100 : Int32)), (0, .ref 70)]) hE dX5_bestGain_2 rfl (by decide) rfl ?_
  refine z_bipush (v := 7) hE dX5_bestGain_3 zv_b_7 ?_
  refine z_istore_n (lv' := [(2, .int (7 : Int32)), (1, .int (100 : Int32)), (0, .ref 70)]) hE dX5_bestGain_5 rfl (by decide) rfl ?_
  refine z_bipush (v := -100) hE dX5_bestGain_6 zv_b_m100 ?_
  refine z_istore_n (lv' := [(3, .int (-100 : Int32)), (2, .int (7 : Int32)), (1, .int (100 : Int32)), (0, .ref 70)]) hE dX5_bestGain_8 rfl (by decide) rfl ?_
  refine z_sub [3, 2, 1, 0] rfl ?_
  obtain ⟨n9, h⟩ := h
  refine z_loop3 (P := fun (v1_1 : Int32) (v2_2 : Int32) (v3_3 : Int32) => zZ E (zzPI Φ μ) 9 [(0, .ref 70), (1, .int v1_1), (2, .int v2_2), (3, .int v3_3)] [] μ) (fun k9_3 hk9_3 v1_1 v2_2 v3_3 h => ?_) n9 _ _ _ h
  refine z_iload_n hE dX5_bestGain_9 rfl 3 rfl ?_
  refine z_bipush (v := 100) hE dX5_bestGain_10 zv_b_100 ?_
  refine z_icmp_gt (tgt := 75) hE dX5_bestGain_12 (by decide) h (fun h => ?_) (fun h => ?_)
  · refine z_iload_n hE dX5_bestGain_75 rfl 1 rfl ?_
    exact z_iret (st := []) hE dX5_bestGain_76 rfl ⟨_, rfl, rfl, h⟩
  · refine z_aload_n hE dX5_bestGain_15 rfl 0 rfl ?_
    refine z_iload_n hE dX5_bestGain_16 rfl 3 rfl ?_
    refine z_callV hE dX5_bestGain_17 lV_X5_58 (c_X5_at _ μ _ h) sX_70 rfl (Nat.le_of_ble_eq_true rfl) (by decide) rfl (zk_PI (fun r_4 h => ?_))
    refine z_istore (lv' := [(4, .int r_4), (0, .ref 70), (1, .int v1_1), (2, .int v2_2), (3, .int v3_3)]) hE dX5_bestGain_20 (by decide) rfl ?_
    refine z_iload hE dX5_bestGain_22 0 rfl ?_
    refine z_iload_n hE dX5_bestGain_24 rfl 3 rfl ?_
    refine z_join (P := fun (J_7 : Int32 → Prop) => ∀ (x_6 : Int32), J_7 x_6 → zZ E (zzPI Φ μ) 44 [(0, .ref 70), (1, .int v1_1), (2, .int v2_2), (3, .int v3_3), (4, .int r_4)] [.int x_6] μ) h (fun x_6 h => ?_) (fun J_7 hJ_7 h => ?_)
    · refine z_istore (lv' := [(5, .int x_6), (0, .ref 70), (1, .int v1_1), (2, .int v2_2), (3, .int v3_3), (4, .int r_4)]) hE dX5_bestGain_44 (by decide) rfl ?_
      refine z_iload hE dX5_bestGain_46 5 rfl ?_
      refine z_bipush (v := -7) hE dX5_bestGain_48 zv_b_m7 ?_
      refine z_join (P := fun (J_10 : Int32 → Int32 → Prop) => ∀ (v1_8 : Int32) (v2_9 : Int32), J_10 v1_8 v2_9 → zZ E (zzPI Φ μ) 69 [(0, .ref 70), (1, .int v1_8), (2, .int v2_9), (3, .int v3_3)] [] μ) h (fun v1_8 v2_9 h => ?_) (fun J_10 hJ_10 h => ?_)
      · refine z_iinc (j := 3) (c := 1) (lv' := [(3, .int (v3_3 + (1 : Int32))), (0, .ref 70), (1, .int v1_8), (2, .int v2_9)]) hE dX5_bestGain_69 rfl zv_i_1 (by decide) rfl ?_
        refine z_goto (tgt := 9) hE dX5_bestGain_72 (by decide) ?_
        exact z_sub [1, 2, 3, 0] rfl (hk9_3 _ _ _ h)
      refine z_icmp_eq (tgt := 69) hE dX5_bestGain_50 (by decide) h (fun h => ?_) (fun h => ?_)
      · exact z_sub [1, 2, 3, 4] rfl (hJ_10 _ _ h)
      · refine z_iload hE dX5_bestGain_53 5 rfl ?_
        refine z_iload_n hE dX5_bestGain_55 rfl 3 rfl ?_
        refine z_join (P := fun (J_11 : Prop) => J_11 → zZ E (zzPI Φ μ) 64 [(0, .ref 70), (3, .int v3_3), (4, .int r_4)] [] μ) h (fun  h => ?_) (fun J_11 hJ_11 h => ?_)
        · refine z_iload_n hE dX5_bestGain_64 rfl 1 rfl ?_
          refine z_istore_n (lv' := [(1, .int v3_3), (0, .ref 70), (3, .int v3_3), (4, .int r_4)]) hE dX5_bestGain_65 rfl (by decide) rfl ?_
          refine z_iload hE dX5_bestGain_66 3 rfl ?_
          refine z_istore_n (lv' := [(2, .int r_4), (1, .int v3_3), (0, .ref 70), (3, .int v3_3), (4, .int r_4)]) hE dX5_bestGain_68 rfl (by decide) rfl ?_
          exact z_sub [2, 1, 0, 3] rfl (hJ_10 _ _ h)
        refine z_icmp_lt (tgt := 64) hE dX5_bestGain_56 (by decide) h (fun h => ?_) (fun h => ?_)
        · exact z_sub [1, 4, 5] rfl (hJ_11 h)
        · refine z_iload hE dX5_bestGain_59 0 rfl ?_
          refine z_if_eq (tgt := 69) hE dX5_bestGain_61 (by decide) h (fun h => ?_) (fun h => ?_)
          · exact z_sub [1, 2, 3, 4] rfl (hJ_10 _ _ h)
          · exact z_sub [1, 4, 5] rfl (hJ_11 h)
    refine z_join (P := fun (J_12 : Prop) => J_12 → zZ E (zzPI Φ μ) 43 [(0, .ref 70), (1, .int v1_1), (2, .int v2_2), (3, .int v3_3), (4, .int r_4)] [] μ) h (fun  h => ?_) (fun J_12 hJ_12 h => ?_)
    · refine z_iconst (v := 0) hE dX5_bestGain_43 zv_i_0 ?_
      exact hJ_7 _ h
    refine z_icmp_ne (tgt := 43) hE dX5_bestGain_25 (by decide) h (fun h => ?_) (fun h => ?_)
    · exact z_sub [1, 2, 3, 4, 0] rfl (hJ_12 h)
    · refine z_iload_n hE dX5_bestGain_28 rfl 4 rfl ?_
      refine z_mabs hE dX5_bestGain_29 lM_X5_66 (Nat.le_of_ble_eq_true rfl) ?_
      refine z_iload_n hE dX5_bestGain_32 rfl 2 rfl ?_
      refine z_mabs hE dX5_bestGain_33 lM_X5_66 (Nat.le_of_ble_eq_true rfl) ?_
      refine z_icmp_ge (tgt := 43) hE dX5_bestGain_36 (by decide) h (fun h => ?_) (fun h => ?_)
      · exact z_sub [1, 2, 3, 4, 0] rfl (hJ_12 h)
      · refine z_iconst (v := 1) hE dX5_bestGain_39 zv_i_1 ?_
        refine z_goto (tgt := 44) hE dX5_bestGain_40 (by decide) ?_
        exact z_sub [1, 2, 3, 4, 0] rfl (hJ_7 _ h)
set_option maxRecDepth 4000 in
theorem c_X5_isJump (a1 : Int32) (μ : ZMem) (Φ : Int32 → Prop) (h : w_X5_isJump a1 μ Φ) : zM SX yX5_isJump cX5_isJump 2 (some FieldType.boolean) 1 [.ref 70, .int a1] μ (zzPI Φ μ) := by
  refine zM_go (own := RX5) rfl (by decide) (Nat.le_of_ble_eq_true rfl) (fun E hE => ?_)
  show zZ E (zzPI Φ μ) 0 [(0, .ref 70), (1, .int a1)] [] μ
  unfold w_X5_isJump at h
  refine z_aload_n hE dX5_isJump_0 rfl 0 rfl ?_
  refine z_iload_n hE dX5_isJump_1 rfl 1 rfl ?_
  refine z_callV hE dX5_isJump_2 lV_X5_58 (c_X5_at _ μ _ h) sX_70 rfl (Nat.le_of_ble_eq_true rfl) (by decide) rfl (zk_PI (fun r_1 h => ?_))
  refine z_aload_n hE dX5_isJump_5 rfl 0 rfl ?_
  refine z_iload_n hE dX5_isJump_6 rfl 1 rfl ?_
  refine z_iconst (v := 1) hE dX5_isJump_7 zv_i_1 ?_
  refine z_isub hE dX5_isJump_8 ?_
  refine z_callV hE dX5_isJump_9 lV_X5_58 (c_X5_at _ μ _ h) sX_70 rfl (Nat.le_of_ble_eq_true rfl) (by decide) rfl (zk_PI (fun r_3 h => ?_))
  refine z_icmp_eq (tgt := 19) hE dX5_isJump_12 (by decide) h (fun h => ?_) (fun h => ?_)
  · refine z_iconst (v := 0) hE dX5_isJump_19 zv_i_0 ?_
    exact z_zret (st := []) hE dX5_isJump_20 rfl (by decide) ⟨_, rfl, rfl, h⟩
  · refine z_iconst (v := 1) hE dX5_isJump_15 zv_i_1 ?_
    refine z_goto (tgt := 20) hE dX5_isJump_16 (by decide) ?_
    exact z_zret (st := []) hE dX5_isJump_20 rfl (by decide) ⟨_, rfl, rfl, h⟩
set_option maxRecDepth 4000 in
theorem c_X8_axisCount (t : Nat) (h0 : zT_Table t) (μ : ZMem) (Φ : Int32 → Prop) (h : w_X8_axisCount t μ Φ) : zM SX yX8_axisCount cX8_axisCount 2 (some FieldType.int) 1 [.ref t] μ (zzPI Φ μ) := by
  refine zM_go (own := RX8) rfl (by decide) (Nat.le_of_ble_eq_true rfl) (fun E hE => ?_)
  show zZ E (zzPI Φ μ) 0 [(0, .ref t)] [] μ
  unfold w_X8_axisCount at h
  refine z_aload_n hE dX8_axisCount_0 rfl 0 rfl ?_
  refine z_callV hE dX8_axisCount_1 lV_X8_109 (c_X8_firstNothing _ h0 μ _ h) h0.1 rfl (Nat.le_of_ble_eq_true rfl) (by decide) rfl (zk_PI (fun r_1 h => ?_))
  refine z_istore_n (lv' := [(1, .int r_1), (0, .ref t)]) hE dX8_axisCount_4 rfl (by decide) rfl ?_
  refine z_iload_n hE dX8_axisCount_5 rfl 0 rfl ?_
  refine z_iconst (v := 1) hE dX8_axisCount_6 zv_i_1 ?_
  refine z_icmp_ge (tgt := 14) hE dX8_axisCount_7 (by decide) h (fun h => ?_) (fun h => ?_)
  · refine z_aload_n hE dX8_axisCount_14 rfl 1 rfl ?_
    refine z_getI hE dX8_axisCount_15 lF_X8_27 h0.1 rfl ?_
    refine z_iload_n hE dX8_axisCount_18 rfl 0 rfl ?_
    refine z_isub hE dX8_axisCount_19 ?_
    refine z_iconst (v := 1) hE dX8_axisCount_20 zv_i_1 ?_
    refine z_iadd hE dX8_axisCount_21 ?_
    refine z_iconst (v := 2) hE dX8_axisCount_22 zv_i_2 ?_
    refine z_aload_n hE dX8_axisCount_23 rfl 1 rfl ?_
    refine z_iload_n hE dX8_axisCount_24 rfl 0 rfl ?_
    refine z_iconst (v := 1) hE dX8_axisCount_25 zv_i_1 ?_
    refine z_isub hE dX8_axisCount_26 ?_
    refine z_aload_n hE dX8_axisCount_27 rfl 1 rfl ?_
    refine z_getI hE dX8_axisCount_28 lF_X8_27 h0.1 rfl ?_
    refine z_callV hE dX8_axisCount_31 lV_X8_105 (c_X8_signChanges _ _ _ h0 μ _ h) h0.1 rfl (Nat.le_of_ble_eq_true rfl) (by decide) rfl (zk_PI (fun r_3 h => ?_))
    refine z_imul hE dX8_axisCount_34 ?_
    refine z_isub hE dX8_axisCount_35 ?_
    exact z_iret (st := []) hE dX8_axisCount_36 rfl ⟨_, rfl, rfl, h⟩
  · refine z_iconst (v := 0) hE dX8_axisCount_10 zv_i_0 ?_
    refine z_goto (tgt := 36) hE dX8_axisCount_11 (by decide) ?_
    exact z_iret (st := []) hE dX8_axisCount_36 rfl ⟨_, rfl, rfl, h⟩
set_option maxRecDepth 4000 in
theorem c_X8_carry (t : Nat) (k1 n1 : Nat) (a2 : Int32) (h0 : zT_Table t) (h1 : SX[k1]? = some (2, n1, [])) (μ : ZMem) (Φ : ZMem → Prop) (h : w_X8_carry t k1 n1 a2 μ Φ) : zM SX yX8_carry cX8_carry 5 (none) 1 [.ref t, .ref k1, .int a2] μ (zzV Φ) := by
  refine zM_go (own := RX8) rfl (by decide) (Nat.le_of_ble_eq_true rfl) (fun E hE => ?_)
  show zZ E (zzV Φ) 0 [(0, .ref t), (1, .ref k1), (2, .int a2)] [] μ
  unfold w_X8_carry at h
  refine z_iconst (v := 0) hE dX8_carry_0 zv_i_0 ?_
  refine z_istore_n (lv' := [(3, .int (0 : Int32)), (0, .ref t), (1, .ref k1), (2, .int a2)]) hE dX8_carry_1 rfl (by decide) rfl ?_
  refine z_join (P := fun (J_2 : ZMem → Prop) => ∀ (μ_1 : ZMem), J_2 μ_1 → zZ E (zzV Φ) 28 [(0, .ref t), (1, .ref k1), (2, .int a2)] [] μ_1) h (fun μ_1 h => ?_) (fun J_2 hJ_2 h => ?_)
  · refine z_aload_n hE dX8_carry_28 rfl 0 rfl ?_
    refine z_getR (t := (t + 2)) hE dX8_carry_29 lF_X8_15 h0.1 rfl ?_
    refine z_iconst (v := 0) hE dX8_carry_32 zv_i_0 ?_
    refine z_lconst (v := 1) hE dX8_carry_33 zv_l_1 ?_
    refine z_last hE dX8_carry_34 h0.2.2.1 (zin (by decide)) ?_
    refine zn (G := fun μ_3 => zZ E (zzV Φ) 35 [(0, .ref t), (1, .ref k1), (2, .int a2)] [] μ_3) h (fun μ_3 h => ?_)
    refine z_iload_n hE dX8_carry_35 rfl 2 rfl ?_
    refine z_istore_n (lv' := [(3, .int a2), (0, .ref t), (1, .ref k1), (2, .int a2)]) hE dX8_carry_36 rfl (by decide) rfl ?_
    refine z_sub [1, 2, 0] rfl ?_
    obtain ⟨n37, h⟩ := h
    refine z_loop2 (P := fun (v3_4 : Int32) (μ_5 : ZMem) => zZ E (zzV Φ) 37 [(0, .ref t), (1, .ref k1), (3, .int v3_4)] [] μ_5) (fun k37_5 hk37_5 v3_4 μ_5 h => ?_) n37 _ _ h
    refine z_iload_n hE dX8_carry_37 rfl 2 rfl ?_
    refine z_if_lt (tgt := 100) hE dX8_carry_38 (by decide) h (fun h => ?_) (fun h => ?_)
    · exact z_vret (st := []) hE dX8_carry_100 rfl ⟨rfl, h⟩
    · refine z_aload_n hE dX8_carry_41 rfl 0 rfl ?_
      refine z_getR (t := (t + 1)) hE dX8_carry_42 lF_X8_9 h0.1 rfl ?_
      refine z_iconst (v := 1) hE dX8_carry_45 zv_i_1 ?_
      refine z_callS hE dX8_carry_46 lS_X8_60 (c_X4_stretch _ _ _ h0.2.1 μ_5 _ h) rfl (Nat.le_of_ble_eq_true rfl) (by decide) rfl (zk_V (fun μ_7 h => ?_))
      refine z_iconst (v := 0) hE dX8_carry_49 zv_i_0 ?_
      refine z_istore (lv' := [(4, .int (0 : Int32)), (0, .ref t), (1, .ref k1), (3, .int v3_4)]) hE dX8_carry_50 (by decide) rfl ?_
      refine z_join (P := fun (J_9 : ZMem → Prop) => ∀ (μ_8 : ZMem), J_9 μ_8 → zZ E (zzV Φ) 86 [(0, .ref t), (1, .ref k1), (3, .int v3_4)] [] μ_8) h (fun μ_8 h => ?_) (fun J_9 hJ_9 h => ?_)
      · refine z_aload_n hE dX8_carry_86 rfl 0 rfl ?_
        refine z_getR (t := (t + 2)) hE dX8_carry_87 lF_X8_15 h0.1 rfl ?_
        refine z_iconst (v := -1) hE dX8_carry_90 zv_i_m1 ?_
        refine z_callS hE dX8_carry_91 lS_X8_60 (c_X4_stretch _ _ _ h0.2.2.1 μ_8 _ h) rfl (Nat.le_of_ble_eq_true rfl) (by decide) rfl (zk_V (fun μ_11 h => ?_))
        refine z_iinc (j := 2) (c := -1) (lv' := [(3, .int (v3_4 + (-1 : Int32))), (0, .ref t), (1, .ref k1)]) hE dX8_carry_94 rfl zv_i_m1 (by decide) rfl ?_
        refine z_goto (tgt := 37) hE dX8_carry_97 (by decide) ?_
        exact z_sub [1, 2, 0] rfl (hk37_5 _ _ h)
      refine z_sub [1, 2, 3, 0] rfl ?_
      obtain ⟨n52, h⟩ := h
      refine z_loop2 (P := fun (v4_12 : Int32) (μ_13 : ZMem) => zZ E (zzV Φ) 52 [(0, .ref t), (1, .ref k1), (3, .int v3_4), (4, .int v4_12)] [] μ_13) (fun k52_13 hk52_13 v4_12 μ_13 h => ?_) n52 _ _ h
      refine z_iload hE dX8_carry_52 3 rfl ?_
      refine z_bipush (v := 7) hE dX8_carry_54 zv_b_7 ?_
      refine z_icmp_ge (tgt := 86) hE dX8_carry_56 (by decide) h (fun h => ?_) (fun h => ?_)
      · exact z_sub [0, 1, 2] rfl (hJ_9 _ h)
      · refine z_aload_n hE dX8_carry_59 rfl 0 rfl ?_
        refine z_getR (t := (t + 1)) hE dX8_carry_60 lF_X8_9 h0.1 rfl ?_
        refine z_iload hE dX8_carry_63 3 rfl ?_
        refine z_dup2 hE dX8_carry_65 rfl rfl ?_
        obtain ⟨q_14, h⟩ := h
        refine z_lald hE dX8_carry_66 h0.2.1 q_14 ?_
        refine z_aload_n hE dX8_carry_67 rfl 1 rfl ?_
        refine z_iload_n hE dX8_carry_68 rfl 2 rfl ?_
        obtain ⟨q_15, h⟩ := h
        refine z_lald hE dX8_carry_69 h1 q_15 ?_
        refine z_aload_n hE dX8_carry_70 rfl 0 rfl ?_
        refine z_getR (t := (t + 2)) hE dX8_carry_71 lF_X8_15 h0.1 rfl ?_
        refine z_iload hE dX8_carry_74 3 rfl ?_
        obtain ⟨q_16, h⟩ := h
        refine z_lald hE dX8_carry_76 h0.2.2.1 q_16 ?_
        refine z_lmul hE dX8_carry_77 ?_
        refine z_ladd hE dX8_carry_78 ?_
        obtain ⟨q_17, h⟩ := h
        refine z_last hE dX8_carry_79 h0.2.1 q_17 ?_
        refine zn (G := fun μ_18 => zZ E (zzV Φ) 80 [(0, .ref t), (1, .ref k1), (3, .int v3_4), (4, .int v4_12)] [] μ_18) h (fun μ_18 h => ?_)
        refine z_iinc (j := 3) (c := 1) (lv' := [(4, .int (v4_12 + (1 : Int32))), (0, .ref t), (1, .ref k1), (3, .int v3_4)]) hE dX8_carry_80 rfl zv_i_1 (by decide) rfl ?_
        refine z_goto (tgt := 52) hE dX8_carry_83 (by decide) ?_
        exact z_sub [1, 2, 3, 0] rfl (hk52_13 _ _ h)
  refine z_sub [1, 2, 3, 0] rfl ?_
  obtain ⟨n2, h⟩ := h
  refine z_loop2 (P := fun (v3_19 : Int32) (μ_20 : ZMem) => zZ E (zzV Φ) 2 [(0, .ref t), (1, .ref k1), (2, .int a2), (3, .int v3_19)] [] μ_20) (fun k2_20 hk2_20 v3_19 μ_20 h => ?_) n2 _ _ h
  refine z_iload_n hE dX8_carry_2 rfl 3 rfl ?_
  refine z_bipush (v := 7) hE dX8_carry_3 zv_b_7 ?_
  refine z_icmp_ge (tgt := 28) hE dX8_carry_5 (by decide) h (fun h => ?_) (fun h => ?_)
  · exact z_sub [0, 1, 2] rfl (hJ_2 _ h)
  · refine z_aload_n hE dX8_carry_8 rfl 0 rfl ?_
    refine z_getR (t := (t + 1)) hE dX8_carry_9 lF_X8_9 h0.1 rfl ?_
    refine z_iload_n hE dX8_carry_12 rfl 3 rfl ?_
    refine z_lconst (v := 0) hE dX8_carry_13 zv_l_0 ?_
    obtain ⟨q_21, h⟩ := h
    refine z_last hE dX8_carry_14 h0.2.1 q_21 ?_
    refine zn (G := fun μ_22 => zZ E (zzV Φ) 15 [(0, .ref t), (1, .ref k1), (2, .int a2), (3, .int v3_19)] [] μ_22) h (fun μ_22 h => ?_)
    refine z_aload_n hE dX8_carry_15 rfl 0 rfl ?_
    refine z_getR (t := (t + 2)) hE dX8_carry_16 lF_X8_15 h0.1 rfl ?_
    refine z_iload_n hE dX8_carry_19 rfl 3 rfl ?_
    refine z_lconst (v := 0) hE dX8_carry_20 zv_l_0 ?_
    obtain ⟨q_23, h⟩ := h
    refine z_last hE dX8_carry_21 h0.2.2.1 q_23 ?_
    refine zn (G := fun μ_24 => zZ E (zzV Φ) 22 [(0, .ref t), (1, .ref k1), (2, .int a2), (3, .int v3_19)] [] μ_24) h (fun μ_24 h => ?_)
    refine z_iinc (j := 3) (c := 1) (lv' := [(3, .int (v3_19 + (1 : Int32))), (0, .ref t), (1, .ref k1), (2, .int a2)]) hE dX8_carry_22 rfl zv_i_1 (by decide) rfl ?_
    refine z_goto (tgt := 2) hE dX8_carry_25 (by decide) ?_
    exact z_sub [1, 2, 3, 0] rfl (hk2_20 _ _ h)
set_option maxRecDepth 4000 in
theorem c_X8_crossRow (t : Nat) (a1 : Int32) (h0 : zT_Table t) (μ : ZMem) (Φ : ZMem → Prop) (h : w_X8_crossRow t a1 μ Φ) : zM SX yX8_crossRow cX8_crossRow 7 (none) 1 [.ref t, .int a1] μ (zzV Φ) := by
  refine zM_go (own := RX8) rfl (by decide) (Nat.le_of_ble_eq_true rfl) (fun E hE => ?_)
  show zZ E (zzV Φ) 0 [(0, .ref t), (1, .int a1)] [] μ
  unfold w_X8_crossRow at h
  refine z_aload_n hE dX8_crossRow_0 rfl 0 rfl ?_
  refine z_getR (t := (t + 3)) hE dX8_crossRow_1 lF_X8_20 h0.1 rfl ?_
  refine z_iload_n hE dX8_crossRow_4 rfl 1 rfl ?_
  refine z_iconst (v := 2) hE dX8_crossRow_5 zv_i_2 ?_
  refine z_isub hE dX8_crossRow_6 ?_
  obtain ⟨q_1, h⟩ := h
  refine z_aald1 hE dX8_crossRow_7 h0.2.2.2.1 (fun _ => rfl) rfl q_1 ?_
  refine z_astore_n (lv' := [(2, .ref ((t + 4) + (Int32.toNatClampNeg (a1 - (2 : Int32))))), (0, .ref t), (1, .int a1)]) hE dX8_crossRow_8 rfl (by decide) rfl ?_
  refine z_aload_n hE dX8_crossRow_9 rfl 1 rfl ?_
  refine z_getR (t := (t + 3)) hE dX8_crossRow_10 lF_X8_20 h0.1 rfl ?_
  refine z_iload_n hE dX8_crossRow_13 rfl 2 rfl ?_
  refine z_iconst (v := 1) hE dX8_crossRow_14 zv_i_1 ?_
  refine z_isub hE dX8_crossRow_15 ?_
  obtain ⟨q_2, h⟩ := h
  refine z_aald1 hE dX8_crossRow_16 h0.2.2.2.1 (fun _ => rfl) rfl q_2 ?_
  refine z_astore_n (lv' := [(3, .ref ((t + 4) + (Int32.toNatClampNeg (a1 - (1 : Int32))))), (2, .ref ((t + 4) + (Int32.toNatClampNeg (a1 - (2 : Int32))))), (0, .ref t), (1, .int a1)]) hE dX8_crossRow_17 rfl (by decide) rfl ?_
  refine z_iconst (v := 0) hE dX8_crossRow_18 zv_i_0 ?_
  refine z_istore (lv' := [(4, .int (0 : Int32)), (3, .ref ((t + 4) + (Int32.toNatClampNeg (a1 - (1 : Int32))))), (2, .ref ((t + 4) + (Int32.toNatClampNeg (a1 - (2 : Int32))))), (0, .ref t), (1, .int a1)]) hE dX8_crossRow_19 (by decide) rfl ?_
  refine z_sub [3, 4, 2, 1, 0] rfl ?_
  obtain ⟨n21, h⟩ := h
  refine z_loop2 (P := fun (v4_3 : Int32) (μ_4 : ZMem) => zZ E (zzV Φ) 21 [(0, .ref t), (1, .int a1), (2, .ref ((t + 4) + (Int32.toNatClampNeg (a1 - (2 : Int32))))), (3, .ref ((t + 4) + (Int32.toNatClampNeg (a1 - (1 : Int32))))), (4, .int v4_3)] [] μ_4) (fun k21_4 hk21_4 v4_3 μ_4 h => ?_) n21 _ _ h
  refine z_iload hE dX8_crossRow_21 4 rfl ?_
  refine z_iconst (v := 4) hE dX8_crossRow_23 zv_i_4 ?_
  refine z_icmp_ge (tgt := 100) hE dX8_crossRow_24 (by decide) h (fun h => ?_) (fun h => ?_)
  · exact z_vret (st := []) hE dX8_crossRow_100 rfl ⟨rfl, h⟩
  · refine z_lconst (v := 0) hE dX8_crossRow_27 zv_l_0 ?_
    refine z_lstore (lv' := [(5, .long (0 : Int64)), (0, .ref t), (1, .int a1), (2, .ref ((t + 4) + (Int32.toNatClampNeg (a1 - (2 : Int32))))), (3, .ref ((t + 4) + (Int32.toNatClampNeg (a1 - (1 : Int32))))), (4, .int v4_3)]) hE dX8_crossRow_28 (by decide) rfl ?_
    refine z_iload hE dX8_crossRow_30 5 rfl ?_
    refine z_aload_n hE dX8_crossRow_32 rfl 1 rfl ?_
    refine z_iload_n hE dX8_crossRow_33 rfl 2 rfl ?_
    refine z_callV hE dX8_crossRow_34 lV_X8_86 (c_X8_width _ _ h0 μ_4 _ h) h0.1 rfl (Nat.le_of_ble_eq_true rfl) (by decide) rfl (zk_PI (fun r_5 h => ?_))
    refine z_join (P := fun (J_8 : Int64 → Prop) => ∀ (v5_7 : Int64), J_8 v5_7 → zZ E (zzV Φ) 69 [(0, .ref t), (1, .int a1), (2, .ref ((t + 4) + (Int32.toNatClampNeg (a1 - (2 : Int32))))), (3, .ref ((t + 4) + (Int32.toNatClampNeg (a1 - (1 : Int32))))), (4, .int v4_3), (5, .long v5_7)] [] μ_4) h (fun v5_7 h => ?_) (fun J_8 hJ_8 h => ?_)
    · refine z_aload_n hE dX8_crossRow_69 rfl 0 rfl ?_
      refine z_getR (t := (t + 3)) hE dX8_crossRow_70 lF_X8_20 h0.1 rfl ?_
      refine z_iload_n hE dX8_crossRow_73 rfl 1 rfl ?_
      obtain ⟨q_9, h⟩ := h
      refine z_aald1 hE dX8_crossRow_74 h0.2.2.2.1 (fun _ => rfl) rfl q_9 ?_
      refine z_iload hE dX8_crossRow_75 4 rfl ?_
      refine z_aload_n hE dX8_crossRow_77 rfl 3 rfl ?_
      refine z_iconst (v := 0) hE dX8_crossRow_78 zv_i_0 ?_
      refine z_lald hE dX8_crossRow_79 (h0.2.2.2.2.1 _ (zz_in_lt q_2)) (zin (by decide)) ?_
      refine z_lconst (v := 0) hE dX8_crossRow_80 zv_l_0 ?_
      refine z_join (P := fun (J_11 : Int64 → Prop) => ∀ (x_10 : Int64), J_11 x_10 → zZ E (zzV Φ) 93 [(0, .ref t), (1, .int a1), (2, .ref ((t + 4) + (Int32.toNatClampNeg (a1 - (2 : Int32))))), (3, .ref ((t + 4) + (Int32.toNatClampNeg (a1 - (1 : Int32))))), (4, .int v4_3)] [.long x_10, .int v4_3, .ref ((t + 4) + (Int32.toNatClampNeg a1))] μ_4) h (fun x_10 h => ?_) (fun J_11 hJ_11 h => ?_)
      · obtain ⟨q_12, h⟩ := h
        refine z_last hE dX8_crossRow_93 (h0.2.2.2.2.1 _ (zz_in_lt q_9)) q_12 ?_
        refine zn (G := fun μ_13 => zZ E (zzV Φ) 94 [(0, .ref t), (1, .int a1), (2, .ref ((t + 4) + (Int32.toNatClampNeg (a1 - (2 : Int32))))), (3, .ref ((t + 4) + (Int32.toNatClampNeg (a1 - (1 : Int32))))), (4, .int v4_3)] [] μ_13) h (fun μ_13 h => ?_)
        refine z_iinc (j := 4) (c := 1) (lv' := [(4, .int (v4_3 + (1 : Int32))), (0, .ref t), (1, .int a1), (2, .ref ((t + 4) + (Int32.toNatClampNeg (a1 - (2 : Int32))))), (3, .ref ((t + 4) + (Int32.toNatClampNeg (a1 - (1 : Int32)))))]) hE dX8_crossRow_94 rfl zv_i_1 (by decide) rfl ?_
        refine z_goto (tgt := 21) hE dX8_crossRow_97 (by decide) ?_
        exact z_sub [1, 2, 3, 4, 0] rfl (hk21_4 _ _ h)
      refine z_ljmp_ge (tgt := 91) hE dX8_crossRow_81 dX8_crossRow_82 (by decide) h (fun h => ?_) (fun h => ?_)
      · refine z_lload hE dX8_crossRow_91 5 rfl ?_
        exact z_sub [0, 1, 2, 3, 4] rfl (hJ_11 _ h)
      · refine z_lload hE dX8_crossRow_85 5 rfl ?_
        refine z_lneg hE dX8_crossRow_87 ?_
        refine z_goto (tgt := 93) hE dX8_crossRow_88 (by decide) ?_
        exact z_sub [0, 1, 2, 3, 4] rfl (hJ_11 _ h)
    refine z_icmp_ge (tgt := 69) hE dX8_crossRow_37 (by decide) h (fun h => ?_) (fun h => ?_)
    · exact z_sub [1, 2, 3, 4, 5, 0] rfl (hJ_8 _ h)
    · refine z_aload_n hE dX8_crossRow_40 rfl 4 rfl ?_
      refine z_iconst (v := 0) hE dX8_crossRow_41 zv_i_0 ?_
      refine z_lald hE dX8_crossRow_42 (h0.2.2.2.2.1 _ (zz_in_lt q_2)) (zin (by decide)) ?_
      refine z_aload_n hE dX8_crossRow_43 rfl 3 rfl ?_
      refine z_iload hE dX8_crossRow_44 5 rfl ?_
      refine z_callS hE dX8_crossRow_46 lS_X8_89 (c_X8_behind _ _ _ (h0.2.2.2.2.1 _ (zz_in_lt q_1)) μ_4 _ h) rfl (Nat.le_of_ble_eq_true rfl) (by decide) rfl (zk_PJ (fun r_14 h => ?_))
      refine z_callS hE dX8_crossRow_49 lS_X8_93 (c_X1_times _ _ μ_4 _ h) rfl (Nat.le_of_ble_eq_true rfl) (by decide) rfl (zk_PJ (fun r_16 h => ?_))
      refine z_aload_n hE dX8_crossRow_52 rfl 3 rfl ?_
      refine z_iconst (v := 0) hE dX8_crossRow_53 zv_i_0 ?_
      refine z_lald hE dX8_crossRow_54 (h0.2.2.2.2.1 _ (zz_in_lt q_1)) (zin (by decide)) ?_
      refine z_aload_n hE dX8_crossRow_55 rfl 4 rfl ?_
      refine z_iload hE dX8_crossRow_56 5 rfl ?_
      refine z_callS hE dX8_crossRow_58 lS_X8_89 (c_X8_behind _ _ _ (h0.2.2.2.2.1 _ (zz_in_lt q_2)) μ_4 _ h) rfl (Nat.le_of_ble_eq_true rfl) (by decide) rfl (zk_PJ (fun r_18 h => ?_))
      refine z_callS hE dX8_crossRow_61 lS_X8_93 (c_X1_times _ _ μ_4 _ h) rfl (Nat.le_of_ble_eq_true rfl) (by decide) rfl (zk_PJ (fun r_20 h => ?_))
      refine z_callS hE dX8_crossRow_64 lS_X8_99 (c_X1_less _ _ μ_4 _ h) rfl (Nat.le_of_ble_eq_true rfl) (by decide) rfl (zk_PJ (fun r_22 h => ?_))
      refine z_lstore (lv' := [(5, .long r_22), (0, .ref t), (1, .int a1), (2, .ref ((t + 4) + (Int32.toNatClampNeg (a1 - (2 : Int32))))), (3, .ref ((t + 4) + (Int32.toNatClampNeg (a1 - (1 : Int32))))), (4, .int v4_3)]) hE dX8_crossRow_67 (by decide) rfl ?_
      exact z_sub [1, 2, 3, 4, 5, 0] rfl (hJ_8 _ h)
set_option maxRecDepth 4000 in
theorem c_X8_mendRow (t : Nat) (a1 : Int32) (h0 : zT_Table t) (μ : ZMem) (Φ : Int32 → ZMem → Prop) (h : w_X8_mendRow t a1 μ Φ) : zM SX yX8_mendRow cX8_mendRow 6 (some FieldType.int) 1 [.ref t, .int a1] μ (zzI Φ) := by
  refine zM_go (own := RX8) rfl (by decide) (Nat.le_of_ble_eq_true rfl) (fun E hE => ?_)
  show zZ E (zzI Φ) 0 [(0, .ref t), (1, .int a1)] [] μ
  unfold w_X8_mendRow at h
  refine z_iconst (v := 0) hE dX8_mendRow_0 zv_i_0 ?_
  refine z_istore_n (lv' := [(2, .int (0 : Int32)), (0, .ref t), (1, .int a1)]) hE dX8_mendRow_1 rfl (by decide) rfl ?_
  refine z_join (P := fun (J_2 : Int32 → Prop) => ∀ (v2_1 : Int32), J_2 v2_1 → zZ E (zzI Φ) 30 [(0, .ref t), (1, .int a1), (2, .int v2_1)] [] μ) h (fun v2_1 h => ?_) (fun J_2 hJ_2 h => ?_)
  · refine z_iload_n hE dX8_mendRow_30 rfl 2 rfl ?_
    refine z_if_ne (tgt := 36) hE dX8_mendRow_31 (by decide) h (fun h => ?_) (fun h => ?_)
    · refine z_iload_n hE dX8_mendRow_36 rfl 2 rfl ?_
      refine z_aload_n hE dX8_mendRow_37 rfl 0 rfl ?_
      refine z_iload_n hE dX8_mendRow_38 rfl 1 rfl ?_
      refine z_callV hE dX8_mendRow_39 lV_X8_86 (c_X8_width _ _ h0 μ _ h) h0.1 rfl (Nat.le_of_ble_eq_true rfl) (by decide) rfl (zk_PI (fun r_3 h => ?_))
      refine z_icmp_ne (tgt := 98) hE dX8_mendRow_42 (by decide) h (fun h => ?_) (fun h => ?_)
      · refine z_iconst (v := 0) hE dX8_mendRow_98 zv_i_0 ?_
        refine z_istore_n (lv' := [(3, .int (0 : Int32)), (0, .ref t), (1, .int a1), (2, .int v2_1)]) hE dX8_mendRow_99 rfl (by decide) rfl ?_
        refine z_sub [1, 2, 3, 0] rfl ?_
        obtain ⟨n100, h⟩ := h
        refine z_loop2 (P := fun (v3_5 : Int32) (μ_6 : ZMem) => zZ E (zzI Φ) 100 [(0, .ref t), (1, .int a1), (2, .int v2_1), (3, .int v3_5)] [] μ_6) (fun k100_6 hk100_6 v3_5 μ_6 h => ?_) n100 _ _ h
        refine z_iload_n hE dX8_mendRow_100 rfl 3 rfl ?_
        refine z_iload_n hE dX8_mendRow_101 rfl 2 rfl ?_
        refine z_iadd hE dX8_mendRow_102 ?_
        refine z_aload_n hE dX8_mendRow_103 rfl 0 rfl ?_
        refine z_iload_n hE dX8_mendRow_104 rfl 1 rfl ?_
        refine z_callV hE dX8_mendRow_105 lV_X8_86 (c_X8_width _ _ h0 μ_6 _ h) h0.1 rfl (Nat.le_of_ble_eq_true rfl) (by decide) rfl (zk_PI (fun r_7 h => ?_))
        refine z_icmp_ge (tgt := 163) hE dX8_mendRow_108 (by decide) h (fun h => ?_) (fun h => ?_)
        · refine z_iconst (v := 1) hE dX8_mendRow_163 zv_i_1 ?_
          exact z_iret (st := []) hE dX8_mendRow_164 rfl ⟨_, rfl, h⟩
        · refine z_aload_n hE dX8_mendRow_111 rfl 0 rfl ?_
          refine z_getR (t := (t + 3)) hE dX8_mendRow_112 lF_X8_20 h0.1 rfl ?_
          refine z_iload_n hE dX8_mendRow_115 rfl 1 rfl ?_
          obtain ⟨q_9, h⟩ := h
          refine z_aald1 hE dX8_mendRow_116 h0.2.2.2.1 (fun _ => rfl) rfl q_9 ?_
          refine z_iload_n hE dX8_mendRow_117 rfl 3 rfl ?_
          refine z_iload_n hE dX8_mendRow_118 rfl 2 rfl ?_
          refine z_iadd hE dX8_mendRow_119 ?_
          obtain ⟨q_10, h⟩ := h
          refine z_lald hE dX8_mendRow_120 (h0.2.2.2.2.1 _ (zz_in_lt q_9)) q_10 ?_
          refine z_lstore (lv' := [(4, .long (μ_6.2 ((t + 4) + (Int32.toNatClampNeg a1)) (Int32.toNatClampNeg (v3_5 + v2_1)))), (0, .ref t), (1, .int a1), (2, .int v2_1), (3, .int v3_5)]) hE dX8_mendRow_121 (by decide) rfl ?_
          refine zn (G := fun v4_11 => zZ E (zzI Φ) 123 [(4, .long v4_11), (0, .ref t), (1, .int a1), (2, .int v2_1), (3, .int v3_5)] [] μ_6) h (fun v4_11 h => ?_)
          refine z_aload_n hE dX8_mendRow_123 rfl 1 rfl ?_
          refine z_getR (t := (t + 3)) hE dX8_mendRow_124 lF_X8_20 h0.1 rfl ?_
          refine z_iload_n hE dX8_mendRow_127 rfl 2 rfl ?_
          obtain ⟨q_12, h⟩ := h
          refine z_aald1 hE dX8_mendRow_128 h0.2.2.2.1 (fun _ => rfl) rfl q_12 ?_
          refine z_iload_n hE dX8_mendRow_129 rfl 4 rfl ?_
          refine z_aload_n hE dX8_mendRow_130 rfl 1 rfl ?_
          refine z_getR (t := (t + 3)) hE dX8_mendRow_131 lF_X8_20 h0.1 rfl ?_
          refine z_iload_n hE dX8_mendRow_134 rfl 2 rfl ?_
          obtain ⟨q_13, h⟩ := h
          refine z_aald1 hE dX8_mendRow_135 h0.2.2.2.1 (fun _ => rfl) rfl q_13 ?_
          refine z_iload_n hE dX8_mendRow_136 rfl 4 rfl ?_
          obtain ⟨q_14, h⟩ := h
          refine z_lald hE dX8_mendRow_137 (h0.2.2.2.2.1 _ (zz_in_lt q_13)) q_14 ?_
          refine z_iload_n hE dX8_mendRow_138 rfl 3 rfl ?_
          refine z_iconst (v := 2) hE dX8_mendRow_139 zv_i_2 ?_
          refine z_irem hE dX8_mendRow_140 (by decide) ?_
          refine z_iconst (v := 1) hE dX8_mendRow_141 zv_i_1 ?_
          refine z_join (P := fun (J_16 : Int64 → Prop) => ∀ (x_15 : Int64), J_16 x_15 → zZ E (zzI Φ) 153 [(0, .ref t), (1, .int a1), (2, .int v2_1), (3, .int v3_5)] [.long x_15, .long (μ_6.2 ((t + 4) + (Int32.toNatClampNeg a1)) (Int32.toNatClampNeg v3_5)), .int v3_5, .ref ((t + 4) + (Int32.toNatClampNeg a1))] μ_6) h (fun x_15 h => ?_) (fun J_16 hJ_16 h => ?_)
          · refine z_callS hE dX8_mendRow_153 lS_X8_102 (c_X1_plus _ _ μ_6 _ h) rfl (Nat.le_of_ble_eq_true rfl) (by decide) rfl (zk_PJ (fun r_17 h => ?_))
            obtain ⟨q_19, h⟩ := h
            refine z_last hE dX8_mendRow_156 (h0.2.2.2.2.1 _ (zz_in_lt q_12)) q_19 ?_
            refine zn (G := fun μ_20 => zZ E (zzI Φ) 157 [(0, .ref t), (1, .int a1), (2, .int v2_1), (3, .int v3_5)] [] μ_20) h (fun μ_20 h => ?_)
            refine z_iinc (j := 3) (c := 1) (lv' := [(3, .int (v3_5 + (1 : Int32))), (0, .ref t), (1, .int a1), (2, .int v2_1)]) hE dX8_mendRow_157 rfl zv_i_1 (by decide) rfl ?_
            refine z_goto (tgt := 100) hE dX8_mendRow_160 (by decide) ?_
            exact z_sub [1, 2, 3, 0] rfl (hk100_6 _ _ h)
          refine z_icmp_ne (tgt := 151) hE dX8_mendRow_142 (by decide) h (fun h => ?_) (fun h => ?_)
          · refine z_lload hE dX8_mendRow_151 0 rfl ?_
            exact z_sub [1, 2, 3, 4] rfl (hJ_16 _ h)
          · refine z_lload hE dX8_mendRow_145 0 rfl ?_
            refine z_lneg hE dX8_mendRow_147 ?_
            refine z_goto (tgt := 153) hE dX8_mendRow_148 (by decide) ?_
            exact z_sub [1, 2, 3, 4] rfl (hJ_16 _ h)
      · refine z_iconst (v := 0) hE dX8_mendRow_45 zv_i_0 ?_
        refine z_istore_n (lv' := [(3, .int (0 : Int32)), (0, .ref t), (1, .int a1), (2, .int v2_1)]) hE dX8_mendRow_46 rfl (by decide) rfl ?_
        refine z_sub [1, 2, 0] rfl ?_
        obtain ⟨n47, h⟩ := h
        refine z_loop2 (P := fun (v3_21 : Int32) (μ_22 : ZMem) => zZ E (zzI Φ) 47 [(0, .ref t), (1, .int a1), (3, .int v3_21)] [] μ_22) (fun k47_22 hk47_22 v3_21 μ_22 h => ?_) n47 _ _ h
        refine z_iload_n hE dX8_mendRow_47 rfl 2 rfl ?_
        refine z_aload_n hE dX8_mendRow_48 rfl 0 rfl ?_
        refine z_iload_n hE dX8_mendRow_49 rfl 1 rfl ?_
        refine z_callV hE dX8_mendRow_50 lV_X8_86 (c_X8_width _ _ h0 μ_22 _ h) h0.1 rfl (Nat.le_of_ble_eq_true rfl) (by decide) rfl (zk_PI (fun r_23 h => ?_))
        refine z_icmp_ge (tgt := 96) hE dX8_mendRow_53 (by decide) h (fun h => ?_) (fun h => ?_)
        · refine z_iconst (v := 2) hE dX8_mendRow_96 zv_i_2 ?_
          exact z_iret (st := []) hE dX8_mendRow_97 rfl ⟨_, rfl, h⟩
        · refine z_aload_n hE dX8_mendRow_56 rfl 0 rfl ?_
          refine z_getR (t := (t + 3)) hE dX8_mendRow_57 lF_X8_20 h0.1 rfl ?_
          refine z_iload_n hE dX8_mendRow_60 rfl 1 rfl ?_
          obtain ⟨q_25, h⟩ := h
          refine z_aald1 hE dX8_mendRow_61 h0.2.2.2.1 (fun _ => rfl) rfl q_25 ?_
          refine z_iload_n hE dX8_mendRow_62 rfl 2 rfl ?_
          refine z_aload_n hE dX8_mendRow_63 rfl 0 rfl ?_
          refine z_getR (t := (t + 3)) hE dX8_mendRow_64 lF_X8_20 h0.1 rfl ?_
          refine z_iload_n hE dX8_mendRow_67 rfl 1 rfl ?_
          refine z_iconst (v := 1) hE dX8_mendRow_68 zv_i_1 ?_
          refine z_isub hE dX8_mendRow_69 ?_
          obtain ⟨q_26, h⟩ := h
          refine z_aald1 hE dX8_mendRow_70 h0.2.2.2.1 (fun _ => rfl) rfl q_26 ?_
          refine z_iload_n hE dX8_mendRow_71 rfl 2 rfl ?_
          obtain ⟨q_27, h⟩ := h
          refine z_lald hE dX8_mendRow_72 (h0.2.2.2.2.1 _ (zz_in_lt q_26)) q_27 ?_
          refine z_aload_n hE dX8_mendRow_73 rfl 0 rfl ?_
          refine z_getI hE dX8_mendRow_74 lF_X8_27 h0.1 rfl ?_
          refine z_iload_n hE dX8_mendRow_77 rfl 1 rfl ?_
          refine z_isub hE dX8_mendRow_78 ?_
          refine z_iconst (v := 1) hE dX8_mendRow_79 zv_i_1 ?_
          refine z_iadd hE dX8_mendRow_80 ?_
          refine z_iconst (v := 2) hE dX8_mendRow_81 zv_i_2 ?_
          refine z_iload_n hE dX8_mendRow_82 rfl 2 rfl ?_
          refine z_imul hE dX8_mendRow_83 ?_
          refine z_isub hE dX8_mendRow_84 ?_
          refine z_i2l hE dX8_mendRow_85 ?_
          refine z_callS hE dX8_mendRow_86 lS_X8_93 (c_X1_times _ _ μ_22 _ h) rfl (Nat.le_of_ble_eq_true rfl) (by decide) rfl (zk_PJ (fun r_28 h => ?_))
          obtain ⟨q_30, h⟩ := h
          refine z_last hE dX8_mendRow_89 (h0.2.2.2.2.1 _ (zz_in_lt q_25)) q_30 ?_
          refine zn (G := fun μ_31 => zZ E (zzI Φ) 90 [(0, .ref t), (1, .int a1), (3, .int v3_21)] [] μ_31) h (fun μ_31 h => ?_)
          refine z_iinc (j := 2) (c := 1) (lv' := [(3, .int (v3_21 + (1 : Int32))), (0, .ref t), (1, .int a1)]) hE dX8_mendRow_90 rfl zv_i_1 (by decide) rfl ?_
          refine z_goto (tgt := 47) hE dX8_mendRow_93 (by decide) ?_
          exact z_sub [1, 2, 0] rfl (hk47_22 _ _ h)
    · refine z_iconst (v := 0) hE dX8_mendRow_34 zv_i_0 ?_
      exact z_iret (st := []) hE dX8_mendRow_35 rfl ⟨_, rfl, h⟩
  refine z_sub [1, 2, 0] rfl ?_
  obtain ⟨n2, h⟩ := h
  refine z_loop1 (P := fun (v2_32 : Int32) => zZ E (zzI Φ) 2 [(0, .ref t), (1, .int a1), (2, .int v2_32)] [] μ) (fun k2_32 hk2_32 v2_32 h => ?_) n2 _ h
  refine z_iload_n hE dX8_mendRow_2 rfl 2 rfl ?_
  refine z_aload_n hE dX8_mendRow_3 rfl 0 rfl ?_
  refine z_iload_n hE dX8_mendRow_4 rfl 1 rfl ?_
  refine z_callV hE dX8_mendRow_5 lV_X8_86 (c_X8_width _ _ h0 μ _ h) h0.1 rfl (Nat.le_of_ble_eq_true rfl) (by decide) rfl (zk_PI (fun r_33 h => ?_))
  refine z_icmp_ge (tgt := 30) hE dX8_mendRow_8 (by decide) h (fun h => ?_) (fun h => ?_)
  · exact hJ_2 _ h
  · refine z_aload_n hE dX8_mendRow_11 rfl 0 rfl ?_
    refine z_getR (t := (t + 3)) hE dX8_mendRow_12 lF_X8_20 h0.1 rfl ?_
    refine z_iload_n hE dX8_mendRow_15 rfl 1 rfl ?_
    obtain ⟨q_35, h⟩ := h
    refine z_aald1 hE dX8_mendRow_16 h0.2.2.2.1 (fun _ => rfl) rfl q_35 ?_
    refine z_iload_n hE dX8_mendRow_17 rfl 2 rfl ?_
    obtain ⟨q_36, h⟩ := h
    refine z_lald hE dX8_mendRow_18 (h0.2.2.2.2.1 _ (zz_in_lt q_35)) q_36 ?_
    refine z_lconst (v := 0) hE dX8_mendRow_19 zv_l_0 ?_
    refine z_ljmp_ne (tgt := 30) hE dX8_mendRow_20 dX8_mendRow_21 (by decide) h (fun h => ?_) (fun h => ?_)
    · exact hJ_2 _ h
    · refine z_iinc (j := 2) (c := 1) (lv' := [(2, .int (v2_32 + (1 : Int32))), (0, .ref t), (1, .int a1)]) hE dX8_mendRow_24 rfl zv_i_1 (by decide) rfl ?_
      refine z_goto (tgt := 2) hE dX8_mendRow_27 (by decide) ?_
      exact z_sub [1, 2, 0] rfl (hk2_32 _ h)
set_option maxRecDepth 4000 in
theorem c_X8_rightCount (t : Nat) (h0 : zT_Table t) (μ : ZMem) (Φ : Int32 → Prop) (h : w_X8_rightCount t μ Φ) : zM SX yX8_rightCount cX8_rightCount 1 (some FieldType.int) 1 [.ref t] μ (zzPI Φ μ) := by
  refine zM_go (own := RX8) rfl (by decide) (Nat.le_of_ble_eq_true rfl) (fun E hE => ?_)
  show zZ E (zzPI Φ μ) 0 [(0, .ref t)] [] μ
  unfold w_X8_rightCount at h
  refine z_aload_n hE dX8_rightCount_0 rfl 0 rfl ?_
  refine z_iconst (v := 0) hE dX8_rightCount_1 zv_i_0 ?_
  refine z_aload_n hE dX8_rightCount_2 rfl 0 rfl ?_
  refine z_getI hE dX8_rightCount_3 lF_X8_27 h0.1 rfl ?_
  refine z_callV hE dX8_rightCount_6 lV_X8_105 (c_X8_signChanges _ _ _ h0 μ _ h) h0.1 rfl (Nat.le_of_ble_eq_true rfl) (by decide) rfl (zk_PI (fun r_1 h => ?_))
  exact z_iret (st := []) hE dX8_rightCount_9 rfl ⟨_, rfl, rfl, h⟩
set_option maxRecDepth 4000 in
theorem c_X9_expect (a1 : Int32) (μ : ZMem) (Φ : ZMem → Prop) (h : w_X9_expect a1 μ Φ) : zM SX yX9_expect cX9_expect 2 (none) 1 [.ref 23, .int a1] μ (zzV Φ) := by
  refine zM_go (own := RX9) rfl (by decide) (Nat.le_of_ble_eq_true rfl) (fun E hE => ?_)
  show zZ E (zzV Φ) 0 [(0, .ref 23), (1, .int a1)] [] μ
  unfold w_X9_expect at h
  refine z_aload_n hE dX9_expect_0 rfl 0 rfl ?_
  refine z_aload_n hE dX9_expect_1 rfl 0 rfl ?_
  refine z_getI hE dX9_expect_2 lF_X9_32 sX_23 rfl ?_
  refine z_callV hE dX9_expect_5 lV_X9_50 (c_X9_letterAt _ μ _ h) sX_23 rfl (Nat.le_of_ble_eq_true rfl) (by decide) rfl (zk_PI (fun r_1 h => ?_))
  refine z_iload_n hE dX9_expect_8 rfl 1 rfl ?_
  refine z_icmp_ne (tgt := 25) hE dX9_expect_9 (by decide) h (fun h => ?_) (fun h => ?_)
  · refine z_aload_n hE dX9_expect_25 rfl 0 rfl ?_
    refine z_aload_n hE dX9_expect_26 rfl 0 rfl ?_
    refine z_getI hE dX9_expect_27 lF_X9_32 sX_23 rfl ?_
    refine z_put hE dX9_expect_30 lF_X9_29 sX_23 rfl rfl rfl ?_
    refine zn (G := fun μ_3 => zZ E (zzV Φ) 33 [(0, .ref 23), (1, .int a1)] [] μ_3) h (fun μ_3 h => ?_)
    exact z_vret (st := []) hE dX9_expect_33 rfl ⟨rfl, h⟩
  · refine z_aload_n hE dX9_expect_12 rfl 0 rfl ?_
    refine z_dup hE dX9_expect_13 rfl ?_
    refine z_getI hE dX9_expect_14 lF_X9_32 sX_23 rfl ?_
    refine z_iconst (v := 1) hE dX9_expect_17 zv_i_1 ?_
    refine z_iadd hE dX9_expect_18 ?_
    refine z_put hE dX9_expect_19 lF_X9_32 sX_23 rfl rfl rfl ?_
    refine zn (G := fun μ_4 => zZ E (zzV Φ) 22 [(0, .ref 23), (1, .int a1)] [] μ_4) h (fun μ_4 h => ?_)
    refine z_goto (tgt := 33) hE dX9_expect_22 (by decide) ?_
    exact z_vret (st := []) hE dX9_expect_33 rfl ⟨rfl, h⟩
set_option maxRecDepth 4000 in
theorem c_X9_signAt (a1 : Int32) (μ : ZMem) (Φ : Int32 → Prop) (h : w_X9_signAt a1 μ Φ) : zM SX yX9_signAt cX9_signAt 3 (some FieldType.int) 1 [.ref 23, .int a1] μ (zzPI Φ μ) := by
  refine zM_go (own := RX9) rfl (by decide) (Nat.le_of_ble_eq_true rfl) (fun E hE => ?_)
  show zZ E (zzPI Φ μ) 0 [(0, .ref 23), (1, .int a1)] [] μ
  unfold w_X9_signAt at h
  refine z_aload_n hE dX9_signAt_0 rfl 0 rfl ?_
  refine z_iload_n hE dX9_signAt_1 rfl 1 rfl ?_
  refine z_callV hE dX9_signAt_2 lV_X9_50 (c_X9_letterAt _ μ _ h) sX_23 rfl (Nat.le_of_ble_eq_true rfl) (by decide) rfl (zk_PI (fun r_1 h => ?_))
  refine z_istore_n (lv' := [(2, .int r_1), (0, .ref 23), (1, .int a1)]) hE dX9_signAt_5 rfl (by decide) rfl ?_
  refine z_iload_n hE dX9_signAt_6 rfl 0 rfl ?_
  refine z_bipush (v := 43) hE dX9_signAt_7 zv_b_43 ?_
  refine z_icmp_ne (tgt := 14) hE dX9_signAt_9 (by decide) h (fun h => ?_) (fun h => ?_)
  · refine z_iload_n hE dX9_signAt_14 rfl 0 rfl ?_
    refine z_bipush (v := 45) hE dX9_signAt_15 zv_b_45 ?_
    refine z_icmp_ne (tgt := 24) hE dX9_signAt_17 (by decide) h (fun h => ?_) (fun h => ?_)
    · refine z_iconst (v := 0) hE dX9_signAt_24 zv_i_0 ?_
      exact z_iret (st := []) hE dX9_signAt_25 rfl ⟨_, rfl, rfl, h⟩
    · refine z_iconst (v := -1) hE dX9_signAt_20 zv_i_m1 ?_
      refine z_goto (tgt := 25) hE dX9_signAt_21 (by decide) ?_
      exact z_iret (st := []) hE dX9_signAt_25 rfl ⟨_, rfl, rfl, h⟩
  · refine z_iconst (v := 1) hE dX9_signAt_12 zv_i_1 ?_
    exact z_iret (st := []) hE dX9_signAt_13 rfl ⟨_, rfl, rfl, h⟩
set_option maxRecDepth 4000 in
theorem c_X9_takeNumber  (μ : ZMem) (Φ : Int32 → ZMem → Prop) (h : w_X9_takeNumber μ Φ) : zM SX yX9_takeNumber cX9_takeNumber 4 (some FieldType.int) 1 [.ref 23] μ (zzI Φ) := by
  refine zM_go (own := RX9) rfl (by decide) (Nat.le_of_ble_eq_true rfl) (fun E hE => ?_)
  show zZ E (zzI Φ) 0 [(0, .ref 23)] [] μ
  unfold w_X9_takeNumber at h
  refine z_iconst (v := 0) hE dX9_takeNumber_0 zv_i_0 ?_
  refine z_istore_n (lv' := [(1, .int (0 : Int32)), (0, .ref 23)]) hE dX9_takeNumber_1 rfl (by decide) rfl ?_
  refine z_iconst (v := 0) hE dX9_takeNumber_2 zv_i_0 ?_
  refine z_istore_n (lv' := [(2, .int (0 : Int32)), (1, .int (0 : Int32)), (0, .ref 23)]) hE dX9_takeNumber_3 rfl (by decide) rfl ?_
  refine z_sub [2, 1, 0] rfl ?_
  obtain ⟨n4, h⟩ := h
  refine z_loop3 (P := fun (v1_1 : Int32) (v2_2 : Int32) (μ_3 : ZMem) => zZ E (zzI Φ) 4 [(0, .ref 23), (1, .int v1_1), (2, .int v2_2)] [] μ_3) (fun k4_3 hk4_3 v1_1 v2_2 μ_3 h => ?_) n4 _ _ _ h
  refine z_iload_n hE dX9_takeNumber_4 rfl 2 rfl ?_
  refine z_iconst (v := 2) hE dX9_takeNumber_5 zv_i_2 ?_
  refine z_icmp_ge (tgt := 58) hE dX9_takeNumber_6 (by decide) h (fun h => ?_) (fun h => ?_)
  · refine z_iload_n hE dX9_takeNumber_58 rfl 1 rfl ?_
    exact z_iret (st := []) hE dX9_takeNumber_59 rfl ⟨_, rfl, h⟩
  · refine z_aload_n hE dX9_takeNumber_9 rfl 0 rfl ?_
    refine z_aload_n hE dX9_takeNumber_10 rfl 0 rfl ?_
    refine z_getI hE dX9_takeNumber_11 lF_X9_32 sX_23 rfl ?_
    refine z_callV hE dX9_takeNumber_14 lV_X9_50 (c_X9_letterAt _ μ_3 _ h) sX_23 rfl (Nat.le_of_ble_eq_true rfl) (by decide) rfl (zk_PI (fun r_4 h => ?_))
    refine z_istore_n (lv' := [(3, .int r_4), (0, .ref 23), (1, .int v1_1), (2, .int v2_2)]) hE dX9_takeNumber_17 rfl (by decide) rfl ?_
    refine z_iload_n hE dX9_takeNumber_18 rfl 0 rfl ?_
    refine z_bipush (v := 48) hE dX9_takeNumber_19 zv_b_48 ?_
    refine z_icmp_lt (tgt := 30) hE dX9_takeNumber_21 (by decide) h (fun h => ?_) (fun h => ?_)
    · refine z_iload_n hE dX9_takeNumber_30 rfl 2 rfl ?_
      exact z_iret (st := []) hE dX9_takeNumber_31 rfl ⟨_, rfl, h⟩
    · refine z_iload_n hE dX9_takeNumber_24 rfl 0 rfl ?_
      refine z_bipush (v := 57) hE dX9_takeNumber_25 zv_b_57 ?_
      refine z_icmp_le (tgt := 32) hE dX9_takeNumber_27 (by decide) h (fun h => ?_) (fun h => ?_)
      · refine z_bipush (v := 10) hE dX9_takeNumber_32 zv_b_10 ?_
        refine z_iload_n hE dX9_takeNumber_34 rfl 2 rfl ?_
        refine z_imul hE dX9_takeNumber_35 ?_
        refine z_iload_n hE dX9_takeNumber_36 rfl 0 rfl ?_
        refine z_iadd hE dX9_takeNumber_37 ?_
        refine z_bipush (v := 48) hE dX9_takeNumber_38 zv_b_48 ?_
        refine z_isub hE dX9_takeNumber_40 ?_
        refine z_istore_n (lv' := [(1, .int ((((10 : Int32) * v1_1) + r_4) - (48 : Int32))), (3, .int r_4), (0, .ref 23), (2, .int v2_2)]) hE dX9_takeNumber_41 rfl (by decide) rfl ?_
        refine zn (G := fun v1_6 => zZ E (zzI Φ) 42 [(1, .int v1_6), (3, .int r_4), (0, .ref 23), (2, .int v2_2)] [] μ_3) h (fun v1_6 h => ?_)
        refine z_aload_n hE dX9_takeNumber_42 rfl 2 rfl ?_
        refine z_dup hE dX9_takeNumber_43 rfl ?_
        refine z_getI hE dX9_takeNumber_44 lF_X9_32 sX_23 rfl ?_
        refine z_iconst (v := 1) hE dX9_takeNumber_47 zv_i_1 ?_
        refine z_iadd hE dX9_takeNumber_48 ?_
        refine z_put hE dX9_takeNumber_49 lF_X9_32 sX_23 rfl rfl rfl ?_
        refine zn (G := fun μ_7 => zZ E (zzI Φ) 52 [(1, .int v1_6), (3, .int r_4), (0, .ref 23), (2, .int v2_2)] [] μ_7) h (fun μ_7 h => ?_)
        refine z_iinc (j := 3) (c := 1) (lv' := [(2, .int (v2_2 + (1 : Int32))), (1, .int v1_6), (3, .int r_4), (0, .ref 23)]) hE dX9_takeNumber_52 rfl zv_i_1 (by decide) rfl ?_
        refine z_goto (tgt := 4) hE dX9_takeNumber_55 (by decide) ?_
        exact z_sub [3, 1, 0] rfl (hk4_3 _ _ _ h)
      · refine z_iload_n hE dX9_takeNumber_30 rfl 2 rfl ?_
        exact z_iret (st := []) hE dX9_takeNumber_31 rfl ⟨_, rfl, h⟩
