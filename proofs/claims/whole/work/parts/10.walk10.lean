set_option maxRecDepth 4000 in
theorem c_X12_laysRowsOf (a1 : Int32) (μ : ZMem) (Φ : ZMem → Prop) (h : w_X12_laysRowsOf a1 μ Φ) : zM SM yX12_laysRowsOf cX12_laysRowsOf 2 (none) 4 [.ref 0, .int a1] μ (zzV Φ) := by
  refine zM_go (own := RX12) rfl (by decide) (Nat.le_of_ble_eq_true rfl) (fun E hE => ?_)
  show zZ E (zzV Φ) 0 [(0, .ref 0), (1, .int a1)] [] μ
  unfold w_X12_laysRowsOf at h
  refine z_aload_n hE dX12_laysRowsOf_0 rfl 0 rfl ?_
  refine z_iload_n hE dX12_laysRowsOf_1 rfl 1 rfl ?_
  refine z_callV hE dX12_laysRowsOf_2 lV_X12_133 (c_X12_laysForm _ μ _ h) sM_0 rfl (Nat.le_of_ble_eq_true rfl) (by decide) rfl (zk_V (fun μ_2 h => ?_))
  refine z_aload_n hE dX12_laysRowsOf_5 rfl 0 rfl ?_
  refine z_callV hE dX12_laysRowsOf_6 lV_X12_170 (c_X12_laysRows  μ_2 _ h) sM_0 rfl (Nat.le_of_ble_eq_true rfl) (by decide) rfl (zk_V (fun μ_4 h => ?_))
  exact z_vret (st := []) hE dX12_laysRowsOf_9 rfl ⟨rfl, h⟩
set_option maxRecDepth 4000 in
theorem c_X12_read  (μ : ZMem) (Φ : Int32 → ZMem → Prop) (h : w_X12_read μ Φ) : zM SM yX12_read cX12_read 3 (some FieldType.int) 4 [.ref 0] μ (zzI Φ) := by
  refine zM_go (own := RX12) rfl (by decide) (Nat.le_of_ble_eq_true rfl) (fun E hE => ?_)
  show zZ E (zzI Φ) 0 [(0, .ref 0)] [] μ
  unfold w_X12_read at h
  refine z_aload_n hE dX12_read_0 rfl 0 rfl ?_
  refine z_iconst (v := 0) hE dX12_read_1 zv_i_0 ?_
  refine z_put hE dX12_read_2 lF_X12_256 sM_0 rfl rfl rfl ?_
  refine zn (G := fun μ_1 => zZ E (zzI Φ) 5 [(0, .ref 0)] [] μ_1) h (fun μ_1 h => ?_)
  refine z_aload_n hE dX12_read_5 rfl 0 rfl ?_
  refine z_iconst (v := -1) hE dX12_read_6 zv_i_m1 ?_
  refine z_put hE dX12_read_7 lF_X12_269 sM_0 rfl rfl rfl ?_
  refine zn (G := fun μ_2 => zZ E (zzI Φ) 10 [(0, .ref 0)] [] μ_2) h (fun μ_2 h => ?_)
  refine z_aload_n hE dX12_read_10 rfl 0 rfl ?_
  refine z_iconst (v := 0) hE dX12_read_11 zv_i_0 ?_
  refine z_put hE dX12_read_12 lF_X12_276 sM_0 rfl rfl rfl ?_
  refine zn (G := fun μ_3 => zZ E (zzI Φ) 15 [(0, .ref 0)] [] μ_3) h (fun μ_3 h => ?_)
  refine z_iconst (v := 0) hE dX12_read_15 zv_i_0 ?_
  refine z_istore_n (lv' := [(1, .int (0 : Int32)), (0, .ref 0)]) hE dX12_read_16 rfl (by decide) rfl ?_
  refine z_join (P := fun (J_5 : ZMem → Prop) => ∀ (μ_4 : ZMem), J_5 μ_4 → zZ E (zzI Φ) 36 [(0, .ref 0)] [] μ_4) h (fun μ_4 h => ?_) (fun J_5 hJ_5 h => ?_)
  · refine z_aload_n hE dX12_read_36 rfl 0 rfl ?_
    refine z_iconst (v := 0) hE dX12_read_37 zv_i_0 ?_
    refine z_callV hE dX12_read_38 lV_X12_286 (c_X12_terms _ μ_4 _ h) sM_0 rfl (Nat.le_of_ble_eq_true rfl) (by decide) rfl (zk_V (fun μ_7 h => ?_))
    refine z_aload_n hE dX12_read_41 rfl 0 rfl ?_
    refine z_callV hE dX12_read_42 lV_X12_259 (c_X12_here  μ_7 _ h) sM_0 rfl (Nat.le_of_ble_eq_true rfl) (by decide) rfl (zk_PI (fun r_8 h => ?_))
    refine z_bipush (v := 45) hE dX12_read_45 zv_b_45 ?_
    refine z_join (P := fun (J_11 : Int32 → Prop) => ∀ (x_10 : Int32), J_11 x_10 → zZ E (zzI Φ) 55 [(0, .ref 0)] [.int x_10] μ_7) h (fun x_10 h => ?_) (fun J_11 hJ_11 h => ?_)
    · refine z_istore_n (lv' := [(1, .int x_10), (0, .ref 0)]) hE dX12_read_55 rfl (by decide) rfl ?_
      refine z_aload_n hE dX12_read_56 rfl 1 rfl ?_
      refine z_getI hE dX12_read_57 lF_X12_269 sM_0 rfl ?_
      refine z_join (P := fun (J_13 : ZMem → Prop) => ∀ (μ_12 : ZMem), J_13 μ_12 → zZ E (zzI Φ) 104 [(0, .ref 0), (1, .int x_10)] [] μ_12) h (fun μ_12 h => ?_) (fun J_13 hJ_13 h => ?_)
      · refine z_aload_n hE dX12_read_104 rfl 0 rfl ?_
        refine z_getI hE dX12_read_105 lF_X12_269 sM_0 rfl ?_
        refine z_join (P := fun (J_15 : ZMem → Prop) => ∀ (μ_14 : ZMem), J_15 μ_14 → zZ E (zzI Φ) 130 [(0, .ref 0), (1, .int x_10)] [] μ_14) h (fun μ_14 h => ?_) (fun J_15 hJ_15 h => ?_)
        · refine z_aload_n hE dX12_read_130 rfl 0 rfl ?_
          refine z_iconst (v := 0) hE dX12_read_131 zv_i_0 ?_
          refine z_put hE dX12_read_132 lF_X12_253 sM_0 rfl rfl rfl ?_
          refine zn (G := fun μ_16 => zZ E (zzI Φ) 135 [(0, .ref 0), (1, .int x_10)] [] μ_16) h (fun μ_16 h => ?_)
          refine z_aload_n hE dX12_read_135 rfl 0 rfl ?_
          refine z_getI hE dX12_read_136 lF_X12_269 sM_0 rfl ?_
          refine z_if_lt (tgt := 150) hE dX12_read_139 (by decide) h (fun h => ?_) (fun h => ?_)
          · refine z_iconst (v := 0) hE dX12_read_150 zv_i_0 ?_
            refine z_istore_n (lv' := [(2, .int (0 : Int32)), (0, .ref 0), (1, .int x_10)]) hE dX12_read_151 rfl (by decide) rfl ?_
            refine z_join (P := fun (J_18 : ZMem → Prop) => ∀ (μ_17 : ZMem), J_18 μ_17 → zZ E (zzI Φ) 213 [(0, .ref 0)] [] μ_17) h (fun μ_17 h => ?_) (fun J_18 hJ_18 h => ?_)
            · refine z_aload_n hE dX12_read_213 rfl 0 rfl ?_
              refine z_dup hE dX12_read_214 rfl ?_
              refine z_getI hE dX12_read_215 lF_X12_291 sM_0 rfl ?_
              refine z_iconst (v := 1) hE dX12_read_218 zv_i_1 ?_
              refine z_iadd hE dX12_read_219 ?_
              refine z_put hE dX12_read_220 lF_X12_291 sM_0 rfl rfl rfl ?_
              refine zn (G := fun μ_19 => zZ E (zzI Φ) 223 [(0, .ref 0)] [] μ_19) h (fun μ_19 h => ?_)
              refine z_aload_n hE dX12_read_223 rfl 0 rfl ?_
              refine z_getI hE dX12_read_224 lF_X12_276 sM_0 rfl ?_
              exact z_iret (st := []) hE dX12_read_227 rfl ⟨_, rfl, h⟩
            refine z_sub [1, 2, 0] rfl ?_
            obtain ⟨n152, h⟩ := h
            refine z_loop2 (P := fun (v2_20 : Int32) (μ_21 : ZMem) => zZ E (zzI Φ) 152 [(0, .ref 0), (1, .int x_10), (2, .int v2_20)] [] μ_21) (fun k152_21 hk152_21 v2_20 μ_21 h => ?_) n152 _ _ h
            refine z_iload_n hE dX12_read_152 rfl 2 rfl ?_
            refine z_bipush (v := 7) hE dX12_read_153 zv_b_7 ?_
            refine z_icmp_ge (tgt := 213) hE dX12_read_155 (by decide) h (fun h => ?_) (fun h => ?_)
            · exact z_sub [0] rfl (hJ_18 _ h)
            · refine z_aload_n hE dX12_read_158 rfl 0 rfl ?_
              refine z_getR (t := 1) hE dX12_read_159 lF_X12_11 sM_0 rfl ?_
              refine z_iconst (v := 0) hE dX12_read_162 zv_i_0 ?_
              refine z_iload_n hE dX12_read_163 rfl 2 rfl ?_
              refine z_iadd hE dX12_read_164 ?_
              refine z_aload_n hE dX12_read_165 rfl 0 rfl ?_
              refine z_getR (t := 14) hE dX12_read_166 lF_X12_52 sM_0 rfl ?_
              refine z_iload_n hE dX12_read_169 rfl 2 rfl ?_
              obtain ⟨q_22, h⟩ := h
              refine z_iald hE dX12_read_170 sM_14 q_22 ?_
              obtain ⟨q_23, h⟩ := h
              refine z_iast hE dX12_read_171 sM_1 q_23 ?_
              refine zn (G := fun μ_24 => zZ E (zzI Φ) 172 [(0, .ref 0), (1, .int x_10), (2, .int v2_20)] [] μ_24) h (fun μ_24 h => ?_)
              refine z_aload_n hE dX12_read_172 rfl 0 rfl ?_
              refine z_getR (t := 1) hE dX12_read_173 lF_X12_11 sM_0 rfl ?_
              refine z_bipush (v := 7) hE dX12_read_176 zv_b_7 ?_
              refine z_iload_n hE dX12_read_178 rfl 2 rfl ?_
              refine z_iadd hE dX12_read_179 ?_
              refine z_iload_n hE dX12_read_180 rfl 1 rfl ?_
              refine z_join (P := fun (J_26 : Int32 → Prop) => ∀ (x_25 : Int32), J_26 x_25 → zZ E (zzI Φ) 206 [(0, .ref 0), (1, .int x_10), (2, .int v2_20)] [.int x_25, .int ((7 : Int32) + v2_20), .ref 1] μ_24) h (fun x_25 h => ?_) (fun J_26 hJ_26 h => ?_)
              · obtain ⟨q_27, h⟩ := h
                refine z_iast hE dX12_read_206 sM_1 q_27 ?_
                refine zn (G := fun μ_28 => zZ E (zzI Φ) 207 [(0, .ref 0), (1, .int x_10), (2, .int v2_20)] [] μ_28) h (fun μ_28 h => ?_)
                refine z_iinc (j := 2) (c := 1) (lv' := [(2, .int (v2_20 + (1 : Int32))), (0, .ref 0), (1, .int x_10)]) hE dX12_read_207 rfl zv_i_1 (by decide) rfl ?_
                refine z_goto (tgt := 152) hE dX12_read_210 (by decide) ?_
                exact z_sub [1, 2, 0] rfl (hk152_21 _ _ h)
              refine z_if_eq (tgt := 197) hE dX12_read_181 (by decide) h (fun h => ?_) (fun h => ?_)
              · refine z_aload_n hE dX12_read_197 rfl 0 rfl ?_
                refine z_getR (t := 14) hE dX12_read_198 lF_X12_52 sM_0 rfl ?_
                refine z_bipush (v := 7) hE dX12_read_201 zv_b_7 ?_
                refine z_iload_n hE dX12_read_203 rfl 2 rfl ?_
                refine z_iadd hE dX12_read_204 ?_
                obtain ⟨q_29, h⟩ := h
                refine z_iald hE dX12_read_205 sM_14 q_29 ?_
                exact hJ_26 _ h
              · refine z_aload_n hE dX12_read_184 rfl 0 rfl ?_
                refine z_getR (t := 14) hE dX12_read_185 lF_X12_52 sM_0 rfl ?_
                refine z_bipush (v := 7) hE dX12_read_188 zv_b_7 ?_
                refine z_iload_n hE dX12_read_190 rfl 2 rfl ?_
                refine z_iadd hE dX12_read_191 ?_
                obtain ⟨q_30, h⟩ := h
                refine z_iald hE dX12_read_192 sM_14 q_30 ?_
                refine z_ineg hE dX12_read_193 ?_
                refine z_goto (tgt := 206) hE dX12_read_194 (by decide) ?_
                exact hJ_26 _ h
          · refine z_bipush (v := -100) hE dX12_read_142 zv_b_m100 ?_
            refine z_aload_n hE dX12_read_144 rfl 0 rfl ?_
            refine z_getI hE dX12_read_145 lF_X12_269 sM_0 rfl ?_
            refine z_isub hE dX12_read_148 ?_
            exact z_iret (st := []) hE dX12_read_149 rfl ⟨_, rfl, h⟩
        refine z_if_ge (tgt := 130) hE dX12_read_108 (by decide) h (fun h => ?_) (fun h => ?_)
        · exact hJ_15 _ h
        · refine z_aload_n hE dX12_read_111 rfl 0 rfl ?_
          refine z_getI hE dX12_read_112 lF_X12_256 sM_0 rfl ?_
          refine z_aload_n hE dX12_read_115 rfl 0 rfl ?_
          refine z_getI hE dX12_read_116 lF_X12_253 sM_0 rfl ?_
          refine z_icmp_ge (tgt := 130) hE dX12_read_119 (by decide) h (fun h => ?_) (fun h => ?_)
          · exact hJ_15 _ h
          · refine z_aload_n hE dX12_read_122 rfl 0 rfl ?_
            refine z_aload_n hE dX12_read_123 rfl 0 rfl ?_
            refine z_getI hE dX12_read_124 lF_X12_256 sM_0 rfl ?_
            refine z_put hE dX12_read_127 lF_X12_269 sM_0 rfl rfl rfl ?_
            refine zn (G := fun μ_31 => zZ E (zzI Φ) 130 [(0, .ref 0), (1, .int x_10)] [] μ_31) h (fun μ_31 h => ?_)
            exact hJ_15 _ h
      refine z_if_ge (tgt := 104) hE dX12_read_60 (by decide) h (fun h => ?_) (fun h => ?_)
      · exact z_sub [1, 0] rfl (hJ_13 _ h)
      · refine z_aload_n hE dX12_read_63 rfl 1 rfl ?_
        refine z_callV hE dX12_read_64 lV_X12_283 (c_X12_isSign  μ_7 _ h) sM_0 rfl (Nat.le_of_ble_eq_true rfl) (by decide) rfl (zk_PI (fun r_32 h => ?_))
        refine z_if_eq (tgt := 104) hE dX12_read_67 (by decide) h (fun h => ?_) (fun h => ?_)
        · exact z_sub [1, 0] rfl (hJ_13 _ h)
        · refine z_aload_n hE dX12_read_70 rfl 1 rfl ?_
          refine z_dup hE dX12_read_71 rfl ?_
          refine z_getI hE dX12_read_72 lF_X12_256 sM_0 rfl ?_
          refine z_iconst (v := 2) hE dX12_read_75 zv_i_2 ?_
          refine z_iadd hE dX12_read_76 ?_
          refine z_put hE dX12_read_77 lF_X12_256 sM_0 rfl rfl rfl ?_
          refine zn (G := fun μ_34 => zZ E (zzI Φ) 80 [(1, .int x_10), (0, .ref 0)] [] μ_34) h (fun μ_34 h => ?_)
          refine z_aload_n hE dX12_read_80 rfl 1 rfl ?_
          refine z_bipush (v := 40) hE dX12_read_81 zv_b_40 ?_
          refine z_callV hE dX12_read_83 lV_X12_288 (c_X12_must _ μ_34 _ h) sM_0 rfl (Nat.le_of_ble_eq_true rfl) (by decide) rfl (zk_V (fun μ_36 h => ?_))
          refine z_aload_n hE dX12_read_86 rfl 1 rfl ?_
          refine z_getI hE dX12_read_87 lF_X12_269 sM_0 rfl ?_
          refine z_join (P := fun (J_38 : ZMem → Prop) => ∀ (μ_37 : ZMem), J_38 μ_37 → zZ E (zzI Φ) 98 [(0, .ref 0), (1, .int x_10)] [] μ_37) h (fun μ_37 h => ?_) (fun J_38 hJ_38 h => ?_)
          · refine z_aload_n hE dX12_read_98 rfl 0 rfl ?_
            refine z_bipush (v := 41) hE dX12_read_99 zv_b_41 ?_
            refine z_callV hE dX12_read_101 lV_X12_288 (c_X12_must _ μ_37 _ h) sM_0 rfl (Nat.le_of_ble_eq_true rfl) (by decide) rfl (zk_V (fun μ_40 h => ?_))
            exact hJ_13 _ h
          refine z_if_ge (tgt := 98) hE dX12_read_90 (by decide) h (fun h => ?_) (fun h => ?_)
          · exact z_sub [1, 0] rfl (hJ_38 _ h)
          · refine z_aload_n hE dX12_read_93 rfl 1 rfl ?_
            refine z_iconst (v := 1) hE dX12_read_94 zv_i_1 ?_
            refine z_callV hE dX12_read_95 lV_X12_286 (c_X12_terms _ μ_36 _ h) sM_0 rfl (Nat.le_of_ble_eq_true rfl) (by decide) rfl (zk_V (fun μ_42 h => ?_))
            exact z_sub [1, 0] rfl (hJ_38 _ h)
    refine z_icmp_ne (tgt := 54) hE dX12_read_47 (by decide) h (fun h => ?_) (fun h => ?_)
    · refine z_iconst (v := 0) hE dX12_read_54 zv_i_0 ?_
      exact hJ_11 _ h
    · refine z_iconst (v := 1) hE dX12_read_50 zv_i_1 ?_
      refine z_goto (tgt := 55) hE dX12_read_51 (by decide) ?_
      exact hJ_11 _ h
  refine z_sub [1, 0] rfl ?_
  obtain ⟨n17, h⟩ := h
  refine z_loop2 (P := fun (v1_43 : Int32) (μ_44 : ZMem) => zZ E (zzI Φ) 17 [(0, .ref 0), (1, .int v1_43)] [] μ_44) (fun k17_44 hk17_44 v1_43 μ_44 h => ?_) n17 _ _ h
  refine z_iload_n hE dX12_read_17 rfl 1 rfl ?_
  refine z_bipush (v := 14) hE dX12_read_18 zv_b_14 ?_
  refine z_icmp_ge (tgt := 36) hE dX12_read_20 (by decide) h (fun h => ?_) (fun h => ?_)
  · exact z_sub [0] rfl (hJ_5 _ h)
  · refine z_aload_n hE dX12_read_23 rfl 0 rfl ?_
    refine z_getR (t := 14) hE dX12_read_24 lF_X12_52 sM_0 rfl ?_
    refine z_iload_n hE dX12_read_27 rfl 1 rfl ?_
    refine z_iconst (v := 0) hE dX12_read_28 zv_i_0 ?_
    obtain ⟨q_45, h⟩ := h
    refine z_iast hE dX12_read_29 sM_14 q_45 ?_
    refine zn (G := fun μ_46 => zZ E (zzI Φ) 30 [(0, .ref 0), (1, .int v1_43)] [] μ_46) h (fun μ_46 h => ?_)
    refine z_iinc (j := 1) (c := 1) (lv' := [(1, .int (v1_43 + (1 : Int32))), (0, .ref 0)]) hE dX12_read_30 rfl zv_i_1 (by decide) rfl ?_
    refine z_goto (tgt := 17) hE dX12_read_33 (by decide) ?_
    exact z_sub [1, 0] rfl (hk17_44 _ _ h)
set_option maxRecDepth 4000 in
theorem c_X12_rightsAt (a1 : Int32) (μ : ZMem) (Φ : Int32 → ZMem → Prop) (h : w_X12_rightsAt a1 μ Φ) : zM SM yX12_rightsAt cX12_rightsAt 2 (some FieldType.int) 4 [.ref 0, .int a1] μ (zzI Φ) := by
  refine zM_go (own := RX12) rfl (by decide) (Nat.le_of_ble_eq_true rfl) (fun E hE => ?_)
  show zZ E (zzI Φ) 0 [(0, .ref 0), (1, .int a1)] [] μ
  unfold w_X12_rightsAt at h
  refine z_aload_n hE dX12_rightsAt_0 rfl 0 rfl ?_
  refine z_iconst (v := 1) hE dX12_rightsAt_1 zv_i_1 ?_
  refine z_iload_n hE dX12_rightsAt_2 rfl 1 rfl ?_
  refine z_callV hE dX12_rightsAt_3 lV_X12_97 (c_X12_takes _ _ μ _ h) sM_0 rfl (Nat.le_of_ble_eq_true rfl) (by decide) rfl (zk_V (fun μ_2 h => ?_))
  refine z_aload_n hE dX12_rightsAt_6 rfl 0 rfl ?_
  refine z_iconst (v := 0) hE dX12_rightsAt_7 zv_i_0 ?_
  refine z_callV hE dX12_rightsAt_8 lV_X12_127 (c_X12_forms _ μ_2 _ h) sM_0 rfl (Nat.le_of_ble_eq_true rfl) (by decide) rfl (zk_V (fun μ_4 h => ?_))
  refine z_aload_n hE dX12_rightsAt_11 rfl 0 rfl ?_
  refine z_callV hE dX12_rightsAt_12 lV_X12_170 (c_X12_laysRows  μ_4 _ h) sM_0 rfl (Nat.le_of_ble_eq_true rfl) (by decide) rfl (zk_V (fun μ_6 h => ?_))
  refine z_aload_n hE dX12_rightsAt_15 rfl 0 rfl ?_
  refine z_getI hE dX12_rightsAt_16 lF_X12_69 sM_0 rfl ?_
  refine z_if_eq (tgt := 27) hE dX12_rightsAt_19 (by decide) h (fun h => ?_) (fun h => ?_)
  · refine z_aload_n hE dX12_rightsAt_27 rfl 0 rfl ?_
    refine z_callV hE dX12_rightsAt_28 lV_X12_187 (c_X12_right  μ_6 _ h) sM_0 rfl (Nat.le_of_ble_eq_true rfl) (by decide) rfl (zk_PI (fun r_7 h => ?_))
    exact z_iret (st := []) hE dX12_rightsAt_31 rfl ⟨_, rfl, h⟩
  · refine z_bipush (v := -7) hE dX12_rightsAt_22 zv_b_m7 ?_
    refine z_goto (tgt := 31) hE dX12_rightsAt_24 (by decide) ?_
    exact z_iret (st := []) hE dX12_rightsAt_31 rfl ⟨_, rfl, h⟩
set_option maxRecDepth 4000 in
theorem c_X6_edge (t : Nat) (a1 : Int32) (a2 : Int32) (h0 : zT_Spans t) (μ : ZMem) (Φ : Int32 → ZMem → Prop) (h : w_X6_edge t a1 a2 μ Φ) : zM SX yX6_edge cX6_edge 9 (some FieldType.int) 4 [.ref t, .int a1, .int a2, .ref 1, .ref 58] μ (zzI Φ) := by
  refine zM_go (own := RX6) rfl (by decide) (Nat.le_of_ble_eq_true rfl) (fun E hE => ?_)
  show zZ E (zzI Φ) 0 [(0, .ref t), (1, .int a1), (2, .int a2), (3, .ref 1), (4, .ref 58)] [] μ
  unfold w_X6_edge at h
  refine z_bipush (v := 16) hE dX6_edge_0 zv_b_16 ?_
  refine z_iload_n hE dX6_edge_2 rfl 1 rfl ?_
  refine z_imul hE dX6_edge_3 ?_
  refine z_istore (lv' := [(5, .int ((16 : Int32) * a1)), (0, .ref t), (1, .int a1), (2, .int a2), (3, .ref 1), (4, .ref 58)]) hE dX6_edge_4 (by decide) rfl ?_
  refine zn (G := fun v5_1 => zZ E (zzI Φ) 6 [(5, .int v5_1), (0, .ref t), (1, .int a1), (2, .int a2), (3, .ref 1), (4, .ref 58)] [] μ) h (fun v5_1 h => ?_)
  refine z_bipush (v := 16) hE dX6_edge_6 zv_b_16 ?_
  refine z_iload_n hE dX6_edge_8 rfl 3 rfl ?_
  refine z_imul hE dX6_edge_9 ?_
  refine z_istore (lv' := [(6, .int ((16 : Int32) * a2)), (5, .int v5_1), (0, .ref t), (1, .int a1), (2, .int a2), (3, .ref 1), (4, .ref 58)]) hE dX6_edge_10 (by decide) rfl ?_
  refine zn (G := fun v6_2 => zZ E (zzI Φ) 12 [(6, .int v6_2), (5, .int v5_1), (0, .ref t), (1, .int a1), (2, .int a2), (3, .ref 1), (4, .ref 58)] [] μ) h (fun v6_2 h => ?_)
  refine z_iconst (v := 0) hE dX6_edge_12 zv_i_0 ?_
  refine z_istore (lv' := [(7, .int (0 : Int32)), (6, .int v6_2), (5, .int v5_1), (0, .ref t), (1, .int a1), (2, .int a2), (3, .ref 1), (4, .ref 58)]) hE dX6_edge_13 (by decide) rfl ?_
  refine z_sub [3, 6, 7, 2, 1, 0] rfl ?_
  obtain ⟨n15, h⟩ := h
  refine z_loop4 (P := fun (v5_3 : Int32) (v6_4 : Int32) (v7_5 : Int32) (μ_6 : ZMem) => zZ E (zzI Φ) 15 [(0, .ref t), (3, .ref 1), (4, .ref 58), (5, .int v5_3), (6, .int v6_4), (7, .int v7_5)] [] μ_6) (fun k15_6 hk15_6 v5_3 v6_4 v7_5 μ_6 h => ?_) n15 _ _ _ _ h
  refine z_iload hE dX6_edge_15 5 rfl ?_
  refine z_iconst (v := 4) hE dX6_edge_17 zv_i_4 ?_
  refine z_icmp_ge (tgt := 64) hE dX6_edge_18 (by decide) h (fun h => ?_) (fun h => ?_)
  · refine z_iload hE dX6_edge_64 3 rfl ?_
    exact z_iret (st := []) hE dX6_edge_66 rfl ⟨_, rfl, h⟩
  · refine z_iload hE dX6_edge_21 3 rfl ?_
    refine z_iload hE dX6_edge_23 4 rfl ?_
    refine z_iadd hE dX6_edge_25 ?_
    refine z_iconst (v := 2) hE dX6_edge_26 zv_i_2 ?_
    refine z_idiv hE dX6_edge_27 (by decide) ?_
    refine z_istore (lv' := [(8, .int ((v5_3 + v6_4) / (2 : Int32))), (0, .ref t), (3, .ref 1), (4, .ref 58), (5, .int v5_3), (6, .int v6_4), (7, .int v7_5)]) hE dX6_edge_28 (by decide) rfl ?_
    refine zn (G := fun v8_7 => zZ E (zzI Φ) 30 [(8, .int v8_7), (0, .ref t), (3, .ref 1), (4, .ref 58), (5, .int v5_3), (6, .int v6_4), (7, .int v7_5)] [] μ_6) h (fun v8_7 h => ?_)
    refine z_aload hE dX6_edge_30 3 rfl ?_
    refine z_aload_n hE dX6_edge_32 rfl 2 rfl ?_
    refine z_aload_n hE dX6_edge_33 rfl 1 rfl ?_
    refine z_getI hE dX6_edge_34 lF_X6_18 h0.1 rfl ?_
    refine z_bipush (v := 16) hE dX6_edge_37 zv_b_16 ?_
    refine z_iload hE dX6_edge_39 0 rfl ?_
    refine z_callV hE dX6_edge_41 lV_X6_29 (c_X7_holds _ _ _ μ_6 _ h) sX_58 rfl (Nat.le_of_ble_eq_true rfl) (by decide) rfl (zk_I (fun r_8 μ_9 h => ?_))
    refine z_join (P := fun (J_12 : Int32 → Int32 → Prop) => ∀ (v5_10 : Int32) (v6_11 : Int32), J_12 v5_10 v6_11 → zZ E (zzI Φ) 58 [(0, .ref t), (3, .ref 1), (4, .ref 58), (5, .int v5_10), (6, .int v6_11), (7, .int v7_5)] [] μ_9) h (fun v5_10 v6_11 h => ?_) (fun J_12 hJ_12 h => ?_)
    · refine z_iinc (j := 5) (c := 1) (lv' := [(7, .int (v7_5 + (1 : Int32))), (0, .ref t), (3, .ref 1), (4, .ref 58), (5, .int v5_10), (6, .int v6_11)]) hE dX6_edge_58 rfl zv_i_1 (by decide) rfl ?_
      refine z_goto (tgt := 15) hE dX6_edge_61 (by decide) ?_
      exact z_sub [1, 2, 3, 4, 5, 0] rfl (hk15_6 _ _ _ _ h)
    refine z_if_eq (tgt := 54) hE dX6_edge_44 (by decide) h (fun h => ?_) (fun h => ?_)
    · refine z_iload hE dX6_edge_54 0 rfl ?_
      refine z_istore (lv' := [(6, .int v8_7), (8, .int v8_7), (0, .ref t), (3, .ref 1), (4, .ref 58), (5, .int v5_3), (7, .int v7_5)]) hE dX6_edge_56 (by decide) rfl ?_
      exact z_sub [2, 3, 4, 5, 0, 6] rfl (hJ_12 _ _ h)
    · refine z_iload hE dX6_edge_47 0 rfl ?_
      refine z_istore (lv' := [(5, .int v8_7), (8, .int v8_7), (0, .ref t), (3, .ref 1), (4, .ref 58), (6, .int v6_4), (7, .int v7_5)]) hE dX6_edge_49 (by decide) rfl ?_
      refine z_goto (tgt := 58) hE dX6_edge_51 (by decide) ?_
      exact z_sub [2, 3, 4, 0, 5, 6] rfl (hJ_12 _ _ h)
set_option maxRecDepth 4000 in
theorem c_X6_survey (t : Nat) (h0 : zT_Spans t) (μ : ZMem) (Φ : ZMem → Prop) (h : w_X6_survey t μ Φ) : zM SX yX6_survey cX6_survey 6 (none) 4 [.ref t, .ref 1, .ref 58] μ (zzV Φ) := by
  refine zM_go (own := RX6) rfl (by decide) (Nat.le_of_ble_eq_true rfl) (fun E hE => ?_)
  show zZ E (zzV Φ) 0 [(0, .ref t), (1, .ref 1), (2, .ref 58)] [] μ
  unfold w_X6_survey at h
  refine z_aload_n hE dX6_survey_0 rfl 0 rfl ?_
  refine z_getI hE dX6_survey_1 lF_X6_22 h0.1 rfl ?_
  refine z_if_eq (tgt := 8) hE dX6_survey_4 (by decide) h (fun h => ?_) (fun h => ?_)
  · refine z_aload_n hE dX6_survey_8 rfl 0 rfl ?_
    refine z_iconst (v := 0) hE dX6_survey_9 zv_i_0 ?_
    refine z_put hE dX6_survey_10 lF_X6_26 h0.1 rfl rfl rfl ?_
    refine zn (G := fun μ_1 => zZ E (zzV Φ) 13 [(0, .ref t), (1, .ref 1), (2, .ref 58)] [] μ_1) h (fun μ_1 h => ?_)
    refine z_iconst (v := 0) hE dX6_survey_13 zv_i_0 ?_
    refine z_istore_n (lv' := [(3, .int (0 : Int32)), (0, .ref t), (1, .ref 1), (2, .ref 58)]) hE dX6_survey_14 rfl (by decide) rfl ?_
    refine z_bipush (v := -100) hE dX6_survey_15 zv_b_m100 ?_
    refine z_istore (lv' := [(4, .int (-100 : Int32)), (3, .int (0 : Int32)), (0, .ref t), (1, .ref 1), (2, .ref 58)]) hE dX6_survey_17 (by decide) rfl ?_
    refine z_join (P := fun (J_3 : ZMem → Prop) => ∀ (μ_2 : ZMem), J_3 μ_2 → zZ E (zzV Φ) 113 [(0, .ref t)] [] μ_2) h (fun μ_2 h => ?_) (fun J_3 hJ_3 h => ?_)
    · refine z_aload_n hE dX6_survey_113 rfl 0 rfl ?_
      refine z_iconst (v := 1) hE dX6_survey_114 zv_i_1 ?_
      refine z_put hE dX6_survey_115 lF_X6_22 h0.1 rfl (by decide) (by decide) ?_
      refine zn (G := fun μ_4 => zZ E (zzV Φ) 118 [(0, .ref t)] [] μ_4) h (fun μ_4 h => ?_)
      exact z_vret (st := []) hE dX6_survey_118 rfl ⟨rfl, h⟩
    refine z_sub [2, 3, 4, 1, 0] rfl ?_
    obtain ⟨n19, h⟩ := h
    refine z_loop3 (P := fun (v3_5 : Int32) (v4_6 : Int32) (μ_7 : ZMem) => zZ E (zzV Φ) 19 [(0, .ref t), (1, .ref 1), (2, .ref 58), (3, .int v3_5), (4, .int v4_6)] [] μ_7) (fun k19_7 hk19_7 v3_5 v4_6 μ_7 h => ?_) n19 _ _ _ h
    refine z_iload hE dX6_survey_19 4 rfl ?_
    refine z_bipush (v := 100) hE dX6_survey_21 zv_b_100 ?_
    refine z_icmp_gt (tgt := 113) hE dX6_survey_23 (by decide) h (fun h => ?_) (fun h => ?_)
    · exact z_sub [0] rfl (hJ_3 _ h)
    · refine z_aload_n hE dX6_survey_26 rfl 2 rfl ?_
      refine z_aload_n hE dX6_survey_27 rfl 1 rfl ?_
      refine z_aload_n hE dX6_survey_28 rfl 0 rfl ?_
      refine z_getI hE dX6_survey_29 lF_X6_18 h0.1 rfl ?_
      refine z_iconst (v := 1) hE dX6_survey_32 zv_i_1 ?_
      refine z_iload hE dX6_survey_33 4 rfl ?_
      refine z_callV hE dX6_survey_35 lV_X6_29 (c_X7_holds _ _ _ μ_7 _ h) sX_58 rfl (Nat.le_of_ble_eq_true rfl) (by decide) rfl (zk_I (fun r_8 μ_9 h => ?_))
      refine z_istore (lv' := [(5, .int r_8), (0, .ref t), (1, .ref 1), (2, .ref 58), (3, .int v3_5), (4, .int v4_6)]) hE dX6_survey_38 (by decide) rfl ?_
      refine z_iload hE dX6_survey_40 0 rfl ?_
      refine z_join (P := fun (J_11 : ZMem → Prop) => ∀ (μ_10 : ZMem), J_11 μ_10 → zZ E (zzV Φ) 79 [(0, .ref t), (1, .ref 1), (2, .ref 58), (4, .int v4_6), (5, .int r_8)] [] μ_10) h (fun μ_10 h => ?_) (fun J_11 hJ_11 h => ?_)
      · refine z_iload hE dX6_survey_79 4 rfl ?_
        refine z_join (P := fun (J_13 : ZMem → Prop) => ∀ (μ_12 : ZMem), J_13 μ_12 → zZ E (zzV Φ) 104 [(0, .ref t), (1, .ref 1), (2, .ref 58), (4, .int v4_6), (5, .int r_8)] [] μ_12) h (fun μ_12 h => ?_) (fun J_13 hJ_13 h => ?_)
        · refine z_iload hE dX6_survey_104 4 rfl ?_
          refine z_istore_n (lv' := [(3, .int r_8), (0, .ref t), (1, .ref 1), (2, .ref 58), (4, .int v4_6), (5, .int r_8)]) hE dX6_survey_106 rfl (by decide) rfl ?_
          refine z_iinc (j := 4) (c := 1) (lv' := [(4, .int (v4_6 + (1 : Int32))), (3, .int r_8), (0, .ref t), (1, .ref 1), (2, .ref 58), (5, .int r_8)]) hE dX6_survey_107 rfl zv_i_1 (by decide) rfl ?_
          refine z_goto (tgt := 19) hE dX6_survey_110 (by decide) ?_
          exact z_sub [2, 3, 4, 1, 0] rfl (hk19_7 _ _ _ h)
        refine z_if_eq (tgt := 104) hE dX6_survey_81 (by decide) h (fun h => ?_) (fun h => ?_)
        · exact hJ_13 _ h
        · refine z_aload_n hE dX6_survey_84 rfl 0 rfl ?_
          refine z_getI hE dX6_survey_85 lF_X6_26 h0.1 rfl ?_
          refine z_if_le (tgt := 104) hE dX6_survey_88 (by decide) h (fun h => ?_) (fun h => ?_)
          · exact hJ_13 _ h
          · refine z_aload_n hE dX6_survey_91 rfl 0 rfl ?_
            refine z_getR (t := (t + 2)) hE dX6_survey_92 lF_X6_15 h0.1 rfl ?_
            refine z_aload_n hE dX6_survey_95 rfl 0 rfl ?_
            refine z_getI hE dX6_survey_96 lF_X6_26 h0.1 rfl ?_
            refine z_iconst (v := 1) hE dX6_survey_99 zv_i_1 ?_
            refine z_isub hE dX6_survey_100 ?_
            refine z_iload hE dX6_survey_101 3 rfl ?_
            obtain ⟨q_14, h⟩ := h
            refine z_iast hE dX6_survey_103 h0.2.2 q_14 ?_
            refine zn (G := fun μ_15 => zZ E (zzV Φ) 104 [(0, .ref t), (1, .ref 1), (2, .ref 58), (4, .int v4_6), (5, .int r_8)] [] μ_15) h (fun μ_15 h => ?_)
            exact hJ_13 _ h
      refine z_if_eq (tgt := 79) hE dX6_survey_42 (by decide) h (fun h => ?_) (fun h => ?_)
      · exact z_sub [1, 2, 3, 5, 0] rfl (hJ_11 _ h)
      · refine z_iload_n hE dX6_survey_45 rfl 4 rfl ?_
        refine z_if_ne (tgt := 79) hE dX6_survey_46 (by decide) h (fun h => ?_) (fun h => ?_)
        · exact z_sub [1, 2, 3, 5, 0] rfl (hJ_11 _ h)
        · refine z_aload_n hE dX6_survey_49 rfl 1 rfl ?_
          refine z_getI hE dX6_survey_50 lF_X6_26 h0.1 rfl ?_
          refine z_bipush (v := 101) hE dX6_survey_53 zv_b_101 ?_
          refine z_icmp_ge (tgt := 79) hE dX6_survey_55 (by decide) h (fun h => ?_) (fun h => ?_)
          · exact z_sub [1, 2, 3, 5, 0] rfl (hJ_11 _ h)
          · refine z_aload_n hE dX6_survey_58 rfl 1 rfl ?_
            refine z_getR (t := (t + 1)) hE dX6_survey_59 lF_X6_11 h0.1 rfl ?_
            refine z_aload_n hE dX6_survey_62 rfl 1 rfl ?_
            refine z_getI hE dX6_survey_63 lF_X6_26 h0.1 rfl ?_
            refine z_iload hE dX6_survey_66 5 rfl ?_
            obtain ⟨q_16, h⟩ := h
            refine z_iast hE dX6_survey_68 h0.2.1 q_16 ?_
            refine zn (G := fun μ_17 => zZ E (zzV Φ) 69 [(5, .int r_8), (0, .ref t), (1, .ref 1), (2, .ref 58), (3, .int v3_5), (4, .int v4_6)] [] μ_17) h (fun μ_17 h => ?_)
            refine z_aload_n hE dX6_survey_69 rfl 1 rfl ?_
            refine z_dup hE dX6_survey_70 rfl ?_
            refine z_getI hE dX6_survey_71 lF_X6_26 h0.1 rfl ?_
            refine z_iconst (v := 1) hE dX6_survey_74 zv_i_1 ?_
            refine z_iadd hE dX6_survey_75 ?_
            refine z_put hE dX6_survey_76 lF_X6_26 h0.1 rfl rfl rfl ?_
            refine zn (G := fun μ_18 => zZ E (zzV Φ) 79 [(5, .int r_8), (0, .ref t), (1, .ref 1), (2, .ref 58), (3, .int v3_5), (4, .int v4_6)] [] μ_18) h (fun μ_18 h => ?_)
            exact z_sub [1, 2, 3, 5, 0] rfl (hJ_11 _ h)
  · exact z_vret (st := []) hE dX6_survey_7 rfl ⟨rfl, h⟩
set_option maxRecDepth 4000 in
theorem c_X9_takeGained  (μ : ZMem) (Φ : ZMem → Prop) (h : w_X9_takeGained μ Φ) : zM SX yX9_takeGained cX9_takeGained 3 (none) 4 [.ref 23] μ (zzV Φ) := by
  refine zM_go (own := RX9) rfl (by decide) (Nat.le_of_ble_eq_true rfl) (fun E hE => ?_)
  show zZ E (zzV Φ) 0 [(0, .ref 23)] [] μ
  unfold w_X9_takeGained at h
  refine z_aload_n hE dX9_takeGained_0 rfl 0 rfl ?_
  refine z_aload_n hE dX9_takeGained_1 rfl 0 rfl ?_
  refine z_getI hE dX9_takeGained_2 lF_X9_32 sX_23 rfl ?_
  refine z_callV hE dX9_takeGained_5 lV_X9_39 (c_X9_signAt _ μ _ h) sX_23 rfl (Nat.le_of_ble_eq_true rfl) (by decide) rfl (zk_PI (fun r_1 h => ?_))
  refine z_istore_n (lv' := [(1, .int r_1), (0, .ref 23)]) hE dX9_takeGained_8 rfl (by decide) rfl ?_
  refine z_aload_n hE dX9_takeGained_9 rfl 1 rfl ?_
  refine z_dup hE dX9_takeGained_10 rfl ?_
  refine z_getI hE dX9_takeGained_11 lF_X9_32 sX_23 rfl ?_
  refine z_iconst (v := 2) hE dX9_takeGained_14 zv_i_2 ?_
  refine z_iadd hE dX9_takeGained_15 ?_
  refine z_put hE dX9_takeGained_16 lF_X9_32 sX_23 rfl rfl rfl ?_
  refine zn (G := fun μ_3 => zZ E (zzV Φ) 19 [(1, .int r_1), (0, .ref 23)] [] μ_3) h (fun μ_3 h => ?_)
  refine z_aload_n hE dX9_takeGained_19 rfl 1 rfl ?_
  refine z_bipush (v := 40) hE dX9_takeGained_20 zv_b_40 ?_
  refine z_callV hE dX9_takeGained_22 lV_X9_46 (c_X9_expect _ μ_3 _ h) sX_23 rfl (Nat.le_of_ble_eq_true rfl) (by decide) rfl (zk_V (fun μ_5 h => ?_))
  refine z_aload_n hE dX9_takeGained_25 rfl 1 rfl ?_
  refine z_getI hE dX9_takeGained_26 lF_X9_29 sX_23 rfl ?_
  refine z_iconst (v := -1) hE dX9_takeGained_29 zv_i_m1 ?_
  refine z_join (P := fun (J_7 : ZMem → Prop) => ∀ (μ_6 : ZMem), J_7 μ_6 → zZ E (zzV Φ) 42 [(0, .ref 23), (1, .int r_1)] [] μ_6) h (fun μ_6 h => ?_) (fun J_7 hJ_7 h => ?_)
  · refine z_aload_n hE dX9_takeGained_42 rfl 0 rfl ?_
    refine z_getI hE dX9_takeGained_43 lF_X9_29 sX_23 rfl ?_
    refine z_iconst (v := -1) hE dX9_takeGained_46 zv_i_m1 ?_
    refine z_join (P := fun (J_9 : ZMem → Prop) => ∀ (μ_8 : ZMem), J_9 μ_8 → zZ E (zzV Φ) 56 [(0, .ref 23), (1, .int r_1)] [] μ_8) h (fun μ_8 h => ?_) (fun J_9 hJ_9 h => ?_)
    · refine z_iconst (v := 0) hE dX9_takeGained_56 zv_i_0 ?_
      refine z_istore_n (lv' := [(2, .int (0 : Int32)), (0, .ref 23), (1, .int r_1)]) hE dX9_takeGained_57 rfl (by decide) rfl ?_
      refine z_sub [1, 2, 0] rfl ?_
      obtain ⟨n58, h⟩ := h
      refine z_loop2 (P := fun (v2_10 : Int32) (μ_11 : ZMem) => zZ E (zzV Φ) 58 [(0, .ref 23), (1, .int r_1), (2, .int v2_10)] [] μ_11) (fun k58_11 hk58_11 v2_10 μ_11 h => ?_) n58 _ _ h
      refine z_iload_n hE dX9_takeGained_58 rfl 2 rfl ?_
      refine z_bipush (v := 7) hE dX9_takeGained_59 zv_b_7 ?_
      refine z_icmp_ge (tgt := 81) hE dX9_takeGained_61 (by decide) h (fun h => ?_) (fun h => ?_)
      · exact z_vret (st := []) hE dX9_takeGained_81 rfl ⟨rfl, h⟩
      · refine z_aload_n hE dX9_takeGained_64 rfl 0 rfl ?_
        refine z_getR (t := 26) hE dX9_takeGained_65 lF_X9_19 sX_23 rfl ?_
        refine z_iload_n hE dX9_takeGained_68 rfl 2 rfl ?_
        refine z_dup2 hE dX9_takeGained_69 rfl rfl ?_
        obtain ⟨q_12, h⟩ := h
        refine z_lald hE dX9_takeGained_70 sX_26 q_12 ?_
        refine z_iload_n hE dX9_takeGained_71 rfl 1 rfl ?_
        refine z_i2l hE dX9_takeGained_72 ?_
        refine z_lmul hE dX9_takeGained_73 ?_
        obtain ⟨q_13, h⟩ := h
        refine z_last hE dX9_takeGained_74 sX_26 q_13 ?_
        refine zn (G := fun μ_14 => zZ E (zzV Φ) 75 [(0, .ref 23), (1, .int r_1), (2, .int v2_10)] [] μ_14) h (fun μ_14 h => ?_)
        refine z_iinc (j := 2) (c := 1) (lv' := [(2, .int (v2_10 + (1 : Int32))), (0, .ref 23), (1, .int r_1)]) hE dX9_takeGained_75 rfl zv_i_1 (by decide) rfl ?_
        refine z_goto (tgt := 58) hE dX9_takeGained_78 (by decide) ?_
        exact z_sub [1, 2, 0] rfl (hk58_11 _ _ h)
    refine z_icmp_ne (tgt := 56) hE dX9_takeGained_47 (by decide) h (fun h => ?_) (fun h => ?_)
    · exact hJ_9 _ h
    · refine z_aload_n hE dX9_takeGained_50 rfl 0 rfl ?_
      refine z_bipush (v := 41) hE dX9_takeGained_51 zv_b_41 ?_
      refine z_callV hE dX9_takeGained_53 lV_X9_46 (c_X9_expect _ μ_6 _ h) sX_23 rfl (Nat.le_of_ble_eq_true rfl) (by decide) rfl (zk_V (fun μ_16 h => ?_))
      exact hJ_9 _ h
  refine z_icmp_ne (tgt := 42) hE dX9_takeGained_30 (by decide) h (fun h => ?_) (fun h => ?_)
  · exact z_sub [1, 0] rfl (hJ_7 _ h)
  · refine z_aload_n hE dX9_takeGained_33 rfl 1 rfl ?_
    refine z_aload_n hE dX9_takeGained_34 rfl 1 rfl ?_
    refine z_getR (t := 26) hE dX9_takeGained_35 lF_X9_19 sX_23 rfl ?_
    refine z_iconst (v := 0) hE dX9_takeGained_38 zv_i_0 ?_
    refine z_callV hE dX9_takeGained_39 lV_X9_35 (c_X9_takeTerms _ _ _ sX_26 μ_5 _ h) sX_23 rfl (Nat.le_of_ble_eq_true rfl) (by decide) rfl (zk_V (fun μ_18 h => ?_))
    exact z_sub [1, 0] rfl (hJ_7 _ h)
set_option maxRecDepth 4000 in
theorem c_X11_fill (a1 : Int32) (a2 : Int32) (a3 : Int32) (μ : ZMem) (Φ : Int32 → ZMem → Prop) (h : w_X11_fill a1 a2 a3 μ Φ) : zM SX yX11_fill cX11_fill 8 (some FieldType.int) 5 [.ref 0, .int a1, .int a2, .int a3] μ (zzI Φ) := by
  refine zM_go (own := RX11) rfl (by decide) (Nat.le_of_ble_eq_true rfl) (fun E hE => ?_)
  show zZ E (zzI Φ) 0 [(0, .ref 0), (1, .int a1), (2, .int a2), (3, .int a3)] [] μ
  unfold w_X11_fill at h
  refine z_aload_n hE dX11_fill_0 rfl 0 rfl ?_
  refine z_iload_n hE dX11_fill_1 rfl 1 rfl ?_
  refine z_iload_n hE dX11_fill_2 rfl 2 rfl ?_
  refine z_iload_n hE dX11_fill_3 rfl 3 rfl ?_
  refine z_callV hE dX11_fill_4 lV_X11_342 (c_X11_refusalOfRow _ _ _ μ _ h) sX_0 rfl (Nat.le_of_ble_eq_true rfl) (by decide) rfl (zk_I (fun r_1 μ_2 h => ?_))
  refine z_istore (lv' := [(4, .int r_1), (0, .ref 0), (1, .int a1), (2, .int a2), (3, .int a3)]) hE dX11_fill_7 (by decide) rfl ?_
  refine z_iload hE dX11_fill_9 0 rfl ?_
  refine z_if_eq (tgt := 17) hE dX11_fill_11 (by decide) h (fun h => ?_) (fun h => ?_)
  · refine z_aload_n hE dX11_fill_17 rfl 1 rfl ?_
    refine z_getR (t := 27) hE dX11_fill_18 lF_X11_30 sX_0 rfl ?_
    refine z_iload_n hE dX11_fill_21 rfl 2 rfl ?_
    obtain ⟨q_3, h⟩ := h
    refine z_aald2 hE dX11_fill_22 sX_27 (fun _ => rfl) rfl q_3 ?_
    refine z_astore (lv' := [(5, .ref (28 + 2 * (Int32.toNatClampNeg a1))), (4, .int r_1), (0, .ref 0), (1, .int a1), (2, .int a2), (3, .int a3)]) hE dX11_fill_23 (by decide) rfl ?_
    refine z_aload hE dX11_fill_25 0 rfl ?_
    refine z_getI hE dX11_fill_27 lF_X11_334 (sXr_28 _ (zz_in_lt q_3)).1 rfl ?_
    refine z_aload_n hE dX11_fill_30 rfl 2 rfl ?_
    refine z_getR (t := 36) hE dX11_fill_31 lF_X11_37 sX_0 rfl ?_
    refine z_iload_n hE dX11_fill_34 rfl 5 rfl ?_
    refine z_callV hE dX11_fill_35 lV_X11_159 (c_X8_width _ _ zcX_36 μ_2 _ h) sX_36 rfl (Nat.le_of_ble_eq_true rfl) (by decide) rfl (zk_PI (fun r_4 h => ?_))
    refine z_mmin hE dX11_fill_38 lM_X11_346 (Nat.le_of_ble_eq_true rfl) ?_
    refine z_istore (lv' := [(6, .int (if r_4 < (μ_2.1 (28 + 2 * (Int32.toNatClampNeg a1)) 2) then r_4 else (μ_2.1 (28 + 2 * (Int32.toNatClampNeg a1)) 2))), (5, .ref (28 + 2 * (Int32.toNatClampNeg a1))), (4, .int r_1), (0, .ref 0), (1, .int a1), (2, .int a2), (3, .int a3)]) hE dX11_fill_41 (by decide) rfl ?_
    refine zn (G := fun v6_6 => zZ E (zzI Φ) 43 [(6, .int v6_6), (5, .ref (28 + 2 * (Int32.toNatClampNeg a1))), (4, .int r_1), (0, .ref 0), (1, .int a1), (2, .int a2), (3, .int a3)] [] μ_2) h (fun v6_6 h => ?_)
    refine z_iconst (v := 0) hE dX11_fill_43 zv_i_0 ?_
    refine z_istore (lv' := [(7, .int (0 : Int32)), (6, .int v6_6), (5, .ref (28 + 2 * (Int32.toNatClampNeg a1))), (4, .int r_1), (0, .ref 0), (1, .int a1), (2, .int a2), (3, .int a3)]) hE dX11_fill_44 (by decide) rfl ?_
    refine z_sub [4, 7, 2, 1, 0] rfl ?_
    obtain ⟨n46, h⟩ := h
    refine z_loop2 (P := fun (v7_7 : Int32) (μ_8 : ZMem) => zZ E (zzI Φ) 46 [(0, .ref 0), (3, .int a3), (5, .ref (28 + 2 * (Int32.toNatClampNeg a1))), (6, .int v6_6), (7, .int v7_7)] [] μ_8) (fun k46_8 hk46_8 v7_7 μ_8 h => ?_) n46 _ _ h
    refine z_iload hE dX11_fill_46 4 rfl ?_
    refine z_iload hE dX11_fill_48 3 rfl ?_
    refine z_icmp_ge (tgt := 76) hE dX11_fill_50 (by decide) h (fun h => ?_) (fun h => ?_)
    · refine z_iload hE dX11_fill_76 3 rfl ?_
      exact z_iret (st := []) hE dX11_fill_78 rfl ⟨_, rfl, h⟩
    · refine z_aload hE dX11_fill_53 2 rfl ?_
      refine z_iload hE dX11_fill_55 4 rfl ?_
      refine z_aload_n hE dX11_fill_57 rfl 0 rfl ?_
      refine z_getR (t := 36) hE dX11_fill_58 lF_X11_37 sX_0 rfl ?_
      refine z_iload_n hE dX11_fill_61 rfl 1 rfl ?_
      refine z_iload hE dX11_fill_62 4 rfl ?_
      refine z_callV hE dX11_fill_64 lV_X11_163 (c_X8_item _ _ _ zcX_36 μ_8 _ h) sX_36 rfl (Nat.le_of_ble_eq_true rfl) (by decide) rfl (zk_PJ (fun r_9 h => ?_))
      refine z_callV hE dX11_fill_67 lV_X11_335 (c_X10_store _ _ _ (sXr_28 _ (zz_in_lt q_3)) μ_8 _ h) (sXr_28 _ (zz_in_lt q_3)).1 rfl (Nat.le_of_ble_eq_true rfl) (by decide) rfl (zk_V (fun μ_12 h => ?_))
      refine z_iinc (j := 4) (c := 1) (lv' := [(7, .int (v7_7 + (1 : Int32))), (0, .ref 0), (3, .int a3), (5, .ref (28 + 2 * (Int32.toNatClampNeg a1))), (6, .int v6_6)]) hE dX11_fill_70 rfl zv_i_1 (by decide) rfl ?_
      refine z_goto (tgt := 46) hE dX11_fill_73 (by decide) ?_
      exact z_sub [1, 2, 3, 4, 0] rfl (hk46_8 _ _ h)
  · refine z_iload hE dX11_fill_14 0 rfl ?_
    exact z_iret (st := []) hE dX11_fill_16 rfl ⟨_, rfl, h⟩
set_option maxRecDepth 4000 in
theorem c_X11_judge (a1 : Int32) (a2 : Int32) (a3 : Int32) (μ : ZMem) (Φ : Int32 → ZMem → Prop) (h : w_X11_judge a1 a2 a3 μ Φ) : zM SX yX11_judge cX11_judge 7 (some FieldType.int) 5 [.ref 0, .int a1, .int a2, .int a3] μ (zzI Φ) := by
  refine zM_go (own := RX11) rfl (by decide) (Nat.le_of_ble_eq_true rfl) (fun E hE => ?_)
  show zZ E (zzI Φ) 0 [(0, .ref 0), (1, .int a1), (2, .int a2), (3, .int a3)] [] μ
  unfold w_X11_judge at h
  refine z_aload_n hE dX11_judge_0 rfl 0 rfl ?_
  refine z_iload_n hE dX11_judge_1 rfl 1 rfl ?_
  refine z_iload_n hE dX11_judge_2 rfl 2 rfl ?_
  refine z_iload_n hE dX11_judge_3 rfl 3 rfl ?_
  refine z_callV hE dX11_judge_4 lV_X11_342 (c_X11_refusalOfRow _ _ _ μ _ h) sX_0 rfl (Nat.le_of_ble_eq_true rfl) (by decide) rfl (zk_I (fun r_1 μ_2 h => ?_))
  refine z_istore (lv' := [(4, .int r_1), (0, .ref 0), (1, .int a1), (2, .int a2), (3, .int a3)]) hE dX11_judge_7 (by decide) rfl ?_
  refine z_iload hE dX11_judge_9 0 rfl ?_
  refine z_if_eq (tgt := 17) hE dX11_judge_11 (by decide) h (fun h => ?_) (fun h => ?_)
  · refine z_aload_n hE dX11_judge_17 rfl 1 rfl ?_
    refine z_getR (t := 27) hE dX11_judge_18 lF_X11_30 sX_0 rfl ?_
    refine z_iload_n hE dX11_judge_21 rfl 2 rfl ?_
    obtain ⟨q_3, h⟩ := h
    refine z_aald2 hE dX11_judge_22 sX_27 (fun _ => rfl) rfl q_3 ?_
    refine z_astore (lv' := [(5, .ref (28 + 2 * (Int32.toNatClampNeg a1))), (4, .int r_1), (0, .ref 0), (1, .int a1), (2, .int a2), (3, .int a3)]) hE dX11_judge_23 (by decide) rfl ?_
    refine z_iconst (v := 0) hE dX11_judge_25 zv_i_0 ?_
    refine z_istore (lv' := [(6, .int (0 : Int32)), (5, .ref (28 + 2 * (Int32.toNatClampNeg a1))), (4, .int r_1), (0, .ref 0), (1, .int a1), (2, .int a2), (3, .int a3)]) hE dX11_judge_26 (by decide) rfl ?_
    refine z_sub [3, 6, 1, 0] rfl ?_
    obtain ⟨n28, h⟩ := h
    refine z_loop1 (P := fun (v6_4 : Int32) => zZ E (zzI Φ) 28 [(0, .ref 0), (3, .int a3), (5, .ref (28 + 2 * (Int32.toNatClampNeg a1))), (6, .int v6_4)] [] μ_2) (fun k28_4 hk28_4 v6_4 h => ?_) n28 _ h
    refine z_iload hE dX11_judge_28 3 rfl ?_
    refine z_aload hE dX11_judge_30 2 rfl ?_
    refine z_getI hE dX11_judge_32 lF_X11_334 (sXr_28 _ (zz_in_lt q_3)).1 rfl ?_
    refine z_icmp_ge (tgt := 82) hE dX11_judge_35 (by decide) h (fun h => ?_) (fun h => ?_)
    · refine z_iconst (v := -1) hE dX11_judge_82 zv_i_m1 ?_
      exact z_iret (st := []) hE dX11_judge_83 rfl ⟨_, rfl, h⟩
    · refine z_iload hE dX11_judge_38 3 rfl ?_
      refine z_aload_n hE dX11_judge_40 rfl 0 rfl ?_
      refine z_getR (t := 36) hE dX11_judge_41 lF_X11_37 sX_0 rfl ?_
      refine z_iload_n hE dX11_judge_44 rfl 1 rfl ?_
      refine z_callV hE dX11_judge_45 lV_X11_159 (c_X8_width _ _ zcX_36 μ_2 _ h) sX_36 rfl (Nat.le_of_ble_eq_true rfl) (by decide) rfl (zk_PI (fun r_5 h => ?_))
      refine z_icmp_ge (tgt := 73) hE dX11_judge_48 (by decide) h (fun h => ?_) (fun h => ?_)
      · refine z_iload hE dX11_judge_73 3 rfl ?_
        exact z_iret (st := []) hE dX11_judge_75 rfl ⟨_, rfl, h⟩
      · refine z_aload hE dX11_judge_51 2 rfl ?_
        refine z_getR (t := ((28 + 2 * (Int32.toNatClampNeg a1)) + 1)) hE dX11_judge_53 lF_X11_339 (sXr_28 _ (zz_in_lt q_3)).1 rfl ?_
        refine z_iload hE dX11_judge_56 3 rfl ?_
        obtain ⟨q_7, h⟩ := h
        refine z_lald hE dX11_judge_58 (sXr_28 _ (zz_in_lt q_3)).2 q_7 ?_
        refine z_aload_n hE dX11_judge_59 rfl 0 rfl ?_
        refine z_getR (t := 36) hE dX11_judge_60 lF_X11_37 sX_0 rfl ?_
        refine z_iload_n hE dX11_judge_63 rfl 1 rfl ?_
        refine z_iload hE dX11_judge_64 3 rfl ?_
        refine z_callV hE dX11_judge_66 lV_X11_163 (c_X8_item _ _ _ zcX_36 μ_2 _ h) sX_36 rfl (Nat.le_of_ble_eq_true rfl) (by decide) rfl (zk_PJ (fun r_8 h => ?_))
        refine z_ljmp_eq (tgt := 76) hE dX11_judge_69 dX11_judge_70 (by decide) h (fun h => ?_) (fun h => ?_)
        · refine z_iinc (j := 3) (c := 1) (lv' := [(6, .int (v6_4 + (1 : Int32))), (0, .ref 0), (3, .int a3), (5, .ref (28 + 2 * (Int32.toNatClampNeg a1)))]) hE dX11_judge_76 rfl zv_i_1 (by decide) rfl ?_
          refine z_goto (tgt := 28) hE dX11_judge_79 (by decide) ?_
          exact z_sub [1, 2, 3, 0] rfl (hk28_4 _ h)
        · refine z_iload hE dX11_judge_73 3 rfl ?_
          exact z_iret (st := []) hE dX11_judge_75 rfl ⟨_, rfl, h⟩
  · refine z_iload hE dX11_judge_14 0 rfl ?_
    exact z_iret (st := []) hE dX11_judge_16 rfl ⟨_, rfl, h⟩
set_option maxRecDepth 4000 in
theorem c_X11_spansOf (a1 : Int32) (μ : ZMem) (Φ : Nat → ZMem → Prop) (h : w_X11_spansOf a1 μ Φ) : zM SX yX11_spansOf cX11_spansOf 3 (Option.some (Jvm.ClassFile.FieldType.object "SignTables$Spans")) 5 [.ref 0, .int a1] μ (zzR Φ) := by
  refine zM_go (own := RX11) rfl (by decide) (Nat.le_of_ble_eq_true rfl) (fun E hE => ?_)
  show zZ E (zzR Φ) 0 [(0, .ref 0), (1, .int a1)] [] μ
  unfold w_X11_spansOf at h
  refine z_iload_n hE dX11_spansOf_0 rfl 1 rfl ?_
  refine z_join (P := fun (J_2 : Nat → Prop) => ∀ (x_1 : Nat), zT_Spans x_1 → J_2 x_1 → zZ E (zzR Φ) 15 [(0, .ref 0)] [.ref x_1] μ) h (fun x_1 ex_1 h => ?_) (fun J_2 hJ_2 h => ?_)
  · refine z_astore_n (lv' := [(2, .ref x_1), (0, .ref 0)]) hE dX11_spansOf_15 rfl (by decide) rfl ?_
    refine z_aload_n hE dX11_spansOf_16 rfl 0 rfl ?_
    refine z_aload_n hE dX11_spansOf_17 rfl 1 rfl ?_
    refine z_getR (t := 1) hE dX11_spansOf_18 lF_X11_14 sX_0 rfl ?_
    refine z_aload_n hE dX11_spansOf_21 rfl 1 rfl ?_
    refine z_getR (t := 58) hE dX11_spansOf_22 lF_X11_51 sX_0 rfl ?_
    refine z_callV hE dX11_spansOf_25 lV_X11_369 (c_X6_survey _ ex_1 μ _ h) ex_1.1 rfl (Nat.le_of_ble_eq_true rfl) (by decide) rfl (zk_V (fun μ_4 h => ?_))
    refine z_aload_n hE dX11_spansOf_28 rfl 0 rfl ?_
    exact z_aret (st := []) hE dX11_spansOf_29 rfl (Or.inl ⟨_, rfl⟩) ⟨_, rfl, h⟩
  refine z_if_ne (tgt := 11) hE dX11_spansOf_1 (by decide) h (fun h => ?_) (fun h => ?_)
  · refine z_aload_n hE dX11_spansOf_11 rfl 0 rfl ?_
    refine z_getR (t := 75) hE dX11_spansOf_12 lF_X11_64 sX_0 rfl ?_
    exact z_sub [0] rfl (hJ_2 _ zcX_75 h)
  · refine z_aload_n hE dX11_spansOf_4 rfl 0 rfl ?_
    refine z_getR (t := 72) hE dX11_spansOf_5 lF_X11_60 sX_0 rfl ?_
    refine z_goto (tgt := 15) hE dX11_spansOf_8 (by decide) ?_
    exact z_sub [0] rfl (hJ_2 _ zcX_72 h)
set_option maxRecDepth 4000 in
theorem c_X12_best  (μ : ZMem) (Φ : Int32 → ZMem → Prop) (h : w_X12_best μ Φ) : zM SM yX12_best cX12_best 6 (some FieldType.int) 5 [.ref 0] μ (zzI Φ) := by
  refine zM_go (own := RX12) rfl (by decide) (Nat.le_of_ble_eq_true rfl) (fun E hE => ?_)
  show zZ E (zzI Φ) 0 [(0, .ref 0)] [] μ
  unfold w_X12_best at h
  refine z_iconst (v := 0) hE dX12_best_0 zv_i_0 ?_
  refine z_istore_n (lv' := [(1, .int (0 : Int32)), (0, .ref 0)]) hE dX12_best_1 rfl (by decide) rfl ?_
  refine z_iconst (v := -1) hE dX12_best_2 zv_i_m1 ?_
  refine z_istore_n (lv' := [(2, .int (-1 : Int32)), (1, .int (0 : Int32)), (0, .ref 0)]) hE dX12_best_3 rfl (by decide) rfl ?_
  refine z_iconst (v := 0) hE dX12_best_4 zv_i_0 ?_
  refine z_istore_n (lv' := [(3, .int (0 : Int32)), (2, .int (-1 : Int32)), (1, .int (0 : Int32)), (0, .ref 0)]) hE dX12_best_5 rfl (by decide) rfl ?_
  refine z_join (P := fun (J_4 : Int32 → Int32 → ZMem → Prop) => ∀ (v1_1 : Int32) (v2_2 : Int32) (μ_3 : ZMem), J_4 v1_1 v2_2 μ_3 → zZ E (zzI Φ) 68 [(1, .int v1_1), (2, .int v2_2)] [] μ_3) h (fun v1_1 v2_2 μ_3 h => ?_) (fun J_4 hJ_4 h => ?_)
  · refine z_iload_n hE dX12_best_68 rfl 1 rfl ?_
    refine z_if_ge (tgt := 76) hE dX12_best_69 (by decide) h (fun h => ?_) (fun h => ?_)
    · refine z_iload_n hE dX12_best_76 rfl 0 rfl ?_
      refine z_sipush (v := 1000) hE dX12_best_77 zv_s_1000 ?_
      refine z_iadd hE dX12_best_80 ?_
      exact z_iret (st := []) hE dX12_best_81 rfl ⟨_, rfl, h⟩
    · refine z_iconst (v := -1) hE dX12_best_72 zv_i_m1 ?_
      refine z_goto (tgt := 81) hE dX12_best_73 (by decide) ?_
      exact z_iret (st := []) hE dX12_best_81 rfl ⟨_, rfl, h⟩
  refine z_sub [3, 2, 1, 0] rfl ?_
  obtain ⟨n6, h⟩ := h
  refine z_loop4 (P := fun (v1_5 : Int32) (v2_6 : Int32) (v3_7 : Int32) (μ_8 : ZMem) => zZ E (zzI Φ) 6 [(0, .ref 0), (1, .int v1_5), (2, .int v2_6), (3, .int v3_7)] [] μ_8) (fun k6_8 hk6_8 v1_5 v2_6 v3_7 μ_8 h => ?_) n6 _ _ _ _ h
  refine z_iload_n hE dX12_best_6 rfl 3 rfl ?_
  refine z_sipush (v := 200) hE dX12_best_7 zv_s_200 ?_
  refine z_icmp_gt (tgt := 68) hE dX12_best_10 (by decide) h (fun h => ?_) (fun h => ?_)
  · exact z_sub [1, 2] rfl (hJ_4 _ _ _ h)
  · refine z_iload_n hE dX12_best_13 rfl 3 rfl ?_
    refine z_iconst (v := 2) hE dX12_best_14 zv_i_2 ?_
    refine z_irem hE dX12_best_15 (by decide) ?_
    refine z_join (P := fun (J_10 : Int32 → Prop) => ∀ (x_9 : Int32), J_10 x_9 → zZ E (zzI Φ) 31 [(0, .ref 0), (1, .int v1_5), (2, .int v2_6), (3, .int v3_7)] [.int x_9] μ_8) h (fun x_9 h => ?_) (fun J_10 hJ_10 h => ?_)
    · refine z_istore (lv' := [(4, .int x_9), (0, .ref 0), (1, .int v1_5), (2, .int v2_6), (3, .int v3_7)]) hE dX12_best_31 (by decide) rfl ?_
      refine z_aload_n hE dX12_best_33 rfl 1 rfl ?_
      refine z_iload hE dX12_best_34 0 rfl ?_
      refine z_callV hE dX12_best_36 lV_X12_336 (c_X12_rightsAt _ μ_8 _ h) sM_0 rfl (Nat.le_of_ble_eq_true rfl) (by decide) rfl (zk_I (fun r_11 μ_12 h => ?_))
      refine z_istore (lv' := [(5, .int r_11), (4, .int x_9), (0, .ref 0), (1, .int v1_5), (2, .int v2_6), (3, .int v3_7)]) hE dX12_best_39 (by decide) rfl ?_
      refine z_iload hE dX12_best_41 0 rfl ?_
      refine z_join (P := fun (J_15 : Int32 → Int32 → Prop) => ∀ (v1_13 : Int32) (v2_14 : Int32), J_15 v1_13 v2_14 → zZ E (zzI Φ) 62 [(0, .ref 0), (1, .int v1_13), (2, .int v2_14), (3, .int v3_7)] [] μ_12) h (fun v1_13 v2_14 h => ?_) (fun J_15 hJ_15 h => ?_)
      · refine z_iinc (j := 3) (c := 1) (lv' := [(3, .int (v3_7 + (1 : Int32))), (0, .ref 0), (1, .int v1_13), (2, .int v2_14)]) hE dX12_best_62 rfl zv_i_1 (by decide) rfl ?_
        refine z_goto (tgt := 6) hE dX12_best_65 (by decide) ?_
        exact z_sub [1, 2, 3, 0] rfl (hk6_8 _ _ _ _ h)
      refine z_if_lt (tgt := 62) hE dX12_best_43 (by decide) h (fun h => ?_) (fun h => ?_)
      · exact z_sub [2, 3, 4, 5] rfl (hJ_15 _ _ h)
      · refine z_iload_n hE dX12_best_46 rfl 4 rfl ?_
        refine z_join (P := fun (J_16 : Prop) => J_16 → zZ E (zzI Φ) 56 [(0, .ref 0), (3, .int v3_7), (4, .int x_9), (5, .int r_11)] [] μ_12) h (fun  h => ?_) (fun J_16 hJ_16 h => ?_)
        · refine z_iload hE dX12_best_56 2 rfl ?_
          refine z_istore_n (lv' := [(1, .int x_9), (0, .ref 0), (3, .int v3_7), (4, .int x_9), (5, .int r_11)]) hE dX12_best_58 rfl (by decide) rfl ?_
          refine z_iload hE dX12_best_59 4 rfl ?_
          refine z_istore_n (lv' := [(2, .int r_11), (1, .int x_9), (0, .ref 0), (3, .int v3_7), (4, .int x_9), (5, .int r_11)]) hE dX12_best_61 rfl (by decide) rfl ?_
          exact z_sub [2, 1, 0, 3] rfl (hJ_15 _ _ h)
        refine z_if_lt (tgt := 56) hE dX12_best_47 (by decide) h (fun h => ?_) (fun h => ?_)
        · exact z_sub [2, 5, 1, 0] rfl (hJ_16 h)
        · refine z_iload hE dX12_best_50 0 rfl ?_
          refine z_iload_n hE dX12_best_52 rfl 4 rfl ?_
          refine z_icmp_ge (tgt := 62) hE dX12_best_53 (by decide) h (fun h => ?_) (fun h => ?_)
          · exact z_sub [2, 3, 4, 5] rfl (hJ_15 _ _ h)
          · exact z_sub [2, 5, 1, 0] rfl (hJ_16 h)
    refine z_if_ne (tgt := 25) hE dX12_best_16 (by decide) h (fun h => ?_) (fun h => ?_)
    · refine z_iload_n hE dX12_best_25 rfl 3 rfl ?_
      refine z_iconst (v := 1) hE dX12_best_26 zv_i_1 ?_
      refine z_iadd hE dX12_best_27 ?_
      refine z_ineg hE dX12_best_28 ?_
      refine z_iconst (v := 2) hE dX12_best_29 zv_i_2 ?_
      refine z_idiv hE dX12_best_30 (by decide) ?_
      exact hJ_10 _ h
    · refine z_iload_n hE dX12_best_19 rfl 3 rfl ?_
      refine z_iconst (v := 2) hE dX12_best_20 zv_i_2 ?_
      refine z_idiv hE dX12_best_21 (by decide) ?_
      refine z_goto (tgt := 31) hE dX12_best_22 (by decide) ?_
      exact hJ_10 _ h
set_option maxRecDepth 4000 in
theorem c_X12_caseOf (a1 : Int32) (a2 : Int32) (μ : ZMem) (Φ : Int32 → ZMem → Prop) (h : w_X12_caseOf a1 a2 μ Φ) : zM SM yX12_caseOf cX12_caseOf 3 (some FieldType.int) 5 [.ref 0, .int a1, .int a2] μ (zzI Φ) := by
  refine zM_go (own := RX12) rfl (by decide) (Nat.le_of_ble_eq_true rfl) (fun E hE => ?_)
  show zZ E (zzI Φ) 0 [(0, .ref 0), (1, .int a1), (2, .int a2)] [] μ
  unfold w_X12_caseOf at h
  refine z_iload_n hE dX12_caseOf_0 rfl 1 rfl ?_
  refine z_callS hE dX12_caseOf_1 lS_X12_130 (c_X12_isForm _ μ _ h) rfl (Nat.le_of_ble_eq_true rfl) (by decide) rfl (zk_PI (fun r_1 h => ?_))
  refine z_if_ne (tgt := 10) hE dX12_caseOf_4 (by decide) h (fun h => ?_) (fun h => ?_)
  · refine z_aload_n hE dX12_caseOf_10 rfl 0 rfl ?_
    refine z_iload_n hE dX12_caseOf_11 rfl 1 rfl ?_
    refine z_callV hE dX12_caseOf_12 lV_X12_173 (c_X12_laysRowsOf _ μ _ h) sM_0 rfl (Nat.le_of_ble_eq_true rfl) (by decide) rfl (zk_V (fun μ_4 h => ?_))
    refine z_aload_n hE dX12_caseOf_15 rfl 0 rfl ?_
    refine z_iload_n hE dX12_caseOf_16 rfl 2 rfl ?_
    refine z_callV hE dX12_caseOf_17 lV_X12_176 (c_X12_isRow _ μ_4 _ h) sM_0 rfl (Nat.le_of_ble_eq_true rfl) (by decide) rfl (zk_PI (fun r_5 h => ?_))
    refine z_if_ne (tgt := 27) hE dX12_caseOf_20 (by decide) h (fun h => ?_) (fun h => ?_)
    · refine z_aload_n hE dX12_caseOf_27 rfl 0 rfl ?_
      refine z_getI hE dX12_caseOf_28 lF_X12_69 sM_0 rfl ?_
      refine z_if_eq (tgt := 39) hE dX12_caseOf_31 (by decide) h (fun h => ?_) (fun h => ?_)
      · refine z_aload_n hE dX12_caseOf_39 rfl 0 rfl ?_
        refine z_getR (t := 8) hE dX12_caseOf_40 lF_X12_34 sM_0 rfl ?_
        refine z_iload_n hE dX12_caseOf_43 rfl 2 rfl ?_
        obtain ⟨q_7, h⟩ := h
        refine z_iald hE dX12_caseOf_44 sM_8 q_7 ?_
        exact z_iret (st := []) hE dX12_caseOf_45 rfl ⟨_, rfl, h⟩
      · refine z_bipush (v := -7) hE dX12_caseOf_34 zv_b_m7 ?_
        refine z_goto (tgt := 45) hE dX12_caseOf_36 (by decide) ?_
        exact z_iret (st := []) hE dX12_caseOf_45 rfl ⟨_, rfl, h⟩
    · refine z_iconst (v := -1) hE dX12_caseOf_23 zv_i_m1 ?_
      refine z_goto (tgt := 45) hE dX12_caseOf_24 (by decide) ?_
      exact z_iret (st := []) hE dX12_caseOf_45 rfl ⟨_, rfl, h⟩
  · refine z_bipush (v := -2) hE dX12_caseOf_7 zv_b_m2 ?_
    exact z_iret (st := []) hE dX12_caseOf_9 rfl ⟨_, rfl, h⟩
set_option maxRecDepth 4000 in
theorem c_X12_changes (a1 : Int32) (a2 : Int32) (a3 : Int32) (μ : ZMem) (Φ : Int32 → ZMem → Prop) (h : w_X12_changes a1 a2 a3 μ Φ) : zM SM yX12_changes cX12_changes 4 (some FieldType.int) 5 [.ref 0, .int a1, .int a2, .int a3] μ (zzI Φ) := by
  refine zM_go (own := RX12) rfl (by decide) (Nat.le_of_ble_eq_true rfl) (fun E hE => ?_)
  show zZ E (zzI Φ) 0 [(0, .ref 0), (1, .int a1), (2, .int a2), (3, .int a3)] [] μ
  unfold w_X12_changes at h
  refine z_iload_n hE dX12_changes_0 rfl 1 rfl ?_
  refine z_callS hE dX12_changes_1 lS_X12_130 (c_X12_isForm _ μ _ h) rfl (Nat.le_of_ble_eq_true rfl) (by decide) rfl (zk_PI (fun r_1 h => ?_))
  refine z_if_ne (tgt := 10) hE dX12_changes_4 (by decide) h (fun h => ?_) (fun h => ?_)
  · refine z_aload_n hE dX12_changes_10 rfl 0 rfl ?_
    refine z_iload_n hE dX12_changes_11 rfl 1 rfl ?_
    refine z_callV hE dX12_changes_12 lV_X12_173 (c_X12_laysRowsOf _ μ _ h) sM_0 rfl (Nat.le_of_ble_eq_true rfl) (by decide) rfl (zk_V (fun μ_4 h => ?_))
    refine z_aload_n hE dX12_changes_15 rfl 0 rfl ?_
    refine z_iload_n hE dX12_changes_16 rfl 2 rfl ?_
    refine z_callV hE dX12_changes_17 lV_X12_176 (c_X12_isRow _ μ_4 _ h) sM_0 rfl (Nat.le_of_ble_eq_true rfl) (by decide) rfl (zk_PI (fun r_5 h => ?_))
    refine z_if_eq (tgt := 36) hE dX12_changes_20 (by decide) h (fun h => ?_) (fun h => ?_)
    · refine z_iconst (v := -1) hE dX12_changes_36 zv_i_m1 ?_
      refine z_goto (tgt := 58) hE dX12_changes_37 (by decide) ?_
      exact z_iret (st := []) hE dX12_changes_58 rfl ⟨_, rfl, h⟩
    · refine z_aload_n hE dX12_changes_23 rfl 0 rfl ?_
      refine z_iload_n hE dX12_changes_24 rfl 3 rfl ?_
      refine z_callV hE dX12_changes_25 lV_X12_176 (c_X12_isRow _ μ_4 _ h) sM_0 rfl (Nat.le_of_ble_eq_true rfl) (by decide) rfl (zk_PI (fun r_7 h => ?_))
      refine z_if_eq (tgt := 36) hE dX12_changes_28 (by decide) h (fun h => ?_) (fun h => ?_)
      · refine z_iconst (v := -1) hE dX12_changes_36 zv_i_m1 ?_
        refine z_goto (tgt := 58) hE dX12_changes_37 (by decide) ?_
        exact z_iret (st := []) hE dX12_changes_58 rfl ⟨_, rfl, h⟩
      · refine z_iload_n hE dX12_changes_31 rfl 3 rfl ?_
        refine z_iload_n hE dX12_changes_32 rfl 2 rfl ?_
        refine z_icmp_ge (tgt := 40) hE dX12_changes_33 (by decide) h (fun h => ?_) (fun h => ?_)
        · refine z_aload_n hE dX12_changes_40 rfl 0 rfl ?_
          refine z_getI hE dX12_changes_41 lF_X12_69 sM_0 rfl ?_
          refine z_if_eq (tgt := 52) hE dX12_changes_44 (by decide) h (fun h => ?_) (fun h => ?_)
          · refine z_aload_n hE dX12_changes_52 rfl 0 rfl ?_
            refine z_iload_n hE dX12_changes_53 rfl 2 rfl ?_
            refine z_iload_n hE dX12_changes_54 rfl 3 rfl ?_
            refine z_callV hE dX12_changes_55 lV_X12_179 (c_X12_changesIn _ _ μ_4 _ h) sM_0 rfl (Nat.le_of_ble_eq_true rfl) (by decide) rfl (zk_PI (fun r_9 h => ?_))
            exact z_iret (st := []) hE dX12_changes_58 rfl ⟨_, rfl, h⟩
          · refine z_bipush (v := -7) hE dX12_changes_47 zv_b_m7 ?_
            refine z_goto (tgt := 58) hE dX12_changes_49 (by decide) ?_
            exact z_iret (st := []) hE dX12_changes_58 rfl ⟨_, rfl, h⟩
        · refine z_iconst (v := -1) hE dX12_changes_36 zv_i_m1 ?_
          refine z_goto (tgt := 58) hE dX12_changes_37 (by decide) ?_
          exact z_iret (st := []) hE dX12_changes_58 rfl ⟨_, rfl, h⟩
  · refine z_bipush (v := -2) hE dX12_changes_7 zv_b_m2 ?_
    exact z_iret (st := []) hE dX12_changes_9 rfl ⟨_, rfl, h⟩
set_option maxRecDepth 4000 in
theorem c_X12_findsJump (a1 : Int32) (μ : ZMem) (Φ : ZMem → Prop) (h : w_X12_findsJump a1 μ Φ) : zM SM yX12_findsJump cX12_findsJump 5 (none) 5 [.ref 0, .int a1] μ (zzV Φ) := by
  refine zM_go (own := RX12) rfl (by decide) (Nat.le_of_ble_eq_true rfl) (fun E hE => ?_)
  show zZ E (zzV Φ) 0 [(0, .ref 0), (1, .int a1)] [] μ
  unfold w_X12_findsJump at h
  refine z_aload_n hE dX12_findsJump_0 rfl 0 rfl ?_
  refine z_iconst (v := 0) hE dX12_findsJump_1 zv_i_0 ?_
  refine z_put hE dX12_findsJump_2 lF_X12_339 sM_0 rfl rfl rfl ?_
  refine zn (G := fun μ_1 => zZ E (zzV Φ) 5 [(0, .ref 0), (1, .int a1)] [] μ_1) h (fun μ_1 h => ?_)
  refine z_aload_n hE dX12_findsJump_5 rfl 0 rfl ?_
  refine z_bipush (v := -100) hE dX12_findsJump_6 zv_b_m100 ?_
  refine z_callV hE dX12_findsJump_8 lV_X12_336 (c_X12_rightsAt _ μ_1 _ h) sM_0 rfl (Nat.le_of_ble_eq_true rfl) (by decide) rfl (zk_I (fun r_2 μ_3 h => ?_))
  refine z_istore_n (lv' := [(2, .int r_2), (0, .ref 0), (1, .int a1)]) hE dX12_findsJump_11 rfl (by decide) rfl ?_
  refine z_bipush (v := -99) hE dX12_findsJump_12 zv_b_m99 ?_
  refine z_istore_n (lv' := [(3, .int (-99 : Int32)), (2, .int r_2), (0, .ref 0), (1, .int a1)]) hE dX12_findsJump_14 rfl (by decide) rfl ?_
  refine z_sub [2, 3, 1, 0] rfl ?_
  obtain ⟨n15, h⟩ := h
  refine z_loop3 (P := fun (v2_4 : Int32) (v3_5 : Int32) (μ_6 : ZMem) => zZ E (zzV Φ) 15 [(0, .ref 0), (1, .int a1), (2, .int v2_4), (3, .int v3_5)] [] μ_6) (fun k15_6 hk15_6 v2_4 v3_5 μ_6 h => ?_) n15 _ _ _ h
  refine z_iload_n hE dX12_findsJump_15 rfl 3 rfl ?_
  refine z_bipush (v := 100) hE dX12_findsJump_16 zv_b_100 ?_
  refine z_icmp_gt (tgt := 73) hE dX12_findsJump_18 (by decide) h (fun h => ?_) (fun h => ?_)
  · exact z_vret (st := []) hE dX12_findsJump_73 rfl ⟨rfl, h⟩
  · refine z_aload_n hE dX12_findsJump_21 rfl 0 rfl ?_
    refine z_iload_n hE dX12_findsJump_22 rfl 3 rfl ?_
    refine z_callV hE dX12_findsJump_23 lV_X12_336 (c_X12_rightsAt _ μ_6 _ h) sM_0 rfl (Nat.le_of_ble_eq_true rfl) (by decide) rfl (zk_I (fun r_7 μ_8 h => ?_))
    refine z_istore (lv' := [(4, .int r_7), (0, .ref 0), (1, .int a1), (2, .int v2_4), (3, .int v3_5)]) hE dX12_findsJump_26 (by decide) rfl ?_
    refine z_iload hE dX12_findsJump_28 0 rfl ?_
    refine z_iload_n hE dX12_findsJump_30 rfl 3 rfl ?_
    refine z_join (P := fun (J_10 : ZMem → Prop) => ∀ (μ_9 : ZMem), J_10 μ_9 → zZ E (zzV Φ) 64 [(0, .ref 0), (1, .int a1), (3, .int v3_5), (4, .int r_7)] [] μ_9) h (fun μ_9 h => ?_) (fun J_10 hJ_10 h => ?_)
    · refine z_iload hE dX12_findsJump_64 3 rfl ?_
      refine z_istore_n (lv' := [(2, .int r_7), (0, .ref 0), (1, .int a1), (3, .int v3_5), (4, .int r_7)]) hE dX12_findsJump_66 rfl (by decide) rfl ?_
      refine z_iinc (j := 3) (c := 1) (lv' := [(3, .int (v3_5 + (1 : Int32))), (2, .int r_7), (0, .ref 0), (1, .int a1), (4, .int r_7)]) hE dX12_findsJump_67 rfl zv_i_1 (by decide) rfl ?_
      refine z_goto (tgt := 15) hE dX12_findsJump_70 (by decide) ?_
      exact z_sub [2, 3, 1, 0] rfl (hk15_6 _ _ _ h)
    refine z_icmp_eq (tgt := 64) hE dX12_findsJump_31 (by decide) h (fun h => ?_) (fun h => ?_)
    · exact z_sub [1, 2, 4, 0] rfl (hJ_10 _ h)
    · refine z_aload_n hE dX12_findsJump_34 rfl 1 rfl ?_
      refine z_aload_n hE dX12_findsJump_35 rfl 1 rfl ?_
      refine z_getI hE dX12_findsJump_36 lF_X12_339 sM_0 rfl ?_
      refine z_iload_n hE dX12_findsJump_39 rfl 2 rfl ?_
      refine z_join (P := fun (J_12 : Int32 → Prop) => ∀ (x_11 : Int32), J_12 x_11 → zZ E (zzV Φ) 51 [(0, .ref 0), (1, .int a1), (3, .int v3_5), (4, .int r_7)] [.int x_11, .ref 0] μ_8) h (fun x_11 h => ?_) (fun J_12 hJ_12 h => ?_)
      · refine z_put hE dX12_findsJump_51 lF_X12_342 sM_0 rfl rfl rfl ?_
        refine zn (G := fun μ_13 => zZ E (zzV Φ) 54 [(0, .ref 0), (1, .int a1), (3, .int v3_5), (4, .int r_7)] [] μ_13) h (fun μ_13 h => ?_)
        refine z_aload_n hE dX12_findsJump_54 rfl 0 rfl ?_
        refine z_dup hE dX12_findsJump_55 rfl ?_
        refine z_getI hE dX12_findsJump_56 lF_X12_339 sM_0 rfl ?_
        refine z_iconst (v := 1) hE dX12_findsJump_59 zv_i_1 ?_
        refine z_iadd hE dX12_findsJump_60 ?_
        refine z_put hE dX12_findsJump_61 lF_X12_339 sM_0 rfl rfl rfl ?_
        refine zn (G := fun μ_14 => zZ E (zzV Φ) 64 [(0, .ref 0), (1, .int a1), (3, .int v3_5), (4, .int r_7)] [] μ_14) h (fun μ_14 h => ?_)
        exact hJ_10 _ h
      refine z_icmp_ne (tgt := 47) hE dX12_findsJump_40 (by decide) h (fun h => ?_) (fun h => ?_)
      · refine z_aload_n hE dX12_findsJump_47 rfl 1 rfl ?_
        refine z_getI hE dX12_findsJump_48 lF_X12_342 sM_0 rfl ?_
        exact z_sub [1, 2, 4, 0] rfl (hJ_12 _ h)
      · refine z_iload_n hE dX12_findsJump_43 rfl 4 rfl ?_
        refine z_goto (tgt := 51) hE dX12_findsJump_44 (by decide) ?_
        exact z_sub [1, 2, 4, 0] rfl (hJ_12 _ h)
set_option maxRecDepth 4000 in
theorem c_X12_firstEdge (a1 : Int32) (a2 : Int32) (μ : ZMem) (Φ : Int32 → ZMem → Prop) (h : w_X12_firstEdge a1 a2 μ Φ) : zM SM yX12_firstEdge cX12_firstEdge 8 (some FieldType.int) 5 [.ref 0, .int a1, .int a2] μ (zzI Φ) := by
  refine zM_go (own := RX12) rfl (by decide) (Nat.le_of_ble_eq_true rfl) (fun E hE => ?_)
  show zZ E (zzI Φ) 0 [(0, .ref 0), (1, .int a1), (2, .int a2)] [] μ
  unfold w_X12_firstEdge at h
  refine z_bipush (v := 16) hE dX12_firstEdge_0 zv_b_16 ?_
  refine z_iload_n hE dX12_firstEdge_2 rfl 2 rfl ?_
  refine z_imul hE dX12_firstEdge_3 ?_
  refine z_istore_n (lv' := [(3, .int ((16 : Int32) * a2)), (0, .ref 0), (1, .int a1), (2, .int a2)]) hE dX12_firstEdge_4 rfl (by decide) rfl ?_
  refine zn (G := fun v3_1 => zZ E (zzI Φ) 5 [(3, .int v3_1), (0, .ref 0), (1, .int a1), (2, .int a2)] [] μ) h (fun v3_1 h => ?_)
  refine z_iload_n hE dX12_firstEdge_5 rfl 0 rfl ?_
  refine z_bipush (v := 16) hE dX12_firstEdge_6 zv_b_16 ?_
  refine z_isub hE dX12_firstEdge_8 ?_
  refine z_istore (lv' := [(4, .int (v3_1 - (16 : Int32))), (3, .int v3_1), (0, .ref 0), (1, .int a1), (2, .int a2)]) hE dX12_firstEdge_9 (by decide) rfl ?_
  refine zn (G := fun v4_2 => zZ E (zzI Φ) 11 [(4, .int v4_2), (3, .int v3_1), (0, .ref 0), (1, .int a1), (2, .int a2)] [] μ) h (fun v4_2 h => ?_)
  refine z_iconst (v := 0) hE dX12_firstEdge_11 zv_i_0 ?_
  refine z_istore (lv' := [(5, .int (0 : Int32)), (4, .int v4_2), (3, .int v3_1), (0, .ref 0), (1, .int a1), (2, .int a2)]) hE dX12_firstEdge_12 (by decide) rfl ?_
  refine z_sub [3, 4, 5, 2, 1, 0] rfl ?_
  obtain ⟨n14, h⟩ := h
  refine z_loop4 (P := fun (v3_3 : Int32) (v4_4 : Int32) (v5_5 : Int32) (μ_6 : ZMem) => zZ E (zzI Φ) 14 [(0, .ref 0), (1, .int a1), (2, .int a2), (3, .int v3_3), (4, .int v4_4), (5, .int v5_5)] [] μ_6) (fun k14_6 hk14_6 v3_3 v4_4 v5_5 μ_6 h => ?_) n14 _ _ _ _ h
  refine z_iload hE dX12_firstEdge_14 5 rfl ?_
  refine z_iconst (v := 4) hE dX12_firstEdge_16 zv_i_4 ?_
  refine z_icmp_ge (tgt := 77) hE dX12_firstEdge_17 (by decide) h (fun h => ?_) (fun h => ?_)
  · refine z_iload_n hE dX12_firstEdge_77 rfl 3 rfl ?_
    exact z_iret (st := []) hE dX12_firstEdge_78 rfl ⟨_, rfl, h⟩
  · refine z_iload_n hE dX12_firstEdge_20 rfl 2 rfl ?_
    refine z_bipush (v := -100) hE dX12_firstEdge_21 zv_b_m100 ?_
    refine z_icmp_le (tgt := 77) hE dX12_firstEdge_23 (by decide) h (fun h => ?_) (fun h => ?_)
    · refine z_iload_n hE dX12_firstEdge_77 rfl 3 rfl ?_
      exact z_iret (st := []) hE dX12_firstEdge_78 rfl ⟨_, rfl, h⟩
    · refine z_iload hE dX12_firstEdge_26 4 rfl ?_
      refine z_iload_n hE dX12_firstEdge_28 rfl 3 rfl ?_
      refine z_iadd hE dX12_firstEdge_29 ?_
      refine z_iconst (v := 2) hE dX12_firstEdge_30 zv_i_2 ?_
      refine z_idiv hE dX12_firstEdge_31 (by decide) ?_
      refine z_istore (lv' := [(6, .int ((v4_4 + v3_3) / (2 : Int32))), (0, .ref 0), (1, .int a1), (2, .int a2), (3, .int v3_3), (4, .int v4_4), (5, .int v5_5)]) hE dX12_firstEdge_32 (by decide) rfl ?_
      refine zn (G := fun v6_7 => zZ E (zzI Φ) 34 [(6, .int v6_7), (0, .ref 0), (1, .int a1), (2, .int a2), (3, .int v3_3), (4, .int v4_4), (5, .int v5_5)] [] μ_6) h (fun v6_7 h => ?_)
      refine z_aload_n hE dX12_firstEdge_34 rfl 1 rfl ?_
      refine z_iload_n hE dX12_firstEdge_35 rfl 2 rfl ?_
      refine z_bipush (v := 16) hE dX12_firstEdge_36 zv_b_16 ?_
      refine z_iload hE dX12_firstEdge_38 0 rfl ?_
      refine z_callV hE dX12_firstEdge_40 lV_X12_213 (c_X12_isSteady _ _ _ μ_6 _ h) sM_0 rfl (Nat.le_of_ble_eq_true rfl) (by decide) rfl (zk_I (fun r_8 μ_9 h => ?_))
      refine z_istore (lv' := [(7, .int r_8), (6, .int v6_7), (0, .ref 0), (1, .int a1), (2, .int a2), (3, .int v3_3), (4, .int v4_4), (5, .int v5_5)]) hE dX12_firstEdge_43 (by decide) rfl ?_
      refine z_iload hE dX12_firstEdge_45 0 rfl ?_
      refine z_join (P := fun (J_11 : Int32 → Prop) => ∀ (x_10 : Int32), J_11 x_10 → zZ E (zzI Φ) 56 [(0, .ref 0), (1, .int a1), (2, .int a2), (4, .int v4_4), (5, .int v5_5), (6, .int v6_7), (7, .int r_8)] [.int x_10] μ_9) h (fun x_10 h => ?_) (fun J_11 hJ_11 h => ?_)
      · refine z_istore_n (lv' := [(3, .int x_10), (0, .ref 0), (1, .int a1), (2, .int a2), (4, .int v4_4), (5, .int v5_5), (6, .int v6_7), (7, .int r_8)]) hE dX12_firstEdge_56 rfl (by decide) rfl ?_
        refine z_iload hE dX12_firstEdge_57 7 rfl ?_
        refine z_join (P := fun (J_13 : Int32 → Prop) => ∀ (x_12 : Int32), J_13 x_12 → zZ E (zzI Φ) 69 [(0, .ref 0), (1, .int a1), (2, .int a2), (3, .int x_10), (5, .int v5_5)] [.int x_12] μ_9) h (fun x_12 h => ?_) (fun J_13 hJ_13 h => ?_)
        · refine z_istore (lv' := [(4, .int x_12), (0, .ref 0), (1, .int a1), (2, .int a2), (3, .int x_10), (5, .int v5_5)]) hE dX12_firstEdge_69 (by decide) rfl ?_
          refine z_iinc (j := 5) (c := 1) (lv' := [(5, .int (v5_5 + (1 : Int32))), (4, .int x_12), (0, .ref 0), (1, .int a1), (2, .int a2), (3, .int x_10)]) hE dX12_firstEdge_71 rfl zv_i_1 (by decide) rfl ?_
          refine z_goto (tgt := 14) hE dX12_firstEdge_74 (by decide) ?_
          exact z_sub [2, 3, 4, 5, 1, 0] rfl (hk14_6 _ _ _ _ h)
        refine z_if_eq (tgt := 67) hE dX12_firstEdge_59 (by decide) h (fun h => ?_) (fun h => ?_)
        · refine z_iload hE dX12_firstEdge_67 6 rfl ?_
          exact z_sub [1, 2, 3, 0, 5] rfl (hJ_13 _ h)
        · refine z_iload hE dX12_firstEdge_62 4 rfl ?_
          refine z_goto (tgt := 69) hE dX12_firstEdge_64 (by decide) ?_
          exact z_sub [1, 2, 3, 0, 5] rfl (hJ_13 _ h)
      refine z_if_eq (tgt := 55) hE dX12_firstEdge_47 (by decide) h (fun h => ?_) (fun h => ?_)
      · refine z_iload_n hE dX12_firstEdge_55 rfl 5 rfl ?_
        exact z_sub [2, 3, 4, 6, 7, 1, 0] rfl (hJ_11 _ h)
      · refine z_iload hE dX12_firstEdge_50 1 rfl ?_
        refine z_goto (tgt := 56) hE dX12_firstEdge_52 (by decide) ?_
        exact z_sub [2, 3, 4, 6, 7, 1, 0] rfl (hJ_11 _ h)
set_option maxRecDepth 4000 in
theorem c_X12_lastEdge (a1 : Int32) (a2 : Int32) (μ : ZMem) (Φ : Int32 → ZMem → Prop) (h : w_X12_lastEdge a1 a2 μ Φ) : zM SM yX12_lastEdge cX12_lastEdge 8 (some FieldType.int) 5 [.ref 0, .int a1, .int a2] μ (zzI Φ) := by
  refine zM_go (own := RX12) rfl (by decide) (Nat.le_of_ble_eq_true rfl) (fun E hE => ?_)
  show zZ E (zzI Φ) 0 [(0, .ref 0), (1, .int a1), (2, .int a2)] [] μ
  unfold w_X12_lastEdge at h
  refine z_bipush (v := 16) hE dX12_lastEdge_0 zv_b_16 ?_
  refine z_iload_n hE dX12_lastEdge_2 rfl 2 rfl ?_
  refine z_imul hE dX12_lastEdge_3 ?_
  refine z_istore_n (lv' := [(3, .int ((16 : Int32) * a2)), (0, .ref 0), (1, .int a1), (2, .int a2)]) hE dX12_lastEdge_4 rfl (by decide) rfl ?_
  refine zn (G := fun v3_1 => zZ E (zzI Φ) 5 [(3, .int v3_1), (0, .ref 0), (1, .int a1), (2, .int a2)] [] μ) h (fun v3_1 h => ?_)
  refine z_iload_n hE dX12_lastEdge_5 rfl 0 rfl ?_
  refine z_bipush (v := 16) hE dX12_lastEdge_6 zv_b_16 ?_
  refine z_iadd hE dX12_lastEdge_8 ?_
  refine z_istore (lv' := [(4, .int (v3_1 + (16 : Int32))), (3, .int v3_1), (0, .ref 0), (1, .int a1), (2, .int a2)]) hE dX12_lastEdge_9 (by decide) rfl ?_
  refine zn (G := fun v4_2 => zZ E (zzI Φ) 11 [(4, .int v4_2), (3, .int v3_1), (0, .ref 0), (1, .int a1), (2, .int a2)] [] μ) h (fun v4_2 h => ?_)
  refine z_iconst (v := 0) hE dX12_lastEdge_11 zv_i_0 ?_
  refine z_istore (lv' := [(5, .int (0 : Int32)), (4, .int v4_2), (3, .int v3_1), (0, .ref 0), (1, .int a1), (2, .int a2)]) hE dX12_lastEdge_12 (by decide) rfl ?_
  refine z_sub [3, 4, 5, 2, 1, 0] rfl ?_
  obtain ⟨n14, h⟩ := h
  refine z_loop4 (P := fun (v3_3 : Int32) (v4_4 : Int32) (v5_5 : Int32) (μ_6 : ZMem) => zZ E (zzI Φ) 14 [(0, .ref 0), (1, .int a1), (2, .int a2), (3, .int v3_3), (4, .int v4_4), (5, .int v5_5)] [] μ_6) (fun k14_6 hk14_6 v3_3 v4_4 v5_5 μ_6 h => ?_) n14 _ _ _ _ h
  refine z_iload hE dX12_lastEdge_14 5 rfl ?_
  refine z_iconst (v := 4) hE dX12_lastEdge_16 zv_i_4 ?_
  refine z_icmp_ge (tgt := 77) hE dX12_lastEdge_17 (by decide) h (fun h => ?_) (fun h => ?_)
  · refine z_iload_n hE dX12_lastEdge_77 rfl 3 rfl ?_
    exact z_iret (st := []) hE dX12_lastEdge_78 rfl ⟨_, rfl, h⟩
  · refine z_iload_n hE dX12_lastEdge_20 rfl 2 rfl ?_
    refine z_bipush (v := 100) hE dX12_lastEdge_21 zv_b_100 ?_
    refine z_icmp_ge (tgt := 77) hE dX12_lastEdge_23 (by decide) h (fun h => ?_) (fun h => ?_)
    · refine z_iload_n hE dX12_lastEdge_77 rfl 3 rfl ?_
      exact z_iret (st := []) hE dX12_lastEdge_78 rfl ⟨_, rfl, h⟩
    · refine z_iload_n hE dX12_lastEdge_26 rfl 3 rfl ?_
      refine z_iload hE dX12_lastEdge_27 4 rfl ?_
      refine z_iadd hE dX12_lastEdge_29 ?_
      refine z_iconst (v := 2) hE dX12_lastEdge_30 zv_i_2 ?_
      refine z_idiv hE dX12_lastEdge_31 (by decide) ?_
      refine z_istore (lv' := [(6, .int ((v3_3 + v4_4) / (2 : Int32))), (0, .ref 0), (1, .int a1), (2, .int a2), (3, .int v3_3), (4, .int v4_4), (5, .int v5_5)]) hE dX12_lastEdge_32 (by decide) rfl ?_
      refine zn (G := fun v6_7 => zZ E (zzI Φ) 34 [(6, .int v6_7), (0, .ref 0), (1, .int a1), (2, .int a2), (3, .int v3_3), (4, .int v4_4), (5, .int v5_5)] [] μ_6) h (fun v6_7 h => ?_)
      refine z_aload_n hE dX12_lastEdge_34 rfl 1 rfl ?_
      refine z_iload_n hE dX12_lastEdge_35 rfl 2 rfl ?_
      refine z_bipush (v := 16) hE dX12_lastEdge_36 zv_b_16 ?_
      refine z_iload hE dX12_lastEdge_38 0 rfl ?_
      refine z_callV hE dX12_lastEdge_40 lV_X12_213 (c_X12_isSteady _ _ _ μ_6 _ h) sM_0 rfl (Nat.le_of_ble_eq_true rfl) (by decide) rfl (zk_I (fun r_8 μ_9 h => ?_))
      refine z_istore (lv' := [(7, .int r_8), (6, .int v6_7), (0, .ref 0), (1, .int a1), (2, .int a2), (3, .int v3_3), (4, .int v4_4), (5, .int v5_5)]) hE dX12_lastEdge_43 (by decide) rfl ?_
      refine z_iload hE dX12_lastEdge_45 0 rfl ?_
      refine z_join (P := fun (J_11 : Int32 → Prop) => ∀ (x_10 : Int32), J_11 x_10 → zZ E (zzI Φ) 56 [(0, .ref 0), (1, .int a1), (2, .int a2), (4, .int v4_4), (5, .int v5_5), (6, .int v6_7), (7, .int r_8)] [.int x_10] μ_9) h (fun x_10 h => ?_) (fun J_11 hJ_11 h => ?_)
      · refine z_istore_n (lv' := [(3, .int x_10), (0, .ref 0), (1, .int a1), (2, .int a2), (4, .int v4_4), (5, .int v5_5), (6, .int v6_7), (7, .int r_8)]) hE dX12_lastEdge_56 rfl (by decide) rfl ?_
        refine z_iload hE dX12_lastEdge_57 7 rfl ?_
        refine z_join (P := fun (J_13 : Int32 → Prop) => ∀ (x_12 : Int32), J_13 x_12 → zZ E (zzI Φ) 69 [(0, .ref 0), (1, .int a1), (2, .int a2), (3, .int x_10), (5, .int v5_5)] [.int x_12] μ_9) h (fun x_12 h => ?_) (fun J_13 hJ_13 h => ?_)
        · refine z_istore (lv' := [(4, .int x_12), (0, .ref 0), (1, .int a1), (2, .int a2), (3, .int x_10), (5, .int v5_5)]) hE dX12_lastEdge_69 (by decide) rfl ?_
          refine z_iinc (j := 5) (c := 1) (lv' := [(5, .int (v5_5 + (1 : Int32))), (4, .int x_12), (0, .ref 0), (1, .int a1), (2, .int a2), (3, .int x_10)]) hE dX12_lastEdge_71 rfl zv_i_1 (by decide) rfl ?_
          refine z_goto (tgt := 14) hE dX12_lastEdge_74 (by decide) ?_
          exact z_sub [2, 3, 4, 5, 1, 0] rfl (hk14_6 _ _ _ _ h)
        refine z_if_eq (tgt := 67) hE dX12_lastEdge_59 (by decide) h (fun h => ?_) (fun h => ?_)
        · refine z_iload hE dX12_lastEdge_67 6 rfl ?_
          exact z_sub [1, 2, 3, 0, 5] rfl (hJ_13 _ h)
        · refine z_iload hE dX12_lastEdge_62 4 rfl ?_
          refine z_goto (tgt := 69) hE dX12_lastEdge_64 (by decide) ?_
          exact z_sub [1, 2, 3, 0, 5] rfl (hJ_13 _ h)
      refine z_if_eq (tgt := 55) hE dX12_lastEdge_47 (by decide) h (fun h => ?_) (fun h => ?_)
      · refine z_iload_n hE dX12_lastEdge_55 rfl 5 rfl ?_
        exact z_sub [2, 3, 4, 6, 7, 1, 0] rfl (hJ_11 _ h)
      · refine z_iload hE dX12_lastEdge_50 1 rfl ?_
        refine z_goto (tgt := 56) hE dX12_lastEdge_52 (by decide) ?_
        exact z_sub [2, 3, 4, 6, 7, 1, 0] rfl (hJ_11 _ h)
set_option maxRecDepth 4000 in
theorem c_X12_laysSpans (a1 : Int32) (μ : ZMem) (Φ : ZMem → Prop) (h : w_X12_laysSpans a1 μ Φ) : zM SM yX12_laysSpans cX12_laysSpans 5 (none) 5 [.ref 0, .int a1] μ (zzV Φ) := by
  refine zM_go (own := RX12) rfl (by decide) (Nat.le_of_ble_eq_true rfl) (fun E hE => ?_)
  show zZ E (zzV Φ) 0 [(0, .ref 0), (1, .int a1)] [] μ
  unfold w_X12_laysSpans at h
  refine z_aload_n hE dX12_laysSpans_0 rfl 0 rfl ?_
  refine z_iconst (v := 0) hE dX12_laysSpans_1 zv_i_0 ?_
  refine z_put hE dX12_laysSpans_2 lF_X12_217 sM_0 rfl rfl rfl ?_
  refine zn (G := fun μ_1 => zZ E (zzV Φ) 5 [(0, .ref 0), (1, .int a1)] [] μ_1) h (fun μ_1 h => ?_)
  refine z_iconst (v := 0) hE dX12_laysSpans_5 zv_i_0 ?_
  refine z_istore_n (lv' := [(2, .int (0 : Int32)), (0, .ref 0), (1, .int a1)]) hE dX12_laysSpans_6 rfl (by decide) rfl ?_
  refine z_bipush (v := -100) hE dX12_laysSpans_7 zv_b_m100 ?_
  refine z_istore_n (lv' := [(3, .int (-100 : Int32)), (2, .int (0 : Int32)), (0, .ref 0), (1, .int a1)]) hE dX12_laysSpans_9 rfl (by decide) rfl ?_
  refine z_sub [2, 3, 1, 0] rfl ?_
  obtain ⟨n10, h⟩ := h
  refine z_loop3 (P := fun (v2_2 : Int32) (v3_3 : Int32) (μ_4 : ZMem) => zZ E (zzV Φ) 10 [(0, .ref 0), (1, .int a1), (2, .int v2_2), (3, .int v3_3)] [] μ_4) (fun k10_4 hk10_4 v2_2 v3_3 μ_4 h => ?_) n10 _ _ _ h
  refine z_iload_n hE dX12_laysSpans_10 rfl 3 rfl ?_
  refine z_bipush (v := 100) hE dX12_laysSpans_11 zv_b_100 ?_
  refine z_icmp_gt (tgt := 80) hE dX12_laysSpans_13 (by decide) h (fun h => ?_) (fun h => ?_)
  · exact z_vret (st := []) hE dX12_laysSpans_80 rfl ⟨rfl, h⟩
  · refine z_aload_n hE dX12_laysSpans_16 rfl 0 rfl ?_
    refine z_iload_n hE dX12_laysSpans_17 rfl 1 rfl ?_
    refine z_iconst (v := 1) hE dX12_laysSpans_18 zv_i_1 ?_
    refine z_iload_n hE dX12_laysSpans_19 rfl 3 rfl ?_
    refine z_callV hE dX12_laysSpans_20 lV_X12_213 (c_X12_isSteady _ _ _ μ_4 _ h) sM_0 rfl (Nat.le_of_ble_eq_true rfl) (by decide) rfl (zk_I (fun r_5 μ_6 h => ?_))
    refine z_istore (lv' := [(4, .int r_5), (0, .ref 0), (1, .int a1), (2, .int v2_2), (3, .int v3_3)]) hE dX12_laysSpans_23 (by decide) rfl ?_
    refine z_iload hE dX12_laysSpans_25 0 rfl ?_
    refine z_join (P := fun (J_8 : ZMem → Prop) => ∀ (μ_7 : ZMem), J_8 μ_7 → zZ E (zzV Φ) 54 [(0, .ref 0), (1, .int a1), (3, .int v3_3), (4, .int r_5)] [] μ_7) h (fun μ_7 h => ?_) (fun J_8 hJ_8 h => ?_)
    · refine z_iload hE dX12_laysSpans_54 3 rfl ?_
      refine z_join (P := fun (J_10 : ZMem → Prop) => ∀ (μ_9 : ZMem), J_10 μ_9 → zZ E (zzV Φ) 71 [(0, .ref 0), (1, .int a1), (3, .int v3_3), (4, .int r_5)] [] μ_9) h (fun μ_9 h => ?_) (fun J_10 hJ_10 h => ?_)
      · refine z_iload hE dX12_laysSpans_71 3 rfl ?_
        refine z_istore_n (lv' := [(2, .int r_5), (0, .ref 0), (1, .int a1), (3, .int v3_3), (4, .int r_5)]) hE dX12_laysSpans_73 rfl (by decide) rfl ?_
        refine z_iinc (j := 3) (c := 1) (lv' := [(3, .int (v3_3 + (1 : Int32))), (2, .int r_5), (0, .ref 0), (1, .int a1), (4, .int r_5)]) hE dX12_laysSpans_74 rfl zv_i_1 (by decide) rfl ?_
        refine z_goto (tgt := 10) hE dX12_laysSpans_77 (by decide) ?_
        exact z_sub [2, 3, 1, 0] rfl (hk10_4 _ _ _ h)
      refine z_if_eq (tgt := 71) hE dX12_laysSpans_56 (by decide) h (fun h => ?_) (fun h => ?_)
      · exact hJ_10 _ h
      · refine z_aload_n hE dX12_laysSpans_59 rfl 0 rfl ?_
        refine z_getR (t := 10) hE dX12_laysSpans_60 lF_X12_40 sM_0 rfl ?_
        refine z_aload_n hE dX12_laysSpans_63 rfl 0 rfl ?_
        refine z_getI hE dX12_laysSpans_64 lF_X12_217 sM_0 rfl ?_
        refine z_iconst (v := 1) hE dX12_laysSpans_67 zv_i_1 ?_
        refine z_isub hE dX12_laysSpans_68 ?_
        refine z_iload_n hE dX12_laysSpans_69 rfl 2 rfl ?_
        obtain ⟨q_11, h⟩ := h
        refine z_iast hE dX12_laysSpans_70 sM_10 q_11 ?_
        refine zn (G := fun μ_12 => zZ E (zzV Φ) 71 [(0, .ref 0), (1, .int a1), (3, .int v3_3), (4, .int r_5)] [] μ_12) h (fun μ_12 h => ?_)
        exact hJ_10 _ h
    refine z_if_eq (tgt := 54) hE dX12_laysSpans_27 (by decide) h (fun h => ?_) (fun h => ?_)
    · exact z_sub [1, 2, 4, 0] rfl (hJ_8 _ h)
    · refine z_iload_n hE dX12_laysSpans_30 rfl 3 rfl ?_
      refine z_if_ne (tgt := 54) hE dX12_laysSpans_31 (by decide) h (fun h => ?_) (fun h => ?_)
      · exact z_sub [1, 2, 4, 0] rfl (hJ_8 _ h)
      · refine z_aload_n hE dX12_laysSpans_34 rfl 1 rfl ?_
        refine z_getR (t := 9) hE dX12_laysSpans_35 lF_X12_37 sM_0 rfl ?_
        refine z_aload_n hE dX12_laysSpans_38 rfl 1 rfl ?_
        refine z_getI hE dX12_laysSpans_39 lF_X12_217 sM_0 rfl ?_
        refine z_iload_n hE dX12_laysSpans_42 rfl 4 rfl ?_
        obtain ⟨q_13, h⟩ := h
        refine z_iast hE dX12_laysSpans_43 sM_9 q_13 ?_
        refine zn (G := fun μ_14 => zZ E (zzV Φ) 44 [(4, .int r_5), (0, .ref 0), (1, .int a1), (2, .int v2_2), (3, .int v3_3)] [] μ_14) h (fun μ_14 h => ?_)
        refine z_aload_n hE dX12_laysSpans_44 rfl 1 rfl ?_
        refine z_dup hE dX12_laysSpans_45 rfl ?_
        refine z_getI hE dX12_laysSpans_46 lF_X12_217 sM_0 rfl ?_
        refine z_iconst (v := 1) hE dX12_laysSpans_49 zv_i_1 ?_
        refine z_iadd hE dX12_laysSpans_50 ?_
        refine z_put hE dX12_laysSpans_51 lF_X12_217 sM_0 rfl rfl rfl ?_
        refine zn (G := fun μ_15 => zZ E (zzV Φ) 54 [(4, .int r_5), (0, .ref 0), (1, .int a1), (2, .int v2_2), (3, .int v3_3)] [] μ_15) h (fun μ_15 h => ?_)
        exact z_sub [1, 2, 4, 0] rfl (hJ_8 _ h)
set_option maxRecDepth 4000 in
theorem c_X12_reach  (μ : ZMem) (Φ : Int32 → ZMem → Prop) (h : w_X12_reach μ Φ) : zM SM yX12_reach cX12_reach 5 (some FieldType.int) 5 [.ref 0] μ (zzI Φ) := by
  refine zM_go (own := RX12) rfl (by decide) (Nat.le_of_ble_eq_true rfl) (fun E hE => ?_)
  show zZ E (zzI Φ) 0 [(0, .ref 0)] [] μ
  unfold w_X12_reach at h
  refine z_aload_n hE dX12_reach_0 rfl 0 rfl ?_
  refine z_iconst (v := 1) hE dX12_reach_1 zv_i_1 ?_
  refine z_aload_n hE dX12_reach_2 rfl 0 rfl ?_
  refine z_getR (t := 1) hE dX12_reach_3 lF_X12_11 sM_0 rfl ?_
  refine z_bipush (v := 14) hE dX12_reach_6 zv_b_14 ?_
  refine z_iald hE dX12_reach_8 sM_1 (zin (by decide)) ?_
  refine z_callV hE dX12_reach_9 lV_X12_97 (c_X12_takes _ _ μ _ h) sM_0 rfl (Nat.le_of_ble_eq_true rfl) (by decide) rfl (zk_V (fun μ_2 h => ?_))
  refine z_aload_n hE dX12_reach_12 rfl 0 rfl ?_
  refine z_getI hE dX12_reach_13 lF_X12_77 sM_0 rfl ?_
  refine z_iconst (v := 1) hE dX12_reach_16 zv_i_1 ?_
  refine z_icmp_ge (tgt := 23) hE dX12_reach_17 (by decide) h (fun h => ?_) (fun h => ?_)
  · refine z_bipush (v := -21) hE dX12_reach_23 zv_b_m21 ?_
    refine z_istore_n (lv' := [(1, .int (-21 : Int32)), (0, .ref 0)]) hE dX12_reach_25 rfl (by decide) rfl ?_
    refine z_bipush (v := 21) hE dX12_reach_26 zv_b_21 ?_
    refine z_istore_n (lv' := [(2, .int (21 : Int32)), (1, .int (-21 : Int32)), (0, .ref 0)]) hE dX12_reach_28 rfl (by decide) rfl ?_
    refine z_join (P := fun (J_5 : Int32 → ZMem → Prop) => ∀ (v2_3 : Int32) (μ_4 : ZMem), J_5 v2_3 μ_4 → zZ E (zzI Φ) 103 [(2, .int v2_3)] [] μ_4) h (fun v2_3 μ_4 h => ?_) (fun J_5 hJ_5 h => ?_)
    · refine z_iload_n hE dX12_reach_103 rfl 0 rfl ?_
      refine z_bipush (v := 20) hE dX12_reach_104 zv_b_20 ?_
      refine z_icmp_le (tgt := 113) hE dX12_reach_106 (by decide) h (fun h => ?_) (fun h => ?_)
      · refine z_iload_n hE dX12_reach_113 rfl 0 rfl ?_
        refine z_sipush (v := 1000) hE dX12_reach_114 zv_s_1000 ?_
        refine z_iadd hE dX12_reach_117 ?_
        exact z_iret (st := []) hE dX12_reach_118 rfl ⟨_, rfl, h⟩
      · refine z_iconst (v := -1) hE dX12_reach_109 zv_i_m1 ?_
        refine z_goto (tgt := 118) hE dX12_reach_110 (by decide) ?_
        exact z_iret (st := []) hE dX12_reach_118 rfl ⟨_, rfl, h⟩
    refine z_sub [2, 1, 0] rfl ?_
    obtain ⟨n29, h⟩ := h
    refine z_loop3 (P := fun (v1_6 : Int32) (v2_7 : Int32) (μ_8 : ZMem) => zZ E (zzI Φ) 29 [(0, .ref 0), (1, .int v1_6), (2, .int v2_7)] [] μ_8) (fun k29_8 hk29_8 v1_6 v2_7 μ_8 h => ?_) n29 _ _ _ h
    refine z_iload_n hE dX12_reach_29 rfl 2 rfl ?_
    refine z_iload_n hE dX12_reach_30 rfl 1 rfl ?_
    refine z_isub hE dX12_reach_31 ?_
    refine z_iconst (v := 1) hE dX12_reach_32 zv_i_1 ?_
    refine z_icmp_le (tgt := 103) hE dX12_reach_33 (by decide) h (fun h => ?_) (fun h => ?_)
    · exact z_sub [2] rfl (hJ_5 _ _ h)
    · refine z_iload_n hE dX12_reach_36 rfl 1 rfl ?_
      refine z_iload_n hE dX12_reach_37 rfl 2 rfl ?_
      refine z_iadd hE dX12_reach_38 ?_
      refine z_iconst (v := 2) hE dX12_reach_39 zv_i_2 ?_
      refine z_idiv hE dX12_reach_40 (by decide) ?_
      refine z_istore_n (lv' := [(3, .int ((v1_6 + v2_7) / (2 : Int32))), (0, .ref 0), (1, .int v1_6), (2, .int v2_7)]) hE dX12_reach_41 rfl (by decide) rfl ?_
      refine zn (G := fun v3_9 => zZ E (zzI Φ) 42 [(3, .int v3_9), (0, .ref 0), (1, .int v1_6), (2, .int v2_7)] [] μ_8) h (fun v3_9 h => ?_)
      refine z_aload_n hE dX12_reach_42 rfl 1 rfl ?_
      refine z_bipush (v := 30) hE dX12_reach_43 zv_b_30 ?_
      refine z_iload_n hE dX12_reach_45 rfl 0 rfl ?_
      refine z_iadd hE dX12_reach_46 ?_
      refine z_callV hE dX12_reach_47 lV_X12_173 (c_X12_laysRowsOf _ μ_8 _ h) sM_0 rfl (Nat.le_of_ble_eq_true rfl) (by decide) rfl (zk_V (fun μ_11 h => ?_))
      refine z_aload_n hE dX12_reach_50 rfl 1 rfl ?_
      refine z_getI hE dX12_reach_51 lF_X12_69 sM_0 rfl ?_
      refine z_if_eq (tgt := 60) hE dX12_reach_54 (by decide) h (fun h => ?_) (fun h => ?_)
      · refine z_aload_n hE dX12_reach_60 rfl 1 rfl ?_
        refine z_callV hE dX12_reach_61 lV_X12_195 (c_X12_left  μ_11 _ h) sM_0 rfl (Nat.le_of_ble_eq_true rfl) (by decide) rfl (zk_PI (fun r_12 h => ?_))
        refine z_aload_n hE dX12_reach_64 rfl 1 rfl ?_
        refine z_getI hE dX12_reach_65 lF_X12_77 sM_0 rfl ?_
        refine z_join (P := fun (J_15 : Int32 → Prop) => ∀ (x_14 : Int32), J_15 x_14 → zZ E (zzI Φ) 76 [(0, .ref 0), (1, .int v1_6), (2, .int v2_7), (3, .int v3_9)] [.int x_14] μ_11) h (fun x_14 h => ?_) (fun J_15 hJ_15 h => ?_)
        · refine z_istore (lv' := [(4, .int x_14), (0, .ref 0), (1, .int v1_6), (2, .int v2_7), (3, .int v3_9)]) hE dX12_reach_76 (by decide) rfl ?_
          refine z_iload hE dX12_reach_78 0 rfl ?_
          refine z_join (P := fun (J_17 : Int32 → Prop) => ∀ (x_16 : Int32), J_17 x_16 → zZ E (zzI Φ) 88 [(0, .ref 0), (1, .int v1_6), (3, .int v3_9), (4, .int x_14)] [.int x_16] μ_11) h (fun x_16 h => ?_) (fun J_17 hJ_17 h => ?_)
          · refine z_istore_n (lv' := [(2, .int x_16), (0, .ref 0), (1, .int v1_6), (3, .int v3_9), (4, .int x_14)]) hE dX12_reach_88 rfl (by decide) rfl ?_
            refine z_iload hE dX12_reach_89 4 rfl ?_
            refine z_join (P := fun (J_19 : Int32 → Prop) => ∀ (x_18 : Int32), J_19 x_18 → zZ E (zzI Φ) 99 [(0, .ref 0), (2, .int x_16)] [.int x_18] μ_11) h (fun x_18 h => ?_) (fun J_19 hJ_19 h => ?_)
            · refine z_istore_n (lv' := [(1, .int x_18), (0, .ref 0), (2, .int x_16)]) hE dX12_reach_99 rfl (by decide) rfl ?_
              refine z_goto (tgt := 29) hE dX12_reach_100 (by decide) ?_
              exact z_sub [1, 0, 2] rfl (hk29_8 _ _ _ h)
            refine z_if_eq (tgt := 98) hE dX12_reach_91 (by decide) h (fun h => ?_) (fun h => ?_)
            · refine z_iload_n hE dX12_reach_98 rfl 3 rfl ?_
              exact z_sub [1, 0] rfl (hJ_19 _ h)
            · refine z_iload_n hE dX12_reach_94 rfl 2 rfl ?_
              refine z_goto (tgt := 99) hE dX12_reach_95 (by decide) ?_
              exact z_sub [1, 0] rfl (hJ_19 _ h)
          refine z_if_eq (tgt := 87) hE dX12_reach_80 (by decide) h (fun h => ?_) (fun h => ?_)
          · refine z_iload_n hE dX12_reach_87 rfl 3 rfl ?_
            exact z_sub [1, 2, 4, 0] rfl (hJ_17 _ h)
          · refine z_iload_n hE dX12_reach_83 rfl 4 rfl ?_
            refine z_goto (tgt := 88) hE dX12_reach_84 (by decide) ?_
            exact z_sub [1, 2, 4, 0] rfl (hJ_17 _ h)
        refine z_icmp_ne (tgt := 75) hE dX12_reach_68 (by decide) h (fun h => ?_) (fun h => ?_)
        · refine z_iconst (v := 0) hE dX12_reach_75 zv_i_0 ?_
          exact z_sub [1, 2, 3, 0] rfl (hJ_15 _ h)
        · refine z_iconst (v := 1) hE dX12_reach_71 zv_i_1 ?_
          refine z_goto (tgt := 76) hE dX12_reach_72 (by decide) ?_
          exact z_sub [1, 2, 3, 0] rfl (hJ_15 _ h)
      · refine z_bipush (v := -7) hE dX12_reach_57 zv_b_m7 ?_
        exact z_iret (st := []) hE dX12_reach_59 rfl ⟨_, rfl, h⟩
  · refine z_bipush (v := -2) hE dX12_reach_20 zv_b_m2 ?_
    exact z_iret (st := []) hE dX12_reach_22 rfl ⟨_, rfl, h⟩
set_option maxRecDepth 4000 in
theorem c_X12_rights (a1 : Int32) (μ : ZMem) (Φ : Int32 → ZMem → Prop) (h : w_X12_rights a1 μ Φ) : zM SM yX12_rights cX12_rights 2 (some FieldType.int) 5 [.ref 0, .int a1] μ (zzI Φ) := by
  refine zM_go (own := RX12) rfl (by decide) (Nat.le_of_ble_eq_true rfl) (fun E hE => ?_)
  show zZ E (zzI Φ) 0 [(0, .ref 0), (1, .int a1)] [] μ
  unfold w_X12_rights at h
  refine z_iload_n hE dX12_rights_0 rfl 1 rfl ?_
  refine z_i2l hE dX12_rights_1 ?_
  refine z_ldc2 (v := -100) hE dX12_rights_2 lK_X12_101 ?_
  refine z_ldc2 (v := 100) hE dX12_rights_5 lK_X12_103 ?_
  refine z_callS hE dX12_rights_8 lS_X12_83 (c_X12_in _ _ _ μ _ h) rfl (Nat.le_of_ble_eq_true rfl) (by decide) rfl (zk_PI (fun r_1 h => ?_))
  refine z_if_eq (tgt := 22) hE dX12_rights_11 (by decide) h (fun h => ?_) (fun h => ?_)
  · refine z_bipush (v := -2) hE dX12_rights_22 zv_b_m2 ?_
    exact z_iret (st := []) hE dX12_rights_24 rfl ⟨_, rfl, h⟩
  · refine z_aload_n hE dX12_rights_14 rfl 0 rfl ?_
    refine z_iload_n hE dX12_rights_15 rfl 1 rfl ?_
    refine z_callV hE dX12_rights_16 lV_X12_336 (c_X12_rightsAt _ μ _ h) sM_0 rfl (Nat.le_of_ble_eq_true rfl) (by decide) rfl (zk_I (fun r_3 μ_4 h => ?_))
    refine z_goto (tgt := 24) hE dX12_rights_19 (by decide) ?_
    exact z_iret (st := []) hE dX12_rights_24 rfl ⟨_, rfl, h⟩
set_option maxRecDepth 4000 in
theorem c_X12_roots (a1 : Int32) (a2 : Int32) (μ : ZMem) (Φ : Int32 → ZMem → Prop) (h : w_X12_roots a1 a2 μ Φ) : zM SM yX12_roots cX12_roots 3 (some FieldType.int) 5 [.ref 0, .int a1, .int a2] μ (zzI Φ) := by
  refine zM_go (own := RX12) rfl (by decide) (Nat.le_of_ble_eq_true rfl) (fun E hE => ?_)
  show zZ E (zzI Φ) 0 [(0, .ref 0), (1, .int a1), (2, .int a2)] [] μ
  unfold w_X12_roots at h
  refine z_iload_n hE dX12_roots_0 rfl 1 rfl ?_
  refine z_callS hE dX12_roots_1 lS_X12_130 (c_X12_isForm _ μ _ h) rfl (Nat.le_of_ble_eq_true rfl) (by decide) rfl (zk_PI (fun r_1 h => ?_))
  refine z_if_eq (tgt := 19) hE dX12_roots_4 (by decide) h (fun h => ?_) (fun h => ?_)
  · refine z_bipush (v := -2) hE dX12_roots_19 zv_b_m2 ?_
    exact z_iret (st := []) hE dX12_roots_21 rfl ⟨_, rfl, h⟩
  · refine z_iload_n hE dX12_roots_7 rfl 2 rfl ?_
    refine z_i2l hE dX12_roots_8 ?_
    refine z_lconst (v := 0) hE dX12_roots_9 zv_l_0 ?_
    refine z_ldc2 (v := 4) hE dX12_roots_10 lK_X12_193 ?_
    refine z_callS hE dX12_roots_13 lS_X12_83 (c_X12_in _ _ _ μ _ h) rfl (Nat.le_of_ble_eq_true rfl) (by decide) rfl (zk_PI (fun r_3 h => ?_))
    refine z_if_ne (tgt := 22) hE dX12_roots_16 (by decide) h (fun h => ?_) (fun h => ?_)
    · refine z_aload_n hE dX12_roots_22 rfl 0 rfl ?_
      refine z_iload_n hE dX12_roots_23 rfl 1 rfl ?_
      refine z_callV hE dX12_roots_24 lV_X12_173 (c_X12_laysRowsOf _ μ _ h) sM_0 rfl (Nat.le_of_ble_eq_true rfl) (by decide) rfl (zk_V (fun μ_6 h => ?_))
      refine z_aload_n hE dX12_roots_27 rfl 0 rfl ?_
      refine z_getI hE dX12_roots_28 lF_X12_69 sM_0 rfl ?_
      refine z_if_eq (tgt := 37) hE dX12_roots_31 (by decide) h (fun h => ?_) (fun h => ?_)
      · refine z_iload_n hE dX12_roots_37 rfl 2 rfl ?_
        obtain ⟨g38_0, g38_1, g38_2, g38_3, gd_38⟩ := h
        by_cases c38_0 : a2 = (0 : Int32)
        · have h := g38_0 c38_0
          refine z_swIn (tgt := 68) hE dX12_roots_38 (by rw [c38_0]; decide) (by rw [c38_0]; decide) (by rw [c38_0]; rfl) (by decide) ?_
          refine z_aload_n hE dX12_roots_68 rfl 0 rfl ?_
          refine z_callV hE dX12_roots_69 lV_X12_187 (c_X12_right  μ_6 _ h) sM_0 rfl (Nat.le_of_ble_eq_true rfl) (by decide) rfl (zk_PI (fun r_7 h => ?_))
          exact z_iret (st := []) hE dX12_roots_72 rfl ⟨_, rfl, h⟩
        by_cases c38_1 : a2 = (1 : Int32)
        · have h := g38_1 c38_1
          refine z_swIn (tgt := 73) hE dX12_roots_38 (by rw [c38_1]; decide) (by rw [c38_1]; decide) (by rw [c38_1]; rfl) (by decide) ?_
          refine z_aload_n hE dX12_roots_73 rfl 0 rfl ?_
          refine z_callV hE dX12_roots_74 lV_X12_190 (c_X12_axis  μ_6 _ h) sM_0 rfl (Nat.le_of_ble_eq_true rfl) (by decide) rfl (zk_PI (fun r_9 h => ?_))
          exact z_iret (st := []) hE dX12_roots_77 rfl ⟨_, rfl, h⟩
        by_cases c38_2 : a2 = (2 : Int32)
        · have h := g38_2 c38_2
          refine z_swIn (tgt := 78) hE dX12_roots_38 (by rw [c38_2]; decide) (by rw [c38_2]; decide) (by rw [c38_2]; rfl) (by decide) ?_
          refine z_aload_n hE dX12_roots_78 rfl 0 rfl ?_
          refine z_callV hE dX12_roots_79 lV_X12_195 (c_X12_left  μ_6 _ h) sM_0 rfl (Nat.le_of_ble_eq_true rfl) (by decide) rfl (zk_PI (fun r_11 h => ?_))
          exact z_iret (st := []) hE dX12_roots_82 rfl ⟨_, rfl, h⟩
        by_cases c38_3 : a2 = (3 : Int32)
        · have h := g38_3 c38_3
          refine z_swIn (tgt := 83) hE dX12_roots_38 (by rw [c38_3]; decide) (by rw [c38_3]; decide) (by rw [c38_3]; rfl) (by decide) ?_
          refine z_aload_n hE dX12_roots_83 rfl 0 rfl ?_
          refine z_callV hE dX12_roots_84 lV_X12_183 (c_X12_firstCase  μ_6 _ h) sM_0 rfl (Nat.le_of_ble_eq_true rfl) (by decide) rfl (zk_PI (fun r_13 h => ?_))
          exact z_iret (st := []) hE dX12_roots_87 rfl ⟨_, rfl, h⟩
        have h := gd_38 c38_0 c38_1 c38_2 c38_3
        refine z_swOut (tgt := 88) hE dX12_roots_38 (by have e0 := lv_neT c38_0 (a := 0) (by decide); have e1 := lv_neT c38_1 (a := 1) (by decide); have e2 := lv_neT c38_2 (a := 2) (by decide); have e3 := lv_neT c38_3 (a := 3) (by decide); show _ < (0 : Int) ∨ (3 : Int) < _; omega) (by decide) ?_
        refine z_aload_n hE dX12_roots_88 rfl 0 rfl ?_
        refine z_callV hE dX12_roots_89 lV_X12_190 (c_X12_axis  μ_6 _ h) sM_0 rfl (Nat.le_of_ble_eq_true rfl) (by decide) rfl (zk_PI (fun r_15 h => ?_))
        refine z_iload_n hE dX12_roots_92 rfl 1 rfl ?_
        refine z_iconst (v := 3) hE dX12_roots_93 zv_i_3 ?_
        refine z_icmp_ne (tgt := 104) hE dX12_roots_94 (by decide) h (fun h => ?_) (fun h => ?_)
        · refine z_iconst (v := 0) hE dX12_roots_104 zv_i_0 ?_
          refine z_iadd hE dX12_roots_105 ?_
          exact z_iret (st := []) hE dX12_roots_106 rfl ⟨_, rfl, h⟩
        · refine z_aload_n hE dX12_roots_97 rfl 0 rfl ?_
          refine z_getI hE dX12_roots_98 lF_X12_124 sM_0 rfl ?_
          refine z_goto (tgt := 105) hE dX12_roots_101 (by decide) ?_
          refine z_iadd hE dX12_roots_105 ?_
          exact z_iret (st := []) hE dX12_roots_106 rfl ⟨_, rfl, h⟩
      · refine z_bipush (v := -7) hE dX12_roots_34 zv_b_m7 ?_
        exact z_iret (st := []) hE dX12_roots_36 rfl ⟨_, rfl, h⟩
    · refine z_bipush (v := -2) hE dX12_roots_19 zv_b_m2 ?_
      exact z_iret (st := []) hE dX12_roots_21 rfl ⟨_, rfl, h⟩
set_option maxRecDepth 4000 in
theorem c_X12_row (a1 : Int32) (a2 : Int32) (a3 : Int32) (μ : ZMem) (Φ : Int64 → ZMem → Prop) (h : w_X12_row a1 a2 a3 μ Φ) : zM SM yX12_row cX12_row 4 (some FieldType.long) 5 [.ref 0, .int a1, .int a2, .int a3] μ (zzJ Φ) := by
  refine zM_go (own := RX12) rfl (by decide) (Nat.le_of_ble_eq_true rfl) (fun E hE => ?_)
  show zZ E (zzJ Φ) 0 [(0, .ref 0), (1, .int a1), (2, .int a2), (3, .int a3)] [] μ
  unfold w_X12_row at h
  refine z_iload_n hE dX12_row_0 rfl 1 rfl ?_
  refine z_callS hE dX12_row_1 lS_X12_130 (c_X12_isForm _ μ _ h) rfl (Nat.le_of_ble_eq_true rfl) (by decide) rfl (zk_PI (fun r_1 h => ?_))
  refine z_if_ne (tgt := 11) hE dX12_row_4 (by decide) h (fun h => ?_) (fun h => ?_)
  · refine z_aload_n hE dX12_row_11 rfl 0 rfl ?_
    refine z_iload_n hE dX12_row_12 rfl 1 rfl ?_
    refine z_callV hE dX12_row_13 lV_X12_173 (c_X12_laysRowsOf _ μ _ h) sM_0 rfl (Nat.le_of_ble_eq_true rfl) (by decide) rfl (zk_V (fun μ_4 h => ?_))
    refine z_aload_n hE dX12_row_16 rfl 0 rfl ?_
    refine z_iload_n hE dX12_row_17 rfl 2 rfl ?_
    refine z_callV hE dX12_row_18 lV_X12_176 (c_X12_isRow _ μ_4 _ h) sM_0 rfl (Nat.le_of_ble_eq_true rfl) (by decide) rfl (zk_PI (fun r_5 h => ?_))
    refine z_if_eq (tgt := 48) hE dX12_row_21 (by decide) h (fun h => ?_) (fun h => ?_)
    · refine z_ldc2 (v := -9223372036854775808) hE dX12_row_48 lK_X12_67 ?_
      refine z_goto (tgt := 60) hE dX12_row_51 (by decide) ?_
      exact z_lret (st := []) hE dX12_row_60 rfl ⟨_, rfl, h⟩
    · refine z_iload_n hE dX12_row_24 rfl 3 rfl ?_
      refine z_i2l hE dX12_row_25 ?_
      refine z_lconst (v := 0) hE dX12_row_26 zv_l_0 ?_
      refine z_aload_n hE dX12_row_27 rfl 0 rfl ?_
      refine z_iload_n hE dX12_row_28 rfl 2 rfl ?_
      refine z_callV hE dX12_row_29 lV_X12_136 (c_X12_itemMany _ μ_4 _ h) sM_0 rfl (Nat.le_of_ble_eq_true rfl) (by decide) rfl (zk_PI (fun r_7 h => ?_))
      refine z_iconst (v := 1) hE dX12_row_32 zv_i_1 ?_
      refine z_isub hE dX12_row_33 ?_
      refine z_i2l hE dX12_row_34 ?_
      refine z_callS hE dX12_row_35 lS_X12_83 (c_X12_in _ _ _ μ_4 _ h) rfl (Nat.le_of_ble_eq_true rfl) (by decide) rfl (zk_PI (fun r_9 h => ?_))
      refine z_if_eq (tgt := 48) hE dX12_row_38 (by decide) h (fun h => ?_) (fun h => ?_)
      · refine z_ldc2 (v := -9223372036854775808) hE dX12_row_48 lK_X12_67 ?_
        refine z_goto (tgt := 60) hE dX12_row_51 (by decide) ?_
        exact z_lret (st := []) hE dX12_row_60 rfl ⟨_, rfl, h⟩
      · refine z_aload_n hE dX12_row_41 rfl 0 rfl ?_
        refine z_getI hE dX12_row_42 lF_X12_69 sM_0 rfl ?_
        refine z_if_eq (tgt := 54) hE dX12_row_45 (by decide) h (fun h => ?_) (fun h => ?_)
        · refine z_aload_n hE dX12_row_54 rfl 0 rfl ?_
          refine z_iload_n hE dX12_row_55 rfl 2 rfl ?_
          refine z_iload_n hE dX12_row_56 rfl 3 rfl ?_
          refine z_callV hE dX12_row_57 lV_X12_140 (c_X12_item _ _ μ_4 _ h) sM_0 rfl (Nat.le_of_ble_eq_true rfl) (by decide) rfl (zk_PJ (fun r_11 h => ?_))
          exact z_lret (st := []) hE dX12_row_60 rfl ⟨_, rfl, h⟩
        · refine z_ldc2 (v := -9223372036854775808) hE dX12_row_48 lK_X12_67 ?_
          refine z_goto (tgt := 60) hE dX12_row_51 (by decide) ?_
          exact z_lret (st := []) hE dX12_row_60 rfl ⟨_, rfl, h⟩
  · refine z_ldc2 (v := -9223372036854775808) hE dX12_row_7 lK_X12_67 ?_
    exact z_lret (st := []) hE dX12_row_10 rfl ⟨_, rfl, h⟩
