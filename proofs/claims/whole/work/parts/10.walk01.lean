set_option maxRecDepth 4000 in
theorem c_X4_mix (k0 n0 : Nat) (a1 : Int32) (k2 n2 : Nat) (a3 : Int32) (k4 n4 : Nat) (h0 : SX[k0]? = some (2, n0, [])) (h2 : SX[k2]? = some (2, n2, [])) (h4 : SX[k4]? = some (2, n4, [])) (μ : ZMem) (Φ : ZMem → Prop) (h : w_X4_mix k0 n0 a1 k2 n2 a3 k4 n4 μ Φ) : zM SX yX4_mix cX4_mix 6 (none) 0 [.ref k0, .int a1, .ref k2, .int a3, .ref k4] μ (zzV Φ) := by
  refine zM_go (own := RX4) rfl (by decide) (Nat.le_of_ble_eq_true rfl) (fun E hE => ?_)
  show zZ E (zzV Φ) 0 [(0, .ref k0), (1, .int a1), (2, .ref k2), (3, .int a3), (4, .ref k4)] [] μ
  unfold w_X4_mix at h
  refine z_iconst (v := 0) hE dX4_mix_0 zv_i_0 ?_
  refine z_istore (lv' := [(5, .int (0 : Int32)), (0, .ref k0), (1, .int a1), (2, .ref k2), (3, .int a3), (4, .ref k4)]) hE dX4_mix_1 (by decide) rfl ?_
  refine z_sub [1, 2, 3, 4, 5, 0] rfl ?_
  obtain ⟨n3, h⟩ := h
  refine z_loop2 (P := fun (v5_1 : Int32) (μ_2 : ZMem) => zZ E (zzV Φ) 3 [(0, .ref k0), (1, .int a1), (2, .ref k2), (3, .int a3), (4, .ref k4), (5, .int v5_1)] [] μ_2) (fun k3_2 hk3_2 v5_1 μ_2 h => ?_) n3 _ _ h
  refine z_iload hE dX4_mix_3 5 rfl ?_
  refine z_bipush (v := 7) hE dX4_mix_5 zv_b_7 ?_
  refine z_icmp_ge (tgt := 36) hE dX4_mix_7 (by decide) h (fun h => ?_) (fun h => ?_)
  · exact z_vret (st := []) hE dX4_mix_36 rfl ⟨rfl, h⟩
  · refine z_aload hE dX4_mix_10 4 rfl ?_
    refine z_iload hE dX4_mix_12 5 rfl ?_
    refine z_iload_n hE dX4_mix_14 rfl 1 rfl ?_
    refine z_i2l hE dX4_mix_15 ?_
    refine z_aload_n hE dX4_mix_16 rfl 0 rfl ?_
    refine z_iload hE dX4_mix_17 5 rfl ?_
    obtain ⟨q_3, h⟩ := h
    refine z_lald hE dX4_mix_19 h0 q_3 ?_
    refine z_lmul hE dX4_mix_20 ?_
    refine z_iload_n hE dX4_mix_21 rfl 3 rfl ?_
    refine z_i2l hE dX4_mix_22 ?_
    refine z_aload_n hE dX4_mix_23 rfl 2 rfl ?_
    refine z_iload hE dX4_mix_24 5 rfl ?_
    obtain ⟨q_4, h⟩ := h
    refine z_lald hE dX4_mix_26 h2 q_4 ?_
    refine z_lmul hE dX4_mix_27 ?_
    refine z_ladd hE dX4_mix_28 ?_
    obtain ⟨q_5, h⟩ := h
    refine z_last hE dX4_mix_29 h4 q_5 ?_
    refine zn (G := fun μ_6 => zZ E (zzV Φ) 30 [(0, .ref k0), (1, .int a1), (2, .ref k2), (3, .int a3), (4, .ref k4), (5, .int v5_1)] [] μ_6) h (fun μ_6 h => ?_)
    refine z_iinc (j := 5) (c := 1) (lv' := [(5, .int (v5_1 + (1 : Int32))), (0, .ref k0), (1, .int a1), (2, .ref k2), (3, .int a3), (4, .ref k4)]) hE dX4_mix_30 rfl zv_i_1 (by decide) rfl ?_
    refine z_goto (tgt := 3) hE dX4_mix_33 (by decide) ?_
    exact z_sub [1, 2, 3, 4, 5, 0] rfl (hk3_2 _ _ h)
set_option maxRecDepth 4000 in
theorem c_X4_stretch (k0 n0 : Nat) (a1 : Int32) (h0 : SX[k0]? = some (2, n0, [])) (μ : ZMem) (Φ : ZMem → Prop) (h : w_X4_stretch k0 n0 a1 μ Φ) : zM SX yX4_stretch cX4_stretch 3 (none) 0 [.ref k0, .int a1] μ (zzV Φ) := by
  refine zM_go (own := RX4) rfl (by decide) (Nat.le_of_ble_eq_true rfl) (fun E hE => ?_)
  show zZ E (zzV Φ) 0 [(0, .ref k0), (1, .int a1)] [] μ
  unfold w_X4_stretch at h
  refine z_bipush (v := 6) hE dX4_stretch_0 zv_b_6 ?_
  refine z_istore_n (lv' := [(2, .int (6 : Int32)), (0, .ref k0), (1, .int a1)]) hE dX4_stretch_2 rfl (by decide) rfl ?_
  refine z_join (P := fun (J_2 : ZMem → Prop) => ∀ (μ_1 : ZMem), J_2 μ_1 → zZ E (zzV Φ) 28 [(0, .ref k0), (1, .int a1)] [] μ_1) h (fun μ_1 h => ?_) (fun J_2 hJ_2 h => ?_)
  · refine z_aload_n hE dX4_stretch_28 rfl 0 rfl ?_
    refine z_iconst (v := 0) hE dX4_stretch_29 zv_i_0 ?_
    refine z_dup2 hE dX4_stretch_30 rfl rfl ?_
    obtain ⟨q_3, h⟩ := h
    refine z_lald hE dX4_stretch_31 h0 q_3 ?_
    refine z_iload_n hE dX4_stretch_32 rfl 1 rfl ?_
    refine z_i2l hE dX4_stretch_33 ?_
    refine z_lmul hE dX4_stretch_34 ?_
    obtain ⟨q_4, h⟩ := h
    refine z_last hE dX4_stretch_35 h0 q_4 ?_
    refine zn (G := fun μ_5 => zZ E (zzV Φ) 36 [(0, .ref k0), (1, .int a1)] [] μ_5) h (fun μ_5 h => ?_)
    exact z_vret (st := []) hE dX4_stretch_36 rfl ⟨rfl, h⟩
  refine z_sub [1, 2, 0] rfl ?_
  obtain ⟨n3, h⟩ := h
  refine z_loop2 (P := fun (v2_6 : Int32) (μ_7 : ZMem) => zZ E (zzV Φ) 3 [(0, .ref k0), (1, .int a1), (2, .int v2_6)] [] μ_7) (fun k3_7 hk3_7 v2_6 μ_7 h => ?_) n3 _ _ h
  refine z_iload_n hE dX4_stretch_3 rfl 2 rfl ?_
  refine z_if_le (tgt := 28) hE dX4_stretch_4 (by decide) h (fun h => ?_) (fun h => ?_)
  · exact z_sub [0, 1] rfl (hJ_2 _ h)
  · refine z_aload_n hE dX4_stretch_7 rfl 0 rfl ?_
    refine z_iload_n hE dX4_stretch_8 rfl 2 rfl ?_
    refine z_aload_n hE dX4_stretch_9 rfl 0 rfl ?_
    refine z_iload_n hE dX4_stretch_10 rfl 2 rfl ?_
    refine z_iconst (v := 1) hE dX4_stretch_11 zv_i_1 ?_
    refine z_isub hE dX4_stretch_12 ?_
    obtain ⟨q_8, h⟩ := h
    refine z_lald hE dX4_stretch_13 h0 q_8 ?_
    refine z_iload_n hE dX4_stretch_14 rfl 1 rfl ?_
    refine z_i2l hE dX4_stretch_15 ?_
    refine z_aload_n hE dX4_stretch_16 rfl 0 rfl ?_
    refine z_iload_n hE dX4_stretch_17 rfl 2 rfl ?_
    obtain ⟨q_9, h⟩ := h
    refine z_lald hE dX4_stretch_18 h0 q_9 ?_
    refine z_lmul hE dX4_stretch_19 ?_
    refine z_ladd hE dX4_stretch_20 ?_
    obtain ⟨q_10, h⟩ := h
    refine z_last hE dX4_stretch_21 h0 q_10 ?_
    refine zn (G := fun μ_11 => zZ E (zzV Φ) 22 [(0, .ref k0), (1, .int a1), (2, .int v2_6)] [] μ_11) h (fun μ_11 h => ?_)
    refine z_iinc (j := 2) (c := -1) (lv' := [(2, .int (v2_6 + (-1 : Int32))), (0, .ref k0), (1, .int a1)]) hE dX4_stretch_22 rfl zv_i_m1 (by decide) rfl ?_
    refine z_goto (tgt := 3) hE dX4_stretch_25 (by decide) ?_
    exact z_sub [1, 2, 0] rfl (hk3_7 _ _ h)
set_option maxRecDepth 4000 in
theorem c_X5_at (a1 : Int32) (μ : ZMem) (Φ : Int32 → Prop) (h : w_X5_at a1 μ Φ) : zM SX yX5_at cX5_at 2 (some FieldType.int) 0 [.ref 70, .int a1] μ (zzPI Φ μ) := by
  refine zM_go (own := RX5) rfl (by decide) (Nat.le_of_ble_eq_true rfl) (fun E hE => ?_)
  show zZ E (zzPI Φ μ) 0 [(0, .ref 70), (1, .int a1)] [] μ
  unfold w_X5_at at h
  refine z_aload_n hE dX5_at_0 rfl 0 rfl ?_
  refine z_getR (t := 84) hE dX5_at_1 lF_X5_22 sX_70 rfl ?_
  refine z_iload_n hE dX5_at_4 rfl 1 rfl ?_
  refine z_bipush (v := 100) hE dX5_at_5 zv_b_100 ?_
  refine z_iadd hE dX5_at_7 ?_
  obtain ⟨q_1, h⟩ := h
  refine z_iald hE dX5_at_8 sX_84 q_1 ?_
  exact z_iret (st := []) hE dX5_at_9 rfl ⟨_, rfl, rfl, h⟩
set_option maxRecDepth 4000 in
theorem c_X5_hasBest  (μ : ZMem) (Φ : Int32 → Prop) (h : w_X5_hasBest μ Φ) : zM SX yX5_hasBest cX5_hasBest 2 (some FieldType.boolean) 0 [.ref 70] μ (zzPI Φ μ) := by
  refine zM_go (own := RX5) rfl (by decide) (Nat.le_of_ble_eq_true rfl) (fun E hE => ?_)
  show zZ E (zzPI Φ μ) 0 [(0, .ref 70)] [] μ
  unfold w_X5_hasBest at h
  refine z_iconst (v := 0) hE dX5_hasBest_0 zv_i_0 ?_
  refine z_istore_n (lv' := [(1, .int (0 : Int32)), (0, .ref 70)]) hE dX5_hasBest_1 rfl (by decide) rfl ?_
  refine z_sub [1, 0] rfl ?_
  obtain ⟨n2, h⟩ := h
  refine z_loop1 (P := fun (v1_1 : Int32) => zZ E (zzPI Φ μ) 2 [(0, .ref 70), (1, .int v1_1)] [] μ) (fun k2_1 hk2_1 v1_1 h => ?_) n2 _ h
  refine z_iload_n hE dX5_hasBest_2 rfl 1 rfl ?_
  refine z_sipush (v := 201) hE dX5_hasBest_3 zv_s_201 ?_
  refine z_icmp_ge (tgt := 28) hE dX5_hasBest_6 (by decide) h (fun h => ?_) (fun h => ?_)
  · refine z_iconst (v := 0) hE dX5_hasBest_28 zv_i_0 ?_
    exact z_zret (st := []) hE dX5_hasBest_29 rfl (by decide) ⟨_, rfl, rfl, h⟩
  · refine z_aload_n hE dX5_hasBest_9 rfl 0 rfl ?_
    refine z_getR (t := 84) hE dX5_hasBest_10 lF_X5_22 sX_70 rfl ?_
    refine z_iload_n hE dX5_hasBest_13 rfl 1 rfl ?_
    obtain ⟨q_2, h⟩ := h
    refine z_iald hE dX5_hasBest_14 sX_84 q_2 ?_
    refine z_bipush (v := -7) hE dX5_hasBest_15 zv_b_m7 ?_
    refine z_icmp_eq (tgt := 22) hE dX5_hasBest_17 (by decide) h (fun h => ?_) (fun h => ?_)
    · refine z_iinc (j := 1) (c := 1) (lv' := [(1, .int (v1_1 + (1 : Int32))), (0, .ref 70)]) hE dX5_hasBest_22 rfl zv_i_1 (by decide) rfl ?_
      refine z_goto (tgt := 2) hE dX5_hasBest_25 (by decide) ?_
      exact z_sub [1, 0] rfl (hk2_1 _ h)
    · refine z_iconst (v := 1) hE dX5_hasBest_20 zv_i_1 ?_
      exact z_zret (st := []) hE dX5_hasBest_21 rfl (by decide) ⟨_, rfl, rfl, h⟩
set_option maxRecDepth 4000 in
theorem c_X6_closestTo (t : Nat) (a1 : Int32) (h0 : zT_Spans t) (μ : ZMem) (Φ : Int32 → Prop) (h : w_X6_closestTo t a1 μ Φ) : zM SX yX6_closestTo cX6_closestTo 6 (some FieldType.int) 0 [.ref t, .int a1] μ (zzPI Φ μ) := by
  refine zM_go (own := RX6) rfl (by decide) (Nat.le_of_ble_eq_true rfl) (fun E hE => ?_)
  show zZ E (zzPI Φ μ) 0 [(0, .ref t), (1, .int a1)] [] μ
  unfold w_X6_closestTo at h
  refine z_iconst (v := -1) hE dX6_closestTo_0 zv_i_m1 ?_
  refine z_istore_n (lv' := [(2, .int (-1 : Int32)), (0, .ref t), (1, .int a1)]) hE dX6_closestTo_1 rfl (by decide) rfl ?_
  refine z_sipush (v := 201) hE dX6_closestTo_2 zv_s_201 ?_
  refine z_istore_n (lv' := [(3, .int (201 : Int32)), (2, .int (-1 : Int32)), (0, .ref t), (1, .int a1)]) hE dX6_closestTo_5 rfl (by decide) rfl ?_
  refine z_iconst (v := 0) hE dX6_closestTo_6 zv_i_0 ?_
  refine z_istore (lv' := [(4, .int (0 : Int32)), (3, .int (201 : Int32)), (2, .int (-1 : Int32)), (0, .ref t), (1, .int a1)]) hE dX6_closestTo_7 (by decide) rfl ?_
  refine z_sub [3, 4, 2, 1, 0] rfl ?_
  obtain ⟨n9, h⟩ := h
  refine z_loop3 (P := fun (v2_1 : Int32) (v3_2 : Int32) (v4_3 : Int32) => zZ E (zzPI Φ μ) 9 [(0, .ref t), (1, .int a1), (2, .int v2_1), (3, .int v3_2), (4, .int v4_3)] [] μ) (fun k9_3 hk9_3 v2_1 v3_2 v4_3 h => ?_) n9 _ _ _ h
  refine z_iload hE dX6_closestTo_9 4 rfl ?_
  refine z_aload_n hE dX6_closestTo_11 rfl 0 rfl ?_
  refine z_getI hE dX6_closestTo_12 lF_X6_26 h0.1 rfl ?_
  refine z_icmp_ge (tgt := 63) hE dX6_closestTo_15 (by decide) h (fun h => ?_) (fun h => ?_)
  · refine z_iload_n hE dX6_closestTo_63 rfl 2 rfl ?_
    exact z_iret (st := []) hE dX6_closestTo_64 rfl ⟨_, rfl, rfl, h⟩
  · refine z_iconst (v := 0) hE dX6_closestTo_18 zv_i_0 ?_
    refine z_aload_n hE dX6_closestTo_19 rfl 0 rfl ?_
    refine z_getR (t := (t + 1)) hE dX6_closestTo_20 lF_X6_11 h0.1 rfl ?_
    refine z_iload hE dX6_closestTo_23 4 rfl ?_
    obtain ⟨q_4, h⟩ := h
    refine z_iald hE dX6_closestTo_25 h0.2.1 q_4 ?_
    refine z_iload_n hE dX6_closestTo_26 rfl 1 rfl ?_
    refine z_isub hE dX6_closestTo_27 ?_
    refine z_iload_n hE dX6_closestTo_28 rfl 1 rfl ?_
    refine z_aload_n hE dX6_closestTo_29 rfl 0 rfl ?_
    refine z_getR (t := (t + 2)) hE dX6_closestTo_30 lF_X6_15 h0.1 rfl ?_
    refine z_iload hE dX6_closestTo_33 4 rfl ?_
    obtain ⟨q_5, h⟩ := h
    refine z_iald hE dX6_closestTo_35 h0.2.2 q_5 ?_
    refine z_isub hE dX6_closestTo_36 ?_
    refine z_mmax hE dX6_closestTo_37 lM_X6_39 (Nat.le_of_ble_eq_true rfl) ?_
    refine z_mmax hE dX6_closestTo_40 lM_X6_39 (Nat.le_of_ble_eq_true rfl) ?_
    refine z_istore (lv' := [(5, .int (if (0 : Int32) < (if ((μ.1 (t + 1) (Int32.toNatClampNeg v4_3)) - a1) < (a1 - (μ.1 (t + 2) (Int32.toNatClampNeg v4_3))) then (a1 - (μ.1 (t + 2) (Int32.toNatClampNeg v4_3))) else ((μ.1 (t + 1) (Int32.toNatClampNeg v4_3)) - a1)) then (if ((μ.1 (t + 1) (Int32.toNatClampNeg v4_3)) - a1) < (a1 - (μ.1 (t + 2) (Int32.toNatClampNeg v4_3))) then (a1 - (μ.1 (t + 2) (Int32.toNatClampNeg v4_3))) else ((μ.1 (t + 1) (Int32.toNatClampNeg v4_3)) - a1)) else (0 : Int32))), (0, .ref t), (1, .int a1), (2, .int v2_1), (3, .int v3_2), (4, .int v4_3)]) hE dX6_closestTo_43 (by decide) rfl ?_
    refine zn (G := fun v5_6 => zZ E (zzPI Φ μ) 45 [(5, .int v5_6), (0, .ref t), (1, .int a1), (2, .int v2_1), (3, .int v3_2), (4, .int v4_3)] [] μ) h (fun v5_6 h => ?_)
    refine z_iload hE dX6_closestTo_45 0 rfl ?_
    refine z_iload_n hE dX6_closestTo_47 rfl 4 rfl ?_
    refine z_join (P := fun (J_9 : Int32 → Int32 → Prop) => ∀ (v2_7 : Int32) (v3_8 : Int32), J_9 v2_7 v3_8 → zZ E (zzPI Φ μ) 57 [(0, .ref t), (1, .int a1), (2, .int v2_7), (3, .int v3_8), (4, .int v4_3)] [] μ) h (fun v2_7 v3_8 h => ?_) (fun J_9 hJ_9 h => ?_)
    · refine z_iinc (j := 4) (c := 1) (lv' := [(4, .int (v4_3 + (1 : Int32))), (0, .ref t), (1, .int a1), (2, .int v2_7), (3, .int v3_8)]) hE dX6_closestTo_57 rfl zv_i_1 (by decide) rfl ?_
      refine z_goto (tgt := 9) hE dX6_closestTo_60 (by decide) ?_
      exact z_sub [1, 2, 3, 4, 0] rfl (hk9_3 _ _ _ h)
    refine z_icmp_ge (tgt := 57) hE dX6_closestTo_48 (by decide) h (fun h => ?_) (fun h => ?_)
    · exact z_sub [1, 2, 3, 4, 5] rfl (hJ_9 _ _ h)
    · refine z_iload hE dX6_closestTo_51 0 rfl ?_
      refine z_istore_n (lv' := [(3, .int v5_6), (5, .int v5_6), (0, .ref t), (1, .int a1), (2, .int v2_1), (4, .int v4_3)]) hE dX6_closestTo_53 rfl (by decide) rfl ?_
      refine z_iload hE dX6_closestTo_54 5 rfl ?_
      refine z_istore_n (lv' := [(2, .int v4_3), (3, .int v5_6), (5, .int v5_6), (0, .ref t), (1, .int a1), (4, .int v4_3)]) hE dX6_closestTo_56 rfl (by decide) rfl ?_
      exact z_sub [3, 4, 0, 1, 5] rfl (hJ_9 _ _ h)
set_option maxRecDepth 4000 in
theorem c_X8_behind (k0 n0 : Nat) (a1 : Int32) (h0 : SX[k0]? = some (2, n0, [])) (μ : ZMem) (Φ : Int64 → Prop) (h : w_X8_behind k0 n0 a1 μ Φ) : zM SX yX8_behind cX8_behind 2 (some FieldType.long) 0 [.ref k0, .int a1] μ (zzPJ Φ μ) := by
  refine zM_go (own := RX8) rfl (by decide) (Nat.le_of_ble_eq_true rfl) (fun E hE => ?_)
  show zZ E (zzPJ Φ μ) 0 [(0, .ref k0), (1, .int a1)] [] μ
  unfold w_X8_behind at h
  refine z_iload_n hE dX8_behind_0 rfl 1 rfl ?_
  refine z_iconst (v := 1) hE dX8_behind_1 zv_i_1 ?_
  refine z_iadd hE dX8_behind_2 ?_
  refine z_aload_n hE dX8_behind_3 rfl 0 rfl ?_
  refine z_alenJ hE dX8_behind_4 h0 rfl ?_
  refine z_icmp_ge (tgt := 16) hE dX8_behind_5 (by decide) h (fun h => ?_) (fun h => ?_)
  · refine z_lconst (v := 0) hE dX8_behind_16 zv_l_0 ?_
    exact z_lret (st := []) hE dX8_behind_17 rfl ⟨_, rfl, rfl, h⟩
  · refine z_aload_n hE dX8_behind_8 rfl 0 rfl ?_
    refine z_iload_n hE dX8_behind_9 rfl 1 rfl ?_
    refine z_iconst (v := 1) hE dX8_behind_10 zv_i_1 ?_
    refine z_iadd hE dX8_behind_11 ?_
    obtain ⟨q_1, h⟩ := h
    refine z_lald hE dX8_behind_12 h0 q_1 ?_
    refine z_goto (tgt := 17) hE dX8_behind_13 (by decide) ?_
    exact z_lret (st := []) hE dX8_behind_17 rfl ⟨_, rfl, rfl, h⟩
set_option maxRecDepth 4000 in
theorem c_X8_firstNothing (t : Nat) (h0 : zT_Table t) (μ : ZMem) (Φ : Int32 → Prop) (h : w_X8_firstNothing t μ Φ) : zM SX yX8_firstNothing cX8_firstNothing 2 (some FieldType.int) 0 [.ref t] μ (zzPI Φ μ) := by
  refine zM_go (own := RX8) rfl (by decide) (Nat.le_of_ble_eq_true rfl) (fun E hE => ?_)
  show zZ E (zzPI Φ μ) 0 [(0, .ref t)] [] μ
  unfold w_X8_firstNothing at h
  refine z_iconst (v := 0) hE dX8_firstNothing_0 zv_i_0 ?_
  refine z_istore_n (lv' := [(1, .int (0 : Int32)), (0, .ref t)]) hE dX8_firstNothing_1 rfl (by decide) rfl ?_
  refine z_sub [1, 0] rfl ?_
  obtain ⟨n2, h⟩ := h
  refine z_loop1 (P := fun (v1_1 : Int32) => zZ E (zzPI Φ μ) 2 [(0, .ref t), (1, .int v1_1)] [] μ) (fun k2_1 hk2_1 v1_1 h => ?_) n2 _ h
  refine z_iload_n hE dX8_firstNothing_2 rfl 1 rfl ?_
  refine z_aload_n hE dX8_firstNothing_3 rfl 0 rfl ?_
  refine z_getI hE dX8_firstNothing_4 lF_X8_27 h0.1 rfl ?_
  refine z_icmp_gt (tgt := 28) hE dX8_firstNothing_7 (by decide) h (fun h => ?_) (fun h => ?_)
  · refine z_iconst (v := -1) hE dX8_firstNothing_28 zv_i_m1 ?_
    exact z_iret (st := []) hE dX8_firstNothing_29 rfl ⟨_, rfl, rfl, h⟩
  · refine z_aload_n hE dX8_firstNothing_10 rfl 0 rfl ?_
    refine z_getR (t := (t + 11)) hE dX8_firstNothing_11 lF_X8_23 h0.1 rfl ?_
    refine z_iload_n hE dX8_firstNothing_14 rfl 1 rfl ?_
    obtain ⟨q_2, h⟩ := h
    refine z_iald hE dX8_firstNothing_15 h0.2.2.2.2.2 q_2 ?_
    refine z_iconst (v := 2) hE dX8_firstNothing_16 zv_i_2 ?_
    refine z_icmp_ne (tgt := 22) hE dX8_firstNothing_17 (by decide) h (fun h => ?_) (fun h => ?_)
    · refine z_iinc (j := 1) (c := 1) (lv' := [(1, .int (v1_1 + (1 : Int32))), (0, .ref t)]) hE dX8_firstNothing_22 rfl zv_i_1 (by decide) rfl ?_
      refine z_goto (tgt := 2) hE dX8_firstNothing_25 (by decide) ?_
      exact z_sub [1, 0] rfl (hk2_1 _ h)
    · refine z_iload_n hE dX8_firstNothing_20 rfl 1 rfl ?_
      exact z_iret (st := []) hE dX8_firstNothing_21 rfl ⟨_, rfl, rfl, h⟩
set_option maxRecDepth 4000 in
theorem c_X8_hasRow (t : Nat) (a1 : Int32) (h0 : zT_Table t) (μ : ZMem) (Φ : Int32 → Prop) (h : w_X8_hasRow t a1 μ Φ) : zM SX yX8_hasRow cX8_hasRow 2 (some FieldType.boolean) 0 [.ref t, .int a1] μ (zzPI Φ μ) := by
  refine zM_go (own := RX8) rfl (by decide) (Nat.le_of_ble_eq_true rfl) (fun E hE => ?_)
  show zZ E (zzPI Φ μ) 0 [(0, .ref t), (1, .int a1)] [] μ
  unfold w_X8_hasRow at h
  refine z_iload_n hE dX8_hasRow_0 rfl 1 rfl ?_
  refine z_if_lt (tgt := 16) hE dX8_hasRow_1 (by decide) h (fun h => ?_) (fun h => ?_)
  · refine z_iconst (v := 0) hE dX8_hasRow_16 zv_i_0 ?_
    exact z_zret (st := []) hE dX8_hasRow_17 rfl (by decide) ⟨_, rfl, rfl, h⟩
  · refine z_iload_n hE dX8_hasRow_4 rfl 1 rfl ?_
    refine z_aload_n hE dX8_hasRow_5 rfl 0 rfl ?_
    refine z_getI hE dX8_hasRow_6 lF_X8_27 h0.1 rfl ?_
    refine z_icmp_gt (tgt := 16) hE dX8_hasRow_9 (by decide) h (fun h => ?_) (fun h => ?_)
    · refine z_iconst (v := 0) hE dX8_hasRow_16 zv_i_0 ?_
      exact z_zret (st := []) hE dX8_hasRow_17 rfl (by decide) ⟨_, rfl, rfl, h⟩
    · refine z_iconst (v := 1) hE dX8_hasRow_12 zv_i_1 ?_
      refine z_goto (tgt := 17) hE dX8_hasRow_13 (by decide) ?_
      exact z_zret (st := []) hE dX8_hasRow_17 rfl (by decide) ⟨_, rfl, rfl, h⟩
set_option maxRecDepth 4000 in
theorem c_X8_item (t : Nat) (a1 : Int32) (a2 : Int32) (h0 : zT_Table t) (μ : ZMem) (Φ : Int64 → Prop) (h : w_X8_item t a1 a2 μ Φ) : zM SX yX8_item cX8_item 3 (some FieldType.long) 0 [.ref t, .int a1, .int a2] μ (zzPJ Φ μ) := by
  refine zM_go (own := RX8) rfl (by decide) (Nat.le_of_ble_eq_true rfl) (fun E hE => ?_)
  show zZ E (zzPJ Φ μ) 0 [(0, .ref t), (1, .int a1), (2, .int a2)] [] μ
  unfold w_X8_item at h
  refine z_aload_n hE dX8_item_0 rfl 0 rfl ?_
  refine z_getR (t := (t + 3)) hE dX8_item_1 lF_X8_20 h0.1 rfl ?_
  refine z_iload_n hE dX8_item_4 rfl 1 rfl ?_
  obtain ⟨q_1, h⟩ := h
  refine z_aald1 hE dX8_item_5 h0.2.2.2.1 (fun _ => rfl) rfl q_1 ?_
  refine z_iload_n hE dX8_item_6 rfl 2 rfl ?_
  obtain ⟨q_2, h⟩ := h
  refine z_lald hE dX8_item_7 (h0.2.2.2.2.1 _ (zz_in_lt q_1)) q_2 ?_
  exact z_lret (st := []) hE dX8_item_8 rfl ⟨_, rfl, rfl, h⟩
set_option maxRecDepth 4000 in
theorem c_X8_mending (t : Nat) (a1 : Int32) (h0 : zT_Table t) (μ : ZMem) (Φ : Int32 → Prop) (h : w_X8_mending t a1 μ Φ) : zM SX yX8_mending cX8_mending 2 (some FieldType.int) 0 [.ref t, .int a1] μ (zzPI Φ μ) := by
  refine zM_go (own := RX8) rfl (by decide) (Nat.le_of_ble_eq_true rfl) (fun E hE => ?_)
  show zZ E (zzPI Φ μ) 0 [(0, .ref t), (1, .int a1)] [] μ
  unfold w_X8_mending at h
  refine z_aload_n hE dX8_mending_0 rfl 0 rfl ?_
  refine z_getR (t := (t + 11)) hE dX8_mending_1 lF_X8_23 h0.1 rfl ?_
  refine z_iload_n hE dX8_mending_4 rfl 1 rfl ?_
  obtain ⟨q_1, h⟩ := h
  refine z_iald hE dX8_mending_5 h0.2.2.2.2.2 q_1 ?_
  exact z_iret (st := []) hE dX8_mending_6 rfl ⟨_, rfl, rfl, h⟩
set_option maxRecDepth 4000 in
theorem c_X8_mirror (t : Nat) (h0 : zT_Table t) (μ : ZMem) (Φ : ZMem → Prop) (h : w_X8_mirror t μ Φ) : zM SX yX8_mirror cX8_mirror 2 (none) 0 [.ref t] μ (zzV Φ) := by
  refine zM_go (own := RX8) rfl (by decide) (Nat.le_of_ble_eq_true rfl) (fun E hE => ?_)
  show zZ E (zzV Φ) 0 [(0, .ref t)] [] μ
  unfold w_X8_mirror at h
  refine z_iconst (v := 1) hE dX8_mirror_0 zv_i_1 ?_
  refine z_istore_n (lv' := [(1, .int (1 : Int32)), (0, .ref t)]) hE dX8_mirror_1 rfl (by decide) rfl ?_
  refine z_sub [1, 0] rfl ?_
  obtain ⟨n2, h⟩ := h
  refine z_loop2 (P := fun (v1_1 : Int32) (μ_2 : ZMem) => zZ E (zzV Φ) 2 [(0, .ref t), (1, .int v1_1)] [] μ_2) (fun k2_2 hk2_2 v1_1 μ_2 h => ?_) n2 _ _ h
  refine z_iload_n hE dX8_mirror_2 rfl 1 rfl ?_
  refine z_bipush (v := 7) hE dX8_mirror_3 zv_b_7 ?_
  refine z_icmp_ge (tgt := 27) hE dX8_mirror_5 (by decide) h (fun h => ?_) (fun h => ?_)
  · exact z_vret (st := []) hE dX8_mirror_27 rfl ⟨rfl, h⟩
  · refine z_aload_n hE dX8_mirror_8 rfl 0 rfl ?_
    refine z_getR (t := (t + 1)) hE dX8_mirror_9 lF_X8_9 h0.1 rfl ?_
    refine z_iload_n hE dX8_mirror_12 rfl 1 rfl ?_
    refine z_aload_n hE dX8_mirror_13 rfl 0 rfl ?_
    refine z_getR (t := (t + 1)) hE dX8_mirror_14 lF_X8_9 h0.1 rfl ?_
    refine z_iload_n hE dX8_mirror_17 rfl 1 rfl ?_
    obtain ⟨q_3, h⟩ := h
    refine z_lald hE dX8_mirror_18 h0.2.1 q_3 ?_
    refine z_lneg hE dX8_mirror_19 ?_
    obtain ⟨q_4, h⟩ := h
    refine z_last hE dX8_mirror_20 h0.2.1 q_4 ?_
    refine zn (G := fun μ_5 => zZ E (zzV Φ) 21 [(0, .ref t), (1, .int v1_1)] [] μ_5) h (fun μ_5 h => ?_)
    refine z_iinc (j := 1) (c := 2) (lv' := [(1, .int (v1_1 + (2 : Int32))), (0, .ref t)]) hE dX8_mirror_21 rfl zv_i_2 (by decide) rfl ?_
    refine z_goto (tgt := 2) hE dX8_mirror_24 (by decide) ?_
    exact z_sub [1, 0] rfl (hk2_2 _ _ h)
set_option maxRecDepth 4000 in
theorem c_X8_shift (t : Nat) (a1 : Int32) (a2 : Int32) (h0 : zT_Table t) (μ : ZMem) (Φ : ZMem → Prop) (h : w_X8_shift t a1 a2 μ Φ) : zM SX yX8_shift cX8_shift 5 (none) 0 [.ref t, .int a1, .int a2] μ (zzV Φ) := by
  refine zM_go (own := RX8) rfl (by decide) (Nat.le_of_ble_eq_true rfl) (fun E hE => ?_)
  show zZ E (zzV Φ) 0 [(0, .ref t), (1, .int a1), (2, .int a2)] [] μ
  unfold w_X8_shift at h
  refine z_iconst (v := 0) hE dX8_shift_0 zv_i_0 ?_
  refine z_istore_n (lv' := [(3, .int (0 : Int32)), (0, .ref t), (1, .int a1), (2, .int a2)]) hE dX8_shift_1 rfl (by decide) rfl ?_
  refine z_sub [1, 2, 3, 0] rfl ?_
  obtain ⟨n2, h⟩ := h
  refine z_loop2 (P := fun (v3_1 : Int32) (μ_2 : ZMem) => zZ E (zzV Φ) 2 [(0, .ref t), (1, .int a1), (2, .int a2), (3, .int v3_1)] [] μ_2) (fun k2_2 hk2_2 v3_1 μ_2 h => ?_) n2 _ _ h
  refine z_iload_n hE dX8_shift_2 rfl 3 rfl ?_
  refine z_iload_n hE dX8_shift_3 rfl 2 rfl ?_
  refine z_icmp_ge (tgt := 52) hE dX8_shift_4 (by decide) h (fun h => ?_) (fun h => ?_)
  · exact z_vret (st := []) hE dX8_shift_52 rfl ⟨rfl, h⟩
  · refine z_iload_n hE dX8_shift_7 rfl 2 rfl ?_
    refine z_iconst (v := 1) hE dX8_shift_8 zv_i_1 ?_
    refine z_isub hE dX8_shift_9 ?_
    refine z_istore (lv' := [(4, .int (a2 - (1 : Int32))), (0, .ref t), (1, .int a1), (2, .int a2), (3, .int v3_1)]) hE dX8_shift_10 (by decide) rfl ?_
    refine zn (G := fun v4_3 => zZ E (zzV Φ) 12 [(4, .int v4_3), (0, .ref t), (1, .int a1), (2, .int a2), (3, .int v3_1)] [] μ_2) h (fun v4_3 h => ?_)
    refine z_join (P := fun (J_5 : ZMem → Prop) => ∀ (μ_4 : ZMem), J_5 μ_4 → zZ E (zzV Φ) 46 [(0, .ref t), (1, .int a1), (2, .int a2), (3, .int v3_1)] [] μ_4) h (fun μ_4 h => ?_) (fun J_5 hJ_5 h => ?_)
    · refine z_iinc (j := 3) (c := 1) (lv' := [(3, .int (v3_1 + (1 : Int32))), (0, .ref t), (1, .int a1), (2, .int a2)]) hE dX8_shift_46 rfl zv_i_1 (by decide) rfl ?_
      refine z_goto (tgt := 2) hE dX8_shift_49 (by decide) ?_
      exact z_sub [1, 2, 3, 0] rfl (hk2_2 _ _ h)
    refine z_sub [1, 2, 3, 4, 0] rfl ?_
    obtain ⟨n12, h⟩ := h
    refine z_loop2 (P := fun (v4_6 : Int32) (μ_7 : ZMem) => zZ E (zzV Φ) 12 [(0, .ref t), (1, .int a1), (2, .int a2), (3, .int v3_1), (4, .int v4_6)] [] μ_7) (fun k12_7 hk12_7 v4_6 μ_7 h => ?_) n12 _ _ h
    refine z_iload hE dX8_shift_12 4 rfl ?_
    refine z_iload_n hE dX8_shift_14 rfl 3 rfl ?_
    refine z_icmp_lt (tgt := 46) hE dX8_shift_15 (by decide) h (fun h => ?_) (fun h => ?_)
    · exact z_sub [0, 1, 2, 3] rfl (hJ_5 _ h)
    · refine z_aload_n hE dX8_shift_18 rfl 0 rfl ?_
      refine z_getR (t := (t + 1)) hE dX8_shift_19 lF_X8_9 h0.1 rfl ?_
      refine z_iload hE dX8_shift_22 4 rfl ?_
      refine z_dup2 hE dX8_shift_24 rfl rfl ?_
      obtain ⟨q_8, h⟩ := h
      refine z_lald hE dX8_shift_25 h0.2.1 q_8 ?_
      refine z_iload_n hE dX8_shift_26 rfl 1 rfl ?_
      refine z_i2l hE dX8_shift_27 ?_
      refine z_aload_n hE dX8_shift_28 rfl 0 rfl ?_
      refine z_getR (t := (t + 1)) hE dX8_shift_29 lF_X8_9 h0.1 rfl ?_
      refine z_iload hE dX8_shift_32 4 rfl ?_
      refine z_iconst (v := 1) hE dX8_shift_34 zv_i_1 ?_
      refine z_iadd hE dX8_shift_35 ?_
      obtain ⟨q_9, h⟩ := h
      refine z_lald hE dX8_shift_36 h0.2.1 q_9 ?_
      refine z_lmul hE dX8_shift_37 ?_
      refine z_ladd hE dX8_shift_38 ?_
      obtain ⟨q_10, h⟩ := h
      refine z_last hE dX8_shift_39 h0.2.1 q_10 ?_
      refine zn (G := fun μ_11 => zZ E (zzV Φ) 40 [(0, .ref t), (1, .int a1), (2, .int a2), (3, .int v3_1), (4, .int v4_6)] [] μ_11) h (fun μ_11 h => ?_)
      refine z_iinc (j := 4) (c := -1) (lv' := [(4, .int (v4_6 + (-1 : Int32))), (0, .ref t), (1, .int a1), (2, .int a2), (3, .int v3_1)]) hE dX8_shift_40 rfl zv_i_m1 (by decide) rfl ?_
      refine z_goto (tgt := 12) hE dX8_shift_43 (by decide) ?_
      exact z_sub [1, 2, 3, 4, 0] rfl (hk12_7 _ _ h)
set_option maxRecDepth 4000 in
theorem c_X8_signChanges (t : Nat) (a1 : Int32) (a2 : Int32) (h0 : zT_Table t) (μ : ZMem) (Φ : Int32 → Prop) (h : w_X8_signChanges t a1 a2 μ Φ) : zM SX yX8_signChanges cX8_signChanges 5 (some FieldType.int) 0 [.ref t, .int a1, .int a2] μ (zzPI Φ μ) := by
  refine zM_go (own := RX8) rfl (by decide) (Nat.le_of_ble_eq_true rfl) (fun E hE => ?_)
  show zZ E (zzPI Φ μ) 0 [(0, .ref t), (1, .int a1), (2, .int a2)] [] μ
  unfold w_X8_signChanges at h
  refine z_iconst (v := 0) hE dX8_signChanges_0 zv_i_0 ?_
  refine z_istore_n (lv' := [(3, .int (0 : Int32)), (0, .ref t), (1, .int a1), (2, .int a2)]) hE dX8_signChanges_1 rfl (by decide) rfl ?_
  refine z_iload_n hE dX8_signChanges_2 rfl 2 rfl ?_
  refine z_iconst (v := 1) hE dX8_signChanges_3 zv_i_1 ?_
  refine z_iadd hE dX8_signChanges_4 ?_
  refine z_istore (lv' := [(4, .int (a1 + (1 : Int32))), (3, .int (0 : Int32)), (0, .ref t), (1, .int a1), (2, .int a2)]) hE dX8_signChanges_5 (by decide) rfl ?_
  refine zn (G := fun v4_1 => zZ E (zzPI Φ μ) 7 [(4, .int v4_1), (3, .int (0 : Int32)), (0, .ref t), (1, .int a1), (2, .int a2)] [] μ) h (fun v4_1 h => ?_)
  refine z_sub [2, 4, 1, 0] rfl ?_
  obtain ⟨n7, h⟩ := h
  refine z_loop2 (P := fun (v3_2 : Int32) (v4_3 : Int32) => zZ E (zzPI Φ μ) 7 [(0, .ref t), (2, .int a2), (3, .int v3_2), (4, .int v4_3)] [] μ) (fun k7_3 hk7_3 v3_2 v4_3 h => ?_) n7 _ _ h
  refine z_iload hE dX8_signChanges_7 3 rfl ?_
  refine z_iload_n hE dX8_signChanges_9 rfl 1 rfl ?_
  refine z_icmp_gt (tgt := 65) hE dX8_signChanges_10 (by decide) h (fun h => ?_) (fun h => ?_)
  · refine z_iload_n hE dX8_signChanges_65 rfl 2 rfl ?_
    exact z_iret (st := []) hE dX8_signChanges_66 rfl ⟨_, rfl, rfl, h⟩
  · refine z_aload_n hE dX8_signChanges_13 rfl 0 rfl ?_
    refine z_getR (t := (t + 3)) hE dX8_signChanges_14 lF_X8_20 h0.1 rfl ?_
    refine z_iload hE dX8_signChanges_17 3 rfl ?_
    obtain ⟨q_4, h⟩ := h
    refine z_aald1 hE dX8_signChanges_19 h0.2.2.2.1 (fun _ => rfl) rfl q_4 ?_
    refine z_iconst (v := 0) hE dX8_signChanges_20 zv_i_0 ?_
    refine z_lald hE dX8_signChanges_21 (h0.2.2.2.2.1 _ (zz_in_lt q_4)) (zin (by decide)) ?_
    refine z_lconst (v := 0) hE dX8_signChanges_22 zv_l_0 ?_
    refine z_join (P := fun (J_6 : Int32 → Prop) => ∀ (x_5 : Int32), J_6 x_5 → zZ E (zzPI Φ μ) 32 [(0, .ref t), (2, .int a2), (3, .int v3_2), (4, .int v4_3)] [.int x_5] μ) h (fun x_5 h => ?_) (fun J_6 hJ_6 h => ?_)
    · refine z_aload_n hE dX8_signChanges_32 rfl 0 rfl ?_
      refine z_getR (t := (t + 3)) hE dX8_signChanges_33 lF_X8_20 h0.1 rfl ?_
      refine z_iload hE dX8_signChanges_36 3 rfl ?_
      refine z_iconst (v := 1) hE dX8_signChanges_38 zv_i_1 ?_
      refine z_isub hE dX8_signChanges_39 ?_
      obtain ⟨q_7, h⟩ := h
      refine z_aald1 hE dX8_signChanges_40 h0.2.2.2.1 (fun _ => rfl) rfl q_7 ?_
      refine z_iconst (v := 0) hE dX8_signChanges_41 zv_i_0 ?_
      refine z_lald hE dX8_signChanges_42 (h0.2.2.2.2.1 _ (zz_in_lt q_7)) (zin (by decide)) ?_
      refine z_lconst (v := 0) hE dX8_signChanges_43 zv_l_0 ?_
      refine z_join (P := fun (J_9 : Int32 → Prop) => ∀ (x_8 : Int32), J_9 x_8 → zZ E (zzPI Φ μ) 53 [(0, .ref t), (2, .int a2), (3, .int v3_2), (4, .int v4_3)] [.int x_8, .int x_5] μ) h (fun x_8 h => ?_) (fun J_9 hJ_9 h => ?_)
      · refine z_join (P := fun (J_11 : Int32 → Prop) => ∀ (v3_10 : Int32), J_11 v3_10 → zZ E (zzPI Φ μ) 59 [(0, .ref t), (2, .int a2), (3, .int v3_10), (4, .int v4_3)] [] μ) h (fun v3_10 h => ?_) (fun J_11 hJ_11 h => ?_)
        · refine z_iinc (j := 3) (c := 1) (lv' := [(4, .int (v4_3 + (1 : Int32))), (0, .ref t), (2, .int a2), (3, .int v3_10)]) hE dX8_signChanges_59 rfl zv_i_1 (by decide) rfl ?_
          refine z_goto (tgt := 7) hE dX8_signChanges_62 (by decide) ?_
          exact z_sub [1, 2, 3, 0] rfl (hk7_3 _ _ h)
        refine z_icmp_eq (tgt := 59) hE dX8_signChanges_53 (by decide) h (fun h => ?_) (fun h => ?_)
        · exact hJ_11 _ h
        · refine z_iinc (j := 2) (c := 1) (lv' := [(3, .int (v3_2 + (1 : Int32))), (0, .ref t), (2, .int a2), (4, .int v4_3)]) hE dX8_signChanges_56 rfl zv_i_1 (by decide) rfl ?_
          exact z_sub [1, 2, 0, 3] rfl (hJ_11 _ h)
      refine z_ljmp_ge (tgt := 52) hE dX8_signChanges_44 dX8_signChanges_45 (by decide) h (fun h => ?_) (fun h => ?_)
      · refine z_iconst (v := 0) hE dX8_signChanges_52 zv_i_0 ?_
        exact hJ_9 _ h
      · refine z_iconst (v := 1) hE dX8_signChanges_48 zv_i_1 ?_
        refine z_goto (tgt := 53) hE dX8_signChanges_49 (by decide) ?_
        exact hJ_9 _ h
    refine z_ljmp_ge (tgt := 31) hE dX8_signChanges_23 dX8_signChanges_24 (by decide) h (fun h => ?_) (fun h => ?_)
    · refine z_iconst (v := 0) hE dX8_signChanges_31 zv_i_0 ?_
      exact hJ_6 _ h
    · refine z_iconst (v := 1) hE dX8_signChanges_27 zv_i_1 ?_
      refine z_goto (tgt := 32) hE dX8_signChanges_28 (by decide) ?_
      exact hJ_6 _ h
set_option maxRecDepth 4000 in
theorem c_X8_takeRow (t : Nat) (a1 : Int32) (h0 : zT_Table t) (μ : ZMem) (Φ : ZMem → Prop) (h : w_X8_takeRow t a1 μ Φ) : zM SX yX8_takeRow cX8_takeRow 4 (none) 0 [.ref t, .int a1] μ (zzV Φ) := by
  refine zM_go (own := RX8) rfl (by decide) (Nat.le_of_ble_eq_true rfl) (fun E hE => ?_)
  show zZ E (zzV Φ) 0 [(0, .ref t), (1, .int a1)] [] μ
  unfold w_X8_takeRow at h
  refine z_iconst (v := 0) hE dX8_takeRow_0 zv_i_0 ?_
  refine z_istore_n (lv' := [(2, .int (0 : Int32)), (0, .ref t), (1, .int a1)]) hE dX8_takeRow_1 rfl (by decide) rfl ?_
  refine z_sub [1, 2, 0] rfl ?_
  obtain ⟨n2, h⟩ := h
  refine z_loop2 (P := fun (v2_1 : Int32) (μ_2 : ZMem) => zZ E (zzV Φ) 2 [(0, .ref t), (1, .int a1), (2, .int v2_1)] [] μ_2) (fun k2_2 hk2_2 v2_1 μ_2 h => ?_) n2 _ _ h
  refine z_iload_n hE dX8_takeRow_2 rfl 2 rfl ?_
  refine z_iconst (v := 4) hE dX8_takeRow_3 zv_i_4 ?_
  refine z_icmp_ge (tgt := 46) hE dX8_takeRow_4 (by decide) h (fun h => ?_) (fun h => ?_)
  · exact z_vret (st := []) hE dX8_takeRow_46 rfl ⟨rfl, h⟩
  · refine z_aload_n hE dX8_takeRow_7 rfl 0 rfl ?_
    refine z_getI hE dX8_takeRow_8 lF_X8_27 h0.1 rfl ?_
    refine z_iload_n hE dX8_takeRow_11 rfl 1 rfl ?_
    refine z_isub hE dX8_takeRow_12 ?_
    refine z_iconst (v := 2) hE dX8_takeRow_13 zv_i_2 ?_
    refine z_iload_n hE dX8_takeRow_14 rfl 2 rfl ?_
    refine z_imul hE dX8_takeRow_15 ?_
    refine z_isub hE dX8_takeRow_16 ?_
    refine z_istore_n (lv' := [(3, .int (((μ_2.1 t 4) - a1) - ((2 : Int32) * v2_1))), (0, .ref t), (1, .int a1), (2, .int v2_1)]) hE dX8_takeRow_17 rfl (by decide) rfl ?_
    refine zn (G := fun v3_3 => zZ E (zzV Φ) 18 [(3, .int v3_3), (0, .ref t), (1, .int a1), (2, .int v2_1)] [] μ_2) h (fun v3_3 h => ?_)
    refine z_aload_n hE dX8_takeRow_18 rfl 1 rfl ?_
    refine z_getR (t := (t + 3)) hE dX8_takeRow_19 lF_X8_20 h0.1 rfl ?_
    refine z_iload_n hE dX8_takeRow_22 rfl 2 rfl ?_
    obtain ⟨q_4, h⟩ := h
    refine z_aald1 hE dX8_takeRow_23 h0.2.2.2.1 (fun _ => rfl) rfl q_4 ?_
    refine z_iload_n hE dX8_takeRow_24 rfl 3 rfl ?_
    refine z_iload_n hE dX8_takeRow_25 rfl 0 rfl ?_
    refine z_join (P := fun (J_6 : Int64 → Prop) => ∀ (x_5 : Int64), J_6 x_5 → zZ E (zzV Φ) 39 [(0, .ref t), (1, .int a1), (2, .int v2_1)] [.long x_5, .int v2_1, .ref ((t + 4) + (Int32.toNatClampNeg a1))] μ_2) h (fun x_5 h => ?_) (fun J_6 hJ_6 h => ?_)
    · obtain ⟨q_7, h⟩ := h
      refine z_last hE dX8_takeRow_39 (h0.2.2.2.2.1 _ (zz_in_lt q_4)) q_7 ?_
      refine zn (G := fun μ_8 => zZ E (zzV Φ) 40 [(0, .ref t), (1, .int a1), (2, .int v2_1)] [] μ_8) h (fun μ_8 h => ?_)
      refine z_iinc (j := 2) (c := 1) (lv' := [(2, .int (v2_1 + (1 : Int32))), (0, .ref t), (1, .int a1)]) hE dX8_takeRow_40 rfl zv_i_1 (by decide) rfl ?_
      refine z_goto (tgt := 2) hE dX8_takeRow_43 (by decide) ?_
      exact z_sub [1, 2, 0] rfl (hk2_2 _ _ h)
    refine z_if_ge (tgt := 33) hE dX8_takeRow_26 (by decide) h (fun h => ?_) (fun h => ?_)
    · refine z_aload_n hE dX8_takeRow_33 rfl 1 rfl ?_
      refine z_getR (t := (t + 1)) hE dX8_takeRow_34 lF_X8_9 h0.1 rfl ?_
      refine z_iload_n hE dX8_takeRow_37 rfl 0 rfl ?_
      obtain ⟨q_9, h⟩ := h
      refine z_lald hE dX8_takeRow_38 h0.2.1 q_9 ?_
      exact z_sub [1, 2, 3] rfl (hJ_6 _ h)
    · refine z_lconst (v := 0) hE dX8_takeRow_29 zv_l_0 ?_
      refine z_goto (tgt := 39) hE dX8_takeRow_30 (by decide) ?_
      exact z_sub [1, 2, 3] rfl (hJ_6 _ h)
set_option maxRecDepth 4000 in
theorem c_X8_turn (t : Nat) (k1 n1 : Nat) (a2 : Int32) (h0 : zT_Table t) (h1 : SX[k1]? = some (2, n1, [])) (μ : ZMem) (Φ : ZMem → Prop) (h : w_X8_turn t k1 n1 a2 μ Φ) : zM SX yX8_turn cX8_turn 4 (none) 0 [.ref t, .ref k1, .int a2] μ (zzV Φ) := by
  refine zM_go (own := RX8) rfl (by decide) (Nat.le_of_ble_eq_true rfl) (fun E hE => ?_)
  show zZ E (zzV Φ) 0 [(0, .ref t), (1, .ref k1), (2, .int a2)] [] μ
  unfold w_X8_turn at h
  refine z_iconst (v := 0) hE dX8_turn_0 zv_i_0 ?_
  refine z_istore_n (lv' := [(3, .int (0 : Int32)), (0, .ref t), (1, .ref k1), (2, .int a2)]) hE dX8_turn_1 rfl (by decide) rfl ?_
  refine z_sub [1, 2, 3, 0] rfl ?_
  obtain ⟨n2, h⟩ := h
  refine z_loop2 (P := fun (v3_1 : Int32) (μ_2 : ZMem) => zZ E (zzV Φ) 2 [(0, .ref t), (1, .ref k1), (2, .int a2), (3, .int v3_1)] [] μ_2) (fun k2_2 hk2_2 v3_1 μ_2 h => ?_) n2 _ _ h
  refine z_iload_n hE dX8_turn_2 rfl 3 rfl ?_
  refine z_iload_n hE dX8_turn_3 rfl 2 rfl ?_
  refine z_icmp_gt (tgt := 24) hE dX8_turn_4 (by decide) h (fun h => ?_) (fun h => ?_)
  · exact z_vret (st := []) hE dX8_turn_24 rfl ⟨rfl, h⟩
  · refine z_aload_n hE dX8_turn_7 rfl 0 rfl ?_
    refine z_getR (t := (t + 1)) hE dX8_turn_8 lF_X8_9 h0.1 rfl ?_
    refine z_iload_n hE dX8_turn_11 rfl 3 rfl ?_
    refine z_aload_n hE dX8_turn_12 rfl 1 rfl ?_
    refine z_iload_n hE dX8_turn_13 rfl 2 rfl ?_
    refine z_iload_n hE dX8_turn_14 rfl 3 rfl ?_
    refine z_isub hE dX8_turn_15 ?_
    obtain ⟨q_3, h⟩ := h
    refine z_lald hE dX8_turn_16 h1 q_3 ?_
    obtain ⟨q_4, h⟩ := h
    refine z_last hE dX8_turn_17 h0.2.1 q_4 ?_
    refine zn (G := fun μ_5 => zZ E (zzV Φ) 18 [(0, .ref t), (1, .ref k1), (2, .int a2), (3, .int v3_1)] [] μ_5) h (fun μ_5 h => ?_)
    refine z_iinc (j := 3) (c := 1) (lv' := [(3, .int (v3_1 + (1 : Int32))), (0, .ref t), (1, .ref k1), (2, .int a2)]) hE dX8_turn_18 rfl zv_i_1 (by decide) rfl ?_
    refine z_goto (tgt := 2) hE dX8_turn_21 (by decide) ?_
    exact z_sub [1, 2, 3, 0] rfl (hk2_2 _ _ h)
set_option maxRecDepth 4000 in
theorem c_X8_width (t : Nat) (a1 : Int32) (h0 : zT_Table t) (μ : ZMem) (Φ : Int32 → Prop) (h : w_X8_width t a1 μ Φ) : zM SX yX8_width cX8_width 2 (some FieldType.int) 0 [.ref t, .int a1] μ (zzPI Φ μ) := by
  refine zM_go (own := RX8) rfl (by decide) (Nat.le_of_ble_eq_true rfl) (fun E hE => ?_)
  show zZ E (zzPI Φ μ) 0 [(0, .ref t), (1, .int a1)] [] μ
  unfold w_X8_width at h
  refine z_aload_n hE dX8_width_0 rfl 0 rfl ?_
  refine z_getI hE dX8_width_1 lF_X8_27 h0.1 rfl ?_
  refine z_iload_n hE dX8_width_4 rfl 1 rfl ?_
  refine z_isub hE dX8_width_5 ?_
  refine z_iconst (v := 2) hE dX8_width_6 zv_i_2 ?_
  refine z_idiv hE dX8_width_7 (by decide) ?_
  refine z_iconst (v := 1) hE dX8_width_8 zv_i_1 ?_
  refine z_iadd hE dX8_width_9 ?_
  exact z_iret (st := []) hE dX8_width_10 rfl ⟨_, rfl, rfl, h⟩
set_option maxRecDepth 4000 in
theorem c_X9_append (a1 : Int32) (μ : ZMem) (Φ : ZMem → Prop) (h : w_X9_append a1 μ Φ) : zM SX yX9_append cX9_append 2 (none) 0 [.ref 23, .int a1] μ (zzV Φ) := by
  refine zM_go (own := RX9) rfl (by decide) (Nat.le_of_ble_eq_true rfl) (fun E hE => ?_)
  show zZ E (zzV Φ) 0 [(0, .ref 23), (1, .int a1)] [] μ
  unfold w_X9_append at h
  refine z_aload_n hE dX9_append_0 rfl 0 rfl ?_
  refine z_getI hE dX9_append_1 lF_X9_22 sX_23 rfl ?_
  refine z_bipush (v := 60) hE dX9_append_4 zv_b_60 ?_
  refine z_icmp_ge (tgt := 29) hE dX9_append_6 (by decide) h (fun h => ?_) (fun h => ?_)
  · exact z_vret (st := []) hE dX9_append_29 rfl ⟨rfl, h⟩
  · refine z_aload_n hE dX9_append_9 rfl 0 rfl ?_
    refine z_getR (t := 24) hE dX9_append_10 lF_X9_9 sX_23 rfl ?_
    refine z_aload_n hE dX9_append_13 rfl 0 rfl ?_
    refine z_getI hE dX9_append_14 lF_X9_22 sX_23 rfl ?_
    refine z_iload_n hE dX9_append_17 rfl 1 rfl ?_
    obtain ⟨q_1, h⟩ := h
    refine z_iast hE dX9_append_18 sX_24 q_1 ?_
    refine zn (G := fun μ_2 => zZ E (zzV Φ) 19 [(0, .ref 23), (1, .int a1)] [] μ_2) h (fun μ_2 h => ?_)
    refine z_aload_n hE dX9_append_19 rfl 0 rfl ?_
    refine z_dup hE dX9_append_20 rfl ?_
    refine z_getI hE dX9_append_21 lF_X9_22 sX_23 rfl ?_
    refine z_iconst (v := 1) hE dX9_append_24 zv_i_1 ?_
    refine z_iadd hE dX9_append_25 ?_
    refine z_put hE dX9_append_26 lF_X9_22 sX_23 rfl rfl rfl ?_
    refine zn (G := fun μ_3 => zZ E (zzV Φ) 29 [(0, .ref 23), (1, .int a1)] [] μ_3) h (fun μ_3 h => ?_)
    exact z_vret (st := []) hE dX9_append_29 rfl ⟨rfl, h⟩
set_option maxRecDepth 4000 in
theorem c_X9_letterAt (a1 : Int32) (μ : ZMem) (Φ : Int32 → Prop) (h : w_X9_letterAt a1 μ Φ) : zM SX yX9_letterAt cX9_letterAt 2 (some FieldType.int) 0 [.ref 23, .int a1] μ (zzPI Φ μ) := by
  refine zM_go (own := RX9) rfl (by decide) (Nat.le_of_ble_eq_true rfl) (fun E hE => ?_)
  show zZ E (zzPI Φ μ) 0 [(0, .ref 23), (1, .int a1)] [] μ
  unfold w_X9_letterAt at h
  refine z_iload_n hE dX9_letterAt_0 rfl 1 rfl ?_
  refine z_if_lt (tgt := 18) hE dX9_letterAt_1 (by decide) h (fun h => ?_) (fun h => ?_)
  · refine z_iconst (v := -1) hE dX9_letterAt_18 zv_i_m1 ?_
    refine z_goto (tgt := 28) hE dX9_letterAt_19 (by decide) ?_
    exact z_iret (st := []) hE dX9_letterAt_28 rfl ⟨_, rfl, rfl, h⟩
  · refine z_iload_n hE dX9_letterAt_4 rfl 1 rfl ?_
    refine z_aload_n hE dX9_letterAt_5 rfl 0 rfl ?_
    refine z_getI hE dX9_letterAt_6 lF_X9_22 sX_23 rfl ?_
    refine z_icmp_ge (tgt := 18) hE dX9_letterAt_9 (by decide) h (fun h => ?_) (fun h => ?_)
    · refine z_iconst (v := -1) hE dX9_letterAt_18 zv_i_m1 ?_
      refine z_goto (tgt := 28) hE dX9_letterAt_19 (by decide) ?_
      exact z_iret (st := []) hE dX9_letterAt_28 rfl ⟨_, rfl, rfl, h⟩
    · refine z_iload_n hE dX9_letterAt_12 rfl 1 rfl ?_
      refine z_bipush (v := 60) hE dX9_letterAt_13 zv_b_60 ?_
      refine z_icmp_lt (tgt := 22) hE dX9_letterAt_15 (by decide) h (fun h => ?_) (fun h => ?_)
      · refine z_aload_n hE dX9_letterAt_22 rfl 0 rfl ?_
        refine z_getR (t := 24) hE dX9_letterAt_23 lF_X9_9 sX_23 rfl ?_
        refine z_iload_n hE dX9_letterAt_26 rfl 1 rfl ?_
        obtain ⟨q_1, h⟩ := h
        refine z_iald hE dX9_letterAt_27 sX_24 q_1 ?_
        exact z_iret (st := []) hE dX9_letterAt_28 rfl ⟨_, rfl, rfl, h⟩
      · refine z_iconst (v := -1) hE dX9_letterAt_18 zv_i_m1 ?_
        refine z_goto (tgt := 28) hE dX9_letterAt_19 (by decide) ?_
        exact z_iret (st := []) hE dX9_letterAt_28 rfl ⟨_, rfl, rfl, h⟩
set_option maxRecDepth 4000 in
theorem c_X0_lower (a1 : Int32) (k2 n2 : Nat) (a3 : Int32) (h2 : SX[k2]? = some (2, n2, [])) (μ : ZMem) (Φ : ZMem → Prop) (h : w_X0_lower a1 k2 n2 a3 μ Φ) : zM SX yX0_lower cX0_lower 10 (none) 1 [.ref 40, .int a1, .ref k2, .int a3] μ (zzV Φ) := by
  refine zM_go (own := RX0) rfl (by decide) (Nat.le_of_ble_eq_true rfl) (fun E hE => ?_)
  show zZ E (zzV Φ) 0 [(0, .ref 40), (1, .int a1), (2, .ref k2), (3, .int a3)] [] μ
  unfold w_X0_lower at h
  refine z_aload_n hE dX0_lower_0 rfl 0 rfl ?_
  refine z_getR (t := 49) hE dX0_lower_1 lF_X0_16 sX_40 rfl ?_
  refine z_iload_n hE dX0_lower_4 rfl 1 rfl ?_
  obtain ⟨q_1, h⟩ := h
  refine z_lald hE dX0_lower_5 sX_49 q_1 ?_
  refine z_lstore (lv' := [(4, .long (μ.2 49 (Int32.toNatClampNeg a1))), (0, .ref 40), (1, .int a1), (2, .ref k2), (3, .int a3)]) hE dX0_lower_6 (by decide) rfl ?_
  refine zn (G := fun v4_2 => zZ E (zzV Φ) 8 [(4, .long v4_2), (0, .ref 40), (1, .int a1), (2, .ref k2), (3, .int a3)] [] μ) h (fun v4_2 h => ?_)
  refine z_iconst (v := 0) hE dX0_lower_8 zv_i_0 ?_
  refine z_istore (lv' := [(6, .int (0 : Int32)), (4, .long v4_2), (0, .ref 40), (1, .int a1), (2, .ref k2), (3, .int a3)]) hE dX0_lower_9 (by decide) rfl ?_
  refine z_join (P := fun (J_4 : ZMem → Prop) => ∀ (μ_3 : ZMem), J_4 μ_3 → zZ E (zzV Φ) 47 [(0, .ref 40), (1, .int a1), (2, .ref k2), (3, .int a3), (4, .long v4_2)] [] μ_3) h (fun μ_3 h => ?_) (fun J_4 hJ_4 h => ?_)
  · refine z_iload_n hE dX0_lower_47 rfl 1 rfl ?_
    refine z_iload_n hE dX0_lower_48 rfl 3 rfl ?_
    refine z_isub hE dX0_lower_49 ?_
    refine z_istore (lv' := [(6, .int (a1 - a3)), (0, .ref 40), (1, .int a1), (2, .ref k2), (3, .int a3), (4, .long v4_2)]) hE dX0_lower_50 (by decide) rfl ?_
    refine zn (G := fun v6_5 => zZ E (zzV Φ) 52 [(6, .int v6_5), (0, .ref 40), (1, .int a1), (2, .ref k2), (3, .int a3), (4, .long v4_2)] [] μ_3) h (fun v6_5 h => ?_)
    refine z_iconst (v := 0) hE dX0_lower_52 zv_i_0 ?_
    refine z_istore (lv' := [(7, .int (0 : Int32)), (6, .int v6_5), (0, .ref 40), (1, .int a1), (2, .ref k2), (3, .int a3), (4, .long v4_2)]) hE dX0_lower_53 (by decide) rfl ?_
    refine z_sub [2, 4, 5, 6, 1, 0] rfl ?_
    obtain ⟨n55, h⟩ := h
    refine z_loop2 (P := fun (v7_6 : Int32) (μ_7 : ZMem) => zZ E (zzV Φ) 55 [(0, .ref 40), (2, .ref k2), (3, .int a3), (4, .long v4_2), (6, .int v6_5), (7, .int v7_6)] [] μ_7) (fun k55_7 hk55_7 v7_6 μ_7 h => ?_) n55 _ _ h
    refine z_iload hE dX0_lower_55 5 rfl ?_
    refine z_iload_n hE dX0_lower_57 rfl 2 rfl ?_
    refine z_icmp_gt (tgt := 117) hE dX0_lower_58 (by decide) h (fun h => ?_) (fun h => ?_)
    · exact z_vret (st := []) hE dX0_lower_117 rfl ⟨rfl, h⟩
    · refine z_lload hE dX0_lower_61 3 rfl ?_
      refine z_aload_n hE dX0_lower_63 rfl 1 rfl ?_
      refine z_iload hE dX0_lower_64 5 rfl ?_
      obtain ⟨q_8, h⟩ := h
      refine z_lald hE dX0_lower_66 h2 q_8 ?_
      refine z_callS hE dX0_lower_67 lS_X0_66 (c_X1_times _ _ μ_7 _ h) rfl (Nat.le_of_ble_eq_true rfl) (by decide) rfl (zk_PJ (fun r_9 h => ?_))
      refine z_lstore (lv' := [(8, .long r_9), (0, .ref 40), (2, .ref k2), (3, .int a3), (4, .long v4_2), (6, .int v6_5), (7, .int v7_6)]) hE dX0_lower_70 (by decide) rfl ?_
      refine z_aload_n hE dX0_lower_72 rfl 1 rfl ?_
      refine z_getR (t := 49) hE dX0_lower_73 lF_X0_16 sX_40 rfl ?_
      refine z_iload hE dX0_lower_76 6 rfl ?_
      refine z_iload hE dX0_lower_78 5 rfl ?_
      refine z_iadd hE dX0_lower_80 ?_
      refine z_aload_n hE dX0_lower_81 rfl 1 rfl ?_
      refine z_getR (t := 49) hE dX0_lower_82 lF_X0_16 sX_40 rfl ?_
      refine z_iload hE dX0_lower_85 6 rfl ?_
      refine z_iload hE dX0_lower_87 5 rfl ?_
      refine z_iadd hE dX0_lower_89 ?_
      obtain ⟨q_11, h⟩ := h
      refine z_lald hE dX0_lower_90 sX_49 q_11 ?_
      refine z_aload_n hE dX0_lower_91 rfl 2 rfl ?_
      refine z_iload_n hE dX0_lower_92 rfl 3 rfl ?_
      obtain ⟨q_12, h⟩ := h
      refine z_lald hE dX0_lower_93 h2 q_12 ?_
      refine z_lconst (v := 0) hE dX0_lower_94 zv_l_0 ?_
      refine z_join (P := fun (J_14 : Int64 → Prop) => ∀ (x_13 : Int64), J_14 x_13 → zZ E (zzV Φ) 107 [(0, .ref 40), (2, .ref k2), (3, .int a3), (4, .long v4_2), (6, .int v6_5), (7, .int v7_6)] [.long x_13, .long (μ_7.2 49 (Int32.toNatClampNeg (v7_6 + v6_5))), .int (v7_6 + v6_5), .ref 49] μ_7) h (fun x_13 h => ?_) (fun J_14 hJ_14 h => ?_)
      · refine z_callS hE dX0_lower_107 lS_X0_72 (c_X1_less _ _ μ_7 _ h) rfl (Nat.le_of_ble_eq_true rfl) (by decide) rfl (zk_PJ (fun r_15 h => ?_))
        obtain ⟨q_17, h⟩ := h
        refine z_last hE dX0_lower_110 sX_49 q_17 ?_
        refine zn (G := fun μ_18 => zZ E (zzV Φ) 111 [(0, .ref 40), (2, .ref k2), (3, .int a3), (4, .long v4_2), (6, .int v6_5), (7, .int v7_6)] [] μ_18) h (fun μ_18 h => ?_)
        refine z_iinc (j := 5) (c := 1) (lv' := [(7, .int (v7_6 + (1 : Int32))), (0, .ref 40), (2, .ref k2), (3, .int a3), (4, .long v4_2), (6, .int v6_5)]) hE dX0_lower_111 rfl zv_i_1 (by decide) rfl ?_
        refine z_goto (tgt := 55) hE dX0_lower_114 (by decide) ?_
        exact z_sub [1, 2, 3, 4, 5, 0] rfl (hk55_7 _ _ h)
      refine z_ljmp_ge (tgt := 105) hE dX0_lower_95 dX0_lower_96 (by decide) h (fun h => ?_) (fun h => ?_)
      · refine z_lload hE dX0_lower_105 0 rfl ?_
        exact z_sub [1, 2, 3, 4, 5, 6] rfl (hJ_14 _ h)
      · refine z_lload hE dX0_lower_99 0 rfl ?_
        refine z_lneg hE dX0_lower_101 ?_
        refine z_goto (tgt := 107) hE dX0_lower_102 (by decide) ?_
        exact z_sub [1, 2, 3, 4, 5, 6] rfl (hJ_14 _ h)
  refine z_sub [2, 3, 4, 5, 1, 0] rfl ?_
  obtain ⟨n11, h⟩ := h
  refine z_loop2 (P := fun (v6_19 : Int32) (μ_20 : ZMem) => zZ E (zzV Φ) 11 [(0, .ref 40), (1, .int a1), (2, .ref k2), (3, .int a3), (4, .long v4_2), (6, .int v6_19)] [] μ_20) (fun k11_20 hk11_20 v6_19 μ_20 h => ?_) n11 _ _ h
  refine z_iload hE dX0_lower_11 5 rfl ?_
  refine z_bipush (v := 7) hE dX0_lower_13 zv_b_7 ?_
  refine z_icmp_ge (tgt := 47) hE dX0_lower_15 (by decide) h (fun h => ?_) (fun h => ?_)
  · exact z_sub [0, 1, 2, 3, 4] rfl (hJ_4 _ h)
  · refine z_aload_n hE dX0_lower_18 rfl 0 rfl ?_
    refine z_getR (t := 49) hE dX0_lower_19 lF_X0_16 sX_40 rfl ?_
    refine z_iload hE dX0_lower_22 5 rfl ?_
    refine z_aload_n hE dX0_lower_24 rfl 0 rfl ?_
    refine z_getR (t := 49) hE dX0_lower_25 lF_X0_16 sX_40 rfl ?_
    refine z_iload hE dX0_lower_28 5 rfl ?_
    obtain ⟨q_21, h⟩ := h
    refine z_lald hE dX0_lower_30 sX_49 q_21 ?_
    refine z_aload_n hE dX0_lower_31 rfl 2 rfl ?_
    refine z_iload_n hE dX0_lower_32 rfl 3 rfl ?_
    obtain ⟨q_22, h⟩ := h
    refine z_lald hE dX0_lower_33 h2 q_22 ?_
    refine z_mabsJ hE dX0_lower_34 lM_X0_60 (Nat.le_of_ble_eq_true rfl) ?_
    refine z_callS hE dX0_lower_37 lS_X0_66 (c_X1_times _ _ μ_20 _ h) rfl (Nat.le_of_ble_eq_true rfl) (by decide) rfl (zk_PJ (fun r_23 h => ?_))
    obtain ⟨q_25, h⟩ := h
    refine z_last hE dX0_lower_40 sX_49 q_25 ?_
    refine zn (G := fun μ_26 => zZ E (zzV Φ) 41 [(0, .ref 40), (1, .int a1), (2, .ref k2), (3, .int a3), (4, .long v4_2), (6, .int v6_19)] [] μ_26) h (fun μ_26 h => ?_)
    refine z_iinc (j := 5) (c := 1) (lv' := [(6, .int (v6_19 + (1 : Int32))), (0, .ref 40), (1, .int a1), (2, .ref k2), (3, .int a3), (4, .long v4_2)]) hE dX0_lower_41 rfl zv_i_1 (by decide) rfl ?_
    refine z_goto (tgt := 11) hE dX0_lower_44 (by decide) ?_
    exact z_sub [1, 2, 3, 4, 5, 0] rfl (hk11_20 _ _ h)
set_option maxRecDepth 4000 in
theorem c_X0_valueAt (k0 n0 : Nat) (a1 : Int32) (h0 : SX[k0]? = some (2, n0, [])) (μ : ZMem) (Φ : Int64 → Prop) (h : w_X0_valueAt k0 n0 a1 μ Φ) : zM SX yX0_valueAt cX0_valueAt 5 (some FieldType.long) 1 [.ref k0, .int a1] μ (zzPJ Φ μ) := by
  refine zM_go (own := RX0) rfl (by decide) (Nat.le_of_ble_eq_true rfl) (fun E hE => ?_)
  show zZ E (zzPJ Φ μ) 0 [(0, .ref k0), (1, .int a1)] [] μ
  unfold w_X0_valueAt at h
  refine z_lconst (v := 0) hE dX0_valueAt_0 zv_l_0 ?_
  refine z_lstore_n (lv' := [(2, .long (0 : Int64)), (0, .ref k0), (1, .int a1)]) hE dX0_valueAt_1 rfl (by decide) rfl ?_
  refine z_aload_n hE dX0_valueAt_2 rfl 1 rfl ?_
  refine z_callS hE dX0_valueAt_3 lS_X0_28 (c_X4_highest _ _ h0 μ _ h) rfl (Nat.le_of_ble_eq_true rfl) (by decide) rfl (zk_PI (fun r_1 h => ?_))
  refine z_istore (lv' := [(4, .int r_1), (2, .long (0 : Int64)), (0, .ref k0), (1, .int a1)]) hE dX0_valueAt_6 (by decide) rfl ?_
  refine z_sub [2, 3, 1, 0] rfl ?_
  obtain ⟨n8, h⟩ := h
  refine z_loop2 (P := fun (v2_3 : Int64) (v4_4 : Int32) => zZ E (zzPJ Φ μ) 8 [(0, .ref k0), (1, .int a1), (2, .long v2_3), (4, .int v4_4)] [] μ) (fun k8_4 hk8_4 v2_3 v4_4 h => ?_) n8 _ _ h
  refine z_iload hE dX0_valueAt_8 3 rfl ?_
  refine z_if_lt (tgt := 33) hE dX0_valueAt_10 (by decide) h (fun h => ?_) (fun h => ?_)
  · refine z_lload_n hE dX0_valueAt_33 rfl 2 rfl ?_
    exact z_lret (st := []) hE dX0_valueAt_34 rfl ⟨_, rfl, rfl, h⟩
  · refine z_lload_n hE dX0_valueAt_13 rfl 2 rfl ?_
    refine z_iload_n hE dX0_valueAt_14 rfl 1 rfl ?_
    refine z_i2l hE dX0_valueAt_15 ?_
    refine z_callS hE dX0_valueAt_16 lS_X0_66 (c_X1_times _ _ μ _ h) rfl (Nat.le_of_ble_eq_true rfl) (by decide) rfl (zk_PJ (fun r_5 h => ?_))
    refine z_aload_n hE dX0_valueAt_19 rfl 0 rfl ?_
    refine z_iload hE dX0_valueAt_20 3 rfl ?_
    obtain ⟨q_7, h⟩ := h
    refine z_lald hE dX0_valueAt_22 h0 q_7 ?_
    refine z_callS hE dX0_valueAt_23 lS_X0_81 (c_X1_plus _ _ μ _ h) rfl (Nat.le_of_ble_eq_true rfl) (by decide) rfl (zk_PJ (fun r_8 h => ?_))
    refine z_lstore_n (lv' := [(2, .long r_8), (0, .ref k0), (1, .int a1), (4, .int v4_4)]) hE dX0_valueAt_26 rfl (by decide) rfl ?_
    refine z_iinc (j := 3) (c := -1) (lv' := [(4, .int (v4_4 + (-1 : Int32))), (2, .long r_8), (0, .ref k0), (1, .int a1)]) hE dX0_valueAt_27 rfl zv_i_m1 (by decide) rfl ?_
    refine z_goto (tgt := 8) hE dX0_valueAt_30 (by decide) ?_
    exact z_sub [2, 3, 1, 0] rfl (hk8_4 _ _ h)
set_option maxRecDepth 4000 in
theorem c_X11_await (a1 : Int32) (μ : ZMem) (Φ : Int32 → ZMem → Prop) (h : w_X11_await a1 μ Φ) : zM SX yX11_await cX11_await 2 (some FieldType.int) 1 [.ref 0, .int a1] μ (zzI Φ) := by
  refine zM_go (own := RX11) rfl (by decide) (Nat.le_of_ble_eq_true rfl) (fun E hE => ?_)
  show zZ E (zzI Φ) 0 [(0, .ref 0), (1, .int a1)] [] μ
  unfold w_X11_await at h
  refine z_iload_n hE dX11_await_0 rfl 1 rfl ?_
  refine z_bipush (v := 100) hE dX11_await_1 zv_b_100 ?_
  refine z_callS hE dX11_await_3 lS_X11_86 (c_X11_isWithin _ _ μ _ h) rfl (Nat.le_of_ble_eq_true rfl) (by decide) rfl (zk_PI (fun r_1 h => ?_))
  refine z_if_ne (tgt := 12) hE dX11_await_6 (by decide) h (fun h => ?_) (fun h => ?_)
  · refine z_aload_n hE dX11_await_12 rfl 0 rfl ?_
    refine z_getR (t := 1) hE dX11_await_13 lF_X11_14 sX_0 rfl ?_
    refine z_getI hE dX11_await_16 lF_X11_234 sX_1 rfl ?_
    refine z_bipush (v := 16) hE dX11_await_19 zv_b_16 ?_
    refine z_icmp_lt (tgt := 27) hE dX11_await_21 (by decide) h (fun h => ?_) (fun h => ?_)
    · refine z_aload_n hE dX11_await_27 rfl 0 rfl ?_
      refine z_getR (t := 1) hE dX11_await_28 lF_X11_14 sX_0 rfl ?_
      refine z_getR (t := 4) hE dX11_await_31 lF_X11_237 sX_1 rfl ?_
      refine z_aload_n hE dX11_await_34 rfl 0 rfl ?_
      refine z_getR (t := 1) hE dX11_await_35 lF_X11_14 sX_0 rfl ?_
      refine z_getI hE dX11_await_38 lF_X11_234 sX_1 rfl ?_
      refine z_iload_n hE dX11_await_41 rfl 1 rfl ?_
      obtain ⟨q_3, h⟩ := h
      refine z_iast hE dX11_await_42 sX_4 q_3 ?_
      refine zn (G := fun μ_4 => zZ E (zzI Φ) 43 [(0, .ref 0), (1, .int a1)] [] μ_4) h (fun μ_4 h => ?_)
      refine z_aload_n hE dX11_await_43 rfl 0 rfl ?_
      refine z_getR (t := 1) hE dX11_await_44 lF_X11_14 sX_0 rfl ?_
      refine z_dup hE dX11_await_47 rfl ?_
      refine z_getI hE dX11_await_48 lF_X11_234 sX_1 rfl ?_
      refine z_iconst (v := 1) hE dX11_await_51 zv_i_1 ?_
      refine z_iadd hE dX11_await_52 ?_
      refine z_put hE dX11_await_53 lF_X11_234 sX_1 rfl rfl rfl ?_
      refine zn (G := fun μ_5 => zZ E (zzI Φ) 56 [(0, .ref 0), (1, .int a1)] [] μ_5) h (fun μ_5 h => ?_)
      refine z_aload_n hE dX11_await_56 rfl 0 rfl ?_
      refine z_getR (t := 1) hE dX11_await_57 lF_X11_14 sX_0 rfl ?_
      refine z_getI hE dX11_await_60 lF_X11_234 sX_1 rfl ?_
      exact z_iret (st := []) hE dX11_await_63 rfl ⟨_, rfl, h⟩
    · refine z_bipush (v := -4) hE dX11_await_24 zv_b_m4 ?_
      exact z_iret (st := []) hE dX11_await_26 rfl ⟨_, rfl, h⟩
  · refine z_bipush (v := -2) hE dX11_await_9 zv_b_m2 ?_
    exact z_iret (st := []) hE dX11_await_11 rfl ⟨_, rfl, h⟩
set_option maxRecDepth 4000 in
theorem c_X11_copy (a1 : Int32) (a2 : Int32) (a3 : Int32) (a4 : Int32) (a5 : Int32) (μ : ZMem) (Φ : Int32 → ZMem → Prop) (h : w_X11_copy a1 a2 a3 a4 a5 μ Φ) : zM SX yX11_copy cX11_copy 8 (some FieldType.int) 1 [.ref 0, .int a1, .int a2, .int a3, .int a4, .int a5] μ (zzI Φ) := by
  refine zM_go (own := RX11) rfl (by decide) (Nat.le_of_ble_eq_true rfl) (fun E hE => ?_)
  show zZ E (zzI Φ) 0 [(0, .ref 0), (1, .int a1), (2, .int a2), (3, .int a3), (4, .int a4), (5, .int a5)] [] μ
  unfold w_X11_copy at h
  refine z_iload_n hE dX11_copy_0 rfl 1 rfl ?_
  refine z_callS hE dX11_copy_1 lS_X11_325 (c_X11_isTray _ μ _ h) rfl (Nat.le_of_ble_eq_true rfl) (by decide) rfl (zk_PI (fun r_1 h => ?_))
  refine z_if_eq (tgt := 14) hE dX11_copy_4 (by decide) h (fun h => ?_) (fun h => ?_)
  · refine z_iconst (v := -1) hE dX11_copy_14 zv_i_m1 ?_
    exact z_iret (st := []) hE dX11_copy_15 rfl ⟨_, rfl, h⟩
  · refine z_iload_n hE dX11_copy_7 rfl 3 rfl ?_
    refine z_callS hE dX11_copy_8 lS_X11_325 (c_X11_isTray _ μ _ h) rfl (Nat.le_of_ble_eq_true rfl) (by decide) rfl (zk_PI (fun r_3 h => ?_))
    refine z_if_ne (tgt := 16) hE dX11_copy_11 (by decide) h (fun h => ?_) (fun h => ?_)
    · refine z_aload_n hE dX11_copy_16 rfl 0 rfl ?_
      refine z_getR (t := 27) hE dX11_copy_17 lF_X11_30 sX_0 rfl ?_
      refine z_iload_n hE dX11_copy_20 rfl 1 rfl ?_
      obtain ⟨q_5, h⟩ := h
      refine z_aald2 hE dX11_copy_21 sX_27 (fun _ => rfl) rfl q_5 ?_
      refine z_astore (lv' := [(6, .ref (86 + 2 * (Int32.toNatClampNeg a1))), (0, .ref 0), (1, .int a1), (2, .int a2), (3, .int a3), (4, .int a4), (5, .int a5)]) hE dX11_copy_22 (by decide) rfl ?_
      refine z_aload_n hE dX11_copy_24 rfl 1 rfl ?_
      refine z_getR (t := 27) hE dX11_copy_25 lF_X11_30 sX_0 rfl ?_
      refine z_iload_n hE dX11_copy_28 rfl 4 rfl ?_
      obtain ⟨q_6, h⟩ := h
      refine z_aald2 hE dX11_copy_29 sX_27 (fun _ => rfl) rfl q_6 ?_
      refine z_astore (lv' := [(7, .ref (86 + 2 * (Int32.toNatClampNeg a3))), (6, .ref (86 + 2 * (Int32.toNatClampNeg a1))), (0, .ref 0), (1, .int a1), (2, .int a2), (3, .int a3), (4, .int a4), (5, .int a5)]) hE dX11_copy_30 (by decide) rfl ?_
      refine z_aload hE dX11_copy_32 1 rfl ?_
      refine z_callV hE dX11_copy_34 lV_X11_331 (c_X10_isNothing _ (sXr_86 _ (zz_in_lt q_5)) μ _ h) (sXr_86 _ (zz_in_lt q_5)).1 rfl (Nat.le_of_ble_eq_true rfl) (by decide) rfl (zk_PI (fun r_7 h => ?_))
      refine z_if_ne (tgt := 48) hE dX11_copy_37 (by decide) h (fun h => ?_) (fun h => ?_)
      · refine z_bipush (v := -11) hE dX11_copy_48 zv_b_m11 ?_
        exact z_iret (st := []) hE dX11_copy_50 rfl ⟨_, rfl, h⟩
      · refine z_aload hE dX11_copy_40 0 rfl ?_
        refine z_callV hE dX11_copy_42 lV_X11_331 (c_X10_isNothing _ (sXr_86 _ (zz_in_lt q_6)) μ _ h) (sXr_86 _ (zz_in_lt q_6)).1 rfl (Nat.le_of_ble_eq_true rfl) (by decide) rfl (zk_PI (fun r_9 h => ?_))
        refine z_if_eq (tgt := 51) hE dX11_copy_45 (by decide) h (fun h => ?_) (fun h => ?_)
        · refine z_aload hE dX11_copy_51 1 rfl ?_
          refine z_getI hE dX11_copy_53 lF_X11_351 (sXr_86 _ (zz_in_lt q_5)).1 rfl ?_
          refine z_aload hE dX11_copy_56 0 rfl ?_
          refine z_getI hE dX11_copy_58 lF_X11_351 (sXr_86 _ (zz_in_lt q_6)).1 rfl ?_
          refine z_icmp_eq (tgt := 67) hE dX11_copy_61 (by decide) h (fun h => ?_) (fun h => ?_)
          · refine z_aload hE dX11_copy_67 1 rfl ?_
            refine z_iload_n hE dX11_copy_69 rfl 4 rfl ?_
            refine z_iload hE dX11_copy_70 7 rfl ?_
            refine z_callV hE dX11_copy_72 lV_X11_354 (c_X10_hasPart _ _ _ (sXr_86 _ (zz_in_lt q_5)) μ _ h) (sXr_86 _ (zz_in_lt q_5)).1 rfl (Nat.le_of_ble_eq_true rfl) (by decide) rfl (zk_PI (fun r_11 h => ?_))
            refine z_if_eq (tgt := 90) hE dX11_copy_75 (by decide) h (fun h => ?_) (fun h => ?_)
            · refine z_bipush (v := -13) hE dX11_copy_90 zv_b_m13 ?_
              exact z_iret (st := []) hE dX11_copy_92 rfl ⟨_, rfl, h⟩
            · refine z_aload hE dX11_copy_78 0 rfl ?_
              refine z_iload hE dX11_copy_80 6 rfl ?_
              refine z_iload hE dX11_copy_82 7 rfl ?_
              refine z_callV hE dX11_copy_84 lV_X11_354 (c_X10_hasPart _ _ _ (sXr_86 _ (zz_in_lt q_6)) μ _ h) (sXr_86 _ (zz_in_lt q_6)).1 rfl (Nat.le_of_ble_eq_true rfl) (by decide) rfl (zk_PI (fun r_13 h => ?_))
              refine z_if_ne (tgt := 93) hE dX11_copy_87 (by decide) h (fun h => ?_) (fun h => ?_)
              · refine z_aload hE dX11_copy_93 1 rfl ?_
                refine z_getR (t := ((86 + 2 * (Int32.toNatClampNeg a1)) + 1)) hE dX11_copy_95 lF_X11_339 (sXr_86 _ (zz_in_lt q_5)).1 rfl ?_
                refine z_iload_n hE dX11_copy_98 rfl 4 rfl ?_
                refine z_aload hE dX11_copy_99 0 rfl ?_
                refine z_getR (t := ((86 + 2 * (Int32.toNatClampNeg a3)) + 1)) hE dX11_copy_101 lF_X11_339 (sXr_86 _ (zz_in_lt q_6)).1 rfl ?_
                refine z_iload hE dX11_copy_104 6 rfl ?_
                refine z_iload hE dX11_copy_106 7 rfl ?_
                obtain ⟨q_15, h⟩ := h
                refine z_copyJ hE dX11_copy_108 lA_X11_119 (sXr_86 _ (zz_in_lt q_5)).2 (sXr_86 _ (zz_in_lt q_6)).2 q_15 (Nat.le_of_ble_eq_true rfl) ?_
                refine zn (G := fun μ_16 => zZ E (zzI Φ) 111 [(7, .ref (86 + 2 * (Int32.toNatClampNeg a3))), (6, .ref (86 + 2 * (Int32.toNatClampNeg a1))), (0, .ref 0), (1, .int a1), (2, .int a2), (3, .int a3), (4, .int a4), (5, .int a5)] [] μ_16) h (fun μ_16 h => ?_)
                refine z_iload hE dX11_copy_111 7 rfl ?_
                exact z_iret (st := []) hE dX11_copy_113 rfl ⟨_, rfl, h⟩
              · refine z_bipush (v := -13) hE dX11_copy_90 zv_b_m13 ?_
                exact z_iret (st := []) hE dX11_copy_92 rfl ⟨_, rfl, h⟩
          · refine z_bipush (v := -12) hE dX11_copy_64 zv_b_m12 ?_
            exact z_iret (st := []) hE dX11_copy_66 rfl ⟨_, rfl, h⟩
        · refine z_bipush (v := -11) hE dX11_copy_48 zv_b_m11 ?_
          exact z_iret (st := []) hE dX11_copy_50 rfl ⟨_, rfl, h⟩
    · refine z_iconst (v := -1) hE dX11_copy_14 zv_i_m1 ?_
      exact z_iret (st := []) hE dX11_copy_15 rfl ⟨_, rfl, h⟩
set_option maxRecDepth 4000 in
theorem c_X11_currentC  (μ : ZMem) (Φ : Nat → ZMem → Prop) (h : w_X11_currentC μ Φ) : zM SX yX11_currentC cX11_currentC 1 (Option.some (Jvm.ClassFile.FieldType.array Jvm.ClassFile.FieldType.long)) 1 [.ref 0] μ (zzR Φ) := by
  refine zM_go (own := RX11) rfl (by decide) (Nat.le_of_ble_eq_true rfl) (fun E hE => ?_)
  show zZ E (zzR Φ) 0 [(0, .ref 0)] [] μ
  unfold w_X11_currentC at h
  refine z_aload_n hE dX11_currentC_0 rfl 0 rfl ?_
  refine z_getR (t := 1) hE dX11_currentC_1 lF_X11_14 sX_0 rfl ?_
  refine z_getR (t := 2) hE dX11_currentC_4 lF_X11_78 sX_1 rfl ?_
  refine z_iconst (v := 1) hE dX11_currentC_7 zv_i_1 ?_
  refine z_aload_n hE dX11_currentC_8 rfl 0 rfl ?_
  refine z_getR (t := 1) hE dX11_currentC_9 lF_X11_14 sX_0 rfl ?_
  refine z_getR (t := 3) hE dX11_currentC_12 lF_X11_92 sX_1 rfl ?_
  refine z_aload_n hE dX11_currentC_15 rfl 0 rfl ?_
  refine z_getR (t := 1) hE dX11_currentC_16 lF_X11_14 sX_0 rfl ?_
  refine z_getI hE dX11_currentC_19 lF_X11_102 sX_1 rfl ?_
  refine z_aload_n hE dX11_currentC_22 rfl 0 rfl ?_
  refine z_getR (t := 85) hE dX11_currentC_23 lF_X11_74 sX_0 rfl ?_
  refine z_callS hE dX11_currentC_26 lS_X11_363 (c_X4_mix _ _ _ _ _ _ _ _ sX_2 sX_3 sX_85 μ _ h) rfl (Nat.le_of_ble_eq_true rfl) (by decide) rfl (zk_V (fun μ_2 h => ?_))
  refine z_aload_n hE dX11_currentC_29 rfl 0 rfl ?_
  refine z_getR (t := 85) hE dX11_currentC_30 lF_X11_74 sX_0 rfl ?_
  exact z_aret (st := []) hE dX11_currentC_33 rfl (Or.inr ⟨_, rfl⟩) ⟨_, rfl, h⟩
set_option maxRecDepth 4000 in
theorem c_X11_factor (a1 : Int32) (a2 : Int32) (a3 : Int32) (μ : ZMem) (Φ : Int32 → ZMem → Prop) (h : w_X11_factor a1 a2 a3 μ Φ) : zM SX yX11_factor cX11_factor 6 (some FieldType.int) 1 [.ref 0, .int a1, .int a2, .int a3] μ (zzI Φ) := by
  refine zM_go (own := RX11) rfl (by decide) (Nat.le_of_ble_eq_true rfl) (fun E hE => ?_)
  show zZ E (zzI Φ) 0 [(0, .ref 0), (1, .int a1), (2, .int a2), (3, .int a3)] [] μ
  unfold w_X11_factor at h
  refine z_iload_n hE dX11_factor_0 rfl 1 rfl ?_
  refine z_if_lt (tgt := 9) hE dX11_factor_1 (by decide) h (fun h => ?_) (fun h => ?_)
  · refine z_iconst (v := -1) hE dX11_factor_9 zv_i_m1 ?_
    exact z_iret (st := []) hE dX11_factor_10 rfl ⟨_, rfl, h⟩
  · refine z_iload_n hE dX11_factor_4 rfl 1 rfl ?_
    refine z_iconst (v := 3) hE dX11_factor_5 zv_i_3 ?_
    refine z_icmp_le (tgt := 11) hE dX11_factor_6 (by decide) h (fun h => ?_) (fun h => ?_)
    · refine z_iload_n hE dX11_factor_11 rfl 1 rfl ?_
      refine z_join (P := fun (J_2 : Int32 → Prop) => ∀ (x_1 : Int32), J_2 x_1 → zZ E (zzI Φ) 25 [(0, .ref 0), (1, .int a1), (2, .int a2), (3, .int a3)] [.int x_1] μ) h (fun x_1 h => ?_) (fun J_2 hJ_2 h => ?_)
      · refine z_istore (lv' := [(4, .int x_1), (0, .ref 0), (1, .int a1), (2, .int a2), (3, .int a3)]) hE dX11_factor_25 (by decide) rfl ?_
        refine z_iload_n hE dX11_factor_27 rfl 2 rfl ?_
        refine z_iconst (v := 1) hE dX11_factor_28 zv_i_1 ?_
        refine z_join (P := fun (J_4 : Int32 → Prop) => ∀ (x_3 : Int32), J_4 x_3 → zZ E (zzI Φ) 42 [(0, .ref 0), (1, .int a1), (2, .int a2), (3, .int a3), (4, .int x_1)] [.int x_3] μ) h (fun x_3 h => ?_) (fun J_4 hJ_4 h => ?_)
        · refine z_istore (lv' := [(5, .int x_3), (0, .ref 0), (1, .int a1), (2, .int a2), (3, .int a3), (4, .int x_1)]) hE dX11_factor_42 (by decide) rfl ?_
          refine z_iload hE dX11_factor_44 5 rfl ?_
          refine z_join (P := fun (J_5 : Prop) => J_5 → zZ E (zzI Φ) 58 [(0, .ref 0), (1, .int a1), (2, .int a2), (3, .int a3), (4, .int x_1), (5, .int x_3)] [] μ) h (fun  h => ?_) (fun J_5 hJ_5 h => ?_)
          · refine z_iload hE dX11_factor_58 5 rfl ?_
            refine z_join (P := fun (J_6 : Prop) => J_6 → zZ E (zzI Φ) 75 [(0, .ref 0), (1, .int a1), (2, .int a2), (3, .int a3), (4, .int x_1), (5, .int x_3)] [] μ) h (fun  h => ?_) (fun J_6 hJ_6 h => ?_)
            · refine z_aload_n hE dX11_factor_75 rfl 0 rfl ?_
              refine z_getR (t := 1) hE dX11_factor_76 lF_X11_14 sX_0 rfl ?_
              refine z_getI hE dX11_factor_79 lF_X11_252 sX_1 rfl ?_
              refine z_bipush (v := 6) hE dX11_factor_82 zv_b_6 ?_
              refine z_icmp_lt (tgt := 90) hE dX11_factor_84 (by decide) h (fun h => ?_) (fun h => ?_)
              · refine z_aload_n hE dX11_factor_90 rfl 0 rfl ?_
                refine z_getR (t := 1) hE dX11_factor_91 lF_X11_14 sX_0 rfl ?_
                refine z_getR (t := 5) hE dX11_factor_94 lF_X11_255 sX_1 rfl ?_
                refine z_aload_n hE dX11_factor_97 rfl 0 rfl ?_
                refine z_getR (t := 1) hE dX11_factor_98 lF_X11_14 sX_0 rfl ?_
                refine z_getI hE dX11_factor_101 lF_X11_252 sX_1 rfl ?_
                obtain ⟨q_7, h⟩ := h
                refine z_aald1 hE dX11_factor_104 sX_5 (fun _ => rfl) rfl q_7 ?_
                refine z_iload_n hE dX11_factor_105 rfl 1 rfl ?_
                refine z_iload hE dX11_factor_106 4 rfl ?_
                refine z_join (P := fun (J_9 : Int32 → Prop) => ∀ (x_8 : Int32), J_9 x_8 → zZ E (zzI Φ) 116 [(0, .ref 0), (3, .int a3), (5, .int x_3)] [.int x_8, .int a1, .ref (6 + (Int32.toNatClampNeg (μ.1 1 6)))] μ) h (fun x_8 h => ?_) (fun J_9 hJ_9 h => ?_)
                · refine z_iload hE dX11_factor_116 2 rfl ?_
                  refine z_join (P := fun (J_11 : Int32 → Prop) => ∀ (x_10 : Int32), J_11 x_10 → zZ E (zzI Φ) 126 [(0, .ref 0)] [.int x_10, .int x_8, .int a1, .ref (6 + (Int32.toNatClampNeg (μ.1 1 6)))] μ) h (fun x_10 h => ?_) (fun J_11 hJ_11 h => ?_)
                  · refine z_callV hE dX11_factor_126 lV_X11_259 (c_X2_become _ _ _ _ (sXr_6 _ (zz_in_lt q_7)) μ _ h) (sXr_6 _ (zz_in_lt q_7)) rfl (Nat.le_of_ble_eq_true rfl) (by decide) rfl (zk_V (fun μ_13 h => ?_))
                    refine z_aload_n hE dX11_factor_129 rfl 0 rfl ?_
                    refine z_getR (t := 1) hE dX11_factor_130 lF_X11_14 sX_0 rfl ?_
                    refine z_dup hE dX11_factor_133 rfl ?_
                    refine z_getI hE dX11_factor_134 lF_X11_252 sX_1 rfl ?_
                    refine z_iconst (v := 1) hE dX11_factor_137 zv_i_1 ?_
                    refine z_iadd hE dX11_factor_138 ?_
                    refine z_put hE dX11_factor_139 lF_X11_252 sX_1 rfl rfl rfl ?_
                    refine zn (G := fun μ_14 => zZ E (zzI Φ) 142 [(0, .ref 0)] [] μ_14) h (fun μ_14 h => ?_)
                    refine z_aload_n hE dX11_factor_142 rfl 0 rfl ?_
                    refine z_getR (t := 1) hE dX11_factor_143 lF_X11_14 sX_0 rfl ?_
                    refine z_getI hE dX11_factor_146 lF_X11_252 sX_1 rfl ?_
                    exact z_iret (st := []) hE dX11_factor_149 rfl ⟨_, rfl, h⟩
                  refine z_if_eq (tgt := 125) hE dX11_factor_118 (by decide) h (fun h => ?_) (fun h => ?_)
                  · refine z_iconst (v := 0) hE dX11_factor_125 zv_i_0 ?_
                    exact z_sub [0] rfl (hJ_11 _ h)
                  · refine z_iload_n hE dX11_factor_121 rfl 1 rfl ?_
                    refine z_goto (tgt := 126) hE dX11_factor_122 (by decide) ?_
                    exact z_sub [0] rfl (hJ_11 _ h)
                refine z_if_eq (tgt := 115) hE dX11_factor_108 (by decide) h (fun h => ?_) (fun h => ?_)
                · refine z_iconst (v := 0) hE dX11_factor_115 zv_i_0 ?_
                  exact z_sub [0, 3, 5] rfl (hJ_9 _ h)
                · refine z_iload_n hE dX11_factor_111 rfl 2 rfl ?_
                  refine z_goto (tgt := 116) hE dX11_factor_112 (by decide) ?_
                  exact z_sub [0, 3, 5] rfl (hJ_9 _ h)
              · refine z_bipush (v := -4) hE dX11_factor_87 zv_b_m4 ?_
                exact z_iret (st := []) hE dX11_factor_89 rfl ⟨_, rfl, h⟩
            refine z_if_eq (tgt := 75) hE dX11_factor_60 (by decide) h (fun h => ?_) (fun h => ?_)
            · exact hJ_6 h
            · refine z_iload_n hE dX11_factor_63 rfl 3 rfl ?_
              refine z_bipush (v := 20) hE dX11_factor_64 zv_b_20 ?_
              refine z_callS hE dX11_factor_66 lS_X11_86 (c_X11_isWithin _ _ μ _ h) rfl (Nat.le_of_ble_eq_true rfl) (by decide) rfl (zk_PI (fun r_15 h => ?_))
              refine z_if_ne (tgt := 75) hE dX11_factor_69 (by decide) h (fun h => ?_) (fun h => ?_)
              · exact hJ_6 h
              · refine z_bipush (v := -2) hE dX11_factor_72 zv_b_m2 ?_
                exact z_iret (st := []) hE dX11_factor_74 rfl ⟨_, rfl, h⟩
          refine z_if_eq (tgt := 58) hE dX11_factor_46 (by decide) h (fun h => ?_) (fun h => ?_)
          · exact z_sub [1, 2, 3, 4, 5, 0] rfl (hJ_5 h)
          · refine z_iload_n hE dX11_factor_49 rfl 3 rfl ?_
            refine z_bipush (v := 20) hE dX11_factor_50 zv_b_20 ?_
            refine z_callS hE dX11_factor_52 lS_X11_86 (c_X11_isWithin _ _ μ _ h) rfl (Nat.le_of_ble_eq_true rfl) (by decide) rfl (zk_PI (fun r_17 h => ?_))
            refine z_if_eq (tgt := 72) hE dX11_factor_55 (by decide) h (fun h => ?_) (fun h => ?_)
            · refine z_bipush (v := -2) hE dX11_factor_72 zv_b_m2 ?_
              exact z_iret (st := []) hE dX11_factor_74 rfl ⟨_, rfl, h⟩
            · exact z_sub [1, 2, 3, 4, 5, 0] rfl (hJ_5 h)
        refine z_join (P := fun (J_19 : Prop) => J_19 → zZ E (zzI Φ) 37 [(0, .ref 0), (1, .int a1), (2, .int a2), (3, .int a3), (4, .int x_1)] [] μ) h (fun  h => ?_) (fun J_19 hJ_19 h => ?_)
        · refine z_iconst (v := 1) hE dX11_factor_37 zv_i_1 ?_
          refine z_goto (tgt := 42) hE dX11_factor_38 (by decide) ?_
          exact hJ_4 _ h
        refine z_icmp_eq (tgt := 37) hE dX11_factor_29 (by decide) h (fun h => ?_) (fun h => ?_)
        · exact z_sub [1, 2, 3, 4, 0] rfl (hJ_19 h)
        · refine z_iload_n hE dX11_factor_32 rfl 2 rfl ?_
          refine z_iconst (v := 3) hE dX11_factor_33 zv_i_3 ?_
          refine z_icmp_ne (tgt := 41) hE dX11_factor_34 (by decide) h (fun h => ?_) (fun h => ?_)
          · refine z_iconst (v := 0) hE dX11_factor_41 zv_i_0 ?_
            exact z_sub [1, 2, 3, 4, 0] rfl (hJ_4 _ h)
          · exact z_sub [1, 2, 3, 4, 0] rfl (hJ_19 h)
      refine z_join (P := fun (J_20 : Prop) => J_20 → zZ E (zzI Φ) 20 [(0, .ref 0), (1, .int a1), (2, .int a2), (3, .int a3)] [] μ) h (fun  h => ?_) (fun J_20 hJ_20 h => ?_)
      · refine z_iconst (v := 1) hE dX11_factor_20 zv_i_1 ?_
        refine z_goto (tgt := 25) hE dX11_factor_21 (by decide) ?_
        exact hJ_2 _ h
      refine z_if_eq (tgt := 20) hE dX11_factor_12 (by decide) h (fun h => ?_) (fun h => ?_)
      · exact hJ_20 h
      · refine z_iload_n hE dX11_factor_15 rfl 1 rfl ?_
        refine z_iconst (v := 1) hE dX11_factor_16 zv_i_1 ?_
        refine z_icmp_ne (tgt := 24) hE dX11_factor_17 (by decide) h (fun h => ?_) (fun h => ?_)
        · refine z_iconst (v := 0) hE dX11_factor_24 zv_i_0 ?_
          exact hJ_2 _ h
        · exact hJ_20 h
    · refine z_iconst (v := -1) hE dX11_factor_9 zv_i_m1 ?_
      exact z_iret (st := []) hE dX11_factor_10 rfl ⟨_, rfl, h⟩
set_option maxRecDepth 4000 in
theorem c_X11_feed (a1 : Int32) (μ : ZMem) (Φ : Int32 → ZMem → Prop) (h : w_X11_feed a1 μ Φ) : zM SX yX11_feed cX11_feed 2 (some FieldType.int) 1 [.ref 0, .int a1] μ (zzI Φ) := by
  refine zM_go (own := RX11) rfl (by decide) (Nat.le_of_ble_eq_true rfl) (fun E hE => ?_)
  show zZ E (zzI Φ) 0 [(0, .ref 0), (1, .int a1)] [] μ
  unfold w_X11_feed at h
  refine z_iload_n hE dX11_feed_0 rfl 1 rfl ?_
  refine z_if_lt (tgt := 10) hE dX11_feed_1 (by decide) h (fun h => ?_) (fun h => ?_)
  · refine z_bipush (v := -2) hE dX11_feed_10 zv_b_m2 ?_
    exact z_iret (st := []) hE dX11_feed_12 rfl ⟨_, rfl, h⟩
  · refine z_iload_n hE dX11_feed_4 rfl 1 rfl ?_
    refine z_bipush (v := 127) hE dX11_feed_5 zv_b_127 ?_
    refine z_icmp_le (tgt := 13) hE dX11_feed_7 (by decide) h (fun h => ?_) (fun h => ?_)
    · refine z_aload_n hE dX11_feed_13 rfl 0 rfl ?_
      refine z_getR (t := 23) hE dX11_feed_14 lF_X11_24 sX_0 rfl ?_
      refine z_getI hE dX11_feed_17 lF_X11_106 sX_23 rfl ?_
      refine z_bipush (v := 60) hE dX11_feed_20 zv_b_60 ?_
      refine z_icmp_lt (tgt := 28) hE dX11_feed_22 (by decide) h (fun h => ?_) (fun h => ?_)
      · refine z_aload_n hE dX11_feed_28 rfl 0 rfl ?_
        refine z_getR (t := 23) hE dX11_feed_29 lF_X11_24 sX_0 rfl ?_
        refine z_iload_n hE dX11_feed_32 rfl 1 rfl ?_
        refine z_callV hE dX11_feed_33 lV_X11_109 (c_X9_append _ μ _ h) sX_23 rfl (Nat.le_of_ble_eq_true rfl) (by decide) rfl (zk_V (fun μ_2 h => ?_))
        refine z_aload_n hE dX11_feed_36 rfl 0 rfl ?_
        refine z_getR (t := 23) hE dX11_feed_37 lF_X11_24 sX_0 rfl ?_
        refine z_getI hE dX11_feed_40 lF_X11_106 sX_23 rfl ?_
        exact z_iret (st := []) hE dX11_feed_43 rfl ⟨_, rfl, h⟩
      · refine z_bipush (v := -4) hE dX11_feed_25 zv_b_m4 ?_
        exact z_iret (st := []) hE dX11_feed_27 rfl ⟨_, rfl, h⟩
    · refine z_bipush (v := -2) hE dX11_feed_10 zv_b_m2 ?_
      exact z_iret (st := []) hE dX11_feed_12 rfl ⟨_, rfl, h⟩
set_option maxRecDepth 4000 in
theorem c_X11_gain (a1 : Int32) (μ : ZMem) (Φ : Int32 → ZMem → Prop) (h : w_X11_gain a1 μ Φ) : zM SX yX11_gain cX11_gain 2 (some FieldType.int) 1 [.ref 0, .int a1] μ (zzI Φ) := by
  refine zM_go (own := RX11) rfl (by decide) (Nat.le_of_ble_eq_true rfl) (fun E hE => ?_)
  show zZ E (zzI Φ) 0 [(0, .ref 0), (1, .int a1)] [] μ
  unfold w_X11_gain at h
  refine z_iload_n hE dX11_gain_0 rfl 1 rfl ?_
  refine z_bipush (v := 100) hE dX11_gain_1 zv_b_100 ?_
  refine z_callS hE dX11_gain_3 lS_X11_86 (c_X11_isWithin _ _ μ _ h) rfl (Nat.le_of_ble_eq_true rfl) (by decide) rfl (zk_PI (fun r_1 h => ?_))
  refine z_if_ne (tgt := 12) hE dX11_gain_6 (by decide) h (fun h => ?_) (fun h => ?_)
  · refine z_aload_n hE dX11_gain_12 rfl 0 rfl ?_
    refine z_getR (t := 1) hE dX11_gain_13 lF_X11_14 sX_0 rfl ?_
    refine z_iload_n hE dX11_gain_16 rfl 1 rfl ?_
    refine z_put hE dX11_gain_17 lF_X11_102 sX_1 rfl rfl rfl ?_
    refine zn (G := fun μ_3 => zZ E (zzI Φ) 20 [(0, .ref 0), (1, .int a1)] [] μ_3) h (fun μ_3 h => ?_)
    refine z_iconst (v := 1) hE dX11_gain_20 zv_i_1 ?_
    exact z_iret (st := []) hE dX11_gain_21 rfl ⟨_, rfl, h⟩
  · refine z_bipush (v := -2) hE dX11_gain_9 zv_b_m2 ?_
    exact z_iret (st := []) hE dX11_gain_11 rfl ⟨_, rfl, h⟩
set_option maxRecDepth 4000 in
theorem c_X11_get (a1 : Int32) (a2 : Int32) (μ : ZMem) (Φ : Int64 → Prop) (h : w_X11_get a1 a2 μ Φ) : zM SX yX11_get cX11_get 4 (some FieldType.long) 1 [.ref 0, .int a1, .int a2] μ (zzPJ Φ μ) := by
  refine zM_go (own := RX11) rfl (by decide) (Nat.le_of_ble_eq_true rfl) (fun E hE => ?_)
  show zZ E (zzPJ Φ μ) 0 [(0, .ref 0), (1, .int a1), (2, .int a2)] [] μ
  unfold w_X11_get at h
  refine z_iload_n hE dX11_get_0 rfl 1 rfl ?_
  refine z_callS hE dX11_get_1 lS_X11_325 (c_X11_isTray _ μ _ h) rfl (Nat.le_of_ble_eq_true rfl) (by decide) rfl (zk_PI (fun r_1 h => ?_))
  refine z_if_ne (tgt := 11) hE dX11_get_4 (by decide) h (fun h => ?_) (fun h => ?_)
  · refine z_aload_n hE dX11_get_11 rfl 0 rfl ?_
    refine z_getR (t := 27) hE dX11_get_12 lF_X11_30 sX_0 rfl ?_
    refine z_iload_n hE dX11_get_15 rfl 1 rfl ?_
    obtain ⟨q_3, h⟩ := h
    refine z_aald2 hE dX11_get_16 sX_27 (fun _ => rfl) rfl q_3 ?_
    refine z_astore_n (lv' := [(3, .ref (86 + 2 * (Int32.toNatClampNeg a1))), (0, .ref 0), (1, .int a1), (2, .int a2)]) hE dX11_get_17 rfl (by decide) rfl ?_
    refine z_aload_n hE dX11_get_18 rfl 0 rfl ?_
    refine z_callV hE dX11_get_19 lV_X11_331 (c_X10_isNothing _ (sXr_86 _ (zz_in_lt q_3)) μ _ h) (sXr_86 _ (zz_in_lt q_3)).1 rfl (Nat.le_of_ble_eq_true rfl) (by decide) rfl (zk_PI (fun r_4 h => ?_))
    refine z_if_ne (tgt := 37) hE dX11_get_22 (by decide) h (fun h => ?_) (fun h => ?_)
    · refine z_ldc2 (v := -9223372036854775808) hE dX11_get_37 lK_X11_90 ?_
      refine z_goto (tgt := 49) hE dX11_get_40 (by decide) ?_
      exact z_lret (st := []) hE dX11_get_49 rfl ⟨_, rfl, rfl, h⟩
    · refine z_iload_n hE dX11_get_25 rfl 3 rfl ?_
      refine z_if_lt (tgt := 37) hE dX11_get_26 (by decide) h (fun h => ?_) (fun h => ?_)
      · refine z_ldc2 (v := -9223372036854775808) hE dX11_get_37 lK_X11_90 ?_
        refine z_goto (tgt := 49) hE dX11_get_40 (by decide) ?_
        exact z_lret (st := []) hE dX11_get_49 rfl ⟨_, rfl, rfl, h⟩
      · refine z_iload_n hE dX11_get_29 rfl 3 rfl ?_
        refine z_aload_n hE dX11_get_30 rfl 0 rfl ?_
        refine z_getI hE dX11_get_31 lF_X11_334 (sXr_86 _ (zz_in_lt q_3)).1 rfl ?_
        refine z_icmp_lt (tgt := 43) hE dX11_get_34 (by decide) h (fun h => ?_) (fun h => ?_)
        · refine z_aload_n hE dX11_get_43 rfl 0 rfl ?_
          refine z_getR (t := ((86 + 2 * (Int32.toNatClampNeg a1)) + 1)) hE dX11_get_44 lF_X11_339 (sXr_86 _ (zz_in_lt q_3)).1 rfl ?_
          refine z_iload_n hE dX11_get_47 rfl 3 rfl ?_
          obtain ⟨q_6, h⟩ := h
          refine z_lald hE dX11_get_48 (sXr_86 _ (zz_in_lt q_3)).2 q_6 ?_
          exact z_lret (st := []) hE dX11_get_49 rfl ⟨_, rfl, rfl, h⟩
        · refine z_ldc2 (v := -9223372036854775808) hE dX11_get_37 lK_X11_90 ?_
          refine z_goto (tgt := 49) hE dX11_get_40 (by decide) ?_
          exact z_lret (st := []) hE dX11_get_49 rfl ⟨_, rfl, rfl, h⟩
  · refine z_ldc2 (v := -9223372036854775808) hE dX11_get_7 lK_X11_90 ?_
    exact z_lret (st := []) hE dX11_get_10 rfl ⟨_, rfl, rfl, h⟩
set_option maxRecDepth 4000 in
theorem c_X11_put (a1 : Int32) (a2 : Int32) (a3 : Int64) (μ : ZMem) (Φ : Int32 → ZMem → Prop) (h : w_X11_put a1 a2 a3 μ Φ) : zM SX yX11_put cX11_put 6 (some FieldType.int) 1 [.ref 0, .int a1, .int a2, .long a3] μ (zzI Φ) := by
  refine zM_go (own := RX11) rfl (by decide) (Nat.le_of_ble_eq_true rfl) (fun E hE => ?_)
  show zZ E (zzI Φ) 0 [(0, .ref 0), (1, .int a1), (2, .int a2), (3, .long a3)] [] μ
  unfold w_X11_put at h
  refine z_iload_n hE dX11_put_0 rfl 1 rfl ?_
  refine z_callS hE dX11_put_1 lS_X11_325 (c_X11_isTray _ μ _ h) rfl (Nat.le_of_ble_eq_true rfl) (by decide) rfl (zk_PI (fun r_1 h => ?_))
  refine z_if_ne (tgt := 9) hE dX11_put_4 (by decide) h (fun h => ?_) (fun h => ?_)
  · refine z_aload_n hE dX11_put_9 rfl 0 rfl ?_
    refine z_getR (t := 27) hE dX11_put_10 lF_X11_30 sX_0 rfl ?_
    refine z_iload_n hE dX11_put_13 rfl 1 rfl ?_
    obtain ⟨q_3, h⟩ := h
    refine z_aald2 hE dX11_put_14 sX_27 (fun _ => rfl) rfl q_3 ?_
    refine z_astore (lv' := [(5, .ref (86 + 2 * (Int32.toNatClampNeg a1))), (0, .ref 0), (1, .int a1), (2, .int a2), (3, .long a3)]) hE dX11_put_15 (by decide) rfl ?_
    refine z_aload hE dX11_put_17 0 rfl ?_
    refine z_callV hE dX11_put_19 lV_X11_331 (c_X10_isNothing _ (sXr_86 _ (zz_in_lt q_3)) μ _ h) (sXr_86 _ (zz_in_lt q_3)).1 rfl (Nat.le_of_ble_eq_true rfl) (by decide) rfl (zk_PI (fun r_4 h => ?_))
    refine z_if_eq (tgt := 28) hE dX11_put_22 (by decide) h (fun h => ?_) (fun h => ?_)
    · refine z_iload_n hE dX11_put_28 rfl 3 rfl ?_
      refine z_if_lt (tgt := 41) hE dX11_put_29 (by decide) h (fun h => ?_) (fun h => ?_)
      · refine z_bipush (v := -13) hE dX11_put_41 zv_b_m13 ?_
        exact z_iret (st := []) hE dX11_put_43 rfl ⟨_, rfl, h⟩
      · refine z_iload_n hE dX11_put_32 rfl 3 rfl ?_
        refine z_aload hE dX11_put_33 0 rfl ?_
        refine z_getI hE dX11_put_35 lF_X11_334 (sXr_86 _ (zz_in_lt q_3)).1 rfl ?_
        refine z_icmp_lt (tgt := 44) hE dX11_put_38 (by decide) h (fun h => ?_) (fun h => ?_)
        · refine z_aload hE dX11_put_44 0 rfl ?_
          refine z_iload_n hE dX11_put_46 rfl 3 rfl ?_
          refine z_lload_n hE dX11_put_47 rfl 4 rfl ?_
          refine z_callV hE dX11_put_48 lV_X11_335 (c_X10_store _ _ _ (sXr_86 _ (zz_in_lt q_3)) μ _ h) (sXr_86 _ (zz_in_lt q_3)).1 rfl (Nat.le_of_ble_eq_true rfl) (by decide) rfl (zk_V (fun μ_7 h => ?_))
          refine z_iconst (v := 1) hE dX11_put_51 zv_i_1 ?_
          exact z_iret (st := []) hE dX11_put_52 rfl ⟨_, rfl, h⟩
        · refine z_bipush (v := -13) hE dX11_put_41 zv_b_m13 ?_
          exact z_iret (st := []) hE dX11_put_43 rfl ⟨_, rfl, h⟩
    · refine z_bipush (v := -11) hE dX11_put_25 zv_b_m11 ?_
      exact z_iret (st := []) hE dX11_put_27 rfl ⟨_, rfl, h⟩
  · refine z_iconst (v := -1) hE dX11_put_7 zv_i_m1 ?_
    exact z_iret (st := []) hE dX11_put_8 rfl ⟨_, rfl, h⟩
set_option maxRecDepth 4000 in
theorem c_X11_set (a1 : Int32) (a2 : Int32) (a3 : Int32) (μ : ZMem) (Φ : Int64 → ZMem → Prop) (h : w_X11_set a1 a2 a3 μ Φ) : zM SX yX11_set cX11_set 7 (some FieldType.long) 1 [.ref 0, .int a1, .int a2, .int a3] μ (zzJ Φ) := by
  refine zM_go (own := RX11) rfl (by decide) (Nat.le_of_ble_eq_true rfl) (fun E hE => ?_)
  show zZ E (zzJ Φ) 0 [(0, .ref 0), (1, .int a1), (2, .int a2), (3, .int a3)] [] μ
  unfold w_X11_set at h
  refine z_iload_n hE dX11_set_0 rfl 1 rfl ?_
  refine z_if_lt (tgt := 25) hE dX11_set_1 (by decide) h (fun h => ?_) (fun h => ?_)
  · refine z_ldc2 (v := -9223372036854775808) hE dX11_set_25 lK_X11_90 ?_
    exact z_lret (st := []) hE dX11_set_28 rfl ⟨_, rfl, h⟩
  · refine z_iload_n hE dX11_set_4 rfl 1 rfl ?_
    refine z_iconst (v := 1) hE dX11_set_5 zv_i_1 ?_
    refine z_icmp_gt (tgt := 25) hE dX11_set_6 (by decide) h (fun h => ?_) (fun h => ?_)
    · refine z_ldc2 (v := -9223372036854775808) hE dX11_set_25 lK_X11_90 ?_
      exact z_lret (st := []) hE dX11_set_28 rfl ⟨_, rfl, h⟩
    · refine z_iload_n hE dX11_set_9 rfl 2 rfl ?_
      refine z_callS hE dX11_set_10 lS_X11_82 (c_X11_isPower _ μ _ h) rfl (Nat.le_of_ble_eq_true rfl) (by decide) rfl (zk_PI (fun r_1 h => ?_))
      refine z_if_eq (tgt := 25) hE dX11_set_13 (by decide) h (fun h => ?_) (fun h => ?_)
      · refine z_ldc2 (v := -9223372036854775808) hE dX11_set_25 lK_X11_90 ?_
        exact z_lret (st := []) hE dX11_set_28 rfl ⟨_, rfl, h⟩
      · refine z_iload_n hE dX11_set_16 rfl 3 rfl ?_
        refine z_bipush (v := 99) hE dX11_set_17 zv_b_99 ?_
        refine z_callS hE dX11_set_19 lS_X11_86 (c_X11_isWithin _ _ μ _ h) rfl (Nat.le_of_ble_eq_true rfl) (by decide) rfl (zk_PI (fun r_3 h => ?_))
        refine z_if_ne (tgt := 29) hE dX11_set_22 (by decide) h (fun h => ?_) (fun h => ?_)
        · refine z_iload_n hE dX11_set_29 rfl 1 rfl ?_
          refine z_join (P := fun (J_6 : Nat → Prop) => ∀ (x_5 : Nat), SX[x_5]? = some (2, 7, []) → J_6 x_5 → zZ E (zzJ Φ) 50 [(0, .ref 0), (2, .int a2), (3, .int a3)] [.ref x_5] μ) h (fun x_5 ex_5 h => ?_) (fun J_6 hJ_6 h => ?_)
          · refine z_astore (lv' := [(4, .ref x_5), (0, .ref 0), (2, .int a2), (3, .int a3)]) hE dX11_set_50 (by decide) rfl ?_
            refine z_aload hE dX11_set_52 0 rfl ?_
            refine z_iload_n hE dX11_set_54 rfl 2 rfl ?_
            obtain ⟨q_7, h⟩ := h
            refine z_lald hE dX11_set_55 ex_5 q_7 ?_
            refine z_lstore (lv' := [(5, .long (μ.2 x_5 (Int32.toNatClampNeg a2))), (4, .ref x_5), (0, .ref 0), (2, .int a2), (3, .int a3)]) hE dX11_set_56 (by decide) rfl ?_
            refine zn (G := fun v5_8 => zZ E (zzJ Φ) 58 [(5, .long v5_8), (4, .ref x_5), (0, .ref 0), (2, .int a2), (3, .int a3)] [] μ) h (fun v5_8 h => ?_)
            refine z_aload hE dX11_set_58 1 rfl ?_
            refine z_iload_n hE dX11_set_60 rfl 3 rfl ?_
            refine z_iload_n hE dX11_set_61 rfl 4 rfl ?_
            refine z_i2l hE dX11_set_62 ?_
            obtain ⟨q_9, h⟩ := h
            refine z_last hE dX11_set_63 ex_5 q_9 ?_
            refine zn (G := fun μ_10 => zZ E (zzJ Φ) 64 [(5, .long v5_8), (4, .ref x_5), (0, .ref 0), (2, .int a2), (3, .int a3)] [] μ_10) h (fun μ_10 h => ?_)
            refine z_aload_n hE dX11_set_64 rfl 2 rfl ?_
            refine z_callV hE dX11_set_65 lV_X11_95 (c_X11_forgetSurveys  μ_10 _ h) sX_0 rfl (Nat.le_of_ble_eq_true rfl) (by decide) rfl (zk_V (fun μ_12 h => ?_))
            refine z_lload hE dX11_set_68 0 rfl ?_
            exact z_lret (st := []) hE dX11_set_70 rfl ⟨_, rfl, h⟩
          refine z_if_ne (tgt := 43) hE dX11_set_30 (by decide) h (fun h => ?_) (fun h => ?_)
          · refine z_aload_n hE dX11_set_43 rfl 0 rfl ?_
            refine z_getR (t := 1) hE dX11_set_44 lF_X11_14 sX_0 rfl ?_
            refine z_getR (t := 3) hE dX11_set_47 lF_X11_92 sX_1 rfl ?_
            exact z_sub [0, 2, 3] rfl (hJ_6 _ sX_3 h)
          · refine z_aload_n hE dX11_set_33 rfl 0 rfl ?_
            refine z_getR (t := 1) hE dX11_set_34 lF_X11_14 sX_0 rfl ?_
            refine z_getR (t := 2) hE dX11_set_37 lF_X11_78 sX_1 rfl ?_
            refine z_goto (tgt := 50) hE dX11_set_40 (by decide) ?_
            exact z_sub [0, 2, 3] rfl (hJ_6 _ sX_2 h)
        · refine z_ldc2 (v := -9223372036854775808) hE dX11_set_25 lK_X11_90 ?_
          exact z_lret (st := []) hE dX11_set_28 rfl ⟨_, rfl, h⟩
set_option maxRecDepth 4000 in
theorem c_X11_tray (a1 : Int32) (a2 : Int32) (a3 : Int32) (μ : ZMem) (Φ : Int32 → ZMem → Prop) (h : w_X11_tray a1 a2 a3 μ Φ) : zM SX yX11_tray cX11_tray 4 (some FieldType.int) 1 [.ref 0, .int a1, .int a2, .int a3] μ (zzI Φ) := by
  refine zM_go (own := RX11) rfl (by decide) (Nat.le_of_ble_eq_true rfl) (fun E hE => ?_)
  show zZ E (zzI Φ) 0 [(0, .ref 0), (1, .int a1), (2, .int a2), (3, .int a3)] [] μ
  unfold w_X11_tray at h
  refine z_iload_n hE dX11_tray_0 rfl 1 rfl ?_
  refine z_callS hE dX11_tray_1 lS_X11_325 (c_X11_isTray _ μ _ h) rfl (Nat.le_of_ble_eq_true rfl) (by decide) rfl (zk_PI (fun r_1 h => ?_))
  refine z_if_ne (tgt := 9) hE dX11_tray_4 (by decide) h (fun h => ?_) (fun h => ?_)
  · refine z_iload_n hE dX11_tray_9 rfl 2 rfl ?_
    refine z_iconst (v := -1) hE dX11_tray_10 zv_i_m1 ?_
    refine z_icmp_lt (tgt := 30) hE dX11_tray_11 (by decide) h (fun h => ?_) (fun h => ?_)
    · refine z_bipush (v := -2) hE dX11_tray_30 zv_b_m2 ?_
      exact z_iret (st := []) hE dX11_tray_32 rfl ⟨_, rfl, h⟩
    · refine z_iload_n hE dX11_tray_14 rfl 2 rfl ?_
      refine z_iconst (v := 1) hE dX11_tray_15 zv_i_1 ?_
      refine z_icmp_gt (tgt := 30) hE dX11_tray_16 (by decide) h (fun h => ?_) (fun h => ?_)
      · refine z_bipush (v := -2) hE dX11_tray_30 zv_b_m2 ?_
        exact z_iret (st := []) hE dX11_tray_32 rfl ⟨_, rfl, h⟩
      · refine z_iload_n hE dX11_tray_19 rfl 2 rfl ?_
        refine z_iconst (v := -1) hE dX11_tray_20 zv_i_m1 ?_
        refine z_join (P := fun (J_3 : Prop) => J_3 → zZ E (zzI Φ) 33 [(0, .ref 0), (1, .int a1), (2, .int a2), (3, .int a3)] [] μ) h (fun  h => ?_) (fun J_3 hJ_3 h => ?_)
        · refine z_iload_n hE dX11_tray_33 rfl 2 rfl ?_
          refine z_iconst (v := -1) hE dX11_tray_34 zv_i_m1 ?_
          refine z_join (P := fun (J_4 : Prop) => J_4 → zZ E (zzI Φ) 45 [(0, .ref 0), (1, .int a1), (2, .int a2), (3, .int a3)] [] μ) h (fun  h => ?_) (fun J_4 hJ_4 h => ?_)
          · refine z_aload_n hE dX11_tray_45 rfl 0 rfl ?_
            refine z_getR (t := 27) hE dX11_tray_46 lF_X11_30 sX_0 rfl ?_
            refine z_iload_n hE dX11_tray_49 rfl 1 rfl ?_
            obtain ⟨q_5, h⟩ := h
            refine z_aald2 hE dX11_tray_50 sX_27 (fun _ => rfl) rfl q_5 ?_
            refine z_iload_n hE dX11_tray_51 rfl 2 rfl ?_
            refine z_iload_n hE dX11_tray_52 rfl 2 rfl ?_
            refine z_iconst (v := -1) hE dX11_tray_53 zv_i_m1 ?_
            refine z_join (P := fun (J_7 : Int32 → Prop) => ∀ (x_6 : Int32), J_7 x_6 → zZ E (zzI Φ) 62 [] [.int x_6, .int a2, .ref (86 + 2 * (Int32.toNatClampNeg a1))] μ) h (fun x_6 h => ?_) (fun J_7 hJ_7 h => ?_)
            · refine z_callV hE dX11_tray_62 lV_X11_328 (c_X10_become _ _ _ (sXr_86 _ (zz_in_lt q_5)) μ _ h) (sXr_86 _ (zz_in_lt q_5)).1 rfl (Nat.le_of_ble_eq_true rfl) (by decide) rfl (zk_V (fun μ_9 h => ?_))
              refine z_iconst (v := 1) hE dX11_tray_65 zv_i_1 ?_
              exact z_iret (st := []) hE dX11_tray_66 rfl ⟨_, rfl, h⟩
            refine z_icmp_ne (tgt := 61) hE dX11_tray_54 (by decide) h (fun h => ?_) (fun h => ?_)
            · refine z_iload_n hE dX11_tray_61 rfl 3 rfl ?_
              exact z_sub [] rfl (hJ_7 _ h)
            · refine z_iconst (v := 0) hE dX11_tray_57 zv_i_0 ?_
              refine z_goto (tgt := 62) hE dX11_tray_58 (by decide) ?_
              exact z_sub [] rfl (hJ_7 _ h)
          refine z_icmp_eq (tgt := 45) hE dX11_tray_35 (by decide) h (fun h => ?_) (fun h => ?_)
          · exact hJ_4 h
          · refine z_iload_n hE dX11_tray_38 rfl 3 rfl ?_
            refine z_if_ge (tgt := 45) hE dX11_tray_39 (by decide) h (fun h => ?_) (fun h => ?_)
            · exact hJ_4 h
            · refine z_bipush (v := -14) hE dX11_tray_42 zv_b_m14 ?_
              exact z_iret (st := []) hE dX11_tray_44 rfl ⟨_, rfl, h⟩
        refine z_icmp_eq (tgt := 33) hE dX11_tray_21 (by decide) h (fun h => ?_) (fun h => ?_)
        · exact hJ_3 h
        · refine z_iload_n hE dX11_tray_24 rfl 3 rfl ?_
          refine z_bipush (v := 30) hE dX11_tray_25 zv_b_30 ?_
          refine z_icmp_le (tgt := 33) hE dX11_tray_27 (by decide) h (fun h => ?_) (fun h => ?_)
          · exact hJ_3 h
          · refine z_bipush (v := -2) hE dX11_tray_30 zv_b_m2 ?_
            exact z_iret (st := []) hE dX11_tray_32 rfl ⟨_, rfl, h⟩
  · refine z_iconst (v := -1) hE dX11_tray_7 zv_i_m1 ?_
    exact z_iret (st := []) hE dX11_tray_8 rfl ⟨_, rfl, h⟩
set_option maxRecDepth 4000 in
theorem c_X12_await (a1 : Int32) (μ : ZMem) (Φ : Int32 → ZMem → Prop) (h : w_X12_await a1 μ Φ) : zM SM yX12_await cX12_await 2 (some FieldType.int) 1 [.ref 0, .int a1] μ (zzI Φ) := by
  refine zM_go (own := RX12) rfl (by decide) (Nat.le_of_ble_eq_true rfl) (fun E hE => ?_)
  show zZ E (zzI Φ) 0 [(0, .ref 0), (1, .int a1)] [] μ
  unfold w_X12_await at h
  refine z_iload_n hE dX12_await_0 rfl 1 rfl ?_
  refine z_i2l hE dX12_await_1 ?_
  refine z_ldc2 (v := -100) hE dX12_await_2 lK_X12_101 ?_
  refine z_ldc2 (v := 100) hE dX12_await_5 lK_X12_103 ?_
  refine z_callS hE dX12_await_8 lS_X12_83 (c_X12_in _ _ _ μ _ h) rfl (Nat.le_of_ble_eq_true rfl) (by decide) rfl (zk_PI (fun r_1 h => ?_))
  refine z_if_ne (tgt := 17) hE dX12_await_11 (by decide) h (fun h => ?_) (fun h => ?_)
  · refine z_aload_n hE dX12_await_17 rfl 0 rfl ?_
    refine z_getR (t := 1) hE dX12_await_18 lF_X12_11 sM_0 rfl ?_
    refine z_bipush (v := 15) hE dX12_await_21 zv_b_15 ?_
    refine z_iald hE dX12_await_23 sM_1 (zin (by decide)) ?_
    refine z_bipush (v := 16) hE dX12_await_24 zv_b_16 ?_
    refine z_icmp_ne (tgt := 32) hE dX12_await_26 (by decide) h (fun h => ?_) (fun h => ?_)
    · refine z_aload_n hE dX12_await_32 rfl 0 rfl ?_
      refine z_getR (t := 1) hE dX12_await_33 lF_X12_11 sM_0 rfl ?_
      refine z_bipush (v := 16) hE dX12_await_36 zv_b_16 ?_
      refine z_aload_n hE dX12_await_38 rfl 0 rfl ?_
      refine z_getR (t := 1) hE dX12_await_39 lF_X12_11 sM_0 rfl ?_
      refine z_bipush (v := 15) hE dX12_await_42 zv_b_15 ?_
      refine z_iald hE dX12_await_44 sM_1 (zin (by decide)) ?_
      refine z_iadd hE dX12_await_45 ?_
      refine z_iload_n hE dX12_await_46 rfl 1 rfl ?_
      obtain ⟨q_3, h⟩ := h
      refine z_iast hE dX12_await_47 sM_1 q_3 ?_
      refine zn (G := fun μ_4 => zZ E (zzI Φ) 48 [(0, .ref 0), (1, .int a1)] [] μ_4) h (fun μ_4 h => ?_)
      refine z_aload_n hE dX12_await_48 rfl 0 rfl ?_
      refine z_getR (t := 1) hE dX12_await_49 lF_X12_11 sM_0 rfl ?_
      refine z_bipush (v := 15) hE dX12_await_52 zv_b_15 ?_
      refine z_dup2 hE dX12_await_54 rfl rfl ?_
      refine z_iald hE dX12_await_55 sM_1 (zin (by decide)) ?_
      refine z_iconst (v := 1) hE dX12_await_56 zv_i_1 ?_
      refine z_iadd hE dX12_await_57 ?_
      refine z_iast hE dX12_await_58 sM_1 (zin (by decide)) ?_
      refine zn (G := fun μ_5 => zZ E (zzI Φ) 59 [(0, .ref 0), (1, .int a1)] [] μ_5) h (fun μ_5 h => ?_)
      refine z_aload_n hE dX12_await_59 rfl 0 rfl ?_
      refine z_getR (t := 1) hE dX12_await_60 lF_X12_11 sM_0 rfl ?_
      refine z_bipush (v := 15) hE dX12_await_63 zv_b_15 ?_
      refine z_iald hE dX12_await_65 sM_1 (zin (by decide)) ?_
      exact z_iret (st := []) hE dX12_await_66 rfl ⟨_, rfl, h⟩
    · refine z_bipush (v := -4) hE dX12_await_29 zv_b_m4 ?_
      exact z_iret (st := []) hE dX12_await_31 rfl ⟨_, rfl, h⟩
  · refine z_bipush (v := -2) hE dX12_await_14 zv_b_m2 ?_
    exact z_iret (st := []) hE dX12_await_16 rfl ⟨_, rfl, h⟩
set_option maxRecDepth 4000 in
theorem c_X12_changesIn (a1 : Int32) (a2 : Int32) (μ : ZMem) (Φ : Int32 → Prop) (h : w_X12_changesIn a1 a2 μ Φ) : zM SM yX12_changesIn cX12_changesIn 5 (some FieldType.int) 1 [.ref 0, .int a1, .int a2] μ (zzPI Φ μ) := by
  refine zM_go (own := RX12) rfl (by decide) (Nat.le_of_ble_eq_true rfl) (fun E hE => ?_)
  show zZ E (zzPI Φ μ) 0 [(0, .ref 0), (1, .int a1), (2, .int a2)] [] μ
  unfold w_X12_changesIn at h
  refine z_iconst (v := 0) hE dX12_changesIn_0 zv_i_0 ?_
  refine z_istore_n (lv' := [(3, .int (0 : Int32)), (0, .ref 0), (1, .int a1), (2, .int a2)]) hE dX12_changesIn_1 rfl (by decide) rfl ?_
  refine z_iload_n hE dX12_changesIn_2 rfl 2 rfl ?_
  refine z_iconst (v := 1) hE dX12_changesIn_3 zv_i_1 ?_
  refine z_iadd hE dX12_changesIn_4 ?_
  refine z_istore (lv' := [(4, .int (a1 + (1 : Int32))), (3, .int (0 : Int32)), (0, .ref 0), (1, .int a1), (2, .int a2)]) hE dX12_changesIn_5 (by decide) rfl ?_
  refine zn (G := fun v4_1 => zZ E (zzPI Φ μ) 7 [(4, .int v4_1), (3, .int (0 : Int32)), (0, .ref 0), (1, .int a1), (2, .int a2)] [] μ) h (fun v4_1 h => ?_)
  refine z_sub [2, 4, 1, 0] rfl ?_
  obtain ⟨n7, h⟩ := h
  refine z_loop2 (P := fun (v3_2 : Int32) (v4_3 : Int32) => zZ E (zzPI Φ μ) 7 [(0, .ref 0), (2, .int a2), (3, .int v3_2), (4, .int v4_3)] [] μ) (fun k7_3 hk7_3 v3_2 v4_3 h => ?_) n7 _ _ h
  refine z_iload hE dX12_changesIn_7 3 rfl ?_
  refine z_iload_n hE dX12_changesIn_9 rfl 1 rfl ?_
  refine z_icmp_gt (tgt := 66) hE dX12_changesIn_10 (by decide) h (fun h => ?_) (fun h => ?_)
  · refine z_iload_n hE dX12_changesIn_66 rfl 2 rfl ?_
    exact z_iret (st := []) hE dX12_changesIn_67 rfl ⟨_, rfl, rfl, h⟩
  · refine z_iload_n hE dX12_changesIn_13 rfl 2 rfl ?_
    refine z_aload_n hE dX12_changesIn_14 rfl 0 rfl ?_
    refine z_iload hE dX12_changesIn_15 3 rfl ?_
    refine z_iconst (v := 0) hE dX12_changesIn_17 zv_i_0 ?_
    refine z_callV hE dX12_changesIn_18 lV_X12_140 (c_X12_item _ _ μ _ h) sM_0 rfl (Nat.le_of_ble_eq_true rfl) (by decide) rfl (zk_PJ (fun r_4 h => ?_))
    refine z_lconst (v := 0) hE dX12_changesIn_21 zv_l_0 ?_
    refine z_join (P := fun (J_7 : Int32 → Prop) => ∀ (x_6 : Int32), J_7 x_6 → zZ E (zzPI Φ μ) 31 [(0, .ref 0), (2, .int a2), (4, .int v4_3)] [.int x_6, .int v3_2] μ) h (fun x_6 h => ?_) (fun J_7 hJ_7 h => ?_)
    · refine z_aload_n hE dX12_changesIn_31 rfl 0 rfl ?_
      refine z_iload hE dX12_changesIn_32 2 rfl ?_
      refine z_iconst (v := 1) hE dX12_changesIn_34 zv_i_1 ?_
      refine z_isub hE dX12_changesIn_35 ?_
      refine z_iconst (v := 0) hE dX12_changesIn_36 zv_i_0 ?_
      refine z_callV hE dX12_changesIn_37 lV_X12_140 (c_X12_item _ _ μ _ h) sM_0 rfl (Nat.le_of_ble_eq_true rfl) (by decide) rfl (zk_PJ (fun r_8 h => ?_))
      refine z_lconst (v := 0) hE dX12_changesIn_40 zv_l_0 ?_
      refine z_join (P := fun (J_11 : Int32 → Prop) => ∀ (x_10 : Int32), J_11 x_10 → zZ E (zzPI Φ μ) 50 [(0, .ref 0), (2, .int a2), (4, .int v4_3)] [.int x_10, .int x_6, .int v3_2] μ) h (fun x_10 h => ?_) (fun J_11 hJ_11 h => ?_)
      · refine z_join (P := fun (J_13 : Int32 → Prop) => ∀ (x_12 : Int32), J_13 x_12 → zZ E (zzPI Φ μ) 58 [(0, .ref 0), (2, .int a2), (4, .int v4_3)] [.int x_12, .int v3_2] μ) h (fun x_12 h => ?_) (fun J_13 hJ_13 h => ?_)
        · refine z_iadd hE dX12_changesIn_58 ?_
          refine z_istore_n (lv' := [(3, .int (v3_2 + x_12)), (0, .ref 0), (2, .int a2), (4, .int v4_3)]) hE dX12_changesIn_59 rfl (by decide) rfl ?_
          refine zn (G := fun v3_14 => zZ E (zzPI Φ μ) 60 [(3, .int v3_14), (0, .ref 0), (2, .int a2), (4, .int v4_3)] [] μ) h (fun v3_14 h => ?_)
          refine z_iinc (j := 3) (c := 1) (lv' := [(4, .int (v4_3 + (1 : Int32))), (3, .int v3_14), (0, .ref 0), (2, .int a2)]) hE dX12_changesIn_60 rfl zv_i_1 (by decide) rfl ?_
          refine z_goto (tgt := 7) hE dX12_changesIn_63 (by decide) ?_
          exact z_sub [2, 3, 1, 0] rfl (hk7_3 _ _ h)
        refine z_icmp_ne (tgt := 57) hE dX12_changesIn_50 (by decide) h (fun h => ?_) (fun h => ?_)
        · refine z_iconst (v := 1) hE dX12_changesIn_57 zv_i_1 ?_
          exact hJ_13 _ h
        · refine z_iconst (v := 0) hE dX12_changesIn_53 zv_i_0 ?_
          refine z_goto (tgt := 58) hE dX12_changesIn_54 (by decide) ?_
          exact hJ_13 _ h
      refine z_ljmp_ge (tgt := 49) hE dX12_changesIn_41 dX12_changesIn_42 (by decide) h (fun h => ?_) (fun h => ?_)
      · refine z_iconst (v := 0) hE dX12_changesIn_49 zv_i_0 ?_
        exact hJ_11 _ h
      · refine z_iconst (v := 1) hE dX12_changesIn_45 zv_i_1 ?_
        refine z_goto (tgt := 50) hE dX12_changesIn_46 (by decide) ?_
        exact hJ_11 _ h
    refine z_ljmp_ge (tgt := 30) hE dX12_changesIn_22 dX12_changesIn_23 (by decide) h (fun h => ?_) (fun h => ?_)
    · refine z_iconst (v := 0) hE dX12_changesIn_30 zv_i_0 ?_
      exact z_sub [0, 1, 3] rfl (hJ_7 _ h)
    · refine z_iconst (v := 1) hE dX12_changesIn_26 zv_i_1 ?_
      refine z_goto (tgt := 31) hE dX12_changesIn_27 (by decide) ?_
      exact z_sub [0, 1, 3] rfl (hJ_7 _ h)
set_option maxRecDepth 4000 in
theorem c_X12_circles  (μ : ZMem) (Φ : ZMem → Prop) (h : w_X12_circles μ Φ) : zM SM yX12_circles cX12_circles 3 (none) 1 [.ref 0] μ (zzV Φ) := by
  refine zM_go (own := RX12) rfl (by decide) (Nat.le_of_ble_eq_true rfl) (fun E hE => ?_)
  show zZ E (zzV Φ) 0 [(0, .ref 0)] [] μ
  unfold w_X12_circles at h
  refine z_iconst (v := 0) hE dX12_circles_0 zv_i_0 ?_
  refine z_istore_n (lv' := [(1, .int (0 : Int32)), (0, .ref 0)]) hE dX12_circles_1 rfl (by decide) rfl ?_
  refine z_join (P := fun (J_2 : ZMem → Prop) => ∀ (μ_1 : ZMem), J_2 μ_1 → zZ E (zzV Φ) 21 [(0, .ref 0)] [] μ_1) h (fun μ_1 h => ?_) (fun J_2 hJ_2 h => ?_)
  · refine z_iconst (v := 0) hE dX12_circles_21 zv_i_0 ?_
    refine z_istore_n (lv' := [(1, .int (0 : Int32)), (0, .ref 0)]) hE dX12_circles_22 rfl (by decide) rfl ?_
    refine z_sub [1, 0] rfl ?_
    obtain ⟨n23, h⟩ := h
    refine z_loop2 (P := fun (v1_3 : Int32) (μ_4 : ZMem) => zZ E (zzV Φ) 23 [(0, .ref 0), (1, .int v1_3)] [] μ_4) (fun k23_4 hk23_4 v1_3 μ_4 h => ?_) n23 _ _ h
    refine z_iload_n hE dX12_circles_23 rfl 1 rfl ?_
    refine z_aload_n hE dX12_circles_24 rfl 0 rfl ?_
    refine z_getI hE dX12_circles_25 lF_X12_77 sM_0 rfl ?_
    refine z_icmp_gt (tgt := 130) hE dX12_circles_28 (by decide) h (fun h => ?_) (fun h => ?_)
    · exact z_vret (st := []) hE dX12_circles_130 rfl ⟨rfl, h⟩
    · refine z_iconst (v := 0) hE dX12_circles_31 zv_i_0 ?_
      refine z_istore_n (lv' := [(2, .int (0 : Int32)), (0, .ref 0), (1, .int v1_3)]) hE dX12_circles_32 rfl (by decide) rfl ?_
      refine z_join (P := fun (J_6 : ZMem → Prop) => ∀ (μ_5 : ZMem), J_6 μ_5 → zZ E (zzV Φ) 65 [(0, .ref 0), (1, .int v1_3)] [] μ_5) h (fun μ_5 h => ?_) (fun J_6 hJ_6 h => ?_)
      · refine z_iconst (v := 0) hE dX12_circles_65 zv_i_0 ?_
        refine z_istore_n (lv' := [(2, .int (0 : Int32)), (0, .ref 0), (1, .int v1_3)]) hE dX12_circles_66 rfl (by decide) rfl ?_
        refine z_join (P := fun (J_8 : ZMem → Prop) => ∀ (μ_7 : ZMem), J_8 μ_7 → zZ E (zzV Φ) 95 [(0, .ref 0), (1, .int v1_3)] [] μ_7) h (fun μ_7 h => ?_) (fun J_8 hJ_8 h => ?_)
        · refine z_iconst (v := 0) hE dX12_circles_95 zv_i_0 ?_
          refine z_istore_n (lv' := [(2, .int (0 : Int32)), (0, .ref 0), (1, .int v1_3)]) hE dX12_circles_96 rfl (by decide) rfl ?_
          refine z_join (P := fun (J_10 : ZMem → Prop) => ∀ (μ_9 : ZMem), J_10 μ_9 → zZ E (zzV Φ) 124 [(0, .ref 0), (1, .int v1_3)] [] μ_9) h (fun μ_9 h => ?_) (fun J_10 hJ_10 h => ?_)
          · refine z_iinc (j := 1) (c := 1) (lv' := [(1, .int (v1_3 + (1 : Int32))), (0, .ref 0)]) hE dX12_circles_124 rfl zv_i_1 (by decide) rfl ?_
            refine z_goto (tgt := 23) hE dX12_circles_127 (by decide) ?_
            exact z_sub [1, 0] rfl (hk23_4 _ _ h)
          refine z_sub [1, 2, 0] rfl ?_
          obtain ⟨n97, h⟩ := h
          refine z_loop2 (P := fun (v2_11 : Int32) (μ_12 : ZMem) => zZ E (zzV Φ) 97 [(0, .ref 0), (1, .int v1_3), (2, .int v2_11)] [] μ_12) (fun k97_12 hk97_12 v2_11 μ_12 h => ?_) n97 _ _ h
          refine z_iload_n hE dX12_circles_97 rfl 2 rfl ?_
          refine z_bipush (v := 7) hE dX12_circles_98 zv_b_7 ?_
          refine z_icmp_ge (tgt := 124) hE dX12_circles_100 (by decide) h (fun h => ?_) (fun h => ?_)
          · exact z_sub [0, 1] rfl (hJ_10 _ h)
          · refine z_aload_n hE dX12_circles_103 rfl 0 rfl ?_
            refine z_getR (t := 4) hE dX12_circles_104 lF_X12_22 sM_0 rfl ?_
            refine z_iload_n hE dX12_circles_107 rfl 2 rfl ?_
            refine z_dup2 hE dX12_circles_108 rfl rfl ?_
            obtain ⟨q_13, h⟩ := h
            refine z_lald hE dX12_circles_109 sM_4 q_13 ?_
            refine z_aload_n hE dX12_circles_110 rfl 0 rfl ?_
            refine z_getR (t := 5) hE dX12_circles_111 lF_X12_25 sM_0 rfl ?_
            refine z_iload_n hE dX12_circles_114 rfl 2 rfl ?_
            obtain ⟨q_14, h⟩ := h
            refine z_lald hE dX12_circles_115 sM_5 q_14 ?_
            refine z_ladd hE dX12_circles_116 ?_
            obtain ⟨q_15, h⟩ := h
            refine z_last hE dX12_circles_117 sM_4 q_15 ?_
            refine zn (G := fun μ_16 => zZ E (zzV Φ) 118 [(0, .ref 0), (1, .int v1_3), (2, .int v2_11)] [] μ_16) h (fun μ_16 h => ?_)
            refine z_iinc (j := 2) (c := 1) (lv' := [(2, .int (v2_11 + (1 : Int32))), (0, .ref 0), (1, .int v1_3)]) hE dX12_circles_118 rfl zv_i_1 (by decide) rfl ?_
            refine z_goto (tgt := 97) hE dX12_circles_121 (by decide) ?_
            exact z_sub [1, 2, 0] rfl (hk97_12 _ _ h)
        refine z_sub [1, 2, 0] rfl ?_
        obtain ⟨n67, h⟩ := h
        refine z_loop2 (P := fun (v2_17 : Int32) (μ_18 : ZMem) => zZ E (zzV Φ) 67 [(0, .ref 0), (1, .int v1_3), (2, .int v2_17)] [] μ_18) (fun k67_18 hk67_18 v2_17 μ_18 h => ?_) n67 _ _ h
        refine z_iload_n hE dX12_circles_67 rfl 2 rfl ?_
        refine z_aload_n hE dX12_circles_68 rfl 0 rfl ?_
        refine z_getI hE dX12_circles_69 lF_X12_77 sM_0 rfl ?_
        refine z_icmp_ge (tgt := 95) hE dX12_circles_72 (by decide) h (fun h => ?_) (fun h => ?_)
        · exact z_sub [0, 1] rfl (hJ_8 _ h)
        · refine z_aload_n hE dX12_circles_75 rfl 0 rfl ?_
          refine z_iload_n hE dX12_circles_76 rfl 2 rfl ?_
          refine z_iload_n hE dX12_circles_77 rfl 1 rfl ?_
          refine z_join (P := fun (J_20 : Int32 → Prop) => ∀ (x_19 : Int32), J_20 x_19 → zZ E (zzV Φ) 86 [(0, .ref 0), (1, .int v1_3), (2, .int v2_17)] [.int x_19, .ref 0] μ_18) h (fun x_19 h => ?_) (fun J_20 hJ_20 h => ?_)
          · refine z_callV hE dX12_circles_86 lV_X12_111 (c_X12_wider _ μ_18 _ h) sM_0 rfl (Nat.le_of_ble_eq_true rfl) (by decide) rfl (zk_V (fun μ_22 h => ?_))
            refine z_iinc (j := 2) (c := 1) (lv' := [(2, .int (v2_17 + (1 : Int32))), (0, .ref 0), (1, .int v1_3)]) hE dX12_circles_89 rfl zv_i_1 (by decide) rfl ?_
            refine z_goto (tgt := 67) hE dX12_circles_92 (by decide) ?_
            exact z_sub [1, 2, 0] rfl (hk67_18 _ _ h)
          refine z_icmp_ge (tgt := 85) hE dX12_circles_78 (by decide) h (fun h => ?_) (fun h => ?_)
          · refine z_iconst (v := -1) hE dX12_circles_85 zv_i_m1 ?_
            exact hJ_20 _ h
          · refine z_iconst (v := 1) hE dX12_circles_81 zv_i_1 ?_
            refine z_goto (tgt := 86) hE dX12_circles_82 (by decide) ?_
            exact hJ_20 _ h
      refine z_sub [1, 2, 0] rfl ?_
      obtain ⟨n33, h⟩ := h
      refine z_loop2 (P := fun (v2_23 : Int32) (μ_24 : ZMem) => zZ E (zzV Φ) 33 [(0, .ref 0), (1, .int v1_3), (2, .int v2_23)] [] μ_24) (fun k33_24 hk33_24 v2_23 μ_24 h => ?_) n33 _ _ h
      refine z_iload_n hE dX12_circles_33 rfl 2 rfl ?_
      refine z_bipush (v := 7) hE dX12_circles_34 zv_b_7 ?_
      refine z_icmp_ge (tgt := 65) hE dX12_circles_36 (by decide) h (fun h => ?_) (fun h => ?_)
      · exact z_sub [0, 1] rfl (hJ_6 _ h)
      · refine z_aload_n hE dX12_circles_39 rfl 0 rfl ?_
        refine z_getR (t := 5) hE dX12_circles_40 lF_X12_25 sM_0 rfl ?_
        refine z_iload_n hE dX12_circles_43 rfl 2 rfl ?_
        refine z_iload_n hE dX12_circles_44 rfl 2 rfl ?_
        refine z_join (P := fun (J_26 : Int64 → Prop) => ∀ (x_25 : Int64), J_26 x_25 → zZ E (zzV Φ) 58 [(0, .ref 0), (1, .int v1_3), (2, .int v2_23)] [.long x_25, .int v2_23, .ref 5] μ_24) h (fun x_25 h => ?_) (fun J_26 hJ_26 h => ?_)
        · obtain ⟨q_27, h⟩ := h
          refine z_last hE dX12_circles_58 sM_5 q_27 ?_
          refine zn (G := fun μ_28 => zZ E (zzV Φ) 59 [(0, .ref 0), (1, .int v1_3), (2, .int v2_23)] [] μ_28) h (fun μ_28 h => ?_)
          refine z_iinc (j := 2) (c := 1) (lv' := [(2, .int (v2_23 + (1 : Int32))), (0, .ref 0), (1, .int v1_3)]) hE dX12_circles_59 rfl zv_i_1 (by decide) rfl ?_
          refine z_goto (tgt := 33) hE dX12_circles_62 (by decide) ?_
          exact z_sub [1, 2, 0] rfl (hk33_24 _ _ h)
        refine z_if_ne (tgt := 57) hE dX12_circles_45 (by decide) h (fun h => ?_) (fun h => ?_)
        · refine z_lconst (v := 0) hE dX12_circles_57 zv_l_0 ?_
          exact hJ_26 _ h
        · refine z_aload_n hE dX12_circles_48 rfl 0 rfl ?_
          refine z_getR (t := 3) hE dX12_circles_49 lF_X12_18 sM_0 rfl ?_
          refine z_iload_n hE dX12_circles_52 rfl 1 rfl ?_
          obtain ⟨q_29, h⟩ := h
          refine z_lald hE dX12_circles_53 sM_3 q_29 ?_
          refine z_goto (tgt := 58) hE dX12_circles_54 (by decide) ?_
          exact hJ_26 _ h
  refine z_sub [1, 0] rfl ?_
  obtain ⟨n2, h⟩ := h
  refine z_loop2 (P := fun (v1_30 : Int32) (μ_31 : ZMem) => zZ E (zzV Φ) 2 [(0, .ref 0), (1, .int v1_30)] [] μ_31) (fun k2_31 hk2_31 v1_30 μ_31 h => ?_) n2 _ _ h
  refine z_iload_n hE dX12_circles_2 rfl 1 rfl ?_
  refine z_bipush (v := 7) hE dX12_circles_3 zv_b_7 ?_
  refine z_icmp_ge (tgt := 21) hE dX12_circles_5 (by decide) h (fun h => ?_) (fun h => ?_)
  · exact z_sub [0] rfl (hJ_2 _ h)
  · refine z_aload_n hE dX12_circles_8 rfl 0 rfl ?_
    refine z_getR (t := 4) hE dX12_circles_9 lF_X12_22 sM_0 rfl ?_
    refine z_iload_n hE dX12_circles_12 rfl 1 rfl ?_
    refine z_lconst (v := 0) hE dX12_circles_13 zv_l_0 ?_
    obtain ⟨q_32, h⟩ := h
    refine z_last hE dX12_circles_14 sM_4 q_32 ?_
    refine zn (G := fun μ_33 => zZ E (zzV Φ) 15 [(0, .ref 0), (1, .int v1_30)] [] μ_33) h (fun μ_33 h => ?_)
    refine z_iinc (j := 1) (c := 1) (lv' := [(1, .int (v1_30 + (1 : Int32))), (0, .ref 0)]) hE dX12_circles_15 rfl zv_i_1 (by decide) rfl ?_
    refine z_goto (tgt := 2) hE dX12_circles_18 (by decide) ?_
    exact z_sub [1, 0] rfl (hk2_31 _ _ h)
set_option maxRecDepth 4000 in
theorem c_X12_dividesLink (a1 : Int32) (μ : ZMem) (Φ : ZMem → Prop) (h : w_X12_dividesLink a1 μ Φ) : zM SM yX12_dividesLink cX12_dividesLink 5 (none) 1 [.ref 0, .int a1] μ (zzV Φ) := by
  refine zM_go (own := RX12) rfl (by decide) (Nat.le_of_ble_eq_true rfl) (fun E hE => ?_)
  show zZ E (zzV Φ) 0 [(0, .ref 0), (1, .int a1)] [] μ
  unfold w_X12_dividesLink at h
  refine z_lconst (v := 0) hE dX12_dividesLink_0 zv_l_0 ?_
  refine z_lstore_n (lv' := [(2, .long (0 : Int64)), (0, .ref 0), (1, .int a1)]) hE dX12_dividesLink_1 rfl (by decide) rfl ?_
  refine z_iconst (v := 0) hE dX12_dividesLink_2 zv_i_0 ?_
  refine z_istore (lv' := [(4, .int (0 : Int32)), (2, .long (0 : Int64)), (0, .ref 0), (1, .int a1)]) hE dX12_dividesLink_3 (by decide) rfl ?_
  refine z_join (P := fun (J_2 : Int64 → Prop) => ∀ (v2_1 : Int64), J_2 v2_1 → zZ E (zzV Φ) 35 [(0, .ref 0), (1, .int a1), (2, .long v2_1)] [] μ) h (fun v2_1 h => ?_) (fun J_2 hJ_2 h => ?_)
  · refine z_iconst (v := 0) hE dX12_dividesLink_35 zv_i_0 ?_
    refine z_istore (lv' := [(4, .int (0 : Int32)), (0, .ref 0), (1, .int a1), (2, .long v2_1)]) hE dX12_dividesLink_36 (by decide) rfl ?_
    refine z_join (P := fun (J_4 : ZMem → Prop) => ∀ (μ_3 : ZMem), J_4 μ_3 → zZ E (zzV Φ) 67 [(0, .ref 0)] [] μ_3) h (fun μ_3 h => ?_) (fun J_4 hJ_4 h => ?_)
    · refine z_aload_n hE dX12_dividesLink_67 rfl 0 rfl ?_
      refine z_dup hE dX12_dividesLink_68 rfl ?_
      refine z_getI hE dX12_dividesLink_69 lF_X12_229 sM_0 rfl ?_
      refine z_iconst (v := 1) hE dX12_dividesLink_72 zv_i_1 ?_
      refine z_iadd hE dX12_dividesLink_73 ?_
      refine z_put hE dX12_dividesLink_74 lF_X12_229 sM_0 rfl rfl rfl ?_
      refine zn (G := fun μ_5 => zZ E (zzV Φ) 77 [(0, .ref 0)] [] μ_5) h (fun μ_5 h => ?_)
      exact z_vret (st := []) hE dX12_dividesLink_77 rfl ⟨rfl, h⟩
    refine z_sub [1, 2, 3, 0] rfl ?_
    obtain ⟨n38, h⟩ := h
    refine z_loop2 (P := fun (v4_6 : Int32) (μ_7 : ZMem) => zZ E (zzV Φ) 38 [(0, .ref 0), (1, .int a1), (2, .long v2_1), (4, .int v4_6)] [] μ_7) (fun k38_7 hk38_7 v4_6 μ_7 h => ?_) n38 _ _ h
    refine z_iload hE dX12_dividesLink_38 3 rfl ?_
    refine z_bipush (v := 7) hE dX12_dividesLink_40 zv_b_7 ?_
    refine z_icmp_ge (tgt := 67) hE dX12_dividesLink_42 (by decide) h (fun h => ?_) (fun h => ?_)
    · exact z_sub [0] rfl (hJ_4 _ h)
    · refine z_aload_n hE dX12_dividesLink_45 rfl 0 rfl ?_
      refine z_getR (t := 11) hE dX12_dividesLink_46 lF_X12_43 sM_0 rfl ?_
      refine z_bipush (v := 7) hE dX12_dividesLink_49 zv_b_7 ?_
      refine z_iload_n hE dX12_dividesLink_51 rfl 1 rfl ?_
      refine z_imul hE dX12_dividesLink_52 ?_
      refine z_iload hE dX12_dividesLink_53 3 rfl ?_
      refine z_iadd hE dX12_dividesLink_55 ?_
      refine z_dup2 hE dX12_dividesLink_56 rfl rfl ?_
      obtain ⟨q_8, h⟩ := h
      refine z_lald hE dX12_dividesLink_57 sM_11 q_8 ?_
      refine z_lload_n hE dX12_dividesLink_58 rfl 2 rfl ?_
      obtain ⟨q_9, h⟩ := h
      refine z_ldiv hE dX12_dividesLink_59 q_9 ?_
      obtain ⟨q_10, h⟩ := h
      refine z_last hE dX12_dividesLink_60 sM_11 q_10 ?_
      refine zn (G := fun μ_11 => zZ E (zzV Φ) 61 [(0, .ref 0), (1, .int a1), (2, .long v2_1), (4, .int v4_6)] [] μ_11) h (fun μ_11 h => ?_)
      refine z_iinc (j := 3) (c := 1) (lv' := [(4, .int (v4_6 + (1 : Int32))), (0, .ref 0), (1, .int a1), (2, .long v2_1)]) hE dX12_dividesLink_61 rfl zv_i_1 (by decide) rfl ?_
      refine z_goto (tgt := 38) hE dX12_dividesLink_64 (by decide) ?_
      exact z_sub [1, 2, 3, 0] rfl (hk38_7 _ _ h)
  refine z_sub [2, 3, 1, 0] rfl ?_
  obtain ⟨n5, h⟩ := h
  refine z_loop2 (P := fun (v2_12 : Int64) (v4_13 : Int32) => zZ E (zzV Φ) 5 [(0, .ref 0), (1, .int a1), (2, .long v2_12), (4, .int v4_13)] [] μ) (fun k5_13 hk5_13 v2_12 v4_13 h => ?_) n5 _ _ h
  refine z_iload hE dX12_dividesLink_5 3 rfl ?_
  refine z_bipush (v := 7) hE dX12_dividesLink_7 zv_b_7 ?_
  refine z_icmp_ge (tgt := 35) hE dX12_dividesLink_9 (by decide) h (fun h => ?_) (fun h => ?_)
  · exact z_sub [0, 1, 2] rfl (hJ_2 _ h)
  · refine z_aload_n hE dX12_dividesLink_12 rfl 0 rfl ?_
    refine z_getR (t := 11) hE dX12_dividesLink_13 lF_X12_43 sM_0 rfl ?_
    refine z_bipush (v := 7) hE dX12_dividesLink_16 zv_b_7 ?_
    refine z_iload_n hE dX12_dividesLink_18 rfl 1 rfl ?_
    refine z_imul hE dX12_dividesLink_19 ?_
    refine z_iload hE dX12_dividesLink_20 3 rfl ?_
    refine z_iadd hE dX12_dividesLink_22 ?_
    obtain ⟨q_14, h⟩ := h
    refine z_lald hE dX12_dividesLink_23 sM_11 q_14 ?_
    refine z_lload_n hE dX12_dividesLink_24 rfl 2 rfl ?_
    refine z_callS hE dX12_dividesLink_25 lS_X12_158 (c_X12_common _ _ μ _ h) rfl (Nat.le_of_ble_eq_true rfl) (by decide) rfl (zk_PJ (fun r_15 h => ?_))
    refine z_lstore_n (lv' := [(2, .long r_15), (0, .ref 0), (1, .int a1), (4, .int v4_13)]) hE dX12_dividesLink_28 rfl (by decide) rfl ?_
    refine z_iinc (j := 3) (c := 1) (lv' := [(4, .int (v4_13 + (1 : Int32))), (2, .long r_15), (0, .ref 0), (1, .int a1)]) hE dX12_dividesLink_29 rfl zv_i_1 (by decide) rfl ?_
    refine z_goto (tgt := 5) hE dX12_dividesLink_32 (by decide) ?_
    exact z_sub [2, 3, 1, 0] rfl (hk5_13 _ _ h)
set_option maxRecDepth 4000 in
theorem c_X12_factor (a1 : Int32) (a2 : Int32) (a3 : Int32) (μ : ZMem) (Φ : Int32 → ZMem → Prop) (h : w_X12_factor a1 a2 a3 μ Φ) : zM SM yX12_factor cX12_factor 5 (some FieldType.int) 1 [.ref 0, .int a1, .int a2, .int a3] μ (zzI Φ) := by
  refine zM_go (own := RX12) rfl (by decide) (Nat.le_of_ble_eq_true rfl) (fun E hE => ?_)
  show zZ E (zzI Φ) 0 [(0, .ref 0), (1, .int a1), (2, .int a2), (3, .int a3)] [] μ
  unfold w_X12_factor at h
  refine z_iload_n hE dX12_factor_0 rfl 1 rfl ?_
  refine z_i2l hE dX12_factor_1 ?_
  refine z_lconst (v := 0) hE dX12_factor_2 zv_l_0 ?_
  refine z_ldc2 (v := 3) hE dX12_factor_3 lK_X12_105 ?_
  refine z_callS hE dX12_factor_6 lS_X12_83 (c_X12_in _ _ _ μ _ h) rfl (Nat.le_of_ble_eq_true rfl) (by decide) rfl (zk_PI (fun r_1 h => ?_))
  refine z_if_ne (tgt := 14) hE dX12_factor_9 (by decide) h (fun h => ?_) (fun h => ?_)
  · refine z_iload_n hE dX12_factor_14 rfl 1 rfl ?_
    refine z_iconst (v := 2) hE dX12_factor_15 zv_i_2 ?_
    refine z_join (P := fun (J_3 : Prop) => J_3 → zZ E (zzI Φ) 33 [(0, .ref 0), (1, .int a1), (2, .int a2), (3, .int a3)] [] μ) h (fun  h => ?_) (fun J_3 hJ_3 h => ?_)
    · refine z_iload_n hE dX12_factor_33 rfl 1 rfl ?_
      refine z_iconst (v := 2) hE dX12_factor_34 zv_i_2 ?_
      refine z_irem hE dX12_factor_35 (by decide) ?_
      refine z_iconst (v := 1) hE dX12_factor_36 zv_i_1 ?_
      refine z_join (P := fun (J_4 : Prop) => J_4 → zZ E (zzI Φ) 57 [(0, .ref 0), (1, .int a1), (2, .int a2), (3, .int a3)] [] μ) h (fun  h => ?_) (fun J_4 hJ_4 h => ?_)
      · refine z_aload_n hE dX12_factor_57 rfl 0 rfl ?_
        refine z_getR (t := 1) hE dX12_factor_58 lF_X12_11 sM_0 rfl ?_
        refine z_bipush (v := 32) hE dX12_factor_61 zv_b_32 ?_
        refine z_iald hE dX12_factor_63 sM_1 (zin (by decide)) ?_
        refine z_istore (lv' := [(4, .int (μ.1 1 32)), (0, .ref 0), (1, .int a1), (2, .int a2), (3, .int a3)]) hE dX12_factor_64 (by decide) rfl ?_
        refine zn (G := fun v4_5 => zZ E (zzI Φ) 66 [(4, .int v4_5), (0, .ref 0), (1, .int a1), (2, .int a2), (3, .int a3)] [] μ) h (fun v4_5 h => ?_)
        refine z_iload hE dX12_factor_66 0 rfl ?_
        refine z_bipush (v := 6) hE dX12_factor_68 zv_b_6 ?_
        refine z_icmp_ne (tgt := 76) hE dX12_factor_70 (by decide) h (fun h => ?_) (fun h => ?_)
        · refine z_aload_n hE dX12_factor_76 rfl 1 rfl ?_
          refine z_getR (t := 1) hE dX12_factor_77 lF_X12_11 sM_0 rfl ?_
          refine z_bipush (v := 33) hE dX12_factor_80 zv_b_33 ?_
          refine z_iload hE dX12_factor_82 0 rfl ?_
          refine z_iadd hE dX12_factor_84 ?_
          refine z_iload_n hE dX12_factor_85 rfl 2 rfl ?_
          obtain ⟨q_6, h⟩ := h
          refine z_iast hE dX12_factor_86 sM_1 q_6 ?_
          refine zn (G := fun μ_7 => zZ E (zzI Φ) 87 [(4, .int v4_5), (0, .ref 0), (1, .int a1), (2, .int a2), (3, .int a3)] [] μ_7) h (fun μ_7 h => ?_)
          refine z_aload_n hE dX12_factor_87 rfl 1 rfl ?_
          refine z_getR (t := 1) hE dX12_factor_88 lF_X12_11 sM_0 rfl ?_
          refine z_bipush (v := 39) hE dX12_factor_91 zv_b_39 ?_
          refine z_iload hE dX12_factor_93 0 rfl ?_
          refine z_iadd hE dX12_factor_95 ?_
          refine z_iload_n hE dX12_factor_96 rfl 2 rfl ?_
          refine z_iconst (v := 2) hE dX12_factor_97 zv_i_2 ?_
          refine z_join (P := fun (J_9 : Int32 → Prop) => ∀ (x_8 : Int32), J_9 x_8 → zZ E (zzI Φ) 106 [(0, .ref 0), (1, .int a1), (3, .int a3), (4, .int v4_5)] [.int x_8, .int ((39 : Int32) + v4_5), .ref 1] μ_7) h (fun x_8 h => ?_) (fun J_9 hJ_9 h => ?_)
          · obtain ⟨q_10, h⟩ := h
            refine z_iast hE dX12_factor_106 sM_1 q_10 ?_
            refine zn (G := fun μ_11 => zZ E (zzI Φ) 107 [(0, .ref 0), (1, .int a1), (3, .int a3), (4, .int v4_5)] [] μ_11) h (fun μ_11 h => ?_)
            refine z_aload_n hE dX12_factor_107 rfl 0 rfl ?_
            refine z_getR (t := 1) hE dX12_factor_108 lF_X12_11 sM_0 rfl ?_
            refine z_bipush (v := 45) hE dX12_factor_111 zv_b_45 ?_
            refine z_iload hE dX12_factor_113 3 rfl ?_
            refine z_iadd hE dX12_factor_115 ?_
            refine z_iload_n hE dX12_factor_116 rfl 1 rfl ?_
            refine z_iconst (v := 2) hE dX12_factor_117 zv_i_2 ?_
            refine z_irem hE dX12_factor_118 (by decide) ?_
            refine z_iconst (v := 1) hE dX12_factor_119 zv_i_1 ?_
            refine z_join (P := fun (J_13 : Int32 → Prop) => ∀ (x_12 : Int32), J_13 x_12 → zZ E (zzI Φ) 128 [(0, .ref 0)] [.int x_12, .int ((45 : Int32) + v4_5), .ref 1] μ_11) h (fun x_12 h => ?_) (fun J_13 hJ_13 h => ?_)
            · obtain ⟨q_14, h⟩ := h
              refine z_iast hE dX12_factor_128 sM_1 q_14 ?_
              refine zn (G := fun μ_15 => zZ E (zzI Φ) 129 [(0, .ref 0)] [] μ_15) h (fun μ_15 h => ?_)
              refine z_aload_n hE dX12_factor_129 rfl 0 rfl ?_
              refine z_getR (t := 1) hE dX12_factor_130 lF_X12_11 sM_0 rfl ?_
              refine z_bipush (v := 32) hE dX12_factor_133 zv_b_32 ?_
              refine z_dup2 hE dX12_factor_135 rfl rfl ?_
              refine z_iald hE dX12_factor_136 sM_1 (zin (by decide)) ?_
              refine z_iconst (v := 1) hE dX12_factor_137 zv_i_1 ?_
              refine z_iadd hE dX12_factor_138 ?_
              refine z_iast hE dX12_factor_139 sM_1 (zin (by decide)) ?_
              refine zn (G := fun μ_16 => zZ E (zzI Φ) 140 [(0, .ref 0)] [] μ_16) h (fun μ_16 h => ?_)
              refine z_aload_n hE dX12_factor_140 rfl 0 rfl ?_
              refine z_getR (t := 1) hE dX12_factor_141 lF_X12_11 sM_0 rfl ?_
              refine z_bipush (v := 32) hE dX12_factor_144 zv_b_32 ?_
              refine z_iald hE dX12_factor_146 sM_1 (zin (by decide)) ?_
              exact z_iret (st := []) hE dX12_factor_147 rfl ⟨_, rfl, h⟩
            refine z_icmp_ne (tgt := 127) hE dX12_factor_120 (by decide) h (fun h => ?_) (fun h => ?_)
            · refine z_iconst (v := 0) hE dX12_factor_127 zv_i_0 ?_
              exact z_sub [0] rfl (hJ_13 _ h)
            · refine z_iload_n hE dX12_factor_123 rfl 2 rfl ?_
              refine z_goto (tgt := 128) hE dX12_factor_124 (by decide) ?_
              exact z_sub [0] rfl (hJ_13 _ h)
          refine z_icmp_ge (tgt := 105) hE dX12_factor_98 (by decide) h (fun h => ?_) (fun h => ?_)
          · refine z_iconst (v := 0) hE dX12_factor_105 zv_i_0 ?_
            exact z_sub [1, 2, 4, 0] rfl (hJ_9 _ h)
          · refine z_iload_n hE dX12_factor_101 rfl 3 rfl ?_
            refine z_goto (tgt := 106) hE dX12_factor_102 (by decide) ?_
            exact z_sub [1, 2, 4, 0] rfl (hJ_9 _ h)
        · refine z_bipush (v := -4) hE dX12_factor_73 zv_b_m4 ?_
          exact z_iret (st := []) hE dX12_factor_75 rfl ⟨_, rfl, h⟩
      refine z_icmp_ne (tgt := 57) hE dX12_factor_37 (by decide) h (fun h => ?_) (fun h => ?_)
      · exact hJ_4 h
      · refine z_iload_n hE dX12_factor_40 rfl 3 rfl ?_
        refine z_i2l hE dX12_factor_41 ?_
        refine z_ldc2 (v := -20) hE dX12_factor_42 lK_X12_197 ?_
        refine z_ldc2 (v := 20) hE dX12_factor_45 lK_X12_199 ?_
        refine z_callS hE dX12_factor_48 lS_X12_83 (c_X12_in _ _ _ μ _ h) rfl (Nat.le_of_ble_eq_true rfl) (by decide) rfl (zk_PI (fun r_17 h => ?_))
        refine z_if_ne (tgt := 57) hE dX12_factor_51 (by decide) h (fun h => ?_) (fun h => ?_)
        · exact hJ_4 h
        · refine z_bipush (v := -2) hE dX12_factor_54 zv_b_m2 ?_
          exact z_iret (st := []) hE dX12_factor_56 rfl ⟨_, rfl, h⟩
    refine z_icmp_ge (tgt := 33) hE dX12_factor_16 (by decide) h (fun h => ?_) (fun h => ?_)
    · exact hJ_3 h
    · refine z_iload_n hE dX12_factor_19 rfl 2 rfl ?_
      refine z_i2l hE dX12_factor_20 ?_
      refine z_ldc2 (v := -20) hE dX12_factor_21 lK_X12_197 ?_
      refine z_ldc2 (v := 20) hE dX12_factor_24 lK_X12_199 ?_
      refine z_callS hE dX12_factor_27 lS_X12_83 (c_X12_in _ _ _ μ _ h) rfl (Nat.le_of_ble_eq_true rfl) (by decide) rfl (zk_PI (fun r_19 h => ?_))
      refine z_if_eq (tgt := 54) hE dX12_factor_30 (by decide) h (fun h => ?_) (fun h => ?_)
      · refine z_bipush (v := -2) hE dX12_factor_54 zv_b_m2 ?_
        exact z_iret (st := []) hE dX12_factor_56 rfl ⟨_, rfl, h⟩
      · exact hJ_3 h
  · refine z_iconst (v := -1) hE dX12_factor_12 zv_i_m1 ?_
    exact z_iret (st := []) hE dX12_factor_13 rfl ⟨_, rfl, h⟩
set_option maxRecDepth 4000 in
theorem c_X12_feed (a1 : Int32) (μ : ZMem) (Φ : Int32 → ZMem → Prop) (h : w_X12_feed a1 μ Φ) : zM SM yX12_feed cX12_feed 2 (some FieldType.int) 1 [.ref 0, .int a1] μ (zzI Φ) := by
  refine zM_go (own := RX12) rfl (by decide) (Nat.le_of_ble_eq_true rfl) (fun E hE => ?_)
  show zZ E (zzI Φ) 0 [(0, .ref 0), (1, .int a1)] [] μ
  unfold w_X12_feed at h
  refine z_iload_n hE dX12_feed_0 rfl 1 rfl ?_
  refine z_i2l hE dX12_feed_1 ?_
  refine z_lconst (v := 0) hE dX12_feed_2 zv_l_0 ?_
  refine z_ldc2 (v := 127) hE dX12_feed_3 lK_X12_251 ?_
  refine z_callS hE dX12_feed_6 lS_X12_83 (c_X12_in _ _ _ μ _ h) rfl (Nat.le_of_ble_eq_true rfl) (by decide) rfl (zk_PI (fun r_1 h => ?_))
  refine z_if_ne (tgt := 15) hE dX12_feed_9 (by decide) h (fun h => ?_) (fun h => ?_)
  · refine z_aload_n hE dX12_feed_15 rfl 0 rfl ?_
    refine z_getI hE dX12_feed_16 lF_X12_253 sM_0 rfl ?_
    refine z_bipush (v := 60) hE dX12_feed_19 zv_b_60 ?_
    refine z_icmp_ne (tgt := 27) hE dX12_feed_21 (by decide) h (fun h => ?_) (fun h => ?_)
    · refine z_aload_n hE dX12_feed_27 rfl 0 rfl ?_
      refine z_getR (t := 13) hE dX12_feed_28 lF_X12_49 sM_0 rfl ?_
      refine z_aload_n hE dX12_feed_31 rfl 0 rfl ?_
      refine z_getI hE dX12_feed_32 lF_X12_253 sM_0 rfl ?_
      refine z_iload_n hE dX12_feed_35 rfl 1 rfl ?_
      obtain ⟨q_3, h⟩ := h
      refine z_iast hE dX12_feed_36 sM_13 q_3 ?_
      refine zn (G := fun μ_4 => zZ E (zzI Φ) 37 [(0, .ref 0), (1, .int a1)] [] μ_4) h (fun μ_4 h => ?_)
      refine z_aload_n hE dX12_feed_37 rfl 0 rfl ?_
      refine z_dup hE dX12_feed_38 rfl ?_
      refine z_getI hE dX12_feed_39 lF_X12_253 sM_0 rfl ?_
      refine z_iconst (v := 1) hE dX12_feed_42 zv_i_1 ?_
      refine z_iadd hE dX12_feed_43 ?_
      refine z_put hE dX12_feed_44 lF_X12_253 sM_0 rfl rfl rfl ?_
      refine zn (G := fun μ_5 => zZ E (zzI Φ) 47 [(0, .ref 0), (1, .int a1)] [] μ_5) h (fun μ_5 h => ?_)
      refine z_aload_n hE dX12_feed_47 rfl 0 rfl ?_
      refine z_getI hE dX12_feed_48 lF_X12_253 sM_0 rfl ?_
      exact z_iret (st := []) hE dX12_feed_51 rfl ⟨_, rfl, h⟩
    · refine z_bipush (v := -4) hE dX12_feed_24 zv_b_m4 ?_
      exact z_iret (st := []) hE dX12_feed_26 rfl ⟨_, rfl, h⟩
  · refine z_bipush (v := -2) hE dX12_feed_12 zv_b_m2 ?_
    exact z_iret (st := []) hE dX12_feed_14 rfl ⟨_, rfl, h⟩
set_option maxRecDepth 4000 in
theorem c_X12_firstNot (a1 : Int32) (μ : ZMem) (Φ : Int32 → Prop) (h : w_X12_firstNot a1 μ Φ) : zM SM yX12_firstNot cX12_firstNot 3 (some FieldType.int) 1 [.ref 0, .int a1] μ (zzPI Φ μ) := by
  refine zM_go (own := RX12) rfl (by decide) (Nat.le_of_ble_eq_true rfl) (fun E hE => ?_)
  show zZ E (zzPI Φ μ) 0 [(0, .ref 0), (1, .int a1)] [] μ
  unfold w_X12_firstNot at h
  refine z_iconst (v := 0) hE dX12_firstNot_0 zv_i_0 ?_
  refine z_istore_n (lv' := [(2, .int (0 : Int32)), (0, .ref 0), (1, .int a1)]) hE dX12_firstNot_1 rfl (by decide) rfl ?_
  refine z_sub [1, 2, 0] rfl ?_
  obtain ⟨n2, h⟩ := h
  refine z_loop1 (P := fun (v2_1 : Int32) => zZ E (zzPI Φ μ) 2 [(0, .ref 0), (1, .int a1), (2, .int v2_1)] [] μ) (fun k2_1 hk2_1 v2_1 h => ?_) n2 _ h
  refine z_iload_n hE dX12_firstNot_2 rfl 2 rfl ?_
  refine z_aload_n hE dX12_firstNot_3 rfl 0 rfl ?_
  refine z_iload_n hE dX12_firstNot_4 rfl 1 rfl ?_
  refine z_callV hE dX12_firstNot_5 lV_X12_136 (c_X12_itemMany _ μ _ h) sM_0 rfl (Nat.le_of_ble_eq_true rfl) (by decide) rfl (zk_PI (fun r_2 h => ?_))
  refine z_icmp_ge (tgt := 28) hE dX12_firstNot_8 (by decide) h (fun h => ?_) (fun h => ?_)
  · refine z_iload_n hE dX12_firstNot_28 rfl 2 rfl ?_
    exact z_iret (st := []) hE dX12_firstNot_29 rfl ⟨_, rfl, rfl, h⟩
  · refine z_aload_n hE dX12_firstNot_11 rfl 0 rfl ?_
    refine z_iload_n hE dX12_firstNot_12 rfl 1 rfl ?_
    refine z_iload_n hE dX12_firstNot_13 rfl 2 rfl ?_
    refine z_callV hE dX12_firstNot_14 lV_X12_140 (c_X12_item _ _ μ _ h) sM_0 rfl (Nat.le_of_ble_eq_true rfl) (by decide) rfl (zk_PJ (fun r_4 h => ?_))
    refine z_lconst (v := 0) hE dX12_firstNot_17 zv_l_0 ?_
    refine z_ljmp_ne (tgt := 28) hE dX12_firstNot_18 dX12_firstNot_19 (by decide) h (fun h => ?_) (fun h => ?_)
    · refine z_iload_n hE dX12_firstNot_28 rfl 2 rfl ?_
      exact z_iret (st := []) hE dX12_firstNot_29 rfl ⟨_, rfl, rfl, h⟩
    · refine z_iinc (j := 2) (c := 1) (lv' := [(2, .int (v2_1 + (1 : Int32))), (0, .ref 0), (1, .int a1)]) hE dX12_firstNot_22 rfl zv_i_1 (by decide) rfl ?_
      refine z_goto (tgt := 2) hE dX12_firstNot_25 (by decide) ?_
      exact z_sub [1, 2, 0] rfl (hk2_1 _ h)
set_option maxRecDepth 4000 in
theorem c_X12_gain (a1 : Int32) (μ : ZMem) (Φ : Int32 → ZMem → Prop) (h : w_X12_gain a1 μ Φ) : zM SM yX12_gain cX12_gain 2 (some FieldType.int) 1 [.ref 0, .int a1] μ (zzI Φ) := by
  refine zM_go (own := RX12) rfl (by decide) (Nat.le_of_ble_eq_true rfl) (fun E hE => ?_)
  show zZ E (zzI Φ) 0 [(0, .ref 0), (1, .int a1)] [] μ
  unfold w_X12_gain at h
  refine z_iload_n hE dX12_gain_0 rfl 1 rfl ?_
  refine z_i2l hE dX12_gain_1 ?_
  refine z_ldc2 (v := -100) hE dX12_gain_2 lK_X12_101 ?_
  refine z_ldc2 (v := 100) hE dX12_gain_5 lK_X12_103 ?_
  refine z_callS hE dX12_gain_8 lS_X12_83 (c_X12_in _ _ _ μ _ h) rfl (Nat.le_of_ble_eq_true rfl) (by decide) rfl (zk_PI (fun r_1 h => ?_))
  refine z_if_ne (tgt := 17) hE dX12_gain_11 (by decide) h (fun h => ?_) (fun h => ?_)
  · refine z_aload_n hE dX12_gain_17 rfl 0 rfl ?_
    refine z_getR (t := 1) hE dX12_gain_18 lF_X12_11 sM_0 rfl ?_
    refine z_bipush (v := 14) hE dX12_gain_21 zv_b_14 ?_
    refine z_iload_n hE dX12_gain_23 rfl 1 rfl ?_
    refine z_iast hE dX12_gain_24 sM_1 (zin (by decide)) ?_
    refine zn (G := fun μ_3 => zZ E (zzI Φ) 25 [(0, .ref 0), (1, .int a1)] [] μ_3) h (fun μ_3 h => ?_)
    refine z_iconst (v := 1) hE dX12_gain_25 zv_i_1 ?_
    exact z_iret (st := []) hE dX12_gain_26 rfl ⟨_, rfl, h⟩
  · refine z_bipush (v := -2) hE dX12_gain_14 zv_b_m2 ?_
    exact z_iret (st := []) hE dX12_gain_16 rfl ⟨_, rfl, h⟩
set_option maxRecDepth 4000 in
theorem c_X12_goesOn  (μ : ZMem) (Φ : Int32 → ZMem → Prop) (h : w_X12_goesOn μ Φ) : zM SM yX12_goesOn cX12_goesOn 13 (some FieldType.boolean) 1 [.ref 0] μ (zzI Φ) := by
  refine zM_go (own := RX12) rfl (by decide) (Nat.le_of_ble_eq_true rfl) (fun E hE => ?_)
  show zZ E (zzI Φ) 0 [(0, .ref 0)] [] μ
  unfold w_X12_goesOn at h
  refine z_aload_n hE dX12_goesOn_0 rfl 0 rfl ?_
  refine z_getI hE dX12_goesOn_1 lF_X12_229 sM_0 rfl ?_
  refine z_iconst (v := 1) hE dX12_goesOn_4 zv_i_1 ?_
  refine z_isub hE dX12_goesOn_5 ?_
  refine z_istore_n (lv' := [(1, .int ((μ.1 0 19) - (1 : Int32))), (0, .ref 0)]) hE dX12_goesOn_6 rfl (by decide) rfl ?_
  refine zn (G := fun v1_1 => zZ E (zzI Φ) 7 [(1, .int v1_1), (0, .ref 0)] [] μ) h (fun v1_1 h => ?_)
  refine z_aload_n hE dX12_goesOn_7 rfl 1 rfl ?_
  refine z_iload_n hE dX12_goesOn_8 rfl 0 rfl ?_
  refine z_callV hE dX12_goesOn_9 lV_X12_232 (c_X12_degreeOfLink _ μ _ h) sM_0 rfl (Nat.le_of_ble_eq_true rfl) (by decide) rfl (zk_PI (fun r_2 h => ?_))
  refine z_istore_n (lv' := [(2, .int r_2), (1, .int v1_1), (0, .ref 0)]) hE dX12_goesOn_12 rfl (by decide) rfl ?_
  refine z_iconst (v := 0) hE dX12_goesOn_13 zv_i_0 ?_
  refine z_istore_n (lv' := [(3, .int (0 : Int32)), (2, .int r_2), (1, .int v1_1), (0, .ref 0)]) hE dX12_goesOn_14 rfl (by decide) rfl ?_
  refine z_join (P := fun (J_5 : ZMem → Prop) => ∀ (μ_4 : ZMem), J_5 μ_4 → zZ E (zzI Φ) 46 [(0, .ref 0), (1, .int v1_1), (2, .int r_2)] [] μ_4) h (fun μ_4 h => ?_) (fun J_5 hJ_5 h => ?_)
  · refine z_aload_n hE dX12_goesOn_46 rfl 0 rfl ?_
    refine z_getR (t := 11) hE dX12_goesOn_47 lF_X12_43 sM_0 rfl ?_
    refine z_bipush (v := 7) hE dX12_goesOn_50 zv_b_7 ?_
    refine z_iload_n hE dX12_goesOn_52 rfl 1 rfl ?_
    refine z_imul hE dX12_goesOn_53 ?_
    refine z_iload_n hE dX12_goesOn_54 rfl 2 rfl ?_
    refine z_iadd hE dX12_goesOn_55 ?_
    obtain ⟨q_6, h⟩ := h
    refine z_lald hE dX12_goesOn_56 sM_11 q_6 ?_
    refine z_lstore_n (lv' := [(3, .long (μ_4.2 11 (Int32.toNatClampNeg (((7 : Int32) * v1_1) + r_2)))), (0, .ref 0), (1, .int v1_1), (2, .int r_2)]) hE dX12_goesOn_57 rfl (by decide) rfl ?_
    refine zn (G := fun v3_7 => zZ E (zzI Φ) 58 [(3, .long v3_7), (0, .ref 0), (1, .int v1_1), (2, .int r_2)] [] μ_4) h (fun v3_7 h => ?_)
    refine z_lload_n hE dX12_goesOn_58 rfl 0 rfl ?_
    refine z_lconst (v := 0) hE dX12_goesOn_59 zv_l_0 ?_
    refine z_join (P := fun (J_10 : Int64 → ZMem → Prop) => ∀ (x_8 : Int64) (μ_9 : ZMem), J_10 x_8 μ_9 → zZ E (zzI Φ) 73 [(0, .ref 0), (1, .int v1_1), (2, .int r_2), (3, .long v3_7)] [.long x_8] μ_9) h (fun x_8 μ_9 h => ?_) (fun J_10 hJ_10 h => ?_)
    · refine z_lstore (lv' := [(5, .long x_8), (0, .ref 0), (1, .int v1_1), (2, .int r_2), (3, .long v3_7)]) hE dX12_goesOn_73 (by decide) rfl ?_
      refine z_aload_n hE dX12_goesOn_75 rfl 1 rfl ?_
      refine z_getR (t := 12) hE dX12_goesOn_76 lF_X12_46 sM_0 rfl ?_
      refine z_callS hE dX12_goesOn_79 lS_X12_73 (c_X12_degreeOf _ _ sM_12 μ_9 _ h) rfl (Nat.le_of_ble_eq_true rfl) (by decide) rfl (zk_PI (fun r_11 h => ?_))
      refine z_istore (lv' := [(7, .int r_11), (5, .long x_8), (0, .ref 0), (1, .int v1_1), (2, .int r_2), (3, .long v3_7)]) hE dX12_goesOn_82 (by decide) rfl ?_
      refine z_join (P := fun (J_14 : ZMem → Prop) => ∀ (μ_13 : ZMem), J_14 μ_13 → zZ E (zzI Φ) 234 [(0, .ref 0)] [] μ_13) h (fun μ_13 h => ?_) (fun J_14 hJ_14 h => ?_)
      · refine z_iconst (v := 0) hE dX12_goesOn_234 zv_i_0 ?_
        refine z_istore (lv' := [(7, .int (0 : Int32)), (0, .ref 0)]) hE dX12_goesOn_235 (by decide) rfl ?_
        refine z_join (P := fun (J_16 : ZMem → Prop) => ∀ (μ_15 : ZMem), J_16 μ_15 → zZ E (zzI Φ) 283 [(0, .ref 0)] [] μ_15) h (fun μ_15 h => ?_) (fun J_16 hJ_16 h => ?_)
        · refine z_aload_n hE dX12_goesOn_283 rfl 0 rfl ?_
          refine z_getI hE dX12_goesOn_284 lF_X12_69 sM_0 rfl ?_
          refine z_if_ne (tgt := 304) hE dX12_goesOn_287 (by decide) h (fun h => ?_) (fun h => ?_)
          · refine z_iconst (v := 0) hE dX12_goesOn_304 zv_i_0 ?_
            exact z_zret (st := []) hE dX12_goesOn_305 rfl (by decide) ⟨_, rfl, h⟩
          · refine z_aload_n hE dX12_goesOn_290 rfl 0 rfl ?_
            refine z_getR (t := 12) hE dX12_goesOn_291 lF_X12_46 sM_0 rfl ?_
            refine z_callS hE dX12_goesOn_294 lS_X12_73 (c_X12_degreeOf _ _ sM_12 μ_15 _ h) rfl (Nat.le_of_ble_eq_true rfl) (by decide) rfl (zk_PI (fun r_17 h => ?_))
            refine z_if_lt (tgt := 304) hE dX12_goesOn_297 (by decide) h (fun h => ?_) (fun h => ?_)
            · refine z_iconst (v := 0) hE dX12_goesOn_304 zv_i_0 ?_
              exact z_zret (st := []) hE dX12_goesOn_305 rfl (by decide) ⟨_, rfl, h⟩
            · refine z_iconst (v := 1) hE dX12_goesOn_300 zv_i_1 ?_
              refine z_goto (tgt := 305) hE dX12_goesOn_301 (by decide) ?_
              exact z_zret (st := []) hE dX12_goesOn_305 rfl (by decide) ⟨_, rfl, h⟩
        refine z_sub [1, 0] rfl ?_
        obtain ⟨n237, h⟩ := h
        refine z_loop2 (P := fun (v7_19 : Int32) (μ_20 : ZMem) => zZ E (zzI Φ) 237 [(0, .ref 0), (7, .int v7_19)] [] μ_20) (fun k237_20 hk237_20 v7_19 μ_20 h => ?_) n237 _ _ h
        refine z_iload hE dX12_goesOn_237 1 rfl ?_
        refine z_bipush (v := 7) hE dX12_goesOn_239 zv_b_7 ?_
        refine z_icmp_ge (tgt := 283) hE dX12_goesOn_241 (by decide) h (fun h => ?_) (fun h => ?_)
        · exact z_sub [0] rfl (hJ_16 _ h)
        · refine z_aload_n hE dX12_goesOn_244 rfl 0 rfl ?_
          refine z_getI hE dX12_goesOn_245 lF_X12_69 sM_0 rfl ?_
          refine z_if_ne (tgt := 283) hE dX12_goesOn_248 (by decide) h (fun h => ?_) (fun h => ?_)
          · exact z_sub [0] rfl (hJ_16 _ h)
          · refine z_aload_n hE dX12_goesOn_251 rfl 0 rfl ?_
            refine z_getR (t := 11) hE dX12_goesOn_252 lF_X12_43 sM_0 rfl ?_
            refine z_bipush (v := 7) hE dX12_goesOn_255 zv_b_7 ?_
            refine z_aload_n hE dX12_goesOn_257 rfl 0 rfl ?_
            refine z_getI hE dX12_goesOn_258 lF_X12_229 sM_0 rfl ?_
            refine z_imul hE dX12_goesOn_261 ?_
            refine z_iload hE dX12_goesOn_262 1 rfl ?_
            refine z_iadd hE dX12_goesOn_264 ?_
            refine z_aload_n hE dX12_goesOn_265 rfl 0 rfl ?_
            refine z_aload_n hE dX12_goesOn_266 rfl 0 rfl ?_
            refine z_getR (t := 12) hE dX12_goesOn_267 lF_X12_46 sM_0 rfl ?_
            refine z_iload hE dX12_goesOn_270 1 rfl ?_
            obtain ⟨q_21, h⟩ := h
            refine z_lald hE dX12_goesOn_272 sM_12 q_21 ?_
            refine z_callV hE dX12_goesOn_273 lV_X12_147 (c_X12_turned _ μ_20 _ h) sM_0 rfl (Nat.le_of_ble_eq_true rfl) (by decide) rfl (zk_J (fun r_22 μ_23 h => ?_))
            obtain ⟨q_24, h⟩ := h
            refine z_last hE dX12_goesOn_276 sM_11 q_24 ?_
            refine zn (G := fun μ_25 => zZ E (zzI Φ) 277 [(0, .ref 0), (7, .int v7_19)] [] μ_25) h (fun μ_25 h => ?_)
            refine z_iinc (j := 1) (c := 1) (lv' := [(7, .int (v7_19 + (1 : Int32))), (0, .ref 0)]) hE dX12_goesOn_277 rfl zv_i_1 (by decide) rfl ?_
            refine z_goto (tgt := 237) hE dX12_goesOn_280 (by decide) ?_
            exact z_sub [1, 0] rfl (hk237_20 _ _ h)
      refine z_sub [2, 3, 4, 5, 1, 0] rfl ?_
      obtain ⟨n84, h⟩ := h
      refine z_loop2 (P := fun (v7_26 : Int32) (μ_27 : ZMem) => zZ E (zzI Φ) 84 [(0, .ref 0), (1, .int v1_1), (2, .int r_2), (3, .long v3_7), (5, .long x_8), (7, .int v7_26)] [] μ_27) (fun k84_27 hk84_27 v7_26 μ_27 h => ?_) n84 _ _ h
      refine z_iload hE dX12_goesOn_84 5 rfl ?_
      refine z_iload_n hE dX12_goesOn_86 rfl 2 rfl ?_
      refine z_icmp_lt (tgt := 234) hE dX12_goesOn_87 (by decide) h (fun h => ?_) (fun h => ?_)
      · exact z_sub [0] rfl (hJ_14 _ h)
      · refine z_aload_n hE dX12_goesOn_90 rfl 0 rfl ?_
        refine z_getI hE dX12_goesOn_91 lF_X12_69 sM_0 rfl ?_
        refine z_if_ne (tgt := 234) hE dX12_goesOn_94 (by decide) h (fun h => ?_) (fun h => ?_)
        · exact z_sub [0] rfl (hJ_14 _ h)
        · refine z_aload_n hE dX12_goesOn_97 rfl 0 rfl ?_
          refine z_getR (t := 12) hE dX12_goesOn_98 lF_X12_46 sM_0 rfl ?_
          refine z_iload hE dX12_goesOn_101 5 rfl ?_
          obtain ⟨q_28, h⟩ := h
          refine z_lald hE dX12_goesOn_103 sM_12 q_28 ?_
          refine z_lstore (lv' := [(8, .long (μ_27.2 12 (Int32.toNatClampNeg v7_26))), (0, .ref 0), (1, .int v1_1), (2, .int r_2), (3, .long v3_7), (5, .long x_8), (7, .int v7_26)]) hE dX12_goesOn_104 (by decide) rfl ?_
          refine zn (G := fun v8_29 => zZ E (zzI Φ) 106 [(8, .long v8_29), (0, .ref 0), (1, .int v1_1), (2, .int r_2), (3, .long v3_7), (5, .long x_8), (7, .int v7_26)] [] μ_27) h (fun v8_29 h => ?_)
          refine z_iconst (v := 0) hE dX12_goesOn_106 zv_i_0 ?_
          refine z_istore (lv' := [(10, .int (0 : Int32)), (8, .long v8_29), (0, .ref 0), (1, .int v1_1), (2, .int r_2), (3, .long v3_7), (5, .long x_8), (7, .int v7_26)]) hE dX12_goesOn_107 (by decide) rfl ?_
          refine z_join (P := fun (J_31 : ZMem → Prop) => ∀ (μ_30 : ZMem), J_31 μ_30 → zZ E (zzI Φ) 142 [(0, .ref 0), (1, .int v1_1), (2, .int r_2), (3, .long v3_7), (5, .long x_8), (7, .int v7_26), (8, .long v8_29)] [] μ_30) h (fun μ_30 h => ?_) (fun J_31 hJ_31 h => ?_)
          · refine z_iconst (v := 0) hE dX12_goesOn_142 zv_i_0 ?_
            refine z_istore (lv' := [(10, .int (0 : Int32)), (0, .ref 0), (1, .int v1_1), (2, .int r_2), (3, .long v3_7), (5, .long x_8), (7, .int v7_26), (8, .long v8_29)]) hE dX12_goesOn_143 (by decide) rfl ?_
            refine z_join (P := fun (J_33 : ZMem → Prop) => ∀ (μ_32 : ZMem), J_33 μ_32 → zZ E (zzI Φ) 222 [(0, .ref 0), (1, .int v1_1), (2, .int r_2), (3, .long v3_7), (5, .long x_8)] [] μ_32) h (fun μ_32 h => ?_) (fun J_33 hJ_33 h => ?_)
            · refine z_aload_n hE dX12_goesOn_222 rfl 0 rfl ?_
              refine z_getR (t := 12) hE dX12_goesOn_223 lF_X12_46 sM_0 rfl ?_
              refine z_callS hE dX12_goesOn_226 lS_X12_73 (c_X12_degreeOf _ _ sM_12 μ_32 _ h) rfl (Nat.le_of_ble_eq_true rfl) (by decide) rfl (zk_PI (fun r_34 h => ?_))
              refine z_istore (lv' := [(7, .int r_34), (0, .ref 0), (1, .int v1_1), (2, .int r_2), (3, .long v3_7), (5, .long x_8)]) hE dX12_goesOn_229 (by decide) rfl ?_
              refine z_goto (tgt := 84) hE dX12_goesOn_231 (by decide) ?_
              exact z_sub [1, 2, 3, 4, 5, 0] rfl (hk84_27 _ _ h)
            refine z_sub [1, 2, 3, 4, 5, 6, 7, 0] rfl ?_
            obtain ⟨n145, h⟩ := h
            refine z_loop2 (P := fun (v10_36 : Int32) (μ_37 : ZMem) => zZ E (zzI Φ) 145 [(0, .ref 0), (1, .int v1_1), (2, .int r_2), (3, .long v3_7), (5, .long x_8), (7, .int v7_26), (8, .long v8_29), (10, .int v10_36)] [] μ_37) (fun k145_37 hk145_37 v10_36 μ_37 h => ?_) n145 _ _ h
            refine z_iload hE dX12_goesOn_145 7 rfl ?_
            refine z_iload_n hE dX12_goesOn_147 rfl 2 rfl ?_
            refine z_icmp_gt (tgt := 222) hE dX12_goesOn_148 (by decide) h (fun h => ?_) (fun h => ?_)
            · exact z_sub [0, 1, 2, 3, 4] rfl (hJ_33 _ h)
            · refine z_aload_n hE dX12_goesOn_151 rfl 0 rfl ?_
              refine z_lload hE dX12_goesOn_152 6 rfl ?_
              refine z_aload_n hE dX12_goesOn_154 rfl 0 rfl ?_
              refine z_getR (t := 11) hE dX12_goesOn_155 lF_X12_43 sM_0 rfl ?_
              refine z_bipush (v := 7) hE dX12_goesOn_158 zv_b_7 ?_
              refine z_iload_n hE dX12_goesOn_160 rfl 1 rfl ?_
              refine z_imul hE dX12_goesOn_161 ?_
              refine z_iload hE dX12_goesOn_162 7 rfl ?_
              refine z_iadd hE dX12_goesOn_164 ?_
              obtain ⟨q_38, h⟩ := h
              refine z_lald hE dX12_goesOn_165 sM_11 q_38 ?_
              refine z_callV hE dX12_goesOn_166 lV_X12_151 (c_X12_times _ _ μ_37 _ h) sM_0 rfl (Nat.le_of_ble_eq_true rfl) (by decide) rfl (zk_J (fun r_39 μ_40 h => ?_))
              refine z_lstore (lv' := [(11, .long r_39), (0, .ref 0), (1, .int v1_1), (2, .int r_2), (3, .long v3_7), (5, .long x_8), (7, .int v7_26), (8, .long v8_29), (10, .int v10_36)]) hE dX12_goesOn_169 (by decide) rfl ?_
              refine z_aload_n hE dX12_goesOn_171 rfl 1 rfl ?_
              refine z_getR (t := 12) hE dX12_goesOn_172 lF_X12_46 sM_0 rfl ?_
              refine z_iload hE dX12_goesOn_175 8 rfl ?_
              refine z_iload hE dX12_goesOn_177 6 rfl ?_
              refine z_iadd hE dX12_goesOn_179 ?_
              refine z_iload_n hE dX12_goesOn_180 rfl 3 rfl ?_
              refine z_isub hE dX12_goesOn_181 ?_
              refine z_aload_n hE dX12_goesOn_182 rfl 1 rfl ?_
              refine z_aload_n hE dX12_goesOn_183 rfl 1 rfl ?_
              refine z_getR (t := 12) hE dX12_goesOn_184 lF_X12_46 sM_0 rfl ?_
              refine z_iload hE dX12_goesOn_187 8 rfl ?_
              refine z_iload hE dX12_goesOn_189 6 rfl ?_
              refine z_iadd hE dX12_goesOn_191 ?_
              refine z_iload_n hE dX12_goesOn_192 rfl 3 rfl ?_
              refine z_isub hE dX12_goesOn_193 ?_
              obtain ⟨q_41, h⟩ := h
              refine z_lald hE dX12_goesOn_194 sM_12 q_41 ?_
              refine z_lload_n hE dX12_goesOn_195 rfl 4 rfl ?_
              refine z_lconst (v := 0) hE dX12_goesOn_196 zv_l_0 ?_
              refine z_join (P := fun (J_44 : Int64 → ZMem → Prop) => ∀ (x_42 : Int64) (μ_43 : ZMem), J_44 x_42 μ_43 → zZ E (zzI Φ) 212 [(0, .ref 0), (1, .int v1_1), (2, .int r_2), (3, .long v3_7), (5, .long x_8), (7, .int v7_26), (8, .long v8_29), (10, .int v10_36)] [.long x_42, .long (μ_40.2 12 (Int32.toNatClampNeg ((v10_36 + v7_26) - r_2))), .ref 0, .int ((v10_36 + v7_26) - r_2), .ref 12] μ_43) h (fun x_42 μ_43 h => ?_) (fun J_44 hJ_44 h => ?_)
              · refine z_callV hE dX12_goesOn_212 lV_X12_161 (c_X12_less _ _ μ_43 _ h) sM_0 rfl (Nat.le_of_ble_eq_true rfl) (by decide) rfl (zk_J (fun r_45 μ_46 h => ?_))
                obtain ⟨q_47, h⟩ := h
                refine z_last hE dX12_goesOn_215 sM_12 q_47 ?_
                refine zn (G := fun μ_48 => zZ E (zzI Φ) 216 [(0, .ref 0), (1, .int v1_1), (2, .int r_2), (3, .long v3_7), (5, .long x_8), (7, .int v7_26), (8, .long v8_29), (10, .int v10_36)] [] μ_48) h (fun μ_48 h => ?_)
                refine z_iinc (j := 7) (c := 1) (lv' := [(10, .int (v10_36 + (1 : Int32))), (0, .ref 0), (1, .int v1_1), (2, .int r_2), (3, .long v3_7), (5, .long x_8), (7, .int v7_26), (8, .long v8_29)]) hE dX12_goesOn_216 rfl zv_i_1 (by decide) rfl ?_
                refine z_goto (tgt := 145) hE dX12_goesOn_219 (by decide) ?_
                exact z_sub [1, 2, 3, 4, 5, 6, 7, 0] rfl (hk145_37 _ _ h)
              refine z_ljmp_ge (tgt := 210) hE dX12_goesOn_197 dX12_goesOn_198 (by decide) h (fun h => ?_) (fun h => ?_)
              · refine z_lload hE dX12_goesOn_210 0 rfl ?_
                exact z_sub [1, 2, 3, 4, 5, 6, 7, 8] rfl (hJ_44 _ _ h)
              · refine z_aload_n hE dX12_goesOn_201 rfl 1 rfl ?_
                refine z_lload hE dX12_goesOn_202 0 rfl ?_
                refine z_callV hE dX12_goesOn_204 lV_X12_147 (c_X12_turned _ μ_40 _ h) sM_0 rfl (Nat.le_of_ble_eq_true rfl) (by decide) rfl (zk_J (fun r_49 μ_50 h => ?_))
                refine z_goto (tgt := 212) hE dX12_goesOn_207 (by decide) ?_
                exact z_sub [1, 2, 3, 4, 5, 6, 7, 8] rfl (hJ_44 _ _ h)
          refine z_sub [2, 3, 4, 5, 6, 7, 1, 0] rfl ?_
          obtain ⟨n109, h⟩ := h
          refine z_loop2 (P := fun (v10_51 : Int32) (μ_52 : ZMem) => zZ E (zzI Φ) 109 [(0, .ref 0), (1, .int v1_1), (2, .int r_2), (3, .long v3_7), (5, .long x_8), (7, .int v7_26), (8, .long v8_29), (10, .int v10_51)] [] μ_52) (fun k109_52 hk109_52 v10_51 μ_52 h => ?_) n109 _ _ h
          refine z_iload hE dX12_goesOn_109 7 rfl ?_
          refine z_bipush (v := 7) hE dX12_goesOn_111 zv_b_7 ?_
          refine z_icmp_ge (tgt := 142) hE dX12_goesOn_113 (by decide) h (fun h => ?_) (fun h => ?_)
          · exact z_sub [0, 1, 2, 3, 4, 5, 6] rfl (hJ_31 _ h)
          · refine z_aload_n hE dX12_goesOn_116 rfl 0 rfl ?_
            refine z_getR (t := 12) hE dX12_goesOn_117 lF_X12_46 sM_0 rfl ?_
            refine z_iload hE dX12_goesOn_120 7 rfl ?_
            refine z_aload_n hE dX12_goesOn_122 rfl 0 rfl ?_
            refine z_aload_n hE dX12_goesOn_123 rfl 0 rfl ?_
            refine z_getR (t := 12) hE dX12_goesOn_124 lF_X12_46 sM_0 rfl ?_
            refine z_iload hE dX12_goesOn_127 7 rfl ?_
            obtain ⟨q_53, h⟩ := h
            refine z_lald hE dX12_goesOn_129 sM_12 q_53 ?_
            refine z_lload hE dX12_goesOn_130 4 rfl ?_
            refine z_callV hE dX12_goesOn_132 lV_X12_151 (c_X12_times _ _ μ_52 _ h) sM_0 rfl (Nat.le_of_ble_eq_true rfl) (by decide) rfl (zk_J (fun r_54 μ_55 h => ?_))
            obtain ⟨q_56, h⟩ := h
            refine z_last hE dX12_goesOn_135 sM_12 q_56 ?_
            refine zn (G := fun μ_57 => zZ E (zzI Φ) 136 [(0, .ref 0), (1, .int v1_1), (2, .int r_2), (3, .long v3_7), (5, .long x_8), (7, .int v7_26), (8, .long v8_29), (10, .int v10_51)] [] μ_57) h (fun μ_57 h => ?_)
            refine z_iinc (j := 7) (c := 1) (lv' := [(10, .int (v10_51 + (1 : Int32))), (0, .ref 0), (1, .int v1_1), (2, .int r_2), (3, .long v3_7), (5, .long x_8), (7, .int v7_26), (8, .long v8_29)]) hE dX12_goesOn_136 rfl zv_i_1 (by decide) rfl ?_
            refine z_goto (tgt := 109) hE dX12_goesOn_139 (by decide) ?_
            exact z_sub [1, 2, 3, 4, 5, 6, 7, 0] rfl (hk109_52 _ _ h)
    refine z_ljmp_ge (tgt := 72) hE dX12_goesOn_60 dX12_goesOn_61 (by decide) h (fun h => ?_) (fun h => ?_)
    · refine z_lload_n hE dX12_goesOn_72 rfl 0 rfl ?_
      exact z_sub [1, 2, 3, 0] rfl (hJ_10 _ _ h)
    · refine z_aload_n hE dX12_goesOn_64 rfl 1 rfl ?_
      refine z_lload_n hE dX12_goesOn_65 rfl 0 rfl ?_
      refine z_callV hE dX12_goesOn_66 lV_X12_147 (c_X12_turned _ μ_4 _ h) sM_0 rfl (Nat.le_of_ble_eq_true rfl) (by decide) rfl (zk_J (fun r_58 μ_59 h => ?_))
      refine z_goto (tgt := 73) hE dX12_goesOn_69 (by decide) ?_
      exact z_sub [1, 2, 3, 0] rfl (hJ_10 _ _ h)
  refine z_sub [3, 2, 1, 0] rfl ?_
  obtain ⟨n15, h⟩ := h
  refine z_loop2 (P := fun (v3_60 : Int32) (μ_61 : ZMem) => zZ E (zzI Φ) 15 [(0, .ref 0), (1, .int v1_1), (2, .int r_2), (3, .int v3_60)] [] μ_61) (fun k15_61 hk15_61 v3_60 μ_61 h => ?_) n15 _ _ h
  refine z_iload_n hE dX12_goesOn_15 rfl 3 rfl ?_
  refine z_bipush (v := 7) hE dX12_goesOn_16 zv_b_7 ?_
  refine z_icmp_ge (tgt := 46) hE dX12_goesOn_18 (by decide) h (fun h => ?_) (fun h => ?_)
  · exact z_sub [0, 1, 2] rfl (hJ_5 _ h)
  · refine z_aload_n hE dX12_goesOn_21 rfl 0 rfl ?_
    refine z_getR (t := 12) hE dX12_goesOn_22 lF_X12_46 sM_0 rfl ?_
    refine z_iload_n hE dX12_goesOn_25 rfl 3 rfl ?_
    refine z_aload_n hE dX12_goesOn_26 rfl 0 rfl ?_
    refine z_getR (t := 11) hE dX12_goesOn_27 lF_X12_43 sM_0 rfl ?_
    refine z_bipush (v := 7) hE dX12_goesOn_30 zv_b_7 ?_
    refine z_iload_n hE dX12_goesOn_32 rfl 1 rfl ?_
    refine z_iconst (v := 1) hE dX12_goesOn_33 zv_i_1 ?_
    refine z_isub hE dX12_goesOn_34 ?_
    refine z_imul hE dX12_goesOn_35 ?_
    refine z_iload_n hE dX12_goesOn_36 rfl 3 rfl ?_
    refine z_iadd hE dX12_goesOn_37 ?_
    obtain ⟨q_62, h⟩ := h
    refine z_lald hE dX12_goesOn_38 sM_11 q_62 ?_
    obtain ⟨q_63, h⟩ := h
    refine z_last hE dX12_goesOn_39 sM_12 q_63 ?_
    refine zn (G := fun μ_64 => zZ E (zzI Φ) 40 [(0, .ref 0), (1, .int v1_1), (2, .int r_2), (3, .int v3_60)] [] μ_64) h (fun μ_64 h => ?_)
    refine z_iinc (j := 3) (c := 1) (lv' := [(3, .int (v3_60 + (1 : Int32))), (0, .ref 0), (1, .int v1_1), (2, .int r_2)]) hE dX12_goesOn_40 rfl zv_i_1 (by decide) rfl ?_
    refine z_goto (tgt := 15) hE dX12_goesOn_43 (by decide) ?_
    exact z_sub [1, 2, 3, 0] rfl (hk15_61 _ _ h)
set_option maxRecDepth 4000 in
theorem c_X12_image  (μ : ZMem) (Φ : Int32 → ZMem → Prop) (h : w_X12_image μ Φ) : zM SM yX12_image cX12_image 1 (some FieldType.int) 1 [.ref 0] μ (zzI Φ) := by
  refine zM_go (own := RX12) rfl (by decide) (Nat.le_of_ble_eq_true rfl) (fun E hE => ?_)
  show zZ E (zzI Φ) 0 [(0, .ref 0)] [] μ
  unfold w_X12_image at h
  refine z_aload_n hE dX12_image_0 rfl 0 rfl ?_
  refine z_getR (t := 1) hE dX12_image_1 lF_X12_11 sM_0 rfl ?_
  refine z_aload_n hE dX12_image_4 rfl 0 rfl ?_
  refine z_getR (t := 2) hE dX12_image_5 lF_X12_15 sM_0 rfl ?_
  refine z_callS hE dX12_image_8 lS_X12_348 (c_X12_copies _ _ _ _ sM_1 sM_2 μ _ h) rfl (Nat.le_of_ble_eq_true rfl) (by decide) rfl (zk_V (fun μ_2 h => ?_))
  refine z_aload_n hE dX12_image_11 rfl 0 rfl ?_
  refine z_iconst (v := 1) hE dX12_image_12 zv_i_1 ?_
  refine z_put hE dX12_image_13 lF_X12_352 sM_0 rfl (by decide) (by decide) ?_
  refine zn (G := fun μ_3 => zZ E (zzI Φ) 16 [(0, .ref 0)] [] μ_3) h (fun μ_3 h => ?_)
  refine z_aload_n hE dX12_image_16 rfl 0 rfl ?_
  refine z_getR (t := 1) hE dX12_image_17 lF_X12_11 sM_0 rfl ?_
  refine z_bipush (v := 15) hE dX12_image_20 zv_b_15 ?_
  refine z_iald hE dX12_image_22 sM_1 (zin (by decide)) ?_
  exact z_iret (st := []) hE dX12_image_23 rfl ⟨_, rfl, h⟩
set_option maxRecDepth 4000 in
theorem c_X12_isDigit  (μ : ZMem) (Φ : Int32 → Prop) (h : w_X12_isDigit μ Φ) : zM SM yX12_isDigit cX12_isDigit 1 (some FieldType.boolean) 1 [.ref 0] μ (zzPI Φ μ) := by
  refine zM_go (own := RX12) rfl (by decide) (Nat.le_of_ble_eq_true rfl) (fun E hE => ?_)
  show zZ E (zzPI Φ μ) 0 [(0, .ref 0)] [] μ
  unfold w_X12_isDigit at h
  refine z_aload_n hE dX12_isDigit_0 rfl 0 rfl ?_
  refine z_callV hE dX12_isDigit_1 lV_X12_259 (c_X12_here  μ _ h) sM_0 rfl (Nat.le_of_ble_eq_true rfl) (by decide) rfl (zk_PI (fun r_1 h => ?_))
  refine z_i2l hE dX12_isDigit_4 ?_
  refine z_ldc2 (v := 48) hE dX12_isDigit_5 lK_X12_262 ?_
  refine z_ldc2 (v := 57) hE dX12_isDigit_8 lK_X12_264 ?_
  refine z_callS hE dX12_isDigit_11 lS_X12_83 (c_X12_in _ _ _ μ _ h) rfl (Nat.le_of_ble_eq_true rfl) (by decide) rfl (zk_PI (fun r_3 h => ?_))
  obtain ⟨q_5, h⟩ := h
  exact z_zret (st := []) hE dX12_isDigit_14 rfl (zb_n q_5) ⟨_, rfl, rfl, h⟩
