set_option maxRecDepth 4000 in
theorem c_X4_isGreat (k0 n0 : Nat) (h0 : SX[k0]? = some (2, n0, [])) (μ : ZMem) (Φ : Int32 → Prop) (h : w_X4_isGreat k0 n0 μ Φ) : zM SX yX4_isGreat cX4_isGreat 2 (some FieldType.boolean) 0 [.ref k0] μ (zzPI Φ μ) := by
  refine zM_go (own := RX4) rfl (by decide) (Nat.le_of_ble_eq_true rfl) (fun E hE => ?_)
  show zZ E (zzPI Φ μ) 0 [(0, .ref k0)] [] μ
  unfold w_X4_isGreat at h
  refine z_iconst (v := 0) hE dX4_isGreat_0 zv_i_0 ?_
  refine z_istore_n (lv' := [(1, .int (0 : Int32)), (0, .ref k0)]) hE dX4_isGreat_1 rfl (by decide) rfl ?_
  refine z_sub [1, 0] rfl ?_
  obtain ⟨n2, h⟩ := h
  refine z_loop1 (P := fun (v1_1 : Int32) => zZ E (zzPI Φ μ) 2 [(0, .ref k0), (1, .int v1_1)] [] μ) (fun k2_1 hk2_1 v1_1 h => ?_) n2 _ h
  refine z_iload_n hE dX4_isGreat_2 rfl 1 rfl ?_
  refine z_aload_n hE dX4_isGreat_3 rfl 0 rfl ?_
  refine z_alenJ hE dX4_isGreat_4 h0 rfl ?_
  refine z_icmp_ge (tgt := 26) hE dX4_isGreat_5 (by decide) h (fun h => ?_) (fun h => ?_)
  · refine z_iconst (v := 0) hE dX4_isGreat_26 zv_i_0 ?_
    exact z_zret (st := []) hE dX4_isGreat_27 rfl (by decide) ⟨_, rfl, rfl, h⟩
  · refine z_aload_n hE dX4_isGreat_8 rfl 0 rfl ?_
    refine z_iload_n hE dX4_isGreat_9 rfl 1 rfl ?_
    obtain ⟨q_2, h⟩ := h
    refine z_lald hE dX4_isGreat_10 h0 q_2 ?_
    refine z_ldc2 (v := -9223372036854775808) hE dX4_isGreat_11 lK_X4_9 ?_
    refine z_ljmp_ne (tgt := 20) hE dX4_isGreat_14 dX4_isGreat_15 (by decide) h (fun h => ?_) (fun h => ?_)
    · refine z_iinc (j := 1) (c := 1) (lv' := [(1, .int (v1_1 + (1 : Int32))), (0, .ref k0)]) hE dX4_isGreat_20 rfl zv_i_1 (by decide) rfl ?_
      refine z_goto (tgt := 2) hE dX4_isGreat_23 (by decide) ?_
      exact z_sub [1, 0] rfl (hk2_1 _ h)
    · refine z_iconst (v := 1) hE dX4_isGreat_18 zv_i_1 ?_
      exact z_zret (st := []) hE dX4_isGreat_19 rfl (by decide) ⟨_, rfl, rfl, h⟩
set_option maxRecDepth 4000 in
theorem c_X4_mix (k0 n0 : Nat) (a1 : Int32) (k2 n2 : Nat) (a3 : Int32) (k4 n4 : Nat) (h0 : SX[k0]? = some (2, n0, [])) (h2 : SX[k2]? = some (2, n2, [])) (h4 : SX[k4]? = some (2, n4, [])) (μ : ZMem) (Φ : ZMem → Prop) (h : w_X4_mix k0 n0 a1 k2 n2 a3 k4 n4 μ Φ) : zM SX yX4_mix cX4_mix 6 (none) 0 [.ref k0, .int a1, .ref k2, .int a3, .ref k4] μ (zzV Φ) := by
  refine zM_go (own := RX4) rfl (by decide) (Nat.le_of_ble_eq_true rfl) (fun E hE => ?_)
  show zZ E (zzV Φ) 0 [(0, .ref k0), (1, .int a1), (2, .ref k2), (3, .int a3), (4, .ref k4)] [] μ
  unfold w_X4_mix at h
  refine z_iconst (v := 0) hE dX4_mix_0 zv_i_0 ?_
  refine z_istore (lv' := [(5, .int (0 : Int32)), (0, .ref k0), (1, .int a1), (2, .ref k2), (3, .int a3), (4, .ref k4)]) hE dX4_mix_1 (by decide) rfl ?_
  refine z_sub [1, 2, 3, 4, 5, 0] rfl ?_
  obtain ⟨n3, h⟩ := h
  refine z_loop2 (P := fun (v5_1 : Int32) (μ_2 : ZMem) => zZ E (zzV Φ) 3 [(0, .ref k0), (1, .int a1), (2, .ref k2), (3, .int a3), (4, .ref k4), (5, .int v5_1)] [] μ_2) (fun k3_2 hk3_2 v5_1 μ_2 h => ?_) n3 _ _ h
  refine z_iload hE dX4_mix_3 5 rfl ?_
  refine z_bipush (v := 7) hE dX4_mix_5 zv_b_7 ?_
  refine z_icmp_ge (tgt := 36) hE dX4_mix_7 (by decide) h (fun h => ?_) (fun h => ?_)
  · exact z_vret (st := []) hE dX4_mix_36 rfl ⟨rfl, h⟩
  · refine z_aload hE dX4_mix_10 4 rfl ?_
    refine z_iload hE dX4_mix_12 5 rfl ?_
    refine z_iload_n hE dX4_mix_14 rfl 1 rfl ?_
    refine z_i2l hE dX4_mix_15 ?_
    refine z_aload_n hE dX4_mix_16 rfl 0 rfl ?_
    refine z_iload hE dX4_mix_17 5 rfl ?_
    obtain ⟨q_3, h⟩ := h
    refine z_lald hE dX4_mix_19 h0 q_3 ?_
    refine z_lmul hE dX4_mix_20 ?_
    refine z_iload_n hE dX4_mix_21 rfl 3 rfl ?_
    refine z_i2l hE dX4_mix_22 ?_
    refine z_aload_n hE dX4_mix_23 rfl 2 rfl ?_
    refine z_iload hE dX4_mix_24 5 rfl ?_
    obtain ⟨q_4, h⟩ := h
    refine z_lald hE dX4_mix_26 h2 q_4 ?_
    refine z_lmul hE dX4_mix_27 ?_
    refine z_ladd hE dX4_mix_28 ?_
    obtain ⟨q_5, h⟩ := h
    refine z_last hE dX4_mix_29 h4 q_5 ?_
    refine zn (G := fun μ_6 => zZ E (zzV Φ) 30 [(0, .ref k0), (1, .int a1), (2, .ref k2), (3, .int a3), (4, .ref k4), (5, .int v5_1)] [] μ_6) h (fun μ_6 h => ?_)
    refine z_iinc (j := 5) (c := 1) (lv' := [(5, .int (v5_1 + (1 : Int32))), (0, .ref k0), (1, .int a1), (2, .ref k2), (3, .int a3), (4, .ref k4)]) hE dX4_mix_30 rfl zv_i_1 (by decide) rfl ?_
    refine z_goto (tgt := 3) hE dX4_mix_33 (by decide) ?_
    exact z_sub [1, 2, 3, 4, 5, 0] rfl (hk3_2 _ _ h)
set_option maxRecDepth 4000 in
theorem c_X4_stretch (k0 n0 : Nat) (a1 : Int32) (h0 : SX[k0]? = some (2, n0, [])) (μ : ZMem) (Φ : ZMem → Prop) (h : w_X4_stretch k0 n0 a1 μ Φ) : zM SX yX4_stretch cX4_stretch 3 (none) 0 [.ref k0, .int a1] μ (zzV Φ) := by
  refine zM_go (own := RX4) rfl (by decide) (Nat.le_of_ble_eq_true rfl) (fun E hE => ?_)
  show zZ E (zzV Φ) 0 [(0, .ref k0), (1, .int a1)] [] μ
  unfold w_X4_stretch at h
  refine z_bipush (v := 6) hE dX4_stretch_0 zv_b_6 ?_
  refine z_istore_n (lv' := [(2, .int (6 : Int32)), (0, .ref k0), (1, .int a1)]) hE dX4_stretch_2 rfl (by decide) rfl ?_
  refine z_join (P := fun (J_2 : ZMem → Prop) => ∀ (μ_1 : ZMem), J_2 μ_1 → zZ E (zzV Φ) 28 [(0, .ref k0), (1, .int a1)] [] μ_1) h (fun μ_1 h => ?_) (fun J_2 hJ_2 h => ?_)
  · refine z_aload_n hE dX4_stretch_28 rfl 0 rfl ?_
    refine z_iconst (v := 0) hE dX4_stretch_29 zv_i_0 ?_
    refine z_dup2 hE dX4_stretch_30 rfl rfl ?_
    obtain ⟨q_3, h⟩ := h
    refine z_lald hE dX4_stretch_31 h0 q_3 ?_
    refine z_iload_n hE dX4_stretch_32 rfl 1 rfl ?_
    refine z_i2l hE dX4_stretch_33 ?_
    refine z_lmul hE dX4_stretch_34 ?_
    obtain ⟨q_4, h⟩ := h
    refine z_last hE dX4_stretch_35 h0 q_4 ?_
    refine zn (G := fun μ_5 => zZ E (zzV Φ) 36 [(0, .ref k0), (1, .int a1)] [] μ_5) h (fun μ_5 h => ?_)
    exact z_vret (st := []) hE dX4_stretch_36 rfl ⟨rfl, h⟩
  refine z_sub [1, 2, 0] rfl ?_
  obtain ⟨n3, h⟩ := h
  refine z_loop2 (P := fun (v2_6 : Int32) (μ_7 : ZMem) => zZ E (zzV Φ) 3 [(0, .ref k0), (1, .int a1), (2, .int v2_6)] [] μ_7) (fun k3_7 hk3_7 v2_6 μ_7 h => ?_) n3 _ _ h
  refine z_iload_n hE dX4_stretch_3 rfl 2 rfl ?_
  refine z_if_le (tgt := 28) hE dX4_stretch_4 (by decide) h (fun h => ?_) (fun h => ?_)
  · exact z_sub [0, 1] rfl (hJ_2 _ h)
  · refine z_aload_n hE dX4_stretch_7 rfl 0 rfl ?_
    refine z_iload_n hE dX4_stretch_8 rfl 2 rfl ?_
    refine z_aload_n hE dX4_stretch_9 rfl 0 rfl ?_
    refine z_iload_n hE dX4_stretch_10 rfl 2 rfl ?_
    refine z_iconst (v := 1) hE dX4_stretch_11 zv_i_1 ?_
    refine z_isub hE dX4_stretch_12 ?_
    obtain ⟨q_8, h⟩ := h
    refine z_lald hE dX4_stretch_13 h0 q_8 ?_
    refine z_iload_n hE dX4_stretch_14 rfl 1 rfl ?_
    refine z_i2l hE dX4_stretch_15 ?_
    refine z_aload_n hE dX4_stretch_16 rfl 0 rfl ?_
    refine z_iload_n hE dX4_stretch_17 rfl 2 rfl ?_
    obtain ⟨q_9, h⟩ := h
    refine z_lald hE dX4_stretch_18 h0 q_9 ?_
    refine z_lmul hE dX4_stretch_19 ?_
    refine z_ladd hE dX4_stretch_20 ?_
    obtain ⟨q_10, h⟩ := h
    refine z_last hE dX4_stretch_21 h0 q_10 ?_
    refine zn (G := fun μ_11 => zZ E (zzV Φ) 22 [(0, .ref k0), (1, .int a1), (2, .int v2_6)] [] μ_11) h (fun μ_11 h => ?_)
    refine z_iinc (j := 2) (c := -1) (lv' := [(2, .int (v2_6 + (-1 : Int32))), (0, .ref k0), (1, .int a1)]) hE dX4_stretch_22 rfl zv_i_m1 (by decide) rfl ?_
    refine z_goto (tgt := 3) hE dX4_stretch_25 (by decide) ?_
    exact z_sub [1, 2, 0] rfl (hk3_7 _ _ h)
set_option maxRecDepth 4000 in
theorem c_X5_at (a1 : Int32) (μ : ZMem) (Φ : Int32 → Prop) (h : w_X5_at a1 μ Φ) : zM SX yX5_at cX5_at 2 (some FieldType.int) 0 [.ref 78, .int a1] μ (zzPI Φ μ) := by
  refine zM_go (own := RX5) rfl (by decide) (Nat.le_of_ble_eq_true rfl) (fun E hE => ?_)
  show zZ E (zzPI Φ μ) 0 [(0, .ref 78), (1, .int a1)] [] μ
  unfold w_X5_at at h
  refine z_aload_n hE dX5_at_0 rfl 0 rfl ?_
  refine z_getR (t := 92) hE dX5_at_1 lF_X5_22 sX_78 rfl ?_
  refine z_iload_n hE dX5_at_4 rfl 1 rfl ?_
  refine z_bipush (v := 100) hE dX5_at_5 zv_b_100 ?_
  refine z_iadd hE dX5_at_7 ?_
  obtain ⟨q_1, h⟩ := h
  refine z_iald hE dX5_at_8 sX_92 q_1 ?_
  exact z_iret (st := []) hE dX5_at_9 rfl ⟨_, rfl, rfl, h⟩
set_option maxRecDepth 4000 in
theorem c_X5_hasBest  (μ : ZMem) (Φ : Int32 → Prop) (h : w_X5_hasBest μ Φ) : zM SX yX5_hasBest cX5_hasBest 2 (some FieldType.boolean) 0 [.ref 78] μ (zzPI Φ μ) := by
  refine zM_go (own := RX5) rfl (by decide) (Nat.le_of_ble_eq_true rfl) (fun E hE => ?_)
  show zZ E (zzPI Φ μ) 0 [(0, .ref 78)] [] μ
  unfold w_X5_hasBest at h
  refine z_iconst (v := 0) hE dX5_hasBest_0 zv_i_0 ?_
  refine z_istore_n (lv' := [(1, .int (0 : Int32)), (0, .ref 78)]) hE dX5_hasBest_1 rfl (by decide) rfl ?_
  refine z_sub [1, 0] rfl ?_
  obtain ⟨n2, h⟩ := h
  refine z_loop1 (P := fun (v1_1 : Int32) => zZ E (zzPI Φ μ) 2 [(0, .ref 78), (1, .int v1_1)] [] μ) (fun k2_1 hk2_1 v1_1 h => ?_) n2 _ h
  refine z_iload_n hE dX5_hasBest_2 rfl 1 rfl ?_
  refine z_sipush (v := 201) hE dX5_hasBest_3 zv_s_201 ?_
  refine z_icmp_ge (tgt := 28) hE dX5_hasBest_6 (by decide) h (fun h => ?_) (fun h => ?_)
  · refine z_iconst (v := 0) hE dX5_hasBest_28 zv_i_0 ?_
    exact z_zret (st := []) hE dX5_hasBest_29 rfl (by decide) ⟨_, rfl, rfl, h⟩
  · refine z_aload_n hE dX5_hasBest_9 rfl 0 rfl ?_
    refine z_getR (t := 92) hE dX5_hasBest_10 lF_X5_22 sX_78 rfl ?_
    refine z_iload_n hE dX5_hasBest_13 rfl 1 rfl ?_
    obtain ⟨q_2, h⟩ := h
    refine z_iald hE dX5_hasBest_14 sX_92 q_2 ?_
    refine z_bipush (v := -7) hE dX5_hasBest_15 zv_b_m7 ?_
    refine z_icmp_eq (tgt := 22) hE dX5_hasBest_17 (by decide) h (fun h => ?_) (fun h => ?_)
    · refine z_iinc (j := 1) (c := 1) (lv' := [(1, .int (v1_1 + (1 : Int32))), (0, .ref 78)]) hE dX5_hasBest_22 rfl zv_i_1 (by decide) rfl ?_
      refine z_goto (tgt := 2) hE dX5_hasBest_25 (by decide) ?_
      exact z_sub [1, 0] rfl (hk2_1 _ h)
    · refine z_iconst (v := 1) hE dX5_hasBest_20 zv_i_1 ?_
      exact z_zret (st := []) hE dX5_hasBest_21 rfl (by decide) ⟨_, rfl, rfl, h⟩
set_option maxRecDepth 4000 in
theorem c_X6_closestTo (t : Nat) (a1 : Int32) (h0 : zT_Spans t) (μ : ZMem) (Φ : Int32 → Prop) (h : w_X6_closestTo t a1 μ Φ) : zM SX yX6_closestTo cX6_closestTo 6 (some FieldType.int) 0 [.ref t, .int a1] μ (zzPI Φ μ) := by
  refine zM_go (own := RX6) rfl (by decide) (Nat.le_of_ble_eq_true rfl) (fun E hE => ?_)
  show zZ E (zzPI Φ μ) 0 [(0, .ref t), (1, .int a1)] [] μ
  unfold w_X6_closestTo at h
  refine z_iconst (v := -1) hE dX6_closestTo_0 zv_i_m1 ?_
  refine z_istore_n (lv' := [(2, .int (-1 : Int32)), (0, .ref t), (1, .int a1)]) hE dX6_closestTo_1 rfl (by decide) rfl ?_
  refine z_sipush (v := 201) hE dX6_closestTo_2 zv_s_201 ?_
  refine z_istore_n (lv' := [(3, .int (201 : Int32)), (2, .int (-1 : Int32)), (0, .ref t), (1, .int a1)]) hE dX6_closestTo_5 rfl (by decide) rfl ?_
  refine z_iconst (v := 0) hE dX6_closestTo_6 zv_i_0 ?_
  refine z_istore (lv' := [(4, .int (0 : Int32)), (3, .int (201 : Int32)), (2, .int (-1 : Int32)), (0, .ref t), (1, .int a1)]) hE dX6_closestTo_7 (by decide) rfl ?_
  refine z_sub [3, 4, 2, 1, 0] rfl ?_
  obtain ⟨n9, h⟩ := h
  refine z_loop3 (P := fun (v2_1 : Int32) (v3_2 : Int32) (v4_3 : Int32) => zZ E (zzPI Φ μ) 9 [(0, .ref t), (1, .int a1), (2, .int v2_1), (3, .int v3_2), (4, .int v4_3)] [] μ) (fun k9_3 hk9_3 v2_1 v3_2 v4_3 h => ?_) n9 _ _ _ h
  refine z_iload hE dX6_closestTo_9 4 rfl ?_
  refine z_aload_n hE dX6_closestTo_11 rfl 0 rfl ?_
  refine z_getI hE dX6_closestTo_12 lF_X6_26 h0.1 rfl ?_
  refine z_icmp_ge (tgt := 63) hE dX6_closestTo_15 (by decide) h (fun h => ?_) (fun h => ?_)
  · refine z_iload_n hE dX6_closestTo_63 rfl 2 rfl ?_
    exact z_iret (st := []) hE dX6_closestTo_64 rfl ⟨_, rfl, rfl, h⟩
  · refine z_iconst (v := 0) hE dX6_closestTo_18 zv_i_0 ?_
    refine z_aload_n hE dX6_closestTo_19 rfl 0 rfl ?_
    refine z_getR (t := (t + 1)) hE dX6_closestTo_20 lF_X6_11 h0.1 rfl ?_
    refine z_iload hE dX6_closestTo_23 4 rfl ?_
    obtain ⟨q_4, h⟩ := h
    refine z_iald hE dX6_closestTo_25 h0.2.1 q_4 ?_
    refine z_iload_n hE dX6_closestTo_26 rfl 1 rfl ?_
    refine z_isub hE dX6_closestTo_27 ?_
    refine z_iload_n hE dX6_closestTo_28 rfl 1 rfl ?_
    refine z_aload_n hE dX6_closestTo_29 rfl 0 rfl ?_
    refine z_getR (t := (t + 2)) hE dX6_closestTo_30 lF_X6_15 h0.1 rfl ?_
    refine z_iload hE dX6_closestTo_33 4 rfl ?_
    obtain ⟨q_5, h⟩ := h
    refine z_iald hE dX6_closestTo_35 h0.2.2 q_5 ?_
    refine z_isub hE dX6_closestTo_36 ?_
    refine z_mmax hE dX6_closestTo_37 lM_X6_39 (Nat.le_of_ble_eq_true rfl) ?_
    refine z_mmax hE dX6_closestTo_40 lM_X6_39 (Nat.le_of_ble_eq_true rfl) ?_
    refine z_istore (lv' := [(5, .int (if (0 : Int32) < (if ((μ.1 (t + 1) (Int32.toNatClampNeg v4_3)) - a1) < (a1 - (μ.1 (t + 2) (Int32.toNatClampNeg v4_3))) then (a1 - (μ.1 (t + 2) (Int32.toNatClampNeg v4_3))) else ((μ.1 (t + 1) (Int32.toNatClampNeg v4_3)) - a1)) then (if ((μ.1 (t + 1) (Int32.toNatClampNeg v4_3)) - a1) < (a1 - (μ.1 (t + 2) (Int32.toNatClampNeg v4_3))) then (a1 - (μ.1 (t + 2) (Int32.toNatClampNeg v4_3))) else ((μ.1 (t + 1) (Int32.toNatClampNeg v4_3)) - a1)) else (0 : Int32))), (0, .ref t), (1, .int a1), (2, .int v2_1), (3, .int v3_2), (4, .int v4_3)]) hE dX6_closestTo_43 (by decide) rfl ?_
    refine zn (G := fun v5_6 => zZ E (zzPI Φ μ) 45 [(5, .int v5_6), (0, .ref t), (1, .int a1), (2, .int v2_1), (3, .int v3_2), (4, .int v4_3)] [] μ) h (fun v5_6 h => ?_)
    refine z_iload hE dX6_closestTo_45 0 rfl ?_
    refine z_iload_n hE dX6_closestTo_47 rfl 4 rfl ?_
    refine z_join (P := fun (J_9 : Int32 → Int32 → Prop) => ∀ (v2_7 : Int32) (v3_8 : Int32), J_9 v2_7 v3_8 → zZ E (zzPI Φ μ) 57 [(0, .ref t), (1, .int a1), (2, .int v2_7), (3, .int v3_8), (4, .int v4_3)] [] μ) h (fun v2_7 v3_8 h => ?_) (fun J_9 hJ_9 h => ?_)
    · refine z_iinc (j := 4) (c := 1) (lv' := [(4, .int (v4_3 + (1 : Int32))), (0, .ref t), (1, .int a1), (2, .int v2_7), (3, .int v3_8)]) hE dX6_closestTo_57 rfl zv_i_1 (by decide) rfl ?_
      refine z_goto (tgt := 9) hE dX6_closestTo_60 (by decide) ?_
      exact z_sub [1, 2, 3, 4, 0] rfl (hk9_3 _ _ _ h)
    refine z_icmp_ge (tgt := 57) hE dX6_closestTo_48 (by decide) h (fun h => ?_) (fun h => ?_)
    · exact z_sub [1, 2, 3, 4, 5] rfl (hJ_9 _ _ h)
    · refine z_iload hE dX6_closestTo_51 0 rfl ?_
      refine z_istore_n (lv' := [(3, .int v5_6), (5, .int v5_6), (0, .ref t), (1, .int a1), (2, .int v2_1), (4, .int v4_3)]) hE dX6_closestTo_53 rfl (by decide) rfl ?_
      refine z_iload hE dX6_closestTo_54 5 rfl ?_
      refine z_istore_n (lv' := [(2, .int v4_3), (3, .int v5_6), (5, .int v5_6), (0, .ref t), (1, .int a1), (4, .int v4_3)]) hE dX6_closestTo_56 rfl (by decide) rfl ?_
      exact z_sub [3, 4, 0, 1, 5] rfl (hJ_9 _ _ h)
set_option maxRecDepth 4000 in
theorem c_X8_firstNothing (t : Nat) (h0 : zT_Table t) (μ : ZMem) (Φ : Int32 → Prop) (h : w_X8_firstNothing t μ Φ) : zM SX yX8_firstNothing cX8_firstNothing 2 (some FieldType.int) 0 [.ref t] μ (zzPI Φ μ) := by
  refine zM_go (own := RX8) rfl (by decide) (Nat.le_of_ble_eq_true rfl) (fun E hE => ?_)
  show zZ E (zzPI Φ μ) 0 [(0, .ref t)] [] μ
  unfold w_X8_firstNothing at h
  refine z_iconst (v := 0) hE dX8_firstNothing_0 zv_i_0 ?_
  refine z_istore_n (lv' := [(1, .int (0 : Int32)), (0, .ref t)]) hE dX8_firstNothing_1 rfl (by decide) rfl ?_
  refine z_sub [1, 0] rfl ?_
  obtain ⟨n2, h⟩ := h
  refine z_loop1 (P := fun (v1_1 : Int32) => zZ E (zzPI Φ μ) 2 [(0, .ref t), (1, .int v1_1)] [] μ) (fun k2_1 hk2_1 v1_1 h => ?_) n2 _ h
  refine z_iload_n hE dX8_firstNothing_2 rfl 1 rfl ?_
  refine z_aload_n hE dX8_firstNothing_3 rfl 0 rfl ?_
  refine z_getI hE dX8_firstNothing_4 lF_X8_27 h0.1 rfl ?_
  refine z_icmp_gt (tgt := 28) hE dX8_firstNothing_7 (by decide) h (fun h => ?_) (fun h => ?_)
  · refine z_iconst (v := -1) hE dX8_firstNothing_28 zv_i_m1 ?_
    exact z_iret (st := []) hE dX8_firstNothing_29 rfl ⟨_, rfl, rfl, h⟩
  · refine z_aload_n hE dX8_firstNothing_10 rfl 0 rfl ?_
    refine z_getR (t := (t + 11)) hE dX8_firstNothing_11 lF_X8_23 h0.1 rfl ?_
    refine z_iload_n hE dX8_firstNothing_14 rfl 1 rfl ?_
    obtain ⟨q_2, h⟩ := h
    refine z_iald hE dX8_firstNothing_15 h0.2.2.2.2.2 q_2 ?_
    refine z_iconst (v := 2) hE dX8_firstNothing_16 zv_i_2 ?_
    refine z_icmp_ne (tgt := 22) hE dX8_firstNothing_17 (by decide) h (fun h => ?_) (fun h => ?_)
    · refine z_iinc (j := 1) (c := 1) (lv' := [(1, .int (v1_1 + (1 : Int32))), (0, .ref t)]) hE dX8_firstNothing_22 rfl zv_i_1 (by decide) rfl ?_
      refine z_goto (tgt := 2) hE dX8_firstNothing_25 (by decide) ?_
      exact z_sub [1, 0] rfl (hk2_1 _ h)
    · refine z_iload_n hE dX8_firstNothing_20 rfl 1 rfl ?_
      exact z_iret (st := []) hE dX8_firstNothing_21 rfl ⟨_, rfl, rfl, h⟩
set_option maxRecDepth 4000 in
theorem c_X8_hasRow (t : Nat) (a1 : Int32) (h0 : zT_Table t) (μ : ZMem) (Φ : Int32 → Prop) (h : w_X8_hasRow t a1 μ Φ) : zM SX yX8_hasRow cX8_hasRow 2 (some FieldType.boolean) 0 [.ref t, .int a1] μ (zzPI Φ μ) := by
  refine zM_go (own := RX8) rfl (by decide) (Nat.le_of_ble_eq_true rfl) (fun E hE => ?_)
  show zZ E (zzPI Φ μ) 0 [(0, .ref t), (1, .int a1)] [] μ
  unfold w_X8_hasRow at h
  refine z_iload_n hE dX8_hasRow_0 rfl 1 rfl ?_
  refine z_if_lt (tgt := 16) hE dX8_hasRow_1 (by decide) h (fun h => ?_) (fun h => ?_)
  · refine z_iconst (v := 0) hE dX8_hasRow_16 zv_i_0 ?_
    exact z_zret (st := []) hE dX8_hasRow_17 rfl (by decide) ⟨_, rfl, rfl, h⟩
  · refine z_iload_n hE dX8_hasRow_4 rfl 1 rfl ?_
    refine z_aload_n hE dX8_hasRow_5 rfl 0 rfl ?_
    refine z_getI hE dX8_hasRow_6 lF_X8_27 h0.1 rfl ?_
    refine z_icmp_gt (tgt := 16) hE dX8_hasRow_9 (by decide) h (fun h => ?_) (fun h => ?_)
    · refine z_iconst (v := 0) hE dX8_hasRow_16 zv_i_0 ?_
      exact z_zret (st := []) hE dX8_hasRow_17 rfl (by decide) ⟨_, rfl, rfl, h⟩
    · refine z_iconst (v := 1) hE dX8_hasRow_12 zv_i_1 ?_
      refine z_goto (tgt := 17) hE dX8_hasRow_13 (by decide) ?_
      exact z_zret (st := []) hE dX8_hasRow_17 rfl (by decide) ⟨_, rfl, rfl, h⟩
set_option maxRecDepth 4000 in
theorem c_X8_item (t : Nat) (a1 : Int32) (a2 : Int32) (h0 : zT_Table t) (μ : ZMem) (Φ : Int64 → Prop) (h : w_X8_item t a1 a2 μ Φ) : zM SX yX8_item cX8_item 3 (some FieldType.long) 0 [.ref t, .int a1, .int a2] μ (zzPJ Φ μ) := by
  refine zM_go (own := RX8) rfl (by decide) (Nat.le_of_ble_eq_true rfl) (fun E hE => ?_)
  show zZ E (zzPJ Φ μ) 0 [(0, .ref t), (1, .int a1), (2, .int a2)] [] μ
  unfold w_X8_item at h
  refine z_aload_n hE dX8_item_0 rfl 0 rfl ?_
  refine z_getR (t := (t + 3)) hE dX8_item_1 lF_X8_20 h0.1 rfl ?_
  refine z_iload_n hE dX8_item_4 rfl 1 rfl ?_
  obtain ⟨q_1, h⟩ := h
  refine z_aald1 hE dX8_item_5 h0.2.2.2.1 (fun _ => rfl) rfl q_1 ?_
  refine z_iload_n hE dX8_item_6 rfl 2 rfl ?_
  obtain ⟨q_2, h⟩ := h
  refine z_lald hE dX8_item_7 (h0.2.2.2.2.1 _ (zz_in_lt q_1)) q_2 ?_
  exact z_lret (st := []) hE dX8_item_8 rfl ⟨_, rfl, rfl, h⟩
set_option maxRecDepth 4000 in
theorem c_X8_mending (t : Nat) (a1 : Int32) (h0 : zT_Table t) (μ : ZMem) (Φ : Int32 → Prop) (h : w_X8_mending t a1 μ Φ) : zM SX yX8_mending cX8_mending 2 (some FieldType.int) 0 [.ref t, .int a1] μ (zzPI Φ μ) := by
  refine zM_go (own := RX8) rfl (by decide) (Nat.le_of_ble_eq_true rfl) (fun E hE => ?_)
  show zZ E (zzPI Φ μ) 0 [(0, .ref t), (1, .int a1)] [] μ
  unfold w_X8_mending at h
  refine z_aload_n hE dX8_mending_0 rfl 0 rfl ?_
  refine z_getR (t := (t + 11)) hE dX8_mending_1 lF_X8_23 h0.1 rfl ?_
  refine z_iload_n hE dX8_mending_4 rfl 1 rfl ?_
  obtain ⟨q_1, h⟩ := h
  refine z_iald hE dX8_mending_5 h0.2.2.2.2.2 q_1 ?_
  exact z_iret (st := []) hE dX8_mending_6 rfl ⟨_, rfl, rfl, h⟩
set_option maxRecDepth 4000 in
theorem c_X8_mirror (t : Nat) (h0 : zT_Table t) (μ : ZMem) (Φ : ZMem → Prop) (h : w_X8_mirror t μ Φ) : zM SX yX8_mirror cX8_mirror 2 (none) 0 [.ref t] μ (zzV Φ) := by
  refine zM_go (own := RX8) rfl (by decide) (Nat.le_of_ble_eq_true rfl) (fun E hE => ?_)
  show zZ E (zzV Φ) 0 [(0, .ref t)] [] μ
  unfold w_X8_mirror at h
  refine z_iconst (v := 1) hE dX8_mirror_0 zv_i_1 ?_
  refine z_istore_n (lv' := [(1, .int (1 : Int32)), (0, .ref t)]) hE dX8_mirror_1 rfl (by decide) rfl ?_
  refine z_sub [1, 0] rfl ?_
  obtain ⟨n2, h⟩ := h
  refine z_loop2 (P := fun (v1_1 : Int32) (μ_2 : ZMem) => zZ E (zzV Φ) 2 [(0, .ref t), (1, .int v1_1)] [] μ_2) (fun k2_2 hk2_2 v1_1 μ_2 h => ?_) n2 _ _ h
  refine z_iload_n hE dX8_mirror_2 rfl 1 rfl ?_
  refine z_bipush (v := 7) hE dX8_mirror_3 zv_b_7 ?_
  refine z_icmp_ge (tgt := 27) hE dX8_mirror_5 (by decide) h (fun h => ?_) (fun h => ?_)
  · exact z_vret (st := []) hE dX8_mirror_27 rfl ⟨rfl, h⟩
  · refine z_aload_n hE dX8_mirror_8 rfl 0 rfl ?_
    refine z_getR (t := (t + 1)) hE dX8_mirror_9 lF_X8_9 h0.1 rfl ?_
    refine z_iload_n hE dX8_mirror_12 rfl 1 rfl ?_
    refine z_aload_n hE dX8_mirror_13 rfl 0 rfl ?_
    refine z_getR (t := (t + 1)) hE dX8_mirror_14 lF_X8_9 h0.1 rfl ?_
    refine z_iload_n hE dX8_mirror_17 rfl 1 rfl ?_
    obtain ⟨q_3, h⟩ := h
    refine z_lald hE dX8_mirror_18 h0.2.1 q_3 ?_
    refine z_lneg hE dX8_mirror_19 ?_
    obtain ⟨q_4, h⟩ := h
    refine z_last hE dX8_mirror_20 h0.2.1 q_4 ?_
    refine zn (G := fun μ_5 => zZ E (zzV Φ) 21 [(0, .ref t), (1, .int v1_1)] [] μ_5) h (fun μ_5 h => ?_)
    refine z_iinc (j := 1) (c := 2) (lv' := [(1, .int (v1_1 + (2 : Int32))), (0, .ref t)]) hE dX8_mirror_21 rfl zv_i_2 (by decide) rfl ?_
    refine z_goto (tgt := 2) hE dX8_mirror_24 (by decide) ?_
    exact z_sub [1, 0] rfl (hk2_2 _ _ h)
set_option maxRecDepth 4000 in
theorem c_X8_shift (t : Nat) (a1 : Int32) (a2 : Int32) (h0 : zT_Table t) (μ : ZMem) (Φ : ZMem → Prop) (h : w_X8_shift t a1 a2 μ Φ) : zM SX yX8_shift cX8_shift 5 (none) 0 [.ref t, .int a1, .int a2] μ (zzV Φ) := by
  refine zM_go (own := RX8) rfl (by decide) (Nat.le_of_ble_eq_true rfl) (fun E hE => ?_)
  show zZ E (zzV Φ) 0 [(0, .ref t), (1, .int a1), (2, .int a2)] [] μ
  unfold w_X8_shift at h
  refine z_iconst (v := 0) hE dX8_shift_0 zv_i_0 ?_
  refine z_istore_n (lv' := [(3, .int (0 : Int32)), (0, .ref t), (1, .int a1), (2, .int a2)]) hE dX8_shift_1 rfl (by decide) rfl ?_
  refine z_sub [1, 2, 3, 0] rfl ?_
  obtain ⟨n2, h⟩ := h
  refine z_loop2 (P := fun (v3_1 : Int32) (μ_2 : ZMem) => zZ E (zzV Φ) 2 [(0, .ref t), (1, .int a1), (2, .int a2), (3, .int v3_1)] [] μ_2) (fun k2_2 hk2_2 v3_1 μ_2 h => ?_) n2 _ _ h
  refine z_iload_n hE dX8_shift_2 rfl 3 rfl ?_
  refine z_iload_n hE dX8_shift_3 rfl 2 rfl ?_
  refine z_icmp_ge (tgt := 52) hE dX8_shift_4 (by decide) h (fun h => ?_) (fun h => ?_)
  · exact z_vret (st := []) hE dX8_shift_52 rfl ⟨rfl, h⟩
  · refine z_iload_n hE dX8_shift_7 rfl 2 rfl ?_
    refine z_iconst (v := 1) hE dX8_shift_8 zv_i_1 ?_
    refine z_isub hE dX8_shift_9 ?_
    refine z_istore (lv' := [(4, .int (a2 - (1 : Int32))), (0, .ref t), (1, .int a1), (2, .int a2), (3, .int v3_1)]) hE dX8_shift_10 (by decide) rfl ?_
    refine zn (G := fun v4_3 => zZ E (zzV Φ) 12 [(4, .int v4_3), (0, .ref t), (1, .int a1), (2, .int a2), (3, .int v3_1)] [] μ_2) h (fun v4_3 h => ?_)
    refine z_join (P := fun (J_5 : ZMem → Prop) => ∀ (μ_4 : ZMem), J_5 μ_4 → zZ E (zzV Φ) 46 [(0, .ref t), (1, .int a1), (2, .int a2), (3, .int v3_1)] [] μ_4) h (fun μ_4 h => ?_) (fun J_5 hJ_5 h => ?_)
    · refine z_iinc (j := 3) (c := 1) (lv' := [(3, .int (v3_1 + (1 : Int32))), (0, .ref t), (1, .int a1), (2, .int a2)]) hE dX8_shift_46 rfl zv_i_1 (by decide) rfl ?_
      refine z_goto (tgt := 2) hE dX8_shift_49 (by decide) ?_
      exact z_sub [1, 2, 3, 0] rfl (hk2_2 _ _ h)
    refine z_sub [1, 2, 3, 4, 0] rfl ?_
    obtain ⟨n12, h⟩ := h
    refine z_loop2 (P := fun (v4_6 : Int32) (μ_7 : ZMem) => zZ E (zzV Φ) 12 [(0, .ref t), (1, .int a1), (2, .int a2), (3, .int v3_1), (4, .int v4_6)] [] μ_7) (fun k12_7 hk12_7 v4_6 μ_7 h => ?_) n12 _ _ h
    refine z_iload hE dX8_shift_12 4 rfl ?_
    refine z_iload_n hE dX8_shift_14 rfl 3 rfl ?_
    refine z_icmp_lt (tgt := 46) hE dX8_shift_15 (by decide) h (fun h => ?_) (fun h => ?_)
    · exact z_sub [0, 1, 2, 3] rfl (hJ_5 _ h)
    · refine z_aload_n hE dX8_shift_18 rfl 0 rfl ?_
      refine z_getR (t := (t + 1)) hE dX8_shift_19 lF_X8_9 h0.1 rfl ?_
      refine z_iload hE dX8_shift_22 4 rfl ?_
      refine z_dup2 hE dX8_shift_24 rfl rfl ?_
      obtain ⟨q_8, h⟩ := h
      refine z_lald hE dX8_shift_25 h0.2.1 q_8 ?_
      refine z_iload_n hE dX8_shift_26 rfl 1 rfl ?_
      refine z_i2l hE dX8_shift_27 ?_
      refine z_aload_n hE dX8_shift_28 rfl 0 rfl ?_
      refine z_getR (t := (t + 1)) hE dX8_shift_29 lF_X8_9 h0.1 rfl ?_
      refine z_iload hE dX8_shift_32 4 rfl ?_
      refine z_iconst (v := 1) hE dX8_shift_34 zv_i_1 ?_
      refine z_iadd hE dX8_shift_35 ?_
      obtain ⟨q_9, h⟩ := h
      refine z_lald hE dX8_shift_36 h0.2.1 q_9 ?_
      refine z_lmul hE dX8_shift_37 ?_
      refine z_ladd hE dX8_shift_38 ?_
      obtain ⟨q_10, h⟩ := h
      refine z_last hE dX8_shift_39 h0.2.1 q_10 ?_
      refine zn (G := fun μ_11 => zZ E (zzV Φ) 40 [(0, .ref t), (1, .int a1), (2, .int a2), (3, .int v3_1), (4, .int v4_6)] [] μ_11) h (fun μ_11 h => ?_)
      refine z_iinc (j := 4) (c := -1) (lv' := [(4, .int (v4_6 + (-1 : Int32))), (0, .ref t), (1, .int a1), (2, .int a2), (3, .int v3_1)]) hE dX8_shift_40 rfl zv_i_m1 (by decide) rfl ?_
      refine z_goto (tgt := 12) hE dX8_shift_43 (by decide) ?_
      exact z_sub [1, 2, 3, 4, 0] rfl (hk12_7 _ _ h)
set_option maxRecDepth 4000 in
theorem c_X8_signChanges (t : Nat) (a1 : Int32) (a2 : Int32) (h0 : zT_Table t) (μ : ZMem) (Φ : Int32 → Prop) (h : w_X8_signChanges t a1 a2 μ Φ) : zM SX yX8_signChanges cX8_signChanges 5 (some FieldType.int) 0 [.ref t, .int a1, .int a2] μ (zzPI Φ μ) := by
  refine zM_go (own := RX8) rfl (by decide) (Nat.le_of_ble_eq_true rfl) (fun E hE => ?_)
  show zZ E (zzPI Φ μ) 0 [(0, .ref t), (1, .int a1), (2, .int a2)] [] μ
  unfold w_X8_signChanges at h
  refine z_iconst (v := 0) hE dX8_signChanges_0 zv_i_0 ?_
  refine z_istore_n (lv' := [(3, .int (0 : Int32)), (0, .ref t), (1, .int a1), (2, .int a2)]) hE dX8_signChanges_1 rfl (by decide) rfl ?_
  refine z_iload_n hE dX8_signChanges_2 rfl 2 rfl ?_
  refine z_iconst (v := 1) hE dX8_signChanges_3 zv_i_1 ?_
  refine z_iadd hE dX8_signChanges_4 ?_
  refine z_istore (lv' := [(4, .int (a1 + (1 : Int32))), (3, .int (0 : Int32)), (0, .ref t), (1, .int a1), (2, .int a2)]) hE dX8_signChanges_5 (by decide) rfl ?_
  refine zn (G := fun v4_1 => zZ E (zzPI Φ μ) 7 [(4, .int v4_1), (3, .int (0 : Int32)), (0, .ref t), (1, .int a1), (2, .int a2)] [] μ) h (fun v4_1 h => ?_)
  refine z_sub [2, 4, 1, 0] rfl ?_
  obtain ⟨n7, h⟩ := h
  refine z_loop2 (P := fun (v3_2 : Int32) (v4_3 : Int32) => zZ E (zzPI Φ μ) 7 [(0, .ref t), (2, .int a2), (3, .int v3_2), (4, .int v4_3)] [] μ) (fun k7_3 hk7_3 v3_2 v4_3 h => ?_) n7 _ _ h
  refine z_iload hE dX8_signChanges_7 3 rfl ?_
  refine z_iload_n hE dX8_signChanges_9 rfl 1 rfl ?_
  refine z_icmp_gt (tgt := 65) hE dX8_signChanges_10 (by decide) h (fun h => ?_) (fun h => ?_)
  · refine z_iload_n hE dX8_signChanges_65 rfl 2 rfl ?_
    exact z_iret (st := []) hE dX8_signChanges_66 rfl ⟨_, rfl, rfl, h⟩
  · refine z_aload_n hE dX8_signChanges_13 rfl 0 rfl ?_
    refine z_getR (t := (t + 3)) hE dX8_signChanges_14 lF_X8_20 h0.1 rfl ?_
    refine z_iload hE dX8_signChanges_17 3 rfl ?_
    obtain ⟨q_4, h⟩ := h
    refine z_aald1 hE dX8_signChanges_19 h0.2.2.2.1 (fun _ => rfl) rfl q_4 ?_
    refine z_iconst (v := 0) hE dX8_signChanges_20 zv_i_0 ?_
    refine z_lald hE dX8_signChanges_21 (h0.2.2.2.2.1 _ (zz_in_lt q_4)) (zin (by decide)) ?_
    refine z_lconst (v := 0) hE dX8_signChanges_22 zv_l_0 ?_
    refine z_join (P := fun (J_6 : Int32 → Prop) => ∀ (x_5 : Int32), J_6 x_5 → zZ E (zzPI Φ μ) 32 [(0, .ref t), (2, .int a2), (3, .int v3_2), (4, .int v4_3)] [.int x_5] μ) h (fun x_5 h => ?_) (fun J_6 hJ_6 h => ?_)
    · refine z_aload_n hE dX8_signChanges_32 rfl 0 rfl ?_
      refine z_getR (t := (t + 3)) hE dX8_signChanges_33 lF_X8_20 h0.1 rfl ?_
      refine z_iload hE dX8_signChanges_36 3 rfl ?_
      refine z_iconst (v := 1) hE dX8_signChanges_38 zv_i_1 ?_
      refine z_isub hE dX8_signChanges_39 ?_
      obtain ⟨q_7, h⟩ := h
      refine z_aald1 hE dX8_signChanges_40 h0.2.2.2.1 (fun _ => rfl) rfl q_7 ?_
      refine z_iconst (v := 0) hE dX8_signChanges_41 zv_i_0 ?_
      refine z_lald hE dX8_signChanges_42 (h0.2.2.2.2.1 _ (zz_in_lt q_7)) (zin (by decide)) ?_
      refine z_lconst (v := 0) hE dX8_signChanges_43 zv_l_0 ?_
      refine z_join (P := fun (J_9 : Int32 → Prop) => ∀ (x_8 : Int32), J_9 x_8 → zZ E (zzPI Φ μ) 53 [(0, .ref t), (2, .int a2), (3, .int v3_2), (4, .int v4_3)] [.int x_8, .int x_5] μ) h (fun x_8 h => ?_) (fun J_9 hJ_9 h => ?_)
      · refine z_join (P := fun (J_11 : Int32 → Prop) => ∀ (v3_10 : Int32), J_11 v3_10 → zZ E (zzPI Φ μ) 59 [(0, .ref t), (2, .int a2), (3, .int v3_10), (4, .int v4_3)] [] μ) h (fun v3_10 h => ?_) (fun J_11 hJ_11 h => ?_)
        · refine z_iinc (j := 3) (c := 1) (lv' := [(4, .int (v4_3 + (1 : Int32))), (0, .ref t), (2, .int a2), (3, .int v3_10)]) hE dX8_signChanges_59 rfl zv_i_1 (by decide) rfl ?_
          refine z_goto (tgt := 7) hE dX8_signChanges_62 (by decide) ?_
          exact z_sub [1, 2, 3, 0] rfl (hk7_3 _ _ h)
        refine z_icmp_eq (tgt := 59) hE dX8_signChanges_53 (by decide) h (fun h => ?_) (fun h => ?_)
        · exact hJ_11 _ h
        · refine z_iinc (j := 2) (c := 1) (lv' := [(3, .int (v3_2 + (1 : Int32))), (0, .ref t), (2, .int a2), (4, .int v4_3)]) hE dX8_signChanges_56 rfl zv_i_1 (by decide) rfl ?_
          exact z_sub [1, 2, 0, 3] rfl (hJ_11 _ h)
      refine z_ljmp_ge (tgt := 52) hE dX8_signChanges_44 dX8_signChanges_45 (by decide) h (fun h => ?_) (fun h => ?_)
      · refine z_iconst (v := 0) hE dX8_signChanges_52 zv_i_0 ?_
        exact hJ_9 _ h
      · refine z_iconst (v := 1) hE dX8_signChanges_48 zv_i_1 ?_
        refine z_goto (tgt := 53) hE dX8_signChanges_49 (by decide) ?_
        exact hJ_9 _ h
    refine z_ljmp_ge (tgt := 31) hE dX8_signChanges_23 dX8_signChanges_24 (by decide) h (fun h => ?_) (fun h => ?_)
    · refine z_iconst (v := 0) hE dX8_signChanges_31 zv_i_0 ?_
      exact hJ_6 _ h
    · refine z_iconst (v := 1) hE dX8_signChanges_27 zv_i_1 ?_
      refine z_goto (tgt := 32) hE dX8_signChanges_28 (by decide) ?_
      exact hJ_6 _ h
set_option maxRecDepth 4000 in
theorem c_X8_takeRow (t : Nat) (a1 : Int32) (h0 : zT_Table t) (μ : ZMem) (Φ : ZMem → Prop) (h : w_X8_takeRow t a1 μ Φ) : zM SX yX8_takeRow cX8_takeRow 4 (none) 0 [.ref t, .int a1] μ (zzV Φ) := by
  refine zM_go (own := RX8) rfl (by decide) (Nat.le_of_ble_eq_true rfl) (fun E hE => ?_)
  show zZ E (zzV Φ) 0 [(0, .ref t), (1, .int a1)] [] μ
  unfold w_X8_takeRow at h
  refine z_iconst (v := 0) hE dX8_takeRow_0 zv_i_0 ?_
  refine z_istore_n (lv' := [(2, .int (0 : Int32)), (0, .ref t), (1, .int a1)]) hE dX8_takeRow_1 rfl (by decide) rfl ?_
  refine z_sub [1, 2, 0] rfl ?_
  obtain ⟨n2, h⟩ := h
  refine z_loop2 (P := fun (v2_1 : Int32) (μ_2 : ZMem) => zZ E (zzV Φ) 2 [(0, .ref t), (1, .int a1), (2, .int v2_1)] [] μ_2) (fun k2_2 hk2_2 v2_1 μ_2 h => ?_) n2 _ _ h
  refine z_iload_n hE dX8_takeRow_2 rfl 2 rfl ?_
  refine z_iconst (v := 5) hE dX8_takeRow_3 zv_i_5 ?_
  refine z_icmp_ge (tgt := 46) hE dX8_takeRow_4 (by decide) h (fun h => ?_) (fun h => ?_)
  · exact z_vret (st := []) hE dX8_takeRow_46 rfl ⟨rfl, h⟩
  · refine z_aload_n hE dX8_takeRow_7 rfl 0 rfl ?_
    refine z_getI hE dX8_takeRow_8 lF_X8_27 h0.1 rfl ?_
    refine z_iload_n hE dX8_takeRow_11 rfl 1 rfl ?_
    refine z_isub hE dX8_takeRow_12 ?_
    refine z_iconst (v := 2) hE dX8_takeRow_13 zv_i_2 ?_
    refine z_iload_n hE dX8_takeRow_14 rfl 2 rfl ?_
    refine z_imul hE dX8_takeRow_15 ?_
    refine z_isub hE dX8_takeRow_16 ?_
    refine z_istore_n (lv' := [(3, .int (((μ_2.1 t 4) - a1) - ((2 : Int32) * v2_1))), (0, .ref t), (1, .int a1), (2, .int v2_1)]) hE dX8_takeRow_17 rfl (by decide) rfl ?_
    refine zn (G := fun v3_3 => zZ E (zzV Φ) 18 [(3, .int v3_3), (0, .ref t), (1, .int a1), (2, .int v2_1)] [] μ_2) h (fun v3_3 h => ?_)
    refine z_aload_n hE dX8_takeRow_18 rfl 1 rfl ?_
    refine z_getR (t := (t + 3)) hE dX8_takeRow_19 lF_X8_20 h0.1 rfl ?_
    refine z_iload_n hE dX8_takeRow_22 rfl 2 rfl ?_
    obtain ⟨q_4, h⟩ := h
    refine z_aald1 hE dX8_takeRow_23 h0.2.2.2.1 (fun _ => rfl) rfl q_4 ?_
    refine z_iload_n hE dX8_takeRow_24 rfl 3 rfl ?_
    refine z_iload_n hE dX8_takeRow_25 rfl 0 rfl ?_
    refine z_join (P := fun (J_6 : Int64 → Prop) => ∀ (x_5 : Int64), J_6 x_5 → zZ E (zzV Φ) 39 [(0, .ref t), (1, .int a1), (2, .int v2_1)] [.long x_5, .int v2_1, .ref ((t + 4) + (Int32.toNatClampNeg a1))] μ_2) h (fun x_5 h => ?_) (fun J_6 hJ_6 h => ?_)
    · obtain ⟨q_7, h⟩ := h
      refine z_last hE dX8_takeRow_39 (h0.2.2.2.2.1 _ (zz_in_lt q_4)) q_7 ?_
      refine zn (G := fun μ_8 => zZ E (zzV Φ) 40 [(0, .ref t), (1, .int a1), (2, .int v2_1)] [] μ_8) h (fun μ_8 h => ?_)
      refine z_iinc (j := 2) (c := 1) (lv' := [(2, .int (v2_1 + (1 : Int32))), (0, .ref t), (1, .int a1)]) hE dX8_takeRow_40 rfl zv_i_1 (by decide) rfl ?_
      refine z_goto (tgt := 2) hE dX8_takeRow_43 (by decide) ?_
      exact z_sub [1, 2, 0] rfl (hk2_2 _ _ h)
    refine z_if_ge (tgt := 33) hE dX8_takeRow_26 (by decide) h (fun h => ?_) (fun h => ?_)
    · refine z_aload_n hE dX8_takeRow_33 rfl 1 rfl ?_
      refine z_getR (t := (t + 1)) hE dX8_takeRow_34 lF_X8_9 h0.1 rfl ?_
      refine z_iload_n hE dX8_takeRow_37 rfl 0 rfl ?_
      obtain ⟨q_9, h⟩ := h
      refine z_lald hE dX8_takeRow_38 h0.2.1 q_9 ?_
      exact z_sub [1, 2, 3] rfl (hJ_6 _ h)
    · refine z_lconst (v := 0) hE dX8_takeRow_29 zv_l_0 ?_
      refine z_goto (tgt := 39) hE dX8_takeRow_30 (by decide) ?_
      exact z_sub [1, 2, 3] rfl (hJ_6 _ h)
set_option maxRecDepth 4000 in
theorem c_X8_turn (t : Nat) (k1 n1 : Nat) (a2 : Int32) (h0 : zT_Table t) (h1 : SX[k1]? = some (2, n1, [])) (μ : ZMem) (Φ : ZMem → Prop) (h : w_X8_turn t k1 n1 a2 μ Φ) : zM SX yX8_turn cX8_turn 4 (none) 0 [.ref t, .ref k1, .int a2] μ (zzV Φ) := by
  refine zM_go (own := RX8) rfl (by decide) (Nat.le_of_ble_eq_true rfl) (fun E hE => ?_)
  show zZ E (zzV Φ) 0 [(0, .ref t), (1, .ref k1), (2, .int a2)] [] μ
  unfold w_X8_turn at h
  refine z_iconst (v := 0) hE dX8_turn_0 zv_i_0 ?_
  refine z_istore_n (lv' := [(3, .int (0 : Int32)), (0, .ref t), (1, .ref k1), (2, .int a2)]) hE dX8_turn_1 rfl (by decide) rfl ?_
  refine z_sub [1, 2, 3, 0] rfl ?_
  obtain ⟨n2, h⟩ := h
  refine z_loop2 (P := fun (v3_1 : Int32) (μ_2 : ZMem) => zZ E (zzV Φ) 2 [(0, .ref t), (1, .ref k1), (2, .int a2), (3, .int v3_1)] [] μ_2) (fun k2_2 hk2_2 v3_1 μ_2 h => ?_) n2 _ _ h
  refine z_iload_n hE dX8_turn_2 rfl 3 rfl ?_
  refine z_iload_n hE dX8_turn_3 rfl 2 rfl ?_
  refine z_icmp_gt (tgt := 24) hE dX8_turn_4 (by decide) h (fun h => ?_) (fun h => ?_)
  · exact z_vret (st := []) hE dX8_turn_24 rfl ⟨rfl, h⟩
  · refine z_aload_n hE dX8_turn_7 rfl 0 rfl ?_
    refine z_getR (t := (t + 1)) hE dX8_turn_8 lF_X8_9 h0.1 rfl ?_
    refine z_iload_n hE dX8_turn_11 rfl 3 rfl ?_
    refine z_aload_n hE dX8_turn_12 rfl 1 rfl ?_
    refine z_iload_n hE dX8_turn_13 rfl 2 rfl ?_
    refine z_iload_n hE dX8_turn_14 rfl 3 rfl ?_
    refine z_isub hE dX8_turn_15 ?_
    obtain ⟨q_3, h⟩ := h
    refine z_lald hE dX8_turn_16 h1 q_3 ?_
    obtain ⟨q_4, h⟩ := h
    refine z_last hE dX8_turn_17 h0.2.1 q_4 ?_
    refine zn (G := fun μ_5 => zZ E (zzV Φ) 18 [(0, .ref t), (1, .ref k1), (2, .int a2), (3, .int v3_1)] [] μ_5) h (fun μ_5 h => ?_)
    refine z_iinc (j := 3) (c := 1) (lv' := [(3, .int (v3_1 + (1 : Int32))), (0, .ref t), (1, .ref k1), (2, .int a2)]) hE dX8_turn_18 rfl zv_i_1 (by decide) rfl ?_
    refine z_goto (tgt := 2) hE dX8_turn_21 (by decide) ?_
    exact z_sub [1, 2, 3, 0] rfl (hk2_2 _ _ h)
set_option maxRecDepth 4000 in
theorem c_X8_width (t : Nat) (a1 : Int32) (h0 : zT_Table t) (μ : ZMem) (Φ : Int32 → Prop) (h : w_X8_width t a1 μ Φ) : zM SX yX8_width cX8_width 2 (some FieldType.int) 0 [.ref t, .int a1] μ (zzPI Φ μ) := by
  refine zM_go (own := RX8) rfl (by decide) (Nat.le_of_ble_eq_true rfl) (fun E hE => ?_)
  show zZ E (zzPI Φ μ) 0 [(0, .ref t), (1, .int a1)] [] μ
  unfold w_X8_width at h
  refine z_aload_n hE dX8_width_0 rfl 0 rfl ?_
  refine z_getI hE dX8_width_1 lF_X8_27 h0.1 rfl ?_
  refine z_iload_n hE dX8_width_4 rfl 1 rfl ?_
  refine z_isub hE dX8_width_5 ?_
  refine z_iconst (v := 2) hE dX8_width_6 zv_i_2 ?_
  refine z_idiv hE dX8_width_7 (by decide) ?_
  refine z_iconst (v := 1) hE dX8_width_8 zv_i_1 ?_
  refine z_iadd hE dX8_width_9 ?_
  exact z_iret (st := []) hE dX8_width_10 rfl ⟨_, rfl, rfl, h⟩
set_option maxRecDepth 4000 in
theorem c_X9_append (a1 : Int32) (μ : ZMem) (Φ : ZMem → Prop) (h : w_X9_append a1 μ Φ) : zM SX yX9_append cX9_append 2 (none) 0 [.ref 23, .int a1] μ (zzV Φ) := by
  refine zM_go (own := RX9) rfl (by decide) (Nat.le_of_ble_eq_true rfl) (fun E hE => ?_)
  show zZ E (zzV Φ) 0 [(0, .ref 23), (1, .int a1)] [] μ
  unfold w_X9_append at h
  refine z_aload_n hE dX9_append_0 rfl 0 rfl ?_
  refine z_getI hE dX9_append_1 lF_X9_22 sX_23 rfl ?_
  refine z_bipush (v := 60) hE dX9_append_4 zv_b_60 ?_
  refine z_icmp_ge (tgt := 29) hE dX9_append_6 (by decide) h (fun h => ?_) (fun h => ?_)
  · exact z_vret (st := []) hE dX9_append_29 rfl ⟨rfl, h⟩
  · refine z_aload_n hE dX9_append_9 rfl 0 rfl ?_
    refine z_getR (t := 24) hE dX9_append_10 lF_X9_9 sX_23 rfl ?_
    refine z_aload_n hE dX9_append_13 rfl 0 rfl ?_
    refine z_getI hE dX9_append_14 lF_X9_22 sX_23 rfl ?_
    refine z_iload_n hE dX9_append_17 rfl 1 rfl ?_
    obtain ⟨q_1, h⟩ := h
    refine z_iast hE dX9_append_18 sX_24 q_1 ?_
    refine zn (G := fun μ_2 => zZ E (zzV Φ) 19 [(0, .ref 23), (1, .int a1)] [] μ_2) h (fun μ_2 h => ?_)
    refine z_aload_n hE dX9_append_19 rfl 0 rfl ?_
    refine z_dup hE dX9_append_20 rfl ?_
    refine z_getI hE dX9_append_21 lF_X9_22 sX_23 rfl ?_
    refine z_iconst (v := 1) hE dX9_append_24 zv_i_1 ?_
    refine z_iadd hE dX9_append_25 ?_
    refine z_put hE dX9_append_26 lF_X9_22 sX_23 rfl rfl rfl ?_
    refine zn (G := fun μ_3 => zZ E (zzV Φ) 29 [(0, .ref 23), (1, .int a1)] [] μ_3) h (fun μ_3 h => ?_)
    exact z_vret (st := []) hE dX9_append_29 rfl ⟨rfl, h⟩
set_option maxRecDepth 4000 in
theorem c_X9_letterAt (a1 : Int32) (μ : ZMem) (Φ : Int32 → Prop) (h : w_X9_letterAt a1 μ Φ) : zM SX yX9_letterAt cX9_letterAt 2 (some FieldType.int) 0 [.ref 23, .int a1] μ (zzPI Φ μ) := by
  refine zM_go (own := RX9) rfl (by decide) (Nat.le_of_ble_eq_true rfl) (fun E hE => ?_)
  show zZ E (zzPI Φ μ) 0 [(0, .ref 23), (1, .int a1)] [] μ
  unfold w_X9_letterAt at h
  refine z_iload_n hE dX9_letterAt_0 rfl 1 rfl ?_
  refine z_if_lt (tgt := 18) hE dX9_letterAt_1 (by decide) h (fun h => ?_) (fun h => ?_)
  · refine z_iconst (v := -1) hE dX9_letterAt_18 zv_i_m1 ?_
    refine z_goto (tgt := 28) hE dX9_letterAt_19 (by decide) ?_
    exact z_iret (st := []) hE dX9_letterAt_28 rfl ⟨_, rfl, rfl, h⟩
  · refine z_iload_n hE dX9_letterAt_4 rfl 1 rfl ?_
    refine z_aload_n hE dX9_letterAt_5 rfl 0 rfl ?_
    refine z_getI hE dX9_letterAt_6 lF_X9_22 sX_23 rfl ?_
    refine z_icmp_ge (tgt := 18) hE dX9_letterAt_9 (by decide) h (fun h => ?_) (fun h => ?_)
    · refine z_iconst (v := -1) hE dX9_letterAt_18 zv_i_m1 ?_
      refine z_goto (tgt := 28) hE dX9_letterAt_19 (by decide) ?_
      exact z_iret (st := []) hE dX9_letterAt_28 rfl ⟨_, rfl, rfl, h⟩
    · refine z_iload_n hE dX9_letterAt_12 rfl 1 rfl ?_
      refine z_bipush (v := 60) hE dX9_letterAt_13 zv_b_60 ?_
      refine z_icmp_lt (tgt := 22) hE dX9_letterAt_15 (by decide) h (fun h => ?_) (fun h => ?_)
      · refine z_aload_n hE dX9_letterAt_22 rfl 0 rfl ?_
        refine z_getR (t := 24) hE dX9_letterAt_23 lF_X9_9 sX_23 rfl ?_
        refine z_iload_n hE dX9_letterAt_26 rfl 1 rfl ?_
        obtain ⟨q_1, h⟩ := h
        refine z_iald hE dX9_letterAt_27 sX_24 q_1 ?_
        exact z_iret (st := []) hE dX9_letterAt_28 rfl ⟨_, rfl, rfl, h⟩
      · refine z_iconst (v := -1) hE dX9_letterAt_18 zv_i_m1 ?_
        refine z_goto (tgt := 28) hE dX9_letterAt_19 (by decide) ?_
        exact z_iret (st := []) hE dX9_letterAt_28 rfl ⟨_, rfl, rfl, h⟩
set_option maxRecDepth 4000 in
theorem c_X0_lower (a1 : Int32) (k2 n2 : Nat) (a3 : Int32) (h2 : SX[k2]? = some (2, n2, [])) (μ : ZMem) (Φ : ZMem → Prop) (h : w_X0_lower a1 k2 n2 a3 μ Φ) : zM SX yX0_lower cX0_lower 10 (none) 1 [.ref 48, .int a1, .ref k2, .int a3] μ (zzV Φ) := by
  refine zM_go (own := RX0) rfl (by decide) (Nat.le_of_ble_eq_true rfl) (fun E hE => ?_)
  show zZ E (zzV Φ) 0 [(0, .ref 48), (1, .int a1), (2, .ref k2), (3, .int a3)] [] μ
  unfold w_X0_lower at h
  refine z_aload_n hE dX0_lower_0 rfl 0 rfl ?_
  refine z_getR (t := 57) hE dX0_lower_1 lF_X0_16 sX_48 rfl ?_
  refine z_iload_n hE dX0_lower_4 rfl 1 rfl ?_
  obtain ⟨q_1, h⟩ := h
  refine z_lald hE dX0_lower_5 sX_57 q_1 ?_
  refine z_lstore (lv' := [(4, .long (μ.2 57 (Int32.toNatClampNeg a1))), (0, .ref 48), (1, .int a1), (2, .ref k2), (3, .int a3)]) hE dX0_lower_6 (by decide) rfl ?_
  refine zn (G := fun v4_2 => zZ E (zzV Φ) 8 [(4, .long v4_2), (0, .ref 48), (1, .int a1), (2, .ref k2), (3, .int a3)] [] μ) h (fun v4_2 h => ?_)
  refine z_iconst (v := 0) hE dX0_lower_8 zv_i_0 ?_
  refine z_istore (lv' := [(6, .int (0 : Int32)), (4, .long v4_2), (0, .ref 48), (1, .int a1), (2, .ref k2), (3, .int a3)]) hE dX0_lower_9 (by decide) rfl ?_
  refine z_join (P := fun (J_4 : ZMem → Prop) => ∀ (μ_3 : ZMem), J_4 μ_3 → zZ E (zzV Φ) 47 [(0, .ref 48), (1, .int a1), (2, .ref k2), (3, .int a3), (4, .long v4_2)] [] μ_3) h (fun μ_3 h => ?_) (fun J_4 hJ_4 h => ?_)
  · refine z_iload_n hE dX0_lower_47 rfl 1 rfl ?_
    refine z_iload_n hE dX0_lower_48 rfl 3 rfl ?_
    refine z_isub hE dX0_lower_49 ?_
    refine z_istore (lv' := [(6, .int (a1 - a3)), (0, .ref 48), (1, .int a1), (2, .ref k2), (3, .int a3), (4, .long v4_2)]) hE dX0_lower_50 (by decide) rfl ?_
    refine zn (G := fun v6_5 => zZ E (zzV Φ) 52 [(6, .int v6_5), (0, .ref 48), (1, .int a1), (2, .ref k2), (3, .int a3), (4, .long v4_2)] [] μ_3) h (fun v6_5 h => ?_)
    refine z_iconst (v := 0) hE dX0_lower_52 zv_i_0 ?_
    refine z_istore (lv' := [(7, .int (0 : Int32)), (6, .int v6_5), (0, .ref 48), (1, .int a1), (2, .ref k2), (3, .int a3), (4, .long v4_2)]) hE dX0_lower_53 (by decide) rfl ?_
    refine z_sub [2, 4, 5, 6, 1, 0] rfl ?_
    obtain ⟨n55, h⟩ := h
    refine z_loop2 (P := fun (v7_6 : Int32) (μ_7 : ZMem) => zZ E (zzV Φ) 55 [(0, .ref 48), (2, .ref k2), (3, .int a3), (4, .long v4_2), (6, .int v6_5), (7, .int v7_6)] [] μ_7) (fun k55_7 hk55_7 v7_6 μ_7 h => ?_) n55 _ _ h
    refine z_iload hE dX0_lower_55 5 rfl ?_
    refine z_iload_n hE dX0_lower_57 rfl 2 rfl ?_
    refine z_icmp_gt (tgt := 117) hE dX0_lower_58 (by decide) h (fun h => ?_) (fun h => ?_)
    · exact z_vret (st := []) hE dX0_lower_117 rfl ⟨rfl, h⟩
    · refine z_lload hE dX0_lower_61 3 rfl ?_
      refine z_aload_n hE dX0_lower_63 rfl 1 rfl ?_
      refine z_iload hE dX0_lower_64 5 rfl ?_
      obtain ⟨q_8, h⟩ := h
      refine z_lald hE dX0_lower_66 h2 q_8 ?_
      refine z_callS hE dX0_lower_67 lS_X0_66 (c_X1_times _ _ μ_7 _ h) rfl (Nat.le_of_ble_eq_true rfl) (by decide) rfl (zk_PJ (fun r_9 h => ?_))
      refine z_lstore (lv' := [(8, .long r_9), (0, .ref 48), (2, .ref k2), (3, .int a3), (4, .long v4_2), (6, .int v6_5), (7, .int v7_6)]) hE dX0_lower_70 (by decide) rfl ?_
      refine z_aload_n hE dX0_lower_72 rfl 1 rfl ?_
      refine z_getR (t := 57) hE dX0_lower_73 lF_X0_16 sX_48 rfl ?_
      refine z_iload hE dX0_lower_76 6 rfl ?_
      refine z_iload hE dX0_lower_78 5 rfl ?_
      refine z_iadd hE dX0_lower_80 ?_
      refine z_aload_n hE dX0_lower_81 rfl 1 rfl ?_
      refine z_getR (t := 57) hE dX0_lower_82 lF_X0_16 sX_48 rfl ?_
      refine z_iload hE dX0_lower_85 6 rfl ?_
      refine z_iload hE dX0_lower_87 5 rfl ?_
      refine z_iadd hE dX0_lower_89 ?_
      obtain ⟨q_11, h⟩ := h
      refine z_lald hE dX0_lower_90 sX_57 q_11 ?_
      refine z_aload_n hE dX0_lower_91 rfl 2 rfl ?_
      refine z_iload_n hE dX0_lower_92 rfl 3 rfl ?_
      obtain ⟨q_12, h⟩ := h
      refine z_lald hE dX0_lower_93 h2 q_12 ?_
      refine z_lconst (v := 0) hE dX0_lower_94 zv_l_0 ?_
      refine z_join (P := fun (J_14 : Int64 → Prop) => ∀ (x_13 : Int64), J_14 x_13 → zZ E (zzV Φ) 107 [(0, .ref 48), (2, .ref k2), (3, .int a3), (4, .long v4_2), (6, .int v6_5), (7, .int v7_6)] [.long x_13, .long (μ_7.2 57 (Int32.toNatClampNeg (v7_6 + v6_5))), .int (v7_6 + v6_5), .ref 57] μ_7) h (fun x_13 h => ?_) (fun J_14 hJ_14 h => ?_)
      · refine z_callS hE dX0_lower_107 lS_X0_72 (c_X1_less _ _ μ_7 _ h) rfl (Nat.le_of_ble_eq_true rfl) (by decide) rfl (zk_PJ (fun r_15 h => ?_))
        obtain ⟨q_17, h⟩ := h
        refine z_last hE dX0_lower_110 sX_57 q_17 ?_
        refine zn (G := fun μ_18 => zZ E (zzV Φ) 111 [(0, .ref 48), (2, .ref k2), (3, .int a3), (4, .long v4_2), (6, .int v6_5), (7, .int v7_6)] [] μ_18) h (fun μ_18 h => ?_)
        refine z_iinc (j := 5) (c := 1) (lv' := [(7, .int (v7_6 + (1 : Int32))), (0, .ref 48), (2, .ref k2), (3, .int a3), (4, .long v4_2), (6, .int v6_5)]) hE dX0_lower_111 rfl zv_i_1 (by decide) rfl ?_
        refine z_goto (tgt := 55) hE dX0_lower_114 (by decide) ?_
        exact z_sub [1, 2, 3, 4, 5, 0] rfl (hk55_7 _ _ h)
      refine z_ljmp_ge (tgt := 105) hE dX0_lower_95 dX0_lower_96 (by decide) h (fun h => ?_) (fun h => ?_)
      · refine z_lload hE dX0_lower_105 0 rfl ?_
        exact z_sub [1, 2, 3, 4, 5, 6] rfl (hJ_14 _ h)
      · refine z_lload hE dX0_lower_99 0 rfl ?_
        refine z_lneg hE dX0_lower_101 ?_
        refine z_goto (tgt := 107) hE dX0_lower_102 (by decide) ?_
        exact z_sub [1, 2, 3, 4, 5, 6] rfl (hJ_14 _ h)
  refine z_sub [2, 3, 4, 5, 1, 0] rfl ?_
  obtain ⟨n11, h⟩ := h
  refine z_loop2 (P := fun (v6_19 : Int32) (μ_20 : ZMem) => zZ E (zzV Φ) 11 [(0, .ref 48), (1, .int a1), (2, .ref k2), (3, .int a3), (4, .long v4_2), (6, .int v6_19)] [] μ_20) (fun k11_20 hk11_20 v6_19 μ_20 h => ?_) n11 _ _ h
  refine z_iload hE dX0_lower_11 5 rfl ?_
  refine z_bipush (v := 7) hE dX0_lower_13 zv_b_7 ?_
  refine z_icmp_ge (tgt := 47) hE dX0_lower_15 (by decide) h (fun h => ?_) (fun h => ?_)
  · exact z_sub [0, 1, 2, 3, 4] rfl (hJ_4 _ h)
  · refine z_aload_n hE dX0_lower_18 rfl 0 rfl ?_
    refine z_getR (t := 57) hE dX0_lower_19 lF_X0_16 sX_48 rfl ?_
    refine z_iload hE dX0_lower_22 5 rfl ?_
    refine z_aload_n hE dX0_lower_24 rfl 0 rfl ?_
    refine z_getR (t := 57) hE dX0_lower_25 lF_X0_16 sX_48 rfl ?_
    refine z_iload hE dX0_lower_28 5 rfl ?_
    obtain ⟨q_21, h⟩ := h
    refine z_lald hE dX0_lower_30 sX_57 q_21 ?_
    refine z_aload_n hE dX0_lower_31 rfl 2 rfl ?_
    refine z_iload_n hE dX0_lower_32 rfl 3 rfl ?_
    obtain ⟨q_22, h⟩ := h
    refine z_lald hE dX0_lower_33 h2 q_22 ?_
    refine z_mabsJ hE dX0_lower_34 lM_X0_60 (Nat.le_of_ble_eq_true rfl) ?_
    refine z_callS hE dX0_lower_37 lS_X0_66 (c_X1_times _ _ μ_20 _ h) rfl (Nat.le_of_ble_eq_true rfl) (by decide) rfl (zk_PJ (fun r_23 h => ?_))
    obtain ⟨q_25, h⟩ := h
    refine z_last hE dX0_lower_40 sX_57 q_25 ?_
    refine zn (G := fun μ_26 => zZ E (zzV Φ) 41 [(0, .ref 48), (1, .int a1), (2, .ref k2), (3, .int a3), (4, .long v4_2), (6, .int v6_19)] [] μ_26) h (fun μ_26 h => ?_)
    refine z_iinc (j := 5) (c := 1) (lv' := [(6, .int (v6_19 + (1 : Int32))), (0, .ref 48), (1, .int a1), (2, .ref k2), (3, .int a3), (4, .long v4_2)]) hE dX0_lower_41 rfl zv_i_1 (by decide) rfl ?_
    refine z_goto (tgt := 11) hE dX0_lower_44 (by decide) ?_
    exact z_sub [1, 2, 3, 4, 5, 0] rfl (hk11_20 _ _ h)
set_option maxRecDepth 4000 in
theorem c_X0_valueAt (k0 n0 : Nat) (a1 : Int32) (h0 : SX[k0]? = some (2, n0, [])) (μ : ZMem) (Φ : Int64 → Prop) (h : w_X0_valueAt k0 n0 a1 μ Φ) : zM SX yX0_valueAt cX0_valueAt 5 (some FieldType.long) 1 [.ref k0, .int a1] μ (zzPJ Φ μ) := by
  refine zM_go (own := RX0) rfl (by decide) (Nat.le_of_ble_eq_true rfl) (fun E hE => ?_)
  show zZ E (zzPJ Φ μ) 0 [(0, .ref k0), (1, .int a1)] [] μ
  unfold w_X0_valueAt at h
  refine z_lconst (v := 0) hE dX0_valueAt_0 zv_l_0 ?_
  refine z_lstore_n (lv' := [(2, .long (0 : Int64)), (0, .ref k0), (1, .int a1)]) hE dX0_valueAt_1 rfl (by decide) rfl ?_
  refine z_aload_n hE dX0_valueAt_2 rfl 1 rfl ?_
  refine z_callS hE dX0_valueAt_3 lS_X0_28 (c_X4_highest _ _ h0 μ _ h) rfl (Nat.le_of_ble_eq_true rfl) (by decide) rfl (zk_PI (fun r_1 h => ?_))
  refine z_istore (lv' := [(4, .int r_1), (2, .long (0 : Int64)), (0, .ref k0), (1, .int a1)]) hE dX0_valueAt_6 (by decide) rfl ?_
  refine z_sub [2, 3, 1, 0] rfl ?_
  obtain ⟨n8, h⟩ := h
  refine z_loop2 (P := fun (v2_3 : Int64) (v4_4 : Int32) => zZ E (zzPJ Φ μ) 8 [(0, .ref k0), (1, .int a1), (2, .long v2_3), (4, .int v4_4)] [] μ) (fun k8_4 hk8_4 v2_3 v4_4 h => ?_) n8 _ _ h
  refine z_iload hE dX0_valueAt_8 3 rfl ?_
  refine z_if_lt (tgt := 33) hE dX0_valueAt_10 (by decide) h (fun h => ?_) (fun h => ?_)
  · refine z_lload_n hE dX0_valueAt_33 rfl 2 rfl ?_
    exact z_lret (st := []) hE dX0_valueAt_34 rfl ⟨_, rfl, rfl, h⟩
  · refine z_lload_n hE dX0_valueAt_13 rfl 2 rfl ?_
    refine z_iload_n hE dX0_valueAt_14 rfl 1 rfl ?_
    refine z_i2l hE dX0_valueAt_15 ?_
    refine z_callS hE dX0_valueAt_16 lS_X0_66 (c_X1_times _ _ μ _ h) rfl (Nat.le_of_ble_eq_true rfl) (by decide) rfl (zk_PJ (fun r_5 h => ?_))
    refine z_aload_n hE dX0_valueAt_19 rfl 0 rfl ?_
    refine z_iload hE dX0_valueAt_20 3 rfl ?_
    obtain ⟨q_7, h⟩ := h
    refine z_lald hE dX0_valueAt_22 h0 q_7 ?_
    refine z_callS hE dX0_valueAt_23 lS_X0_81 (c_X1_plus _ _ μ _ h) rfl (Nat.le_of_ble_eq_true rfl) (by decide) rfl (zk_PJ (fun r_8 h => ?_))
    refine z_lstore_n (lv' := [(2, .long r_8), (0, .ref k0), (1, .int a1), (4, .int v4_4)]) hE dX0_valueAt_26 rfl (by decide) rfl ?_
    refine z_iinc (j := 3) (c := -1) (lv' := [(4, .int (v4_4 + (-1 : Int32))), (2, .long r_8), (0, .ref k0), (1, .int a1)]) hE dX0_valueAt_27 rfl zv_i_m1 (by decide) rfl ?_
    refine z_goto (tgt := 8) hE dX0_valueAt_30 (by decide) ?_
    exact z_sub [2, 3, 1, 0] rfl (hk8_4 _ _ h)
