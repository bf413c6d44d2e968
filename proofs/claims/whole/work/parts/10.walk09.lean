set_option maxRecDepth 4000 in
theorem c_X11_caseOf (a1 : Int32) (a2 : Int32) (μ : ZMem) (Φ : Int32 → ZMem → Prop) (h : w_X11_caseOf a1 a2 μ Φ) : zM SX yX11_caseOf cX11_caseOf 4 (some FieldType.int) 4 [.ref 0, .int a1, .int a2] μ (zzI Φ) := by
  refine zM_go (own := RX11) rfl (by decide) (Nat.le_of_ble_eq_true rfl) (fun E hE => ?_)
  show zZ E (zzI Φ) 0 [(0, .ref 0), (1, .int a1), (2, .int a2)] [] μ
  unfold w_X11_caseOf at h
  refine z_iload_n hE dX11_caseOf_0 rfl 1 rfl ?_
  refine z_callS hE dX11_caseOf_1 lS_X11_132 (c_X11_isForm _ μ _ h) rfl (Nat.le_of_ble_eq_true rfl) (by decide) rfl (zk_PI (fun r_1 h => ?_))
  refine z_if_ne (tgt := 10) hE dX11_caseOf_4 (by decide) h (fun h => ?_) (fun h => ?_)
  · refine z_aload_n hE dX11_caseOf_10 rfl 0 rfl ?_
    refine z_iload_n hE dX11_caseOf_11 rfl 1 rfl ?_
    refine z_callV hE dX11_caseOf_12 lV_X11_148 (c_X11_tableOf _ μ _ h) sX_0 rfl (Nat.le_of_ble_eq_true rfl) (by decide) rfl (zk_R (fun r_3 μ_4 h => ?_))
    obtain ⟨er_3, h⟩ := h
    refine z_astore_n (lv' := [(3, .ref r_3), (0, .ref 0), (1, .int a1), (2, .int a2)]) hE dX11_caseOf_15 rfl (by decide) rfl ?_
    refine z_aload_n hE dX11_caseOf_16 rfl 0 rfl ?_
    refine z_iload_n hE dX11_caseOf_17 rfl 3 rfl ?_
    refine z_callV hE dX11_caseOf_18 lV_X11_156 (c_X8_hasRow _ _ er_3 μ_4 _ h) er_3.1 rfl (Nat.le_of_ble_eq_true rfl) (by decide) rfl (zk_PI (fun r_5 h => ?_))
    refine z_if_ne (tgt := 26) hE dX11_caseOf_21 (by decide) h (fun h => ?_) (fun h => ?_)
    · refine z_aload_n hE dX11_caseOf_26 rfl 0 rfl ?_
      refine z_getI hE dX11_caseOf_27 lF_X11_152 er_3.1 rfl ?_
      refine z_if_eq (tgt := 38) hE dX11_caseOf_30 (by decide) h (fun h => ?_) (fun h => ?_)
      · refine z_aload_n hE dX11_caseOf_38 rfl 0 rfl ?_
        refine z_iload_n hE dX11_caseOf_39 rfl 3 rfl ?_
        refine z_callV hE dX11_caseOf_40 lV_X11_167 (c_X8_mending _ _ er_3 μ_4 _ h) er_3.1 rfl (Nat.le_of_ble_eq_true rfl) (by decide) rfl (zk_PI (fun r_7 h => ?_))
        exact z_iret (st := []) hE dX11_caseOf_43 rfl ⟨_, rfl, h⟩
      · refine z_bipush (v := -7) hE dX11_caseOf_33 zv_b_m7 ?_
        refine z_goto (tgt := 43) hE dX11_caseOf_35 (by decide) ?_
        exact z_iret (st := []) hE dX11_caseOf_43 rfl ⟨_, rfl, h⟩
    · refine z_iconst (v := -1) hE dX11_caseOf_24 zv_i_m1 ?_
      exact z_iret (st := []) hE dX11_caseOf_25 rfl ⟨_, rfl, h⟩
  · refine z_bipush (v := -2) hE dX11_caseOf_7 zv_b_m2 ?_
    exact z_iret (st := []) hE dX11_caseOf_9 rfl ⟨_, rfl, h⟩
set_option maxRecDepth 4000 in
theorem c_X11_chain (a1 : Int32) (μ : ZMem) (Φ : Int32 → ZMem → Prop) (h : w_X11_chain a1 μ Φ) : zM SX yX11_chain cX11_chain 2 (some FieldType.int) 4 [.ref 0, .int a1] μ (zzI Φ) := by
  refine zM_go (own := RX11) rfl (by decide) (Nat.le_of_ble_eq_true rfl) (fun E hE => ?_)
  show zZ E (zzI Φ) 0 [(0, .ref 0), (1, .int a1)] [] μ
  unfold w_X11_chain at h
  refine z_iload_n hE dX11_chain_0 rfl 1 rfl ?_
  refine z_bipush (v := 20) hE dX11_chain_1 zv_b_20 ?_
  refine z_callS hE dX11_chain_3 lS_X11_86 (c_X11_isWithin _ _ μ _ h) rfl (Nat.le_of_ble_eq_true rfl) (by decide) rfl (zk_PI (fun r_1 h => ?_))
  refine z_if_eq (tgt := 23) hE dX11_chain_6 (by decide) h (fun h => ?_) (fun h => ?_)
  · refine z_bipush (v := -2) hE dX11_chain_23 zv_b_m2 ?_
    exact z_iret (st := []) hE dX11_chain_25 rfl ⟨_, rfl, h⟩
  · refine z_aload_n hE dX11_chain_9 rfl 0 rfl ?_
    refine z_getR (t := 48) hE dX11_chain_10 lF_X11_44 sX_0 rfl ?_
    refine z_aload_n hE dX11_chain_13 rfl 0 rfl ?_
    refine z_callV hE dX11_chain_14 lV_X11_98 (c_X11_currentC  μ _ h) sX_0 rfl (Nat.le_of_ble_eq_true rfl) (by decide) rfl (zk_R (fun r_3 μ_4 h => ?_))
    obtain ⟨er_3, h⟩ := h
    refine z_callV hE dX11_chain_17 lV_X11_222 (c_X0_build _ _ er_3 μ_4 _ h) sX_48 rfl (Nat.le_of_ble_eq_true rfl) (by decide) rfl (zk_I (fun r_5 μ_6 h => ?_))
    refine z_if_ne (tgt := 26) hE dX11_chain_20 (by decide) h (fun h => ?_) (fun h => ?_)
    · refine z_aload_n hE dX11_chain_26 rfl 0 rfl ?_
      refine z_getR (t := 48) hE dX11_chain_27 lF_X11_44 sX_0 rfl ?_
      refine z_iload_n hE dX11_chain_30 rfl 1 rfl ?_
      refine z_callV hE dX11_chain_31 lV_X11_231 (c_X0_changesAt _ μ_6 _ h) sX_48 rfl (Nat.le_of_ble_eq_true rfl) (by decide) rfl (zk_PI (fun r_7 h => ?_))
      exact z_iret (st := []) hE dX11_chain_34 rfl ⟨_, rfl, h⟩
    · refine z_bipush (v := -2) hE dX11_chain_23 zv_b_m2 ?_
      exact z_iret (st := []) hE dX11_chain_25 rfl ⟨_, rfl, h⟩
set_option maxRecDepth 4000 in
theorem c_X11_changes (a1 : Int32) (a2 : Int32) (a3 : Int32) (μ : ZMem) (Φ : Int32 → ZMem → Prop) (h : w_X11_changes a1 a2 a3 μ Φ) : zM SX yX11_changes cX11_changes 5 (some FieldType.int) 4 [.ref 0, .int a1, .int a2, .int a3] μ (zzI Φ) := by
  refine zM_go (own := RX11) rfl (by decide) (Nat.le_of_ble_eq_true rfl) (fun E hE => ?_)
  show zZ E (zzI Φ) 0 [(0, .ref 0), (1, .int a1), (2, .int a2), (3, .int a3)] [] μ
  unfold w_X11_changes at h
  refine z_iload_n hE dX11_changes_0 rfl 1 rfl ?_
  refine z_callS hE dX11_changes_1 lS_X11_132 (c_X11_isForm _ μ _ h) rfl (Nat.le_of_ble_eq_true rfl) (by decide) rfl (zk_PI (fun r_1 h => ?_))
  refine z_if_ne (tgt := 10) hE dX11_changes_4 (by decide) h (fun h => ?_) (fun h => ?_)
  · refine z_aload_n hE dX11_changes_10 rfl 0 rfl ?_
    refine z_iload_n hE dX11_changes_11 rfl 1 rfl ?_
    refine z_callV hE dX11_changes_12 lV_X11_148 (c_X11_tableOf _ μ _ h) sX_0 rfl (Nat.le_of_ble_eq_true rfl) (by decide) rfl (zk_R (fun r_3 μ_4 h => ?_))
    obtain ⟨er_3, h⟩ := h
    refine z_astore (lv' := [(4, .ref r_3), (0, .ref 0), (1, .int a1), (2, .int a2), (3, .int a3)]) hE dX11_changes_15 (by decide) rfl ?_
    refine z_aload hE dX11_changes_17 0 rfl ?_
    refine z_iload_n hE dX11_changes_19 rfl 3 rfl ?_
    refine z_callV hE dX11_changes_20 lV_X11_156 (c_X8_hasRow _ _ er_3 μ_4 _ h) er_3.1 rfl (Nat.le_of_ble_eq_true rfl) (by decide) rfl (zk_PI (fun r_5 h => ?_))
    refine z_if_eq (tgt := 40) hE dX11_changes_23 (by decide) h (fun h => ?_) (fun h => ?_)
    · refine z_iconst (v := -1) hE dX11_changes_40 zv_i_m1 ?_
      exact z_iret (st := []) hE dX11_changes_41 rfl ⟨_, rfl, h⟩
    · refine z_aload hE dX11_changes_26 0 rfl ?_
      refine z_iload_n hE dX11_changes_28 rfl 4 rfl ?_
      refine z_callV hE dX11_changes_29 lV_X11_156 (c_X8_hasRow _ _ er_3 μ_4 _ h) er_3.1 rfl (Nat.le_of_ble_eq_true rfl) (by decide) rfl (zk_PI (fun r_7 h => ?_))
      refine z_if_eq (tgt := 40) hE dX11_changes_32 (by decide) h (fun h => ?_) (fun h => ?_)
      · refine z_iconst (v := -1) hE dX11_changes_40 zv_i_m1 ?_
        exact z_iret (st := []) hE dX11_changes_41 rfl ⟨_, rfl, h⟩
      · refine z_iload_n hE dX11_changes_35 rfl 4 rfl ?_
        refine z_iload_n hE dX11_changes_36 rfl 3 rfl ?_
        refine z_icmp_ge (tgt := 42) hE dX11_changes_37 (by decide) h (fun h => ?_) (fun h => ?_)
        · refine z_aload hE dX11_changes_42 0 rfl ?_
          refine z_getI hE dX11_changes_44 lF_X11_152 er_3.1 rfl ?_
          refine z_if_eq (tgt := 55) hE dX11_changes_47 (by decide) h (fun h => ?_) (fun h => ?_)
          · refine z_aload hE dX11_changes_55 0 rfl ?_
            refine z_iload_n hE dX11_changes_57 rfl 3 rfl ?_
            refine z_iload_n hE dX11_changes_58 rfl 4 rfl ?_
            refine z_callV hE dX11_changes_59 lV_X11_183 (c_X8_signChanges _ _ _ er_3 μ_4 _ h) er_3.1 rfl (Nat.le_of_ble_eq_true rfl) (by decide) rfl (zk_PI (fun r_9 h => ?_))
            exact z_iret (st := []) hE dX11_changes_62 rfl ⟨_, rfl, h⟩
          · refine z_bipush (v := -7) hE dX11_changes_50 zv_b_m7 ?_
            refine z_goto (tgt := 62) hE dX11_changes_52 (by decide) ?_
            exact z_iret (st := []) hE dX11_changes_62 rfl ⟨_, rfl, h⟩
        · refine z_iconst (v := -1) hE dX11_changes_40 zv_i_m1 ?_
          exact z_iret (st := []) hE dX11_changes_41 rfl ⟨_, rfl, h⟩
  · refine z_bipush (v := -2) hE dX11_changes_7 zv_b_m2 ?_
    exact z_iret (st := []) hE dX11_changes_9 rfl ⟨_, rfl, h⟩
set_option maxRecDepth 4000 in
theorem c_X11_jump (a1 : Int32) (μ : ZMem) (Φ : Int32 → ZMem → Prop) (h : w_X11_jump a1 μ Φ) : zM SX yX11_jump cX11_jump 2 (some FieldType.int) 4 [.ref 0, .int a1] μ (zzI Φ) := by
  refine zM_go (own := RX11) rfl (by decide) (Nat.le_of_ble_eq_true rfl) (fun E hE => ?_)
  show zZ E (zzI Φ) 0 [(0, .ref 0), (1, .int a1)] [] μ
  unfold w_X11_jump at h
  refine z_aload_n hE dX11_jump_0 rfl 0 rfl ?_
  refine z_getR (t := 78) hE dX11_jump_1 lF_X11_70 sX_0 rfl ?_
  refine z_aload_n hE dX11_jump_4 rfl 0 rfl ?_
  refine z_getR (t := 1) hE dX11_jump_5 lF_X11_14 sX_0 rfl ?_
  refine z_callV hE dX11_jump_8 lV_X11_305 (c_X5_survey  μ _ h) sX_78 rfl (Nat.le_of_ble_eq_true rfl) (by decide) rfl (zk_V (fun μ_2 h => ?_))
  refine z_iload_n hE dX11_jump_11 rfl 1 rfl ?_
  refine z_if_lt (tgt := 26) hE dX11_jump_12 (by decide) h (fun h => ?_) (fun h => ?_)
  · refine z_iconst (v := -1) hE dX11_jump_26 zv_i_m1 ?_
    exact z_iret (st := []) hE dX11_jump_27 rfl ⟨_, rfl, h⟩
  · refine z_iload_n hE dX11_jump_15 rfl 1 rfl ?_
    refine z_aload_n hE dX11_jump_16 rfl 0 rfl ?_
    refine z_getR (t := 78) hE dX11_jump_17 lF_X11_70 sX_0 rfl ?_
    refine z_callV hE dX11_jump_20 lV_X11_312 (c_X5_jumpCount  μ_2 _ h) sX_78 rfl (Nat.le_of_ble_eq_true rfl) (by decide) rfl (zk_PI (fun r_3 h => ?_))
    refine z_icmp_lt (tgt := 28) hE dX11_jump_23 (by decide) h (fun h => ?_) (fun h => ?_)
    · refine z_aload_n hE dX11_jump_28 rfl 0 rfl ?_
      refine z_getR (t := 78) hE dX11_jump_29 lF_X11_70 sX_0 rfl ?_
      refine z_iload_n hE dX11_jump_32 rfl 1 rfl ?_
      refine z_callV hE dX11_jump_33 lV_X11_315 (c_X5_jumpAt _ μ_2 _ h) sX_78 rfl (Nat.le_of_ble_eq_true rfl) (by decide) rfl (zk_PI (fun r_5 h => ?_))
      refine z_sipush (v := 1000) hE dX11_jump_36 zv_s_1000 ?_
      refine z_iadd hE dX11_jump_39 ?_
      exact z_iret (st := []) hE dX11_jump_40 rfl ⟨_, rfl, h⟩
    · refine z_iconst (v := -1) hE dX11_jump_26 zv_i_m1 ?_
      exact z_iret (st := []) hE dX11_jump_27 rfl ⟨_, rfl, h⟩
set_option maxRecDepth 4000 in
theorem c_X11_jumps  (μ : ZMem) (Φ : Int32 → ZMem → Prop) (h : w_X11_jumps μ Φ) : zM SX yX11_jumps cX11_jumps 1 (some FieldType.int) 4 [.ref 0] μ (zzI Φ) := by
  refine zM_go (own := RX11) rfl (by decide) (Nat.le_of_ble_eq_true rfl) (fun E hE => ?_)
  show zZ E (zzI Φ) 0 [(0, .ref 0)] [] μ
  unfold w_X11_jumps at h
  refine z_aload_n hE dX11_jumps_0 rfl 0 rfl ?_
  refine z_getR (t := 78) hE dX11_jumps_1 lF_X11_70 sX_0 rfl ?_
  refine z_aload_n hE dX11_jumps_4 rfl 0 rfl ?_
  refine z_getR (t := 1) hE dX11_jumps_5 lF_X11_14 sX_0 rfl ?_
  refine z_callV hE dX11_jumps_8 lV_X11_305 (c_X5_survey  μ _ h) sX_78 rfl (Nat.le_of_ble_eq_true rfl) (by decide) rfl (zk_V (fun μ_2 h => ?_))
  refine z_aload_n hE dX11_jumps_11 rfl 0 rfl ?_
  refine z_getR (t := 78) hE dX11_jumps_12 lF_X11_70 sX_0 rfl ?_
  refine z_callV hE dX11_jumps_15 lV_X11_312 (c_X5_jumpCount  μ_2 _ h) sX_78 rfl (Nat.le_of_ble_eq_true rfl) (by decide) rfl (zk_PI (fun r_3 h => ?_))
  exact z_iret (st := []) hE dX11_jumps_18 rfl ⟨_, rfl, h⟩
set_option maxRecDepth 4000 in
theorem c_X11_known (a1 : Int32) (μ : ZMem) (Φ : Int32 → Prop) (h : w_X11_known a1 μ Φ) : zM SX yX11_known cX11_known 2 (some FieldType.int) 4 [.ref 0, .int a1] μ (zzPI Φ μ) := by
  refine zM_go (own := RX11) rfl (by decide) (Nat.le_of_ble_eq_true rfl) (fun E hE => ?_)
  show zZ E (zzPI Φ μ) 0 [(0, .ref 0), (1, .int a1)] [] μ
  unfold w_X11_known at h
  refine z_iload_n hE dX11_known_0 rfl 1 rfl ?_
  obtain ⟨g1_0, g1_1, g1_2, g1_3, gd_1⟩ := h
  by_cases c1_0 : a1 = (0 : Int32)
  · have h := g1_0 c1_0
    refine z_swIn (tgt := 32) hE dX11_known_1 (by rw [c1_0]; decide) (by rw [c1_0]; decide) (by rw [c1_0]; rfl) (by decide) ?_
    refine z_aload_n hE dX11_known_32 rfl 0 rfl ?_
    refine z_getR (t := 1) hE dX11_known_33 lF_X11_14 sX_0 rfl ?_
    refine z_callV hE dX11_known_36 lV_X11_285 (c_X3_factorsRight  μ _ h) sX_1 rfl (Nat.le_of_ble_eq_true rfl) (by decide) rfl (zk_PI (fun r_1 h => ?_))
    exact z_iret (st := []) hE dX11_known_39 rfl ⟨_, rfl, rfl, h⟩
  by_cases c1_1 : a1 = (1 : Int32)
  · have h := g1_1 c1_1
    refine z_swIn (tgt := 40) hE dX11_known_1 (by rw [c1_1]; decide) (by rw [c1_1]; decide) (by rw [c1_1]; rfl) (by decide) ?_
    refine z_aload_n hE dX11_known_40 rfl 0 rfl ?_
    refine z_getR (t := 1) hE dX11_known_41 lF_X11_14 sX_0 rfl ?_
    refine z_callV hE dX11_known_44 lV_X11_288 (c_X3_factorsAxis  μ _ h) sX_1 rfl (Nat.le_of_ble_eq_true rfl) (by decide) rfl (zk_PI (fun r_3 h => ?_))
    exact z_iret (st := []) hE dX11_known_47 rfl ⟨_, rfl, rfl, h⟩
  by_cases c1_2 : a1 = (2 : Int32)
  · have h := g1_2 c1_2
    refine z_swIn (tgt := 48) hE dX11_known_1 (by rw [c1_2]; decide) (by rw [c1_2]; decide) (by rw [c1_2]; rfl) (by decide) ?_
    refine z_aload_n hE dX11_known_48 rfl 0 rfl ?_
    refine z_getR (t := 1) hE dX11_known_49 lF_X11_14 sX_0 rfl ?_
    refine z_callV hE dX11_known_52 lV_X11_291 (c_X3_factorsLeft  μ _ h) sX_1 rfl (Nat.le_of_ble_eq_true rfl) (by decide) rfl (zk_PI (fun r_5 h => ?_))
    exact z_iret (st := []) hE dX11_known_55 rfl ⟨_, rfl, rfl, h⟩
  by_cases c1_3 : a1 = (3 : Int32)
  · have h := g1_3 c1_3
    refine z_swIn (tgt := 56) hE dX11_known_1 (by rw [c1_3]; decide) (by rw [c1_3]; decide) (by rw [c1_3]; rfl) (by decide) ?_
    refine z_aload_n hE dX11_known_56 rfl 0 rfl ?_
    refine z_getR (t := 1) hE dX11_known_57 lF_X11_14 sX_0 rfl ?_
    refine z_callV hE dX11_known_60 lV_X11_294 (c_X3_factorsSize  μ _ h) sX_1 rfl (Nat.le_of_ble_eq_true rfl) (by decide) rfl (zk_PI (fun r_7 h => ?_))
    exact z_iret (st := []) hE dX11_known_63 rfl ⟨_, rfl, rfl, h⟩
  have h := gd_1 c1_0 c1_1 c1_2 c1_3
  refine z_swOut (tgt := 64) hE dX11_known_1 (by have e0 := lv_neT c1_0 (a := 0) (by decide); have e1 := lv_neT c1_1 (a := 1) (by decide); have e2 := lv_neT c1_2 (a := 2) (by decide); have e3 := lv_neT c1_3 (a := 3) (by decide); show _ < (0 : Int) ∨ (3 : Int) < _; omega) (by decide) ?_
  refine z_bipush (v := -2) hE dX11_known_64 zv_b_m2 ?_
  exact z_iret (st := []) hE dX11_known_66 rfl ⟨_, rfl, rfl, h⟩
set_option maxRecDepth 4000 in
theorem c_X11_link (a1 : Int32) (a2 : Int32) (μ : ZMem) (Φ : Int64 → ZMem → Prop) (h : w_X11_link a1 a2 μ Φ) : zM SX yX11_link cX11_link 3 (some FieldType.long) 4 [.ref 0, .int a1, .int a2] μ (zzJ Φ) := by
  refine zM_go (own := RX11) rfl (by decide) (Nat.le_of_ble_eq_true rfl) (fun E hE => ?_)
  show zZ E (zzJ Φ) 0 [(0, .ref 0), (1, .int a1), (2, .int a2)] [] μ
  unfold w_X11_link at h
  refine z_aload_n hE dX11_link_0 rfl 0 rfl ?_
  refine z_getR (t := 48) hE dX11_link_1 lF_X11_44 sX_0 rfl ?_
  refine z_aload_n hE dX11_link_4 rfl 0 rfl ?_
  refine z_callV hE dX11_link_5 lV_X11_98 (c_X11_currentC  μ _ h) sX_0 rfl (Nat.le_of_ble_eq_true rfl) (by decide) rfl (zk_R (fun r_1 μ_2 h => ?_))
  obtain ⟨er_1, h⟩ := h
  refine z_callV hE dX11_link_8 lV_X11_222 (c_X0_build _ _ er_1 μ_2 _ h) sX_48 rfl (Nat.le_of_ble_eq_true rfl) (by decide) rfl (zk_I (fun r_3 μ_4 h => ?_))
  refine z_if_eq (tgt := 24) hE dX11_link_11 (by decide) h (fun h => ?_) (fun h => ?_)
  · refine z_ldc2 (v := -9223372036854775808) hE dX11_link_24 lK_X11_90 ?_
    exact z_lret (st := []) hE dX11_link_27 rfl ⟨_, rfl, h⟩
  · refine z_aload_n hE dX11_link_14 rfl 0 rfl ?_
    refine z_getR (t := 48) hE dX11_link_15 lF_X11_44 sX_0 rfl ?_
    refine z_getI hE dX11_link_18 lF_X11_226 sX_48 rfl ?_
    refine z_if_eq (tgt := 28) hE dX11_link_21 (by decide) h (fun h => ?_) (fun h => ?_)
    · refine z_iload_n hE dX11_link_28 rfl 1 rfl ?_
      refine z_if_lt (tgt := 50) hE dX11_link_29 (by decide) h (fun h => ?_) (fun h => ?_)
      · refine z_ldc2 (v := -9223372036854775808) hE dX11_link_50 lK_X11_90 ?_
        exact z_lret (st := []) hE dX11_link_53 rfl ⟨_, rfl, h⟩
      · refine z_iload_n hE dX11_link_32 rfl 1 rfl ?_
        refine z_aload_n hE dX11_link_33 rfl 0 rfl ?_
        refine z_getR (t := 48) hE dX11_link_34 lF_X11_44 sX_0 rfl ?_
        refine z_getI hE dX11_link_37 lF_X11_227 sX_48 rfl ?_
        refine z_icmp_ge (tgt := 50) hE dX11_link_40 (by decide) h (fun h => ?_) (fun h => ?_)
        · refine z_ldc2 (v := -9223372036854775808) hE dX11_link_50 lK_X11_90 ?_
          exact z_lret (st := []) hE dX11_link_53 rfl ⟨_, rfl, h⟩
        · refine z_iload_n hE dX11_link_43 rfl 2 rfl ?_
          refine z_callS hE dX11_link_44 lS_X11_82 (c_X11_isPower _ μ_4 _ h) rfl (Nat.le_of_ble_eq_true rfl) (by decide) rfl (zk_PI (fun r_5 h => ?_))
          refine z_if_ne (tgt := 54) hE dX11_link_47 (by decide) h (fun h => ?_) (fun h => ?_)
          · refine z_aload_n hE dX11_link_54 rfl 0 rfl ?_
            refine z_getR (t := 48) hE dX11_link_55 lF_X11_44 sX_0 rfl ?_
            refine z_iload_n hE dX11_link_58 rfl 1 rfl ?_
            refine z_iload_n hE dX11_link_59 rfl 2 rfl ?_
            refine z_callV hE dX11_link_60 lV_X11_228 (c_X0_coefficient _ _ μ_4 _ h) sX_48 rfl (Nat.le_of_ble_eq_true rfl) (by decide) rfl (zk_PJ (fun r_7 h => ?_))
            exact z_lret (st := []) hE dX11_link_63 rfl ⟨_, rfl, h⟩
          · refine z_ldc2 (v := -9223372036854775808) hE dX11_link_50 lK_X11_90 ?_
            exact z_lret (st := []) hE dX11_link_53 rfl ⟨_, rfl, h⟩
    · refine z_ldc2 (v := -9223372036854775808) hE dX11_link_24 lK_X11_90 ?_
      exact z_lret (st := []) hE dX11_link_27 rfl ⟨_, rfl, h⟩
set_option maxRecDepth 4000 in
theorem c_X11_links  (μ : ZMem) (Φ : Int32 → ZMem → Prop) (h : w_X11_links μ Φ) : zM SX yX11_links cX11_links 1 (some FieldType.int) 4 [.ref 0] μ (zzI Φ) := by
  refine zM_go (own := RX11) rfl (by decide) (Nat.le_of_ble_eq_true rfl) (fun E hE => ?_)
  show zZ E (zzI Φ) 0 [(0, .ref 0)] [] μ
  unfold w_X11_links at h
  refine z_aload_n hE dX11_links_0 rfl 0 rfl ?_
  refine z_getR (t := 48) hE dX11_links_1 lF_X11_44 sX_0 rfl ?_
  refine z_aload_n hE dX11_links_4 rfl 0 rfl ?_
  refine z_callV hE dX11_links_5 lV_X11_98 (c_X11_currentC  μ _ h) sX_0 rfl (Nat.le_of_ble_eq_true rfl) (by decide) rfl (zk_R (fun r_1 μ_2 h => ?_))
  obtain ⟨er_1, h⟩ := h
  refine z_callV hE dX11_links_8 lV_X11_222 (c_X0_build _ _ er_1 μ_2 _ h) sX_48 rfl (Nat.le_of_ble_eq_true rfl) (by decide) rfl (zk_I (fun r_3 μ_4 h => ?_))
  refine z_if_ne (tgt := 17) hE dX11_links_11 (by decide) h (fun h => ?_) (fun h => ?_)
  · refine z_aload_n hE dX11_links_17 rfl 0 rfl ?_
    refine z_getR (t := 48) hE dX11_links_18 lF_X11_44 sX_0 rfl ?_
    refine z_getI hE dX11_links_21 lF_X11_226 sX_48 rfl ?_
    refine z_if_eq (tgt := 32) hE dX11_links_24 (by decide) h (fun h => ?_) (fun h => ?_)
    · refine z_aload_n hE dX11_links_32 rfl 0 rfl ?_
      refine z_getR (t := 48) hE dX11_links_33 lF_X11_44 sX_0 rfl ?_
      refine z_getI hE dX11_links_36 lF_X11_227 sX_48 rfl ?_
      exact z_iret (st := []) hE dX11_links_39 rfl ⟨_, rfl, h⟩
    · refine z_bipush (v := -7) hE dX11_links_27 zv_b_m7 ?_
      refine z_goto (tgt := 39) hE dX11_links_29 (by decide) ?_
      exact z_iret (st := []) hE dX11_links_39 rfl ⟨_, rfl, h⟩
  · refine z_bipush (v := -2) hE dX11_links_14 zv_b_m2 ?_
    exact z_iret (st := []) hE dX11_links_16 rfl ⟨_, rfl, h⟩
set_option maxRecDepth 4000 in
theorem c_X11_reach  (μ : ZMem) (Φ : Int32 → ZMem → Prop) (h : w_X11_reach μ Φ) : zM SX yX11_reach cX11_reach 7 (some FieldType.int) 4 [.ref 0] μ (zzI Φ) := by
  refine zM_go (own := RX11) rfl (by decide) (Nat.le_of_ble_eq_true rfl) (fun E hE => ?_)
  show zZ E (zzI Φ) 0 [(0, .ref 0)] [] μ
  unfold w_X11_reach at h
  refine z_aload_n hE dX11_reach_0 rfl 0 rfl ?_
  refine z_callV hE dX11_reach_1 lV_X11_98 (c_X11_currentC  μ _ h) sX_0 rfl (Nat.le_of_ble_eq_true rfl) (by decide) rfl (zk_R (fun r_1 μ_2 h => ?_))
  obtain ⟨er_1, h⟩ := h
  refine z_callS hE dX11_reach_4 lS_X11_187 (c_X4_highest _ _ er_1 μ_2 _ h) rfl (Nat.le_of_ble_eq_true rfl) (by decide) rfl (zk_PI (fun r_3 h => ?_))
  refine z_istore_n (lv' := [(1, .int r_3), (0, .ref 0)]) hE dX11_reach_7 rfl (by decide) rfl ?_
  refine z_iload_n hE dX11_reach_8 rfl 0 rfl ?_
  refine z_iconst (v := 1) hE dX11_reach_9 zv_i_1 ?_
  refine z_icmp_ge (tgt := 16) hE dX11_reach_10 (by decide) h (fun h => ?_) (fun h => ?_)
  · refine z_bipush (v := -21) hE dX11_reach_16 zv_b_m21 ?_
    refine z_istore_n (lv' := [(2, .int (-21 : Int32)), (1, .int r_3), (0, .ref 0)]) hE dX11_reach_18 rfl (by decide) rfl ?_
    refine z_bipush (v := 21) hE dX11_reach_19 zv_b_21 ?_
    refine z_istore_n (lv' := [(3, .int (21 : Int32)), (2, .int (-21 : Int32)), (1, .int r_3), (0, .ref 0)]) hE dX11_reach_21 rfl (by decide) rfl ?_
    refine z_iconst (v := 0) hE dX11_reach_22 zv_i_0 ?_
    refine z_istore (lv' := [(4, .int (0 : Int32)), (3, .int (21 : Int32)), (2, .int (-21 : Int32)), (1, .int r_3), (0, .ref 0)]) hE dX11_reach_23 (by decide) rfl ?_
    refine z_join (P := fun (J_7 : Int32 → ZMem → Prop) => ∀ (v3_5 : Int32) (μ_6 : ZMem), J_7 v3_5 μ_6 → zZ E (zzI Φ) 92 [(3, .int v3_5)] [] μ_6) h (fun v3_5 μ_6 h => ?_) (fun J_7 hJ_7 h => ?_)
    · refine z_iload_n hE dX11_reach_92 rfl 0 rfl ?_
      refine z_bipush (v := 20) hE dX11_reach_93 zv_b_20 ?_
      refine z_icmp_le (tgt := 102) hE dX11_reach_95 (by decide) h (fun h => ?_) (fun h => ?_)
      · refine z_iload_n hE dX11_reach_102 rfl 0 rfl ?_
        refine z_sipush (v := 1000) hE dX11_reach_103 zv_s_1000 ?_
        refine z_iadd hE dX11_reach_106 ?_
        exact z_iret (st := []) hE dX11_reach_107 rfl ⟨_, rfl, h⟩
      · refine z_iconst (v := -1) hE dX11_reach_98 zv_i_m1 ?_
        refine z_goto (tgt := 107) hE dX11_reach_99 (by decide) ?_
        exact z_iret (st := []) hE dX11_reach_107 rfl ⟨_, rfl, h⟩
    refine z_sub [4, 3, 2, 1, 0] rfl ?_
    obtain ⟨n25, h⟩ := h
    refine z_loop4 (P := fun (v2_8 : Int32) (v3_9 : Int32) (v4_10 : Int32) (μ_11 : ZMem) => zZ E (zzI Φ) 25 [(0, .ref 0), (1, .int r_3), (2, .int v2_8), (3, .int v3_9), (4, .int v4_10)] [] μ_11) (fun k25_11 hk25_11 v2_8 v3_9 v4_10 μ_11 h => ?_) n25 _ _ _ _ h
    refine z_iload hE dX11_reach_25 4 rfl ?_
    refine z_bipush (v := 40) hE dX11_reach_27 zv_b_40 ?_
    refine z_icmp_ge (tgt := 92) hE dX11_reach_29 (by decide) h (fun h => ?_) (fun h => ?_)
    · exact z_sub [3] rfl (hJ_7 _ _ h)
    · refine z_iload_n hE dX11_reach_32 rfl 3 rfl ?_
      refine z_iload_n hE dX11_reach_33 rfl 2 rfl ?_
      refine z_isub hE dX11_reach_34 ?_
      refine z_iconst (v := 1) hE dX11_reach_35 zv_i_1 ?_
      refine z_icmp_le (tgt := 92) hE dX11_reach_36 (by decide) h (fun h => ?_) (fun h => ?_)
      · exact z_sub [3] rfl (hJ_7 _ _ h)
      · refine z_iload_n hE dX11_reach_39 rfl 2 rfl ?_
        refine z_iload_n hE dX11_reach_40 rfl 3 rfl ?_
        refine z_iadd hE dX11_reach_41 ?_
        refine z_iconst (v := 2) hE dX11_reach_42 zv_i_2 ?_
        refine z_idiv hE dX11_reach_43 (by decide) ?_
        refine z_istore (lv' := [(5, .int ((v2_8 + v3_9) / (2 : Int32))), (0, .ref 0), (1, .int r_3), (2, .int v2_8), (3, .int v3_9), (4, .int v4_10)]) hE dX11_reach_44 (by decide) rfl ?_
        refine zn (G := fun v5_12 => zZ E (zzI Φ) 46 [(5, .int v5_12), (0, .ref 0), (1, .int r_3), (2, .int v2_8), (3, .int v3_9), (4, .int v4_10)] [] μ_11) h (fun v5_12 h => ?_)
        refine z_aload_n hE dX11_reach_46 rfl 1 rfl ?_
        refine z_bipush (v := 30) hE dX11_reach_47 zv_b_30 ?_
        refine z_iload hE dX11_reach_49 0 rfl ?_
        refine z_iadd hE dX11_reach_51 ?_
        refine z_callV hE dX11_reach_52 lV_X11_148 (c_X11_tableOf _ μ_11 _ h) sX_0 rfl (Nat.le_of_ble_eq_true rfl) (by decide) rfl (zk_R (fun r_13 μ_14 h => ?_))
        obtain ⟨er_13, h⟩ := h
        refine z_astore (lv' := [(6, .ref r_13), (5, .int v5_12), (0, .ref 0), (1, .int r_3), (2, .int v2_8), (3, .int v3_9), (4, .int v4_10)]) hE dX11_reach_55 (by decide) rfl ?_
        refine z_aload hE dX11_reach_57 0 rfl ?_
        refine z_getI hE dX11_reach_59 lF_X11_152 er_13.1 rfl ?_
        refine z_if_eq (tgt := 68) hE dX11_reach_62 (by decide) h (fun h => ?_) (fun h => ?_)
        · refine z_aload hE dX11_reach_68 0 rfl ?_
          refine z_callV hE dX11_reach_70 lV_X11_177 (c_X8_leftCount _ er_13 μ_14 _ h) er_13.1 rfl (Nat.le_of_ble_eq_true rfl) (by decide) rfl (zk_PI (fun r_15 h => ?_))
          refine z_iload_n hE dX11_reach_73 rfl 3 rfl ?_
          refine z_join (P := fun (J_19 : Int32 → Int32 → Prop) => ∀ (v2_17 : Int32) (v3_18 : Int32), J_19 v2_17 v3_18 → zZ E (zzI Φ) 86 [(0, .ref 0), (1, .int r_3), (2, .int v2_17), (3, .int v3_18), (4, .int v4_10)] [] μ_14) h (fun v2_17 v3_18 h => ?_) (fun J_19 hJ_19 h => ?_)
          · refine z_iinc (j := 4) (c := 1) (lv' := [(4, .int (v4_10 + (1 : Int32))), (0, .ref 0), (1, .int r_3), (2, .int v2_17), (3, .int v3_18)]) hE dX11_reach_86 rfl zv_i_1 (by decide) rfl ?_
            refine z_goto (tgt := 25) hE dX11_reach_89 (by decide) ?_
            exact z_sub [1, 2, 3, 4, 0] rfl (hk25_11 _ _ _ _ h)
          refine z_icmp_ne (tgt := 83) hE dX11_reach_74 (by decide) h (fun h => ?_) (fun h => ?_)
          · refine z_iload hE dX11_reach_83 1 rfl ?_
            refine z_istore_n (lv' := [(2, .int v5_12), (6, .ref r_13), (5, .int v5_12), (0, .ref 0), (1, .int r_3), (3, .int v3_9), (4, .int v4_10)]) hE dX11_reach_85 rfl (by decide) rfl ?_
            exact z_sub [3, 4, 0, 5, 6] rfl (hJ_19 _ _ h)
          · refine z_iload hE dX11_reach_77 1 rfl ?_
            refine z_istore_n (lv' := [(3, .int v5_12), (6, .ref r_13), (5, .int v5_12), (0, .ref 0), (1, .int r_3), (2, .int v2_8), (4, .int v4_10)]) hE dX11_reach_79 rfl (by decide) rfl ?_
            refine z_goto (tgt := 86) hE dX11_reach_80 (by decide) ?_
            exact z_sub [3, 4, 5, 0, 6] rfl (hJ_19 _ _ h)
        · refine z_bipush (v := -7) hE dX11_reach_65 zv_b_m7 ?_
          exact z_iret (st := []) hE dX11_reach_67 rfl ⟨_, rfl, h⟩
  · refine z_bipush (v := -2) hE dX11_reach_13 zv_b_m2 ?_
    exact z_iret (st := []) hE dX11_reach_15 rfl ⟨_, rfl, h⟩
set_option maxRecDepth 4000 in
theorem c_X11_real (a1 : Int32) (a2 : Int32) (μ : ZMem) (Φ : Int32 → ZMem → Prop) (h : w_X11_real a1 a2 μ Φ) : zM SX yX11_real cX11_real 5 (some FieldType.int) 4 [.ref 0, .int a1, .int a2] μ (zzI Φ) := by
  refine zM_go (own := RX11) rfl (by decide) (Nat.le_of_ble_eq_true rfl) (fun E hE => ?_)
  show zZ E (zzI Φ) 0 [(0, .ref 0), (1, .int a1), (2, .int a2)] [] μ
  unfold w_X11_real at h
  refine z_iload_n hE dX11_real_0 rfl 1 rfl ?_
  refine z_bipush (v := 20) hE dX11_real_1 zv_b_20 ?_
  refine z_callS hE dX11_real_3 lS_X11_86 (c_X11_isWithin _ _ μ _ h) rfl (Nat.le_of_ble_eq_true rfl) (by decide) rfl (zk_PI (fun r_1 h => ?_))
  refine z_if_eq (tgt := 23) hE dX11_real_6 (by decide) h (fun h => ?_) (fun h => ?_)
  · refine z_bipush (v := -2) hE dX11_real_23 zv_b_m2 ?_
    exact z_iret (st := []) hE dX11_real_25 rfl ⟨_, rfl, h⟩
  · refine z_iload_n hE dX11_real_9 rfl 2 rfl ?_
    refine z_bipush (v := 20) hE dX11_real_10 zv_b_20 ?_
    refine z_callS hE dX11_real_12 lS_X11_86 (c_X11_isWithin _ _ μ _ h) rfl (Nat.le_of_ble_eq_true rfl) (by decide) rfl (zk_PI (fun r_3 h => ?_))
    refine z_if_eq (tgt := 23) hE dX11_real_15 (by decide) h (fun h => ?_) (fun h => ?_)
    · refine z_bipush (v := -2) hE dX11_real_23 zv_b_m2 ?_
      exact z_iret (st := []) hE dX11_real_25 rfl ⟨_, rfl, h⟩
    · refine z_iload_n hE dX11_real_18 rfl 2 rfl ?_
      refine z_iload_n hE dX11_real_19 rfl 1 rfl ?_
      refine z_icmp_gt (tgt := 26) hE dX11_real_20 (by decide) h (fun h => ?_) (fun h => ?_)
      · refine z_aload_n hE dX11_real_26 rfl 0 rfl ?_
        refine z_getR (t := 48) hE dX11_real_27 lF_X11_44 sX_0 rfl ?_
        refine z_aload_n hE dX11_real_30 rfl 0 rfl ?_
        refine z_callV hE dX11_real_31 lV_X11_98 (c_X11_currentC  μ _ h) sX_0 rfl (Nat.le_of_ble_eq_true rfl) (by decide) rfl (zk_R (fun r_5 μ_6 h => ?_))
        obtain ⟨er_5, h⟩ := h
        refine z_callV hE dX11_real_34 lV_X11_222 (c_X0_build _ _ er_5 μ_6 _ h) sX_48 rfl (Nat.le_of_ble_eq_true rfl) (by decide) rfl (zk_I (fun r_7 μ_8 h => ?_))
        refine z_if_ne (tgt := 43) hE dX11_real_37 (by decide) h (fun h => ?_) (fun h => ?_)
        · refine z_aload_n hE dX11_real_43 rfl 0 rfl ?_
          refine z_getR (t := 48) hE dX11_real_44 lF_X11_44 sX_0 rfl ?_
          refine z_iload_n hE dX11_real_47 rfl 1 rfl ?_
          refine z_callV hE dX11_real_48 lV_X11_231 (c_X0_changesAt _ μ_8 _ h) sX_48 rfl (Nat.le_of_ble_eq_true rfl) (by decide) rfl (zk_PI (fun r_9 h => ?_))
          refine z_istore_n (lv' := [(3, .int r_9), (0, .ref 0), (1, .int a1), (2, .int a2)]) hE dX11_real_51 rfl (by decide) rfl ?_
          refine z_aload_n hE dX11_real_52 rfl 1 rfl ?_
          refine z_getR (t := 48) hE dX11_real_53 lF_X11_44 sX_0 rfl ?_
          refine z_iload_n hE dX11_real_56 rfl 3 rfl ?_
          refine z_callV hE dX11_real_57 lV_X11_231 (c_X0_changesAt _ μ_8 _ h) sX_48 rfl (Nat.le_of_ble_eq_true rfl) (by decide) rfl (zk_PI (fun r_11 h => ?_))
          refine z_istore (lv' := [(4, .int r_11), (3, .int r_9), (0, .ref 0), (1, .int a1), (2, .int a2)]) hE dX11_real_60 (by decide) rfl ?_
          refine z_iload_n hE dX11_real_62 rfl 1 rfl ?_
          refine z_bipush (v := -7) hE dX11_real_63 zv_b_m7 ?_
          refine z_icmp_eq (tgt := 75) hE dX11_real_65 (by decide) h (fun h => ?_) (fun h => ?_)
          · refine z_bipush (v := -7) hE dX11_real_75 zv_b_m7 ?_
            refine z_goto (tgt := 87) hE dX11_real_77 (by decide) ?_
            exact z_iret (st := []) hE dX11_real_87 rfl ⟨_, rfl, h⟩
          · refine z_iload hE dX11_real_68 0 rfl ?_
            refine z_bipush (v := -7) hE dX11_real_70 zv_b_m7 ?_
            refine z_icmp_ne (tgt := 80) hE dX11_real_72 (by decide) h (fun h => ?_) (fun h => ?_)
            · refine z_iload_n hE dX11_real_80 rfl 1 rfl ?_
              refine z_iload hE dX11_real_81 0 rfl ?_
              refine z_isub hE dX11_real_83 ?_
              refine z_bipush (v := 100) hE dX11_real_84 zv_b_100 ?_
              refine z_iadd hE dX11_real_86 ?_
              exact z_iret (st := []) hE dX11_real_87 rfl ⟨_, rfl, h⟩
            · refine z_bipush (v := -7) hE dX11_real_75 zv_b_m7 ?_
              refine z_goto (tgt := 87) hE dX11_real_77 (by decide) ?_
              exact z_iret (st := []) hE dX11_real_87 rfl ⟨_, rfl, h⟩
        · refine z_bipush (v := -2) hE dX11_real_40 zv_b_m2 ?_
          exact z_iret (st := []) hE dX11_real_42 rfl ⟨_, rfl, h⟩
      · refine z_bipush (v := -2) hE dX11_real_23 zv_b_m2 ?_
        exact z_iret (st := []) hE dX11_real_25 rfl ⟨_, rfl, h⟩
set_option maxRecDepth 4000 in
theorem c_X11_refusalOfRow (a1 : Int32) (a2 : Int32) (a3 : Int32) (μ : ZMem) (Φ : Int32 → ZMem → Prop) (h : w_X11_refusalOfRow a1 a2 a3 μ Φ) : zM SX yX11_refusalOfRow cX11_refusalOfRow 5 (some FieldType.int) 4 [.ref 0, .int a1, .int a2, .int a3] μ (zzI Φ) := by
  refine zM_go (own := RX11) rfl (by decide) (Nat.le_of_ble_eq_true rfl) (fun E hE => ?_)
  show zZ E (zzI Φ) 0 [(0, .ref 0), (1, .int a1), (2, .int a2), (3, .int a3)] [] μ
  unfold w_X11_refusalOfRow at h
  refine z_iload_n hE dX11_refusalOfRow_0 rfl 1 rfl ?_
  refine z_callS hE dX11_refusalOfRow_1 lS_X11_325 (c_X11_isTray _ μ _ h) rfl (Nat.le_of_ble_eq_true rfl) (by decide) rfl (zk_PI (fun r_1 h => ?_))
  refine z_if_ne (tgt := 9) hE dX11_refusalOfRow_4 (by decide) h (fun h => ?_) (fun h => ?_)
  · refine z_iload_n hE dX11_refusalOfRow_9 rfl 2 rfl ?_
    refine z_callS hE dX11_refusalOfRow_10 lS_X11_132 (c_X11_isForm _ μ _ h) rfl (Nat.le_of_ble_eq_true rfl) (by decide) rfl (zk_PI (fun r_3 h => ?_))
    refine z_if_ne (tgt := 19) hE dX11_refusalOfRow_13 (by decide) h (fun h => ?_) (fun h => ?_)
    · refine z_aload_n hE dX11_refusalOfRow_19 rfl 0 rfl ?_
      refine z_getR (t := 27) hE dX11_refusalOfRow_20 lF_X11_30 sX_0 rfl ?_
      refine z_iload_n hE dX11_refusalOfRow_23 rfl 1 rfl ?_
      obtain ⟨q_5, h⟩ := h
      refine z_aald2 hE dX11_refusalOfRow_24 sX_27 (fun _ => rfl) rfl q_5 ?_
      refine z_callV hE dX11_refusalOfRow_25 lV_X11_331 (c_X10_isNothing _ (sXr_28 _ (zz_in_lt q_5)) μ _ h) (sXr_28 _ (zz_in_lt q_5)).1 rfl (Nat.le_of_ble_eq_true rfl) (by decide) rfl (zk_PI (fun r_6 h => ?_))
      refine z_if_eq (tgt := 34) hE dX11_refusalOfRow_28 (by decide) h (fun h => ?_) (fun h => ?_)
      · refine z_aload_n hE dX11_refusalOfRow_34 rfl 0 rfl ?_
        refine z_iload_n hE dX11_refusalOfRow_35 rfl 2 rfl ?_
        refine z_callV hE dX11_refusalOfRow_36 lV_X11_148 (c_X11_tableOf _ μ _ h) sX_0 rfl (Nat.le_of_ble_eq_true rfl) (by decide) rfl (zk_R (fun r_8 μ_9 h => ?_))
        obtain ⟨er_8, h⟩ := h
        refine z_astore (lv' := [(4, .ref r_8), (0, .ref 0), (1, .int a1), (2, .int a2), (3, .int a3)]) hE dX11_refusalOfRow_39 (by decide) rfl ?_
        refine z_aload hE dX11_refusalOfRow_41 0 rfl ?_
        refine z_iload_n hE dX11_refusalOfRow_43 rfl 4 rfl ?_
        refine z_callV hE dX11_refusalOfRow_44 lV_X11_156 (c_X8_hasRow _ _ er_8 μ_9 _ h) er_8.1 rfl (Nat.le_of_ble_eq_true rfl) (by decide) rfl (zk_PI (fun r_10 h => ?_))
        refine z_if_ne (tgt := 52) hE dX11_refusalOfRow_47 (by decide) h (fun h => ?_) (fun h => ?_)
        · refine z_aload hE dX11_refusalOfRow_52 0 rfl ?_
          refine z_getI hE dX11_refusalOfRow_54 lF_X11_152 er_8.1 rfl ?_
          refine z_if_eq (tgt := 65) hE dX11_refusalOfRow_57 (by decide) h (fun h => ?_) (fun h => ?_)
          · refine z_iconst (v := 0) hE dX11_refusalOfRow_65 zv_i_0 ?_
            exact z_iret (st := []) hE dX11_refusalOfRow_66 rfl ⟨_, rfl, h⟩
          · refine z_bipush (v := -7) hE dX11_refusalOfRow_60 zv_b_m7 ?_
            refine z_goto (tgt := 66) hE dX11_refusalOfRow_62 (by decide) ?_
            exact z_iret (st := []) hE dX11_refusalOfRow_66 rfl ⟨_, rfl, h⟩
        · refine z_iconst (v := -1) hE dX11_refusalOfRow_50 zv_i_m1 ?_
          exact z_iret (st := []) hE dX11_refusalOfRow_51 rfl ⟨_, rfl, h⟩
      · refine z_bipush (v := -11) hE dX11_refusalOfRow_31 zv_b_m11 ?_
        exact z_iret (st := []) hE dX11_refusalOfRow_33 rfl ⟨_, rfl, h⟩
    · refine z_bipush (v := -2) hE dX11_refusalOfRow_16 zv_b_m2 ?_
      exact z_iret (st := []) hE dX11_refusalOfRow_18 rfl ⟨_, rfl, h⟩
  · refine z_iconst (v := -1) hE dX11_refusalOfRow_7 zv_i_m1 ?_
    exact z_iret (st := []) hE dX11_refusalOfRow_8 rfl ⟨_, rfl, h⟩
set_option maxRecDepth 4000 in
theorem c_X11_rights (a1 : Int32) (μ : ZMem) (Φ : Int32 → ZMem → Prop) (h : w_X11_rights a1 μ Φ) : zM SX yX11_rights cX11_rights 2 (some FieldType.int) 4 [.ref 0, .int a1] μ (zzI Φ) := by
  refine zM_go (own := RX11) rfl (by decide) (Nat.le_of_ble_eq_true rfl) (fun E hE => ?_)
  show zZ E (zzI Φ) 0 [(0, .ref 0), (1, .int a1)] [] μ
  unfold w_X11_rights at h
  refine z_iload_n hE dX11_rights_0 rfl 1 rfl ?_
  refine z_bipush (v := 100) hE dX11_rights_1 zv_b_100 ?_
  refine z_callS hE dX11_rights_3 lS_X11_86 (c_X11_isWithin _ _ μ _ h) rfl (Nat.le_of_ble_eq_true rfl) (by decide) rfl (zk_PI (fun r_1 h => ?_))
  refine z_if_ne (tgt := 12) hE dX11_rights_6 (by decide) h (fun h => ?_) (fun h => ?_)
  · refine z_aload_n hE dX11_rights_12 rfl 0 rfl ?_
    refine z_getR (t := 78) hE dX11_rights_13 lF_X11_70 sX_0 rfl ?_
    refine z_aload_n hE dX11_rights_16 rfl 0 rfl ?_
    refine z_getR (t := 1) hE dX11_rights_17 lF_X11_14 sX_0 rfl ?_
    refine z_callV hE dX11_rights_20 lV_X11_305 (c_X5_survey  μ _ h) sX_78 rfl (Nat.le_of_ble_eq_true rfl) (by decide) rfl (zk_V (fun μ_4 h => ?_))
    refine z_aload_n hE dX11_rights_23 rfl 0 rfl ?_
    refine z_getR (t := 78) hE dX11_rights_24 lF_X11_70 sX_0 rfl ?_
    refine z_iload_n hE dX11_rights_27 rfl 1 rfl ?_
    refine z_callV hE dX11_rights_28 lV_X11_309 (c_X5_at _ μ_4 _ h) sX_78 rfl (Nat.le_of_ble_eq_true rfl) (by decide) rfl (zk_PI (fun r_5 h => ?_))
    exact z_iret (st := []) hE dX11_rights_31 rfl ⟨_, rfl, h⟩
  · refine z_bipush (v := -2) hE dX11_rights_9 zv_b_m2 ?_
    exact z_iret (st := []) hE dX11_rights_11 rfl ⟨_, rfl, h⟩
set_option maxRecDepth 4000 in
theorem c_X11_roots (a1 : Int32) (a2 : Int32) (μ : ZMem) (Φ : Int32 → ZMem → Prop) (h : w_X11_roots a1 a2 μ Φ) : zM SX yX11_roots cX11_roots 4 (some FieldType.int) 4 [.ref 0, .int a1, .int a2] μ (zzI Φ) := by
  refine zM_go (own := RX11) rfl (by decide) (Nat.le_of_ble_eq_true rfl) (fun E hE => ?_)
  show zZ E (zzI Φ) 0 [(0, .ref 0), (1, .int a1), (2, .int a2)] [] μ
  unfold w_X11_roots at h
  refine z_iload_n hE dX11_roots_0 rfl 1 rfl ?_
  refine z_callS hE dX11_roots_1 lS_X11_132 (c_X11_isForm _ μ _ h) rfl (Nat.le_of_ble_eq_true rfl) (by decide) rfl (zk_PI (fun r_1 h => ?_))
  refine z_if_eq (tgt := 16) hE dX11_roots_4 (by decide) h (fun h => ?_) (fun h => ?_)
  · refine z_bipush (v := -2) hE dX11_roots_16 zv_b_m2 ?_
    exact z_iret (st := []) hE dX11_roots_18 rfl ⟨_, rfl, h⟩
  · refine z_iload_n hE dX11_roots_7 rfl 2 rfl ?_
    refine z_if_lt (tgt := 16) hE dX11_roots_8 (by decide) h (fun h => ?_) (fun h => ?_)
    · refine z_bipush (v := -2) hE dX11_roots_16 zv_b_m2 ?_
      exact z_iret (st := []) hE dX11_roots_18 rfl ⟨_, rfl, h⟩
    · refine z_iload_n hE dX11_roots_11 rfl 2 rfl ?_
      refine z_iconst (v := 4) hE dX11_roots_12 zv_i_4 ?_
      refine z_icmp_le (tgt := 19) hE dX11_roots_13 (by decide) h (fun h => ?_) (fun h => ?_)
      · refine z_aload_n hE dX11_roots_19 rfl 0 rfl ?_
        refine z_iload_n hE dX11_roots_20 rfl 1 rfl ?_
        refine z_callV hE dX11_roots_21 lV_X11_148 (c_X11_tableOf _ μ _ h) sX_0 rfl (Nat.le_of_ble_eq_true rfl) (by decide) rfl (zk_R (fun r_3 μ_4 h => ?_))
        obtain ⟨er_3, h⟩ := h
        refine z_astore_n (lv' := [(3, .ref r_3), (0, .ref 0), (1, .int a1), (2, .int a2)]) hE dX11_roots_24 rfl (by decide) rfl ?_
        refine z_aload_n hE dX11_roots_25 rfl 0 rfl ?_
        refine z_getI hE dX11_roots_26 lF_X11_152 er_3.1 rfl ?_
        refine z_if_eq (tgt := 35) hE dX11_roots_29 (by decide) h (fun h => ?_) (fun h => ?_)
        · refine z_iload_n hE dX11_roots_35 rfl 3 rfl ?_
          obtain ⟨g36_0, g36_1, g36_2, g36_3, gd_36⟩ := h
          by_cases c36_0 : a2 = (0 : Int32)
          · have h := g36_0 c36_0
            refine z_swIn (tgt := 68) hE dX11_roots_36 (by rw [c36_0]; decide) (by rw [c36_0]; decide) (by rw [c36_0]; rfl) (by decide) ?_
            refine z_aload_n hE dX11_roots_68 rfl 0 rfl ?_
            refine z_callV hE dX11_roots_69 lV_X11_170 (c_X8_rightCount _ er_3 μ_4 _ h) er_3.1 rfl (Nat.le_of_ble_eq_true rfl) (by decide) rfl (zk_PI (fun r_5 h => ?_))
            exact z_iret (st := []) hE dX11_roots_72 rfl ⟨_, rfl, h⟩
          by_cases c36_1 : a2 = (1 : Int32)
          · have h := g36_1 c36_1
            refine z_swIn (tgt := 73) hE dX11_roots_36 (by rw [c36_1]; decide) (by rw [c36_1]; decide) (by rw [c36_1]; rfl) (by decide) ?_
            refine z_aload_n hE dX11_roots_73 rfl 0 rfl ?_
            refine z_callV hE dX11_roots_74 lV_X11_174 (c_X8_axisCount _ er_3 μ_4 _ h) er_3.1 rfl (Nat.le_of_ble_eq_true rfl) (by decide) rfl (zk_PI (fun r_7 h => ?_))
            exact z_iret (st := []) hE dX11_roots_77 rfl ⟨_, rfl, h⟩
          by_cases c36_2 : a2 = (2 : Int32)
          · have h := g36_2 c36_2
            refine z_swIn (tgt := 78) hE dX11_roots_36 (by rw [c36_2]; decide) (by rw [c36_2]; decide) (by rw [c36_2]; rfl) (by decide) ?_
            refine z_aload_n hE dX11_roots_78 rfl 0 rfl ?_
            refine z_callV hE dX11_roots_79 lV_X11_177 (c_X8_leftCount _ er_3 μ_4 _ h) er_3.1 rfl (Nat.le_of_ble_eq_true rfl) (by decide) rfl (zk_PI (fun r_9 h => ?_))
            exact z_iret (st := []) hE dX11_roots_82 rfl ⟨_, rfl, h⟩
          by_cases c36_3 : a2 = (3 : Int32)
          · have h := g36_3 c36_3
            refine z_swIn (tgt := 83) hE dX11_roots_36 (by rw [c36_3]; decide) (by rw [c36_3]; decide) (by rw [c36_3]; rfl) (by decide) ?_
            refine z_aload_n hE dX11_roots_83 rfl 0 rfl ?_
            refine z_callV hE dX11_roots_84 lV_X11_180 (c_X8_firstNothing _ er_3 μ_4 _ h) er_3.1 rfl (Nat.le_of_ble_eq_true rfl) (by decide) rfl (zk_PI (fun r_11 h => ?_))
            exact z_iret (st := []) hE dX11_roots_87 rfl ⟨_, rfl, h⟩
          have h := gd_36 c36_0 c36_1 c36_2 c36_3
          refine z_swOut (tgt := 88) hE dX11_roots_36 (by have e0 := lv_neT c36_0 (a := 0) (by decide); have e1 := lv_neT c36_1 (a := 1) (by decide); have e2 := lv_neT c36_2 (a := 2) (by decide); have e3 := lv_neT c36_3 (a := 3) (by decide); show _ < (0 : Int) ∨ (3 : Int) < _; omega) (by decide) ?_
          refine z_aload_n hE dX11_roots_88 rfl 0 rfl ?_
          refine z_callV hE dX11_roots_89 lV_X11_174 (c_X8_axisCount _ er_3 μ_4 _ h) er_3.1 rfl (Nat.le_of_ble_eq_true rfl) (by decide) rfl (zk_PI (fun r_13 h => ?_))
          refine z_iload_n hE dX11_roots_92 rfl 2 rfl ?_
          refine z_iconst (v := 3) hE dX11_roots_93 zv_i_3 ?_
          refine z_icmp_ne (tgt := 104) hE dX11_roots_94 (by decide) h (fun h => ?_) (fun h => ?_)
          · refine z_iconst (v := 0) hE dX11_roots_104 zv_i_0 ?_
            refine z_iadd hE dX11_roots_105 ?_
            exact z_iret (st := []) hE dX11_roots_106 rfl ⟨_, rfl, h⟩
          · refine z_aload_n hE dX11_roots_97 rfl 0 rfl ?_
            refine z_getI hE dX11_roots_98 lF_X11_145 er_3.1 rfl ?_
            refine z_goto (tgt := 105) hE dX11_roots_101 (by decide) ?_
            refine z_iadd hE dX11_roots_105 ?_
            exact z_iret (st := []) hE dX11_roots_106 rfl ⟨_, rfl, h⟩
        · refine z_bipush (v := -7) hE dX11_roots_32 zv_b_m7 ?_
          exact z_iret (st := []) hE dX11_roots_34 rfl ⟨_, rfl, h⟩
      · refine z_bipush (v := -2) hE dX11_roots_16 zv_b_m2 ?_
        exact z_iret (st := []) hE dX11_roots_18 rfl ⟨_, rfl, h⟩
set_option maxRecDepth 4000 in
theorem c_X11_row (a1 : Int32) (a2 : Int32) (a3 : Int32) (μ : ZMem) (Φ : Int64 → ZMem → Prop) (h : w_X11_row a1 a2 a3 μ Φ) : zM SX yX11_row cX11_row 5 (some FieldType.long) 4 [.ref 0, .int a1, .int a2, .int a3] μ (zzJ Φ) := by
  refine zM_go (own := RX11) rfl (by decide) (Nat.le_of_ble_eq_true rfl) (fun E hE => ?_)
  show zZ E (zzJ Φ) 0 [(0, .ref 0), (1, .int a1), (2, .int a2), (3, .int a3)] [] μ
  unfold w_X11_row at h
  refine z_iload_n hE dX11_row_0 rfl 1 rfl ?_
  refine z_callS hE dX11_row_1 lS_X11_132 (c_X11_isForm _ μ _ h) rfl (Nat.le_of_ble_eq_true rfl) (by decide) rfl (zk_PI (fun r_1 h => ?_))
  refine z_if_ne (tgt := 11) hE dX11_row_4 (by decide) h (fun h => ?_) (fun h => ?_)
  · refine z_aload_n hE dX11_row_11 rfl 0 rfl ?_
    refine z_iload_n hE dX11_row_12 rfl 1 rfl ?_
    refine z_callV hE dX11_row_13 lV_X11_148 (c_X11_tableOf _ μ _ h) sX_0 rfl (Nat.le_of_ble_eq_true rfl) (by decide) rfl (zk_R (fun r_3 μ_4 h => ?_))
    obtain ⟨er_3, h⟩ := h
    refine z_astore (lv' := [(4, .ref r_3), (0, .ref 0), (1, .int a1), (2, .int a2), (3, .int a3)]) hE dX11_row_16 (by decide) rfl ?_
    refine z_aload hE dX11_row_18 0 rfl ?_
    refine z_getI hE dX11_row_20 lF_X11_152 er_3.1 rfl ?_
    refine z_if_ne (tgt := 49) hE dX11_row_23 (by decide) h (fun h => ?_) (fun h => ?_)
    · refine z_ldc2 (v := -9223372036854775808) hE dX11_row_49 lK_X11_90 ?_
      exact z_lret (st := []) hE dX11_row_52 rfl ⟨_, rfl, h⟩
    · refine z_aload hE dX11_row_26 0 rfl ?_
      refine z_iload_n hE dX11_row_28 rfl 3 rfl ?_
      refine z_callV hE dX11_row_29 lV_X11_156 (c_X8_hasRow _ _ er_3 μ_4 _ h) er_3.1 rfl (Nat.le_of_ble_eq_true rfl) (by decide) rfl (zk_PI (fun r_5 h => ?_))
      refine z_if_eq (tgt := 49) hE dX11_row_32 (by decide) h (fun h => ?_) (fun h => ?_)
      · refine z_ldc2 (v := -9223372036854775808) hE dX11_row_49 lK_X11_90 ?_
        exact z_lret (st := []) hE dX11_row_52 rfl ⟨_, rfl, h⟩
      · refine z_iload_n hE dX11_row_35 rfl 4 rfl ?_
        refine z_if_lt (tgt := 49) hE dX11_row_36 (by decide) h (fun h => ?_) (fun h => ?_)
        · refine z_ldc2 (v := -9223372036854775808) hE dX11_row_49 lK_X11_90 ?_
          exact z_lret (st := []) hE dX11_row_52 rfl ⟨_, rfl, h⟩
        · refine z_iload_n hE dX11_row_39 rfl 4 rfl ?_
          refine z_aload hE dX11_row_40 0 rfl ?_
          refine z_iload_n hE dX11_row_42 rfl 3 rfl ?_
          refine z_callV hE dX11_row_43 lV_X11_159 (c_X8_width _ _ er_3 μ_4 _ h) er_3.1 rfl (Nat.le_of_ble_eq_true rfl) (by decide) rfl (zk_PI (fun r_7 h => ?_))
          refine z_icmp_lt (tgt := 53) hE dX11_row_46 (by decide) h (fun h => ?_) (fun h => ?_)
          · refine z_aload hE dX11_row_53 0 rfl ?_
            refine z_iload_n hE dX11_row_55 rfl 3 rfl ?_
            refine z_iload_n hE dX11_row_56 rfl 4 rfl ?_
            refine z_callV hE dX11_row_57 lV_X11_163 (c_X8_item _ _ _ er_3 μ_4 _ h) er_3.1 rfl (Nat.le_of_ble_eq_true rfl) (by decide) rfl (zk_PJ (fun r_9 h => ?_))
            exact z_lret (st := []) hE dX11_row_60 rfl ⟨_, rfl, h⟩
          · refine z_ldc2 (v := -9223372036854775808) hE dX11_row_49 lK_X11_90 ?_
            exact z_lret (st := []) hE dX11_row_52 rfl ⟨_, rfl, h⟩
  · refine z_ldc2 (v := -9223372036854775808) hE dX11_row_7 lK_X11_90 ?_
    exact z_lret (st := []) hE dX11_row_10 rfl ⟨_, rfl, h⟩
set_option maxRecDepth 4000 in
theorem c_X11_steady (a1 : Int32) (a2 : Int32) (a3 : Int32) (μ : ZMem) (Φ : Int32 → ZMem → Prop) (h : w_X11_steady a1 a2 a3 μ Φ) : zM SX yX11_steady cX11_steady 4 (some FieldType.int) 4 [.ref 0, .int a1, .int a2, .int a3] μ (zzI Φ) := by
  refine zM_go (own := RX11) rfl (by decide) (Nat.le_of_ble_eq_true rfl) (fun E hE => ?_)
  show zZ E (zzI Φ) 0 [(0, .ref 0), (1, .int a1), (2, .int a2), (3, .int a3)] [] μ
  unfold w_X11_steady at h
  refine z_iload_n hE dX11_steady_0 rfl 1 rfl ?_
  refine z_callS hE dX11_steady_1 lS_X11_193 (c_X11_isKind _ μ _ h) rfl (Nat.le_of_ble_eq_true rfl) (by decide) rfl (zk_PI (fun r_1 h => ?_))
  refine z_if_eq (tgt := 28) hE dX11_steady_4 (by decide) h (fun h => ?_) (fun h => ?_)
  · refine z_bipush (v := -2) hE dX11_steady_28 zv_b_m2 ?_
    exact z_iret (st := []) hE dX11_steady_30 rfl ⟨_, rfl, h⟩
  · refine z_iload_n hE dX11_steady_7 rfl 2 rfl ?_
    refine z_iconst (v := 1) hE dX11_steady_8 zv_i_1 ?_
    refine z_icmp_lt (tgt := 28) hE dX11_steady_9 (by decide) h (fun h => ?_) (fun h => ?_)
    · refine z_bipush (v := -2) hE dX11_steady_28 zv_b_m2 ?_
      exact z_iret (st := []) hE dX11_steady_30 rfl ⟨_, rfl, h⟩
    · refine z_iload_n hE dX11_steady_12 rfl 2 rfl ?_
      refine z_bipush (v := 16) hE dX11_steady_13 zv_b_16 ?_
      refine z_icmp_gt (tgt := 28) hE dX11_steady_15 (by decide) h (fun h => ?_) (fun h => ?_)
      · refine z_bipush (v := -2) hE dX11_steady_28 zv_b_m2 ?_
        exact z_iret (st := []) hE dX11_steady_30 rfl ⟨_, rfl, h⟩
      · refine z_iload_n hE dX11_steady_18 rfl 3 rfl ?_
        refine z_sipush (v := 1600) hE dX11_steady_19 zv_s_1600 ?_
        refine z_callS hE dX11_steady_22 lS_X11_86 (c_X11_isWithin _ _ μ _ h) rfl (Nat.le_of_ble_eq_true rfl) (by decide) rfl (zk_PI (fun r_3 h => ?_))
        refine z_if_ne (tgt := 31) hE dX11_steady_25 (by decide) h (fun h => ?_) (fun h => ?_)
        · refine z_aload_n hE dX11_steady_31 rfl 0 rfl ?_
          refine z_getR (t := 58) hE dX11_steady_32 lF_X11_51 sX_0 rfl ?_
          refine z_aload_n hE dX11_steady_35 rfl 0 rfl ?_
          refine z_getR (t := 1) hE dX11_steady_36 lF_X11_14 sX_0 rfl ?_
          refine z_iload_n hE dX11_steady_39 rfl 1 rfl ?_
          refine z_iload_n hE dX11_steady_40 rfl 2 rfl ?_
          refine z_iload_n hE dX11_steady_41 rfl 3 rfl ?_
          refine z_callV hE dX11_steady_42 lV_X11_196 (c_X7_holds _ _ _ μ _ h) sX_58 rfl (Nat.le_of_ble_eq_true rfl) (by decide) rfl (zk_I (fun r_5 μ_6 h => ?_))
          refine z_if_eq (tgt := 52) hE dX11_steady_45 (by decide) h (fun h => ?_) (fun h => ?_)
          · refine z_iconst (v := 0) hE dX11_steady_52 zv_i_0 ?_
            exact z_iret (st := []) hE dX11_steady_53 rfl ⟨_, rfl, h⟩
          · refine z_iconst (v := 1) hE dX11_steady_48 zv_i_1 ?_
            refine z_goto (tgt := 53) hE dX11_steady_49 (by decide) ?_
            exact z_iret (st := []) hE dX11_steady_53 rfl ⟨_, rfl, h⟩
        · refine z_bipush (v := -2) hE dX11_steady_28 zv_b_m2 ?_
          exact z_iret (st := []) hE dX11_steady_30 rfl ⟨_, rfl, h⟩
set_option maxRecDepth 4000 in
theorem c_X11_strip (a1 : Int32) (a2 : Int32) (μ : ZMem) (Φ : Int32 → ZMem → Prop) (h : w_X11_strip a1 a2 μ Φ) : zM SX yX11_strip cX11_strip 5 (some FieldType.int) 4 [.ref 0, .int a1, .int a2] μ (zzI Φ) := by
  refine zM_go (own := RX11) rfl (by decide) (Nat.le_of_ble_eq_true rfl) (fun E hE => ?_)
  show zZ E (zzI Φ) 0 [(0, .ref 0), (1, .int a1), (2, .int a2)] [] μ
  unfold w_X11_strip at h
  refine z_iload_n hE dX11_strip_0 rfl 1 rfl ?_
  refine z_bipush (v := 20) hE dX11_strip_1 zv_b_20 ?_
  refine z_callS hE dX11_strip_3 lS_X11_86 (c_X11_isWithin _ _ μ _ h) rfl (Nat.le_of_ble_eq_true rfl) (by decide) rfl (zk_PI (fun r_1 h => ?_))
  refine z_if_eq (tgt := 23) hE dX11_strip_6 (by decide) h (fun h => ?_) (fun h => ?_)
  · refine z_bipush (v := -2) hE dX11_strip_23 zv_b_m2 ?_
    exact z_iret (st := []) hE dX11_strip_25 rfl ⟨_, rfl, h⟩
  · refine z_iload_n hE dX11_strip_9 rfl 2 rfl ?_
    refine z_bipush (v := 20) hE dX11_strip_10 zv_b_20 ?_
    refine z_callS hE dX11_strip_12 lS_X11_86 (c_X11_isWithin _ _ μ _ h) rfl (Nat.le_of_ble_eq_true rfl) (by decide) rfl (zk_PI (fun r_3 h => ?_))
    refine z_if_eq (tgt := 23) hE dX11_strip_15 (by decide) h (fun h => ?_) (fun h => ?_)
    · refine z_bipush (v := -2) hE dX11_strip_23 zv_b_m2 ?_
      exact z_iret (st := []) hE dX11_strip_25 rfl ⟨_, rfl, h⟩
    · refine z_iload_n hE dX11_strip_18 rfl 2 rfl ?_
      refine z_iload_n hE dX11_strip_19 rfl 1 rfl ?_
      refine z_icmp_gt (tgt := 26) hE dX11_strip_20 (by decide) h (fun h => ?_) (fun h => ?_)
      · refine z_aload_n hE dX11_strip_26 rfl 0 rfl ?_
        refine z_bipush (v := 30) hE dX11_strip_27 zv_b_30 ?_
        refine z_iload_n hE dX11_strip_29 rfl 1 rfl ?_
        refine z_iadd hE dX11_strip_30 ?_
        refine z_callV hE dX11_strip_31 lV_X11_148 (c_X11_tableOf _ μ _ h) sX_0 rfl (Nat.le_of_ble_eq_true rfl) (by decide) rfl (zk_R (fun r_5 μ_6 h => ?_))
        obtain ⟨er_5, h⟩ := h
        refine z_astore_n (lv' := [(3, .ref r_5), (0, .ref 0), (1, .int a1), (2, .int a2)]) hE dX11_strip_34 rfl (by decide) rfl ?_
        refine z_aload_n hE dX11_strip_35 rfl 0 rfl ?_
        refine z_getI hE dX11_strip_36 lF_X11_152 er_5.1 rfl ?_
        refine z_if_eq (tgt := 45) hE dX11_strip_39 (by decide) h (fun h => ?_) (fun h => ?_)
        · refine z_aload_n hE dX11_strip_45 rfl 0 rfl ?_
          refine z_callV hE dX11_strip_46 lV_X11_177 (c_X8_leftCount _ er_5 μ_6 _ h) er_5.1 rfl (Nat.le_of_ble_eq_true rfl) (by decide) rfl (zk_PI (fun r_7 h => ?_))
          refine z_aload_n hE dX11_strip_49 rfl 0 rfl ?_
          refine z_callV hE dX11_strip_50 lV_X11_174 (c_X8_axisCount _ er_5 μ_6 _ h) er_5.1 rfl (Nat.le_of_ble_eq_true rfl) (by decide) rfl (zk_PI (fun r_9 h => ?_))
          refine z_iadd hE dX11_strip_53 ?_
          refine z_istore (lv' := [(4, .int (r_7 + r_9)), (3, .ref r_5), (0, .ref 0), (1, .int a1), (2, .int a2)]) hE dX11_strip_54 (by decide) rfl ?_
          refine zn (G := fun v4_11 => zZ E (zzI Φ) 56 [(4, .int v4_11), (3, .ref r_5), (0, .ref 0), (1, .int a1), (2, .int a2)] [] μ_6) h (fun v4_11 h => ?_)
          refine z_aload_n hE dX11_strip_56 rfl 2 rfl ?_
          refine z_bipush (v := 30) hE dX11_strip_57 zv_b_30 ?_
          refine z_iload_n hE dX11_strip_59 rfl 4 rfl ?_
          refine z_iadd hE dX11_strip_60 ?_
          refine z_callV hE dX11_strip_61 lV_X11_148 (c_X11_tableOf _ μ_6 _ h) sX_0 rfl (Nat.le_of_ble_eq_true rfl) (by decide) rfl (zk_R (fun r_12 μ_13 h => ?_))
          obtain ⟨er_12, h⟩ := h
          refine z_astore_n (lv' := [(3, .ref r_12), (4, .int v4_11), (0, .ref 0), (1, .int a1), (2, .int a2)]) hE dX11_strip_64 rfl (by decide) rfl ?_
          refine z_aload_n hE dX11_strip_65 rfl 0 rfl ?_
          refine z_getI hE dX11_strip_66 lF_X11_152 er_12.1 rfl ?_
          refine z_if_eq (tgt := 77) hE dX11_strip_69 (by decide) h (fun h => ?_) (fun h => ?_)
          · refine z_aload_n hE dX11_strip_77 rfl 0 rfl ?_
            refine z_callV hE dX11_strip_78 lV_X11_177 (c_X8_leftCount _ er_12 μ_13 _ h) er_12.1 rfl (Nat.le_of_ble_eq_true rfl) (by decide) rfl (zk_PI (fun r_14 h => ?_))
            refine z_iload hE dX11_strip_81 1 rfl ?_
            refine z_isub hE dX11_strip_83 ?_
            exact z_iret (st := []) hE dX11_strip_84 rfl ⟨_, rfl, h⟩
          · refine z_bipush (v := -7) hE dX11_strip_72 zv_b_m7 ?_
            refine z_goto (tgt := 84) hE dX11_strip_74 (by decide) ?_
            exact z_iret (st := []) hE dX11_strip_84 rfl ⟨_, rfl, h⟩
        · refine z_bipush (v := -7) hE dX11_strip_42 zv_b_m7 ?_
          exact z_iret (st := []) hE dX11_strip_44 rfl ⟨_, rfl, h⟩
      · refine z_bipush (v := -2) hE dX11_strip_23 zv_b_m2 ?_
        exact z_iret (st := []) hE dX11_strip_25 rfl ⟨_, rfl, h⟩
set_option maxRecDepth 4000 in
theorem c_X11_weed (a1 : Int32) (a2 : Int32) (μ : ZMem) (Φ : Int32 → ZMem → Prop) (h : w_X11_weed a1 a2 μ Φ) : zM SX yX11_weed cX11_weed 8 (some FieldType.int) 4 [.ref 0, .int a1, .int a2] μ (zzI Φ) := by
  refine zM_go (own := RX11) rfl (by decide) (Nat.le_of_ble_eq_true rfl) (fun E hE => ?_)
  show zZ E (zzI Φ) 0 [(0, .ref 0), (1, .int a1), (2, .int a2)] [] μ
  unfold w_X11_weed at h
  refine z_iload_n hE dX11_weed_0 rfl 1 rfl ?_
  refine z_callS hE dX11_weed_1 lS_X11_193 (c_X11_isKind _ μ _ h) rfl (Nat.le_of_ble_eq_true rfl) (by decide) rfl (zk_PI (fun r_1 h => ?_))
  refine z_if_eq (tgt := 16) hE dX11_weed_4 (by decide) h (fun h => ?_) (fun h => ?_)
  · refine z_bipush (v := -2) hE dX11_weed_16 zv_b_m2 ?_
    exact z_iret (st := []) hE dX11_weed_18 rfl ⟨_, rfl, h⟩
  · refine z_iload_n hE dX11_weed_7 rfl 2 rfl ?_
    refine z_if_lt (tgt := 16) hE dX11_weed_8 (by decide) h (fun h => ?_) (fun h => ?_)
    · refine z_bipush (v := -2) hE dX11_weed_16 zv_b_m2 ?_
      exact z_iret (st := []) hE dX11_weed_18 rfl ⟨_, rfl, h⟩
    · refine z_iload_n hE dX11_weed_11 rfl 2 rfl ?_
      refine z_iconst (v := 2) hE dX11_weed_12 zv_i_2 ?_
      refine z_icmp_le (tgt := 19) hE dX11_weed_13 (by decide) h (fun h => ?_) (fun h => ?_)
      · refine z_aload_n hE dX11_weed_19 rfl 0 rfl ?_
        refine z_getR (t := 1) hE dX11_weed_20 lF_X11_14 sX_0 rfl ?_
        refine z_getI hE dX11_weed_23 lF_X11_234 sX_1 rfl ?_
        refine z_istore_n (lv' := [(3, .int (μ.1 1 4)), (0, .ref 0), (1, .int a1), (2, .int a2)]) hE dX11_weed_26 rfl (by decide) rfl ?_
        refine zn (G := fun v3_3 => zZ E (zzI Φ) 27 [(3, .int v3_3), (0, .ref 0), (1, .int a1), (2, .int a2)] [] μ) h (fun v3_3 h => ?_)
        refine z_iconst (v := 0) hE dX11_weed_27 zv_i_0 ?_
        refine z_istore (lv' := [(4, .int (0 : Int32)), (3, .int v3_3), (0, .ref 0), (1, .int a1), (2, .int a2)]) hE dX11_weed_28 (by decide) rfl ?_
        refine z_iconst (v := 0) hE dX11_weed_30 zv_i_0 ?_
        refine z_istore (lv' := [(5, .int (0 : Int32)), (4, .int (0 : Int32)), (3, .int v3_3), (0, .ref 0), (1, .int a1), (2, .int a2)]) hE dX11_weed_31 (by decide) rfl ?_
        refine z_join (P := fun (J_6 : Int32 → ZMem → Prop) => ∀ (v4_4 : Int32) (μ_5 : ZMem), J_6 v4_4 μ_5 → zZ E (zzI Φ) 131 [(0, .ref 0), (3, .int v3_3), (4, .int v4_4)] [] μ_5) h (fun v4_4 μ_5 h => ?_) (fun J_6 hJ_6 h => ?_)
        · refine z_aload_n hE dX11_weed_131 rfl 0 rfl ?_
          refine z_getR (t := 1) hE dX11_weed_132 lF_X11_14 sX_0 rfl ?_
          refine z_iload hE dX11_weed_135 2 rfl ?_
          refine z_put hE dX11_weed_137 lF_X11_234 sX_1 rfl rfl rfl ?_
          refine zn (G := fun μ_7 => zZ E (zzI Φ) 140 [(0, .ref 0), (3, .int v3_3), (4, .int v4_4)] [] μ_7) h (fun μ_7 h => ?_)
          refine z_iload_n hE dX11_weed_140 rfl 1 rfl ?_
          refine z_iload hE dX11_weed_141 2 rfl ?_
          refine z_isub hE dX11_weed_143 ?_
          exact z_iret (st := []) hE dX11_weed_144 rfl ⟨_, rfl, h⟩
        refine z_sub [3, 4, 5, 2, 1, 0] rfl ?_
        obtain ⟨n33, h⟩ := h
        refine z_loop3 (P := fun (v4_8 : Int32) (v5_9 : Int32) (μ_10 : ZMem) => zZ E (zzI Φ) 33 [(0, .ref 0), (1, .int a1), (2, .int a2), (3, .int v3_3), (4, .int v4_8), (5, .int v5_9)] [] μ_10) (fun k33_10 hk33_10 v4_8 v5_9 μ_10 h => ?_) n33 _ _ _ h
        refine z_iload hE dX11_weed_33 5 rfl ?_
        refine z_iload_n hE dX11_weed_35 rfl 3 rfl ?_
        refine z_icmp_ge (tgt := 131) hE dX11_weed_36 (by decide) h (fun h => ?_) (fun h => ?_)
        · exact z_sub [0, 3, 4] rfl (hJ_6 _ _ h)
        · refine z_aload_n hE dX11_weed_39 rfl 0 rfl ?_
          refine z_getR (t := 1) hE dX11_weed_40 lF_X11_14 sX_0 rfl ?_
          refine z_getR (t := 4) hE dX11_weed_43 lF_X11_237 sX_1 rfl ?_
          refine z_iload hE dX11_weed_46 5 rfl ?_
          obtain ⟨q_11, h⟩ := h
          refine z_iald hE dX11_weed_48 sX_4 q_11 ?_
          refine z_istore (lv' := [(6, .int (μ_10.1 4 (Int32.toNatClampNeg v5_9))), (0, .ref 0), (1, .int a1), (2, .int a2), (3, .int v3_3), (4, .int v4_8), (5, .int v5_9)]) hE dX11_weed_49 (by decide) rfl ?_
          refine zn (G := fun v6_12 => zZ E (zzI Φ) 51 [(6, .int v6_12), (0, .ref 0), (1, .int a1), (2, .int a2), (3, .int v3_3), (4, .int v4_8), (5, .int v5_9)] [] μ_10) h (fun v6_12 h => ?_)
          refine z_iload_n hE dX11_weed_51 rfl 3 rfl ?_
          refine z_iconst (v := 2) hE dX11_weed_52 zv_i_2 ?_
          refine z_join (P := fun (J_15 : Int32 → ZMem → Prop) => ∀ (x_13 : Int32) (μ_14 : ZMem), J_15 x_13 μ_14 → zZ E (zzI Φ) 103 [(0, .ref 0), (1, .int a1), (2, .int a2), (3, .int v3_3), (4, .int v4_8), (5, .int v5_9), (6, .int v6_12)] [.int x_13] μ_14) h (fun x_13 μ_14 h => ?_) (fun J_15 hJ_15 h => ?_)
          · refine z_istore (lv' := [(7, .int x_13), (0, .ref 0), (1, .int a1), (2, .int a2), (3, .int v3_3), (4, .int v4_8), (5, .int v5_9), (6, .int v6_12)]) hE dX11_weed_103 (by decide) rfl ?_
            refine z_iload hE dX11_weed_105 0 rfl ?_
            refine z_join (P := fun (J_18 : Int32 → ZMem → Prop) => ∀ (v4_16 : Int32) (μ_17 : ZMem), J_18 v4_16 μ_17 → zZ E (zzI Φ) 125 [(0, .ref 0), (1, .int a1), (2, .int a2), (3, .int v3_3), (4, .int v4_16), (5, .int v5_9)] [] μ_17) h (fun v4_16 μ_17 h => ?_) (fun J_18 hJ_18 h => ?_)
            · refine z_iinc (j := 5) (c := 1) (lv' := [(5, .int (v5_9 + (1 : Int32))), (0, .ref 0), (1, .int a1), (2, .int a2), (3, .int v3_3), (4, .int v4_16)]) hE dX11_weed_125 rfl zv_i_1 (by decide) rfl ?_
              refine z_goto (tgt := 33) hE dX11_weed_128 (by decide) ?_
              exact z_sub [1, 2, 3, 4, 5, 0] rfl (hk33_10 _ _ _ h)
            refine z_if_ne (tgt := 125) hE dX11_weed_107 (by decide) h (fun h => ?_) (fun h => ?_)
            · exact z_sub [1, 2, 3, 4, 5, 6] rfl (hJ_18 _ _ h)
            · refine z_aload_n hE dX11_weed_110 rfl 1 rfl ?_
              refine z_getR (t := 1) hE dX11_weed_111 lF_X11_14 sX_0 rfl ?_
              refine z_getR (t := 4) hE dX11_weed_114 lF_X11_237 sX_1 rfl ?_
              refine z_iload hE dX11_weed_117 5 rfl ?_
              refine z_iload hE dX11_weed_119 7 rfl ?_
              obtain ⟨q_19, h⟩ := h
              refine z_iast hE dX11_weed_121 sX_4 q_19 ?_
              refine zn (G := fun μ_20 => zZ E (zzI Φ) 122 [(7, .int x_13), (0, .ref 0), (1, .int a1), (2, .int a2), (3, .int v3_3), (4, .int v4_8), (5, .int v5_9), (6, .int v6_12)] [] μ_20) h (fun μ_20 h => ?_)
              refine z_iinc (j := 5) (c := 1) (lv' := [(4, .int (v4_8 + (1 : Int32))), (7, .int x_13), (0, .ref 0), (1, .int a1), (2, .int a2), (3, .int v3_3), (5, .int v5_9), (6, .int v6_12)]) hE dX11_weed_122 rfl zv_i_1 (by decide) rfl ?_
              exact z_sub [2, 3, 4, 5, 0, 6] rfl (hJ_18 _ _ h)
          refine z_icmp_ne (tgt := 70) hE dX11_weed_53 (by decide) h (fun h => ?_) (fun h => ?_)
          · refine z_aload_n hE dX11_weed_70 rfl 1 rfl ?_
            refine z_getR (t := 58) hE dX11_weed_71 lF_X11_51 sX_0 rfl ?_
            refine z_aload_n hE dX11_weed_74 rfl 1 rfl ?_
            refine z_getR (t := 1) hE dX11_weed_75 lF_X11_14 sX_0 rfl ?_
            refine z_iload_n hE dX11_weed_78 rfl 2 rfl ?_
            refine z_iconst (v := 1) hE dX11_weed_79 zv_i_1 ?_
            refine z_iload hE dX11_weed_80 0 rfl ?_
            refine z_callV hE dX11_weed_82 lV_X11_196 (c_X7_holds _ _ _ μ_10 _ h) sX_58 rfl (Nat.le_of_ble_eq_true rfl) (by decide) rfl (zk_I (fun r_21 μ_22 h => ?_))
            refine z_iload_n hE dX11_weed_85 rfl 3 rfl ?_
            refine z_iconst (v := 1) hE dX11_weed_86 zv_i_1 ?_
            refine z_join (P := fun (J_24 : Int32 → Prop) => ∀ (x_23 : Int32), J_24 x_23 → zZ E (zzI Φ) 95 [(0, .ref 0), (1, .int a1), (2, .int a2), (3, .int v3_3), (4, .int v4_8), (5, .int v5_9), (6, .int v6_12)] [.int x_23, .int r_21] μ_22) h (fun x_23 h => ?_) (fun J_24 hJ_24 h => ?_)
            · refine z_icmp_ne (tgt := 102) hE dX11_weed_95 (by decide) h (fun h => ?_) (fun h => ?_)
              · refine z_iconst (v := 0) hE dX11_weed_102 zv_i_0 ?_
                exact hJ_15 _ _ h
              · refine z_iconst (v := 1) hE dX11_weed_98 zv_i_1 ?_
                refine z_goto (tgt := 103) hE dX11_weed_99 (by decide) ?_
                exact hJ_15 _ _ h
            refine z_icmp_ne (tgt := 94) hE dX11_weed_87 (by decide) h (fun h => ?_) (fun h => ?_)
            · refine z_iconst (v := 0) hE dX11_weed_94 zv_i_0 ?_
              exact z_sub [1, 2, 3, 4, 5, 6, 0] rfl (hJ_24 _ h)
            · refine z_iconst (v := 1) hE dX11_weed_90 zv_i_1 ?_
              refine z_goto (tgt := 95) hE dX11_weed_91 (by decide) ?_
              exact z_sub [1, 2, 3, 4, 5, 6, 0] rfl (hJ_24 _ h)
          · refine z_aload_n hE dX11_weed_56 rfl 1 rfl ?_
            refine z_getR (t := 1) hE dX11_weed_57 lF_X11_14 sX_0 rfl ?_
            refine z_iload hE dX11_weed_60 0 rfl ?_
            refine z_iload hE dX11_weed_62 5 rfl ?_
            refine z_callV hE dX11_weed_64 lV_X11_243 (c_X3_waitsAhead _ _ μ_10 _ h) sX_1 rfl (Nat.le_of_ble_eq_true rfl) (by decide) rfl (zk_PI (fun r_25 h => ?_))
            refine z_goto (tgt := 103) hE dX11_weed_67 (by decide) ?_
            exact z_sub [1, 2, 3, 4, 5, 6, 0] rfl (hJ_15 _ _ h)
      · refine z_bipush (v := -2) hE dX11_weed_16 zv_b_m2 ?_
        exact z_iret (st := []) hE dX11_weed_18 rfl ⟨_, rfl, h⟩
set_option maxRecDepth 4000 in
theorem c_X12_degree (a1 : Int32) (a2 : Int32) (μ : ZMem) (Φ : Int32 → ZMem → Prop) (h : w_X12_degree a1 a2 μ Φ) : zM SM yX12_degree cX12_degree 3 (some FieldType.int) 4 [.ref 0, .int a1, .int a2] μ (zzI Φ) := by
  refine zM_go (own := RX12) rfl (by decide) (Nat.le_of_ble_eq_true rfl) (fun E hE => ?_)
  show zZ E (zzI Φ) 0 [(0, .ref 0), (1, .int a1), (2, .int a2)] [] μ
  unfold w_X12_degree at h
  refine z_iload_n hE dX12_degree_0 rfl 1 rfl ?_
  refine z_callS hE dX12_degree_1 lS_X12_130 (c_X12_isForm _ μ _ h) rfl (Nat.le_of_ble_eq_true rfl) (by decide) rfl (zk_PI (fun r_1 h => ?_))
  refine z_if_eq (tgt := 17) hE dX12_degree_4 (by decide) h (fun h => ?_) (fun h => ?_)
  · refine z_bipush (v := -2) hE dX12_degree_17 zv_b_m2 ?_
    exact z_iret (st := []) hE dX12_degree_19 rfl ⟨_, rfl, h⟩
  · refine z_iload_n hE dX12_degree_7 rfl 2 rfl ?_
    refine z_i2l hE dX12_degree_8 ?_
    refine z_lconst (v := 0) hE dX12_degree_9 zv_l_0 ?_
    refine z_lconst (v := 1) hE dX12_degree_10 zv_l_1 ?_
    refine z_callS hE dX12_degree_11 lS_X12_83 (c_X12_in _ _ _ μ _ h) rfl (Nat.le_of_ble_eq_true rfl) (by decide) rfl (zk_PI (fun r_3 h => ?_))
    refine z_if_ne (tgt := 20) hE dX12_degree_14 (by decide) h (fun h => ?_) (fun h => ?_)
    · refine z_aload_n hE dX12_degree_20 rfl 0 rfl ?_
      refine z_iload_n hE dX12_degree_21 rfl 1 rfl ?_
      refine z_callV hE dX12_degree_22 lV_X12_133 (c_X12_laysForm _ μ _ h) sM_0 rfl (Nat.le_of_ble_eq_true rfl) (by decide) rfl (zk_V (fun μ_6 h => ?_))
      refine z_iload_n hE dX12_degree_25 rfl 2 rfl ?_
      refine z_if_ne (tgt := 36) hE dX12_degree_26 (by decide) h (fun h => ?_) (fun h => ?_)
      · refine z_aload_n hE dX12_degree_36 rfl 0 rfl ?_
        refine z_getI hE dX12_degree_37 lF_X12_124 sM_0 rfl ?_
        exact z_iret (st := []) hE dX12_degree_40 rfl ⟨_, rfl, h⟩
      · refine z_aload_n hE dX12_degree_29 rfl 0 rfl ?_
        refine z_getI hE dX12_degree_30 lF_X12_121 sM_0 rfl ?_
        refine z_goto (tgt := 40) hE dX12_degree_33 (by decide) ?_
        exact z_iret (st := []) hE dX12_degree_40 rfl ⟨_, rfl, h⟩
    · refine z_bipush (v := -2) hE dX12_degree_17 zv_b_m2 ?_
      exact z_iret (st := []) hE dX12_degree_19 rfl ⟨_, rfl, h⟩
set_option maxRecDepth 4000 in
theorem c_X12_form (a1 : Int32) (a2 : Int32) (μ : ZMem) (Φ : Int64 → ZMem → Prop) (h : w_X12_form a1 a2 μ Φ) : zM SM yX12_form cX12_form 3 (some FieldType.long) 4 [.ref 0, .int a1, .int a2] μ (zzJ Φ) := by
  refine zM_go (own := RX12) rfl (by decide) (Nat.le_of_ble_eq_true rfl) (fun E hE => ?_)
  show zZ E (zzJ Φ) 0 [(0, .ref 0), (1, .int a1), (2, .int a2)] [] μ
  unfold w_X12_form at h
  refine z_iload_n hE dX12_form_0 rfl 1 rfl ?_
  refine z_callS hE dX12_form_1 lS_X12_130 (c_X12_isForm _ μ _ h) rfl (Nat.le_of_ble_eq_true rfl) (by decide) rfl (zk_PI (fun r_1 h => ?_))
  refine z_if_eq (tgt := 14) hE dX12_form_4 (by decide) h (fun h => ?_) (fun h => ?_)
  · refine z_ldc2 (v := -9223372036854775808) hE dX12_form_14 lK_X12_67 ?_
    exact z_lret (st := []) hE dX12_form_17 rfl ⟨_, rfl, h⟩
  · refine z_iload_n hE dX12_form_7 rfl 2 rfl ?_
    refine z_callS hE dX12_form_8 lS_X12_87 (c_X12_isPower _ μ _ h) rfl (Nat.le_of_ble_eq_true rfl) (by decide) rfl (zk_PI (fun r_3 h => ?_))
    refine z_if_ne (tgt := 18) hE dX12_form_11 (by decide) h (fun h => ?_) (fun h => ?_)
    · refine z_aload_n hE dX12_form_18 rfl 0 rfl ?_
      refine z_iload_n hE dX12_form_19 rfl 1 rfl ?_
      refine z_callV hE dX12_form_20 lV_X12_133 (c_X12_laysForm _ μ _ h) sM_0 rfl (Nat.le_of_ble_eq_true rfl) (by decide) rfl (zk_V (fun μ_6 h => ?_))
      refine z_aload_n hE dX12_form_23 rfl 0 rfl ?_
      refine z_getR (t := 4) hE dX12_form_24 lF_X12_22 sM_0 rfl ?_
      refine z_iload_n hE dX12_form_27 rfl 2 rfl ?_
      obtain ⟨q_7, h⟩ := h
      refine z_lald hE dX12_form_28 sM_4 q_7 ?_
      exact z_lret (st := []) hE dX12_form_29 rfl ⟨_, rfl, h⟩
    · refine z_ldc2 (v := -9223372036854775808) hE dX12_form_14 lK_X12_67 ?_
      exact z_lret (st := []) hE dX12_form_17 rfl ⟨_, rfl, h⟩
set_option maxRecDepth 4000 in
theorem c_X12_isSteady (a1 : Int32) (a2 : Int32) (a3 : Int32) (μ : ZMem) (Φ : Int32 → ZMem → Prop) (h : w_X12_isSteady a1 a2 a3 μ Φ) : zM SM yX12_isSteady cX12_isSteady 5 (some FieldType.boolean) 4 [.ref 0, .int a1, .int a2, .int a3] μ (zzI Φ) := by
  refine zM_go (own := RX12) rfl (by decide) (Nat.le_of_ble_eq_true rfl) (fun E hE => ?_)
  show zZ E (zzI Φ) 0 [(0, .ref 0), (1, .int a1), (2, .int a2), (3, .int a3)] [] μ
  unfold w_X12_isSteady at h
  refine z_bipush (v := 6) hE dX12_isSteady_0 zv_b_6 ?_
  refine z_istore (lv' := [(4, .int (6 : Int32)), (0, .ref 0), (1, .int a1), (2, .int a2), (3, .int a3)]) hE dX12_isSteady_2 (by decide) rfl ?_
  refine z_join (P := fun (J_2 : Int32 → Prop) => ∀ (v4_1 : Int32), J_2 v4_1 → zZ E (zzI Φ) 40 [(0, .ref 0), (1, .int a1), (2, .int a2), (3, .int a3), (4, .int v4_1)] [] μ) h (fun v4_1 h => ?_) (fun J_2 hJ_2 h => ?_)
  · refine z_aload_n hE dX12_isSteady_40 rfl 0 rfl ?_
    refine z_iload_n hE dX12_isSteady_41 rfl 2 rfl ?_
    refine z_iload_n hE dX12_isSteady_42 rfl 3 rfl ?_
    refine z_callV hE dX12_isSteady_43 lV_X12_97 (c_X12_takes _ _ μ _ h) sM_0 rfl (Nat.le_of_ble_eq_true rfl) (by decide) rfl (zk_V (fun μ_4 h => ?_))
    refine z_aload_n hE dX12_isSteady_46 rfl 0 rfl ?_
    refine z_getI hE dX12_isSteady_47 lF_X12_77 sM_0 rfl ?_
    refine z_iconst (v := 1) hE dX12_isSteady_50 zv_i_1 ?_
    refine z_icmp_lt (tgt := 63) hE dX12_isSteady_51 (by decide) h (fun h => ?_) (fun h => ?_)
    · refine z_iconst (v := 0) hE dX12_isSteady_63 zv_i_0 ?_
      exact z_zret (st := []) hE dX12_isSteady_64 rfl (by decide) ⟨_, rfl, h⟩
    · refine z_aload_n hE dX12_isSteady_54 rfl 0 rfl ?_
      refine z_getI hE dX12_isSteady_55 lF_X12_77 sM_0 rfl ?_
      refine z_iload hE dX12_isSteady_58 4 rfl ?_
      refine z_icmp_eq (tgt := 65) hE dX12_isSteady_60 (by decide) h (fun h => ?_) (fun h => ?_)
      · refine z_aload_n hE dX12_isSteady_65 rfl 0 rfl ?_
        refine z_iload_n hE dX12_isSteady_66 rfl 1 rfl ?_
        refine z_join (P := fun (J_6 : Int32 → Prop) => ∀ (x_5 : Int32), J_6 x_5 → zZ E (zzI Φ) 75 [(0, .ref 0), (1, .int a1)] [.int x_5, .ref 0] μ_4) h (fun x_5 h => ?_) (fun J_6 hJ_6 h => ?_)
        · refine z_callV hE dX12_isSteady_75 lV_X12_127 (c_X12_forms _ μ_4 _ h) sM_0 rfl (Nat.le_of_ble_eq_true rfl) (by decide) rfl (zk_V (fun μ_8 h => ?_))
          refine z_aload_n hE dX12_isSteady_78 rfl 0 rfl ?_
          refine z_callV hE dX12_isSteady_79 lV_X12_170 (c_X12_laysRows  μ_8 _ h) sM_0 rfl (Nat.le_of_ble_eq_true rfl) (by decide) rfl (zk_V (fun μ_10 h => ?_))
          refine z_aload_n hE dX12_isSteady_82 rfl 0 rfl ?_
          refine z_getI hE dX12_isSteady_83 lF_X12_69 sM_0 rfl ?_
          refine z_if_ne (tgt := 118) hE dX12_isSteady_86 (by decide) h (fun h => ?_) (fun h => ?_)
          · refine z_iconst (v := 0) hE dX12_isSteady_118 zv_i_0 ?_
            exact z_zret (st := []) hE dX12_isSteady_119 rfl (by decide) ⟨_, rfl, h⟩
          · refine z_aload_n hE dX12_isSteady_89 rfl 0 rfl ?_
            refine z_callV hE dX12_isSteady_90 lV_X12_187 (c_X12_right  μ_10 _ h) sM_0 rfl (Nat.le_of_ble_eq_true rfl) (by decide) rfl (zk_PI (fun r_11 h => ?_))
            refine z_if_ne (tgt := 118) hE dX12_isSteady_93 (by decide) h (fun h => ?_) (fun h => ?_)
            · refine z_iconst (v := 0) hE dX12_isSteady_118 zv_i_0 ?_
              exact z_zret (st := []) hE dX12_isSteady_119 rfl (by decide) ⟨_, rfl, h⟩
            · refine z_aload_n hE dX12_isSteady_96 rfl 0 rfl ?_
              refine z_callV hE dX12_isSteady_97 lV_X12_190 (c_X12_axis  μ_10 _ h) sM_0 rfl (Nat.le_of_ble_eq_true rfl) (by decide) rfl (zk_PI (fun r_13 h => ?_))
              refine z_if_ne (tgt := 118) hE dX12_isSteady_100 (by decide) h (fun h => ?_) (fun h => ?_)
              · refine z_iconst (v := 0) hE dX12_isSteady_118 zv_i_0 ?_
                exact z_zret (st := []) hE dX12_isSteady_119 rfl (by decide) ⟨_, rfl, h⟩
              · refine z_iload_n hE dX12_isSteady_103 rfl 1 rfl ?_
                refine z_if_eq (tgt := 114) hE dX12_isSteady_104 (by decide) h (fun h => ?_) (fun h => ?_)
                · refine z_iconst (v := 1) hE dX12_isSteady_114 zv_i_1 ?_
                  refine z_goto (tgt := 119) hE dX12_isSteady_115 (by decide) ?_
                  exact z_zret (st := []) hE dX12_isSteady_119 rfl (by decide) ⟨_, rfl, h⟩
                · refine z_aload_n hE dX12_isSteady_107 rfl 0 rfl ?_
                  refine z_getI hE dX12_isSteady_108 lF_X12_124 sM_0 rfl ?_
                  refine z_if_ne (tgt := 118) hE dX12_isSteady_111 (by decide) h (fun h => ?_) (fun h => ?_)
                  · refine z_iconst (v := 0) hE dX12_isSteady_118 zv_i_0 ?_
                    exact z_zret (st := []) hE dX12_isSteady_119 rfl (by decide) ⟨_, rfl, h⟩
                  · refine z_iconst (v := 1) hE dX12_isSteady_114 zv_i_1 ?_
                    refine z_goto (tgt := 119) hE dX12_isSteady_115 (by decide) ?_
                    exact z_zret (st := []) hE dX12_isSteady_119 rfl (by decide) ⟨_, rfl, h⟩
        refine z_if_ne (tgt := 74) hE dX12_isSteady_67 (by decide) h (fun h => ?_) (fun h => ?_)
        · refine z_iconst (v := 3) hE dX12_isSteady_74 zv_i_3 ?_
          exact z_sub [0, 1] rfl (hJ_6 _ h)
        · refine z_iconst (v := 0) hE dX12_isSteady_70 zv_i_0 ?_
          refine z_goto (tgt := 75) hE dX12_isSteady_71 (by decide) ?_
          exact z_sub [0, 1] rfl (hJ_6 _ h)
      · refine z_iconst (v := 0) hE dX12_isSteady_63 zv_i_0 ?_
        exact z_zret (st := []) hE dX12_isSteady_64 rfl (by decide) ⟨_, rfl, h⟩
  refine z_sub [1, 2, 3, 4, 0] rfl ?_
  obtain ⟨n4, h⟩ := h
  refine z_loop1 (P := fun (v4_15 : Int32) => zZ E (zzI Φ) 4 [(0, .ref 0), (1, .int a1), (2, .int a2), (3, .int a3), (4, .int v4_15)] [] μ) (fun k4_15 hk4_15 v4_15 h => ?_) n4 _ h
  refine z_iload hE dX12_isSteady_4 4 rfl ?_
  refine z_if_lt (tgt := 40) hE dX12_isSteady_6 (by decide) h (fun h => ?_) (fun h => ?_)
  · exact hJ_2 _ h
  · refine z_aload_n hE dX12_isSteady_9 rfl 0 rfl ?_
    refine z_getR (t := 1) hE dX12_isSteady_10 lF_X12_11 sM_0 rfl ?_
    refine z_iconst (v := 0) hE dX12_isSteady_13 zv_i_0 ?_
    refine z_iload hE dX12_isSteady_14 4 rfl ?_
    refine z_iadd hE dX12_isSteady_16 ?_
    obtain ⟨q_16, h⟩ := h
    refine z_iald hE dX12_isSteady_17 sM_1 q_16 ?_
    refine z_if_ne (tgt := 40) hE dX12_isSteady_18 (by decide) h (fun h => ?_) (fun h => ?_)
    · exact hJ_2 _ h
    · refine z_aload_n hE dX12_isSteady_21 rfl 0 rfl ?_
      refine z_getR (t := 1) hE dX12_isSteady_22 lF_X12_11 sM_0 rfl ?_
      refine z_bipush (v := 7) hE dX12_isSteady_25 zv_b_7 ?_
      refine z_iload hE dX12_isSteady_27 4 rfl ?_
      refine z_iadd hE dX12_isSteady_29 ?_
      obtain ⟨q_17, h⟩ := h
      refine z_iald hE dX12_isSteady_30 sM_1 q_17 ?_
      refine z_if_ne (tgt := 40) hE dX12_isSteady_31 (by decide) h (fun h => ?_) (fun h => ?_)
      · exact hJ_2 _ h
      · refine z_iinc (j := 4) (c := -1) (lv' := [(4, .int (v4_15 + (-1 : Int32))), (0, .ref 0), (1, .int a1), (2, .int a2), (3, .int a3)]) hE dX12_isSteady_34 rfl zv_i_m1 (by decide) rfl ?_
        refine z_goto (tgt := 4) hE dX12_isSteady_37 (by decide) ?_
        exact z_sub [1, 2, 3, 4, 0] rfl (hk4_15 _ h)
