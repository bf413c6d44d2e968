/-! all operations, and the start -/
theorem y_set : zOp_set Rel :=
  fun _ _ h a1 a2 a3 => mn_w_X11_set (o_set h.1 a1 a2 a3) (fun _ _ e => mn_w_X12_set e (fun _ _ e2 => Rel_o h e2))
theorem y_of : zOp_of Rel :=
  fun _ _ h a1 a2 => mn_w_X11_of (q_of h.1.1 a1 a2) (fun _ _ e => mn_w_X12_of e (fun _ _ e2 => Rel_o h (oS_q h.1 e2)))
theorem y_gain : zOp_gain Rel :=
  fun _ _ h a1 => mn_w_X11_gain (o_gain h.1 a1) (fun _ _ e => mn_w_X12_gain e (fun _ _ e2 => Rel_o h e2))
theorem y_feed : zOp_feed Rel :=
  fun _ _ h a1 => mn_w_X11_feed (o_feed h.1 a1) (fun _ _ e => mn_w_X12_feed e (fun _ _ e2 => Rel_o h e2))
theorem y_read : zOp_read Rel :=
  fun _ _ h => mn_w_X11_read (o_read h.1) (fun _ _ e => mn_w_X12_read e (fun _ _ e2 => Rel_o h e2))
theorem y_form : zOp_form Rel :=
  fun _ _ h a1 a2 => mn_w_X11_form (q_form h.1.1 a1 a2) (fun _ _ e => mn_w_X12_form e (fun _ _ e2 => Rel_o h (oS_q h.1 e2)))
theorem y_degree : zOp_degree Rel :=
  fun _ _ h a1 a2 => mn_w_X11_degree (q_degree h.1.1 a1 a2) (fun _ _ e => mn_w_X12_degree e (fun _ _ e2 => Rel_o h (oS_q h.1 e2)))
theorem y_row : zOp_row Rel :=
  fun _ _ h a1 a2 a3 => mn_w_X11_row (q_row h.1.1 a1 a2 a3) (fun _ _ e => mn_w_X12_row e (fun _ _ e2 => Rel_o h (oS_q h.1 e2)))
theorem y_caseOf : zOp_caseOf Rel :=
  fun _ _ h a1 a2 => mn_w_X11_caseOf (q_caseOf h.1.1 a1 a2) (fun _ _ e => mn_w_X12_caseOf e (fun _ _ e2 => Rel_o h (oS_q h.1 e2)))
theorem y_roots : zOp_roots Rel :=
  fun _ _ h a1 a2 => mn_w_X11_roots (q_roots h.1.1 a1 a2) (fun _ _ e => mn_w_X12_roots e (fun _ _ e2 => Rel_o h (oS_q h.1 e2)))
theorem y_changes : zOp_changes Rel :=
  fun _ _ h a1 a2 a3 => mn_w_X11_changes (q_changes h.1.1 a1 a2 a3) (fun _ _ e => mn_w_X12_changes e (fun _ _ e2 => Rel_o h (oS_q h.1 e2)))
theorem y_strip : zOp_strip Rel :=
  fun _ _ h a1 a2 => mn_w_X11_strip (q_strip h.1.1 a1 a2) (fun _ _ e => mn_w_X12_strip e (fun _ _ e2 => Rel_o h (oS_q h.1 e2)))
theorem y_reach : zOp_reach Rel :=
  fun _ _ h => mn_w_X11_reach (q_reach h.1.1) (fun _ _ e => mn_w_X12_reach e (fun _ _ e2 => Rel_o h (oS_q h.1 e2)))
theorem y_steady : zOp_steady Rel :=
  fun _ _ h a1 a2 a3 => mn_w_X11_steady (o_steady h.1 a1 a2 a3) (fun _ _ e => mn_w_X12_steady e (fun _ _ e2 => Rel_o h e2))
theorem y_spans : zOp_spans Rel :=
  fun _ _ h a1 => z_spans h a1
theorem y_span : zOp_span Rel :=
  fun _ _ h a1 a2 a3 => z_span h a1 a2 a3
theorem y_nearest : zOp_nearest Rel :=
  fun _ _ h a1 a2 => z_nearest h a1 a2
theorem y_links : zOp_links Rel :=
  fun _ _ h => z_links h
theorem y_link : zOp_link Rel :=
  fun _ _ h a1 a2 => z_link h a1 a2
theorem y_chain : zOp_chain Rel :=
  fun _ _ h a1 => z_chain h a1
theorem y_real : zOp_real Rel :=
  fun _ _ h a1 a2 => z_real h a1 a2
theorem y_await : zOp_await Rel :=
  fun _ _ h a1 => mn_w_X11_await (o_await h.1 a1) (fun _ _ e => mn_w_X12_await e (fun _ _ e2 => Rel_o h e2))
theorem y_next : zOp_next Rel :=
  fun _ _ h => mn_w_X11_next (o_next h.1) (fun _ _ e => mn_w_X12_next e (fun _ _ e2 => Rel_o h e2))
theorem y_waiting : zOp_waiting Rel :=
  fun _ _ h a1 => mn_w_X11_waiting (o_waiting h.1 a1) (fun _ e => mn_w_X12_waiting e (fun _ e2 => Rel_o h e2))
theorem y_weed : zOp_weed Rel :=
  fun _ _ h a1 a2 => z_weed h a1 a2
theorem y_swap : zOp_swap Rel :=
  fun _ _ h a1 => mn_w_X11_swap (o_swap h.1 a1) (fun _ _ e => mn_w_X12_swap e (fun _ _ e2 => Rel_o h e2))
theorem y_factor : zOp_factor Rel :=
  fun _ _ h a1 a2 a3 => mn_w_X11_factor (o_factor h.1 a1 a2 a3) (fun _ _ e => mn_w_X12_factor e (fun _ _ e2 => Rel_o h e2))
theorem y_factored : zOp_factored Rel :=
  fun _ _ h a1 a2 => mn_w_X11_factored (q_factored h.1.1 a1 a2) (fun _ _ e => mn_w_X12_factored e (fun _ _ e2 => Rel_o h (oS_q h.1 e2)))
theorem y_unfactor : zOp_unfactor Rel :=
  fun _ _ h a1 => mn_w_X11_unfactor (o_unfactor h.1 a1) (fun _ _ e => mn_w_X12_unfactor e (fun _ _ e2 => Rel_o h e2))
theorem y_known : zOp_known Rel :=
  fun _ _ h a1 => mn_w_X11_known (o_known h.1 a1) (fun _ e => mn_w_X12_known e (fun _ e2 => Rel_o h e2))
theorem y_multiply : zOp_multiply Rel :=
  fun _ _ h => mn_w_X11_multiply (o_multiply h.1) (fun _ _ e => mn_w_X12_multiply e (fun _ _ e2 => Rel_o h e2))
theorem y_rights : zOp_rights Rel :=
  fun _ _ h a1 => z_rights h a1
theorem y_jumps : zOp_jumps Rel :=
  fun _ _ h => z_jumps h
theorem y_jump : zOp_jump Rel :=
  fun _ _ h a1 => z_jump h a1
theorem y_best : zOp_best Rel :=
  fun _ _ h => z_best h
theorem y_tray : zOp_tray Rel :=
  fun _ _ h a1 a2 a3 => mn_w_X11_tray (o_tray h.1 a1 a2 a3) (fun _ _ e => mn_w_X12_tray e (fun _ _ e2 => Rel_o h e2))
theorem y_put : zOp_put Rel :=
  fun _ _ h a1 a2 a3 => mn_w_X11_put (o_put h.1 a1 a2 a3) (fun _ _ e => mn_w_X12_put e (fun _ _ e2 => Rel_o h e2))
theorem y_get : zOp_get Rel :=
  fun _ _ h a1 a2 => mn_w_X11_get (o_get h.1 a1 a2) (fun _ e => mn_w_X12_get e (fun _ e2 => Rel_o h e2))
theorem y_fill : zOp_fill Rel :=
  fun _ _ h a1 a2 a3 => mn_w_X11_fill (o_fill h.1 a1 a2 a3) (fun _ _ e => mn_w_X12_fill e (fun _ _ e2 => Rel_o h e2))
theorem y_judge : zOp_judge Rel :=
  fun _ _ h a1 a2 a3 => mn_w_X11_judge (o_judge h.1 a1 a2 a3) (fun _ _ e => mn_w_X12_judge e (fun _ _ e2 => Rel_o h e2))
theorem y_copy : zOp_copy Rel :=
  fun _ _ h a1 a2 a3 a4 a5 => mn_w_X11_copy (o_copy h.1 a1 a2 a3 a4 a5) (fun _ _ e => mn_w_X12_copy e (fun _ _ e2 => Rel_o h e2))
theorem y_count : zOp_count Rel :=
  fun _ _ h a1 => z_count h a1
theorem y_image : zOp_image Rel :=
  fun _ _ h => mn_w_X11_image (o_image h.1) (fun _ _ e => mn_w_X12_image e (fun _ _ e2 => Rel_o h e2))
theorem y_undo : zOp_undo Rel :=
  fun _ _ h => mn_w_X11_undo (o_undo h.1) (fun _ _ e => mn_w_X12_undo e (fun _ _ e2 => Rel_o h e2))
theorem y_all : zOps Rel := ⟨y_set, y_of, y_gain, y_feed, y_read, y_form, y_degree, y_row, y_caseOf, y_roots, y_changes, y_strip, y_reach, y_steady, y_spans, y_span, y_nearest, y_links, y_link, y_chain, y_real, y_await, y_next, y_waiting, y_weed, y_swap, y_factor, y_factored, y_unfactor, y_known, y_multiply, y_rights, y_jumps, y_jump, y_best, y_tray, y_put, y_get, y_fill, y_judge, y_copy, y_count, y_image, y_undo⟩
theorem y_st0 {p q : Nat → Int64} {k w fc : Int32} {line : Nat → Int32} {fac : Nat → Nat → Int32} {g : Nat → Int32} (h1 : ∀ j, j < 7 → p j = Int32.toInt64 (g j)) (h2 : ∀ j, j < 7 → q j = Int32.toInt64 (g (7 + j))) (h3 : ∀ j, j < 14 → ab (g j) ≤ 99) (h4 : k = 0) (h5 : w = 0) (h6 : fc = 0) (h7 : g 14 = 0) (h8 : g 15 = 0) (h9 : g 32 = 0) : rSt p q k w fc line fac g := by
  subst h4 h5 h6
  exact ⟨h1, h2, h3, h7.symm, by decide, ⟨0, by omega, rfl, h8, fun i hi => absurd hi (by omega)⟩, 0, by omega, rfl, h9, fun i hi => absurd hi (by omega)⟩
set_option maxRecDepth 10000 in
theorem y_R0 : Rel m_X11_init m_X12_init := by
  refine ⟨⟨y_st0 (by decide +kernel) (by decide +kernel) (by decide +kernel) rfl rfl rfl rfl rfl rfl, y_st0 (by decide +kernel) (by decide +kernel) (by decide +kernel) rfl rfl rfl rfl rfl rfl, ⟨rfl, rfl⟩, ⟨0, by omega, rfl, rfl, fun i hi => absurd hi (by omega)⟩, fun t ht => ?_⟩, rfl, rfl, Or.inl rfl, Or.inl rfl, Or.inl rfl⟩
  have : t = 0 ∨ t = 1 ∨ t = 2 ∨ t = 3 := by omega
  rcases this with rfl | rfl | rfl | rfl
  · exact ⟨0, by omega, rfl, rfl, rfl, Or.inl ⟨rfl, rfl⟩, fun j _ => rfl⟩
  · exact ⟨0, by omega, rfl, rfl, rfl, Or.inl ⟨rfl, rfl⟩, fun j _ => rfl⟩
  · exact ⟨0, by omega, rfl, rfl, rfl, Or.inl ⟨rfl, rfl⟩, fun j _ => rfl⟩
  · exact ⟨0, by omega, rfl, rfl, rfl, Or.inl ⟨rfl, rfl⟩, fun j _ => rfl⟩
