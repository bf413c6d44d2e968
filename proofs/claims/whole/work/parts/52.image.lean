/-! image, undo -/
theorem e_takek {μ : ZMem} {Φ : ZMem → Prop} (h : ∀ μ', (∀ a, a ≠ 13 → a ≠ 14 → μ'.2 a = μ.2 a) → (∀ a, a ≠ 12 → a ≠ 15 → a < 17 ∨ 17 + 5 < a → μ'.1 a = μ.1 a) → (∀ j, j < 7 → μ'.2 13 j = μ.2 2 j) → (∀ j, j < 7 → μ'.2 14 j = μ.2 3 j) → μ'.1 12 2 = μ.1 1 2 → μ'.1 12 4 = μ.1 1 4 → μ'.1 12 6 = μ.1 1 6 → (∀ j, j < 16 → μ'.1 15 j = μ.1 4 j) → (∀ i s, i < 6 → s < 3 → μ'.1 (17 + i) s = μ.1 (6 + i) s) → Φ μ') : w_X3_takeOver_k μ Φ := by
  unfold w_X3_takeOver_k
  refine nm_b (nm_b (nm_b (nm_b (nm_b ?_))))
  have em1 : (zz_cpJ (zz_cpJ μ 2 13 0 0 7) 3 14 0 0 7).1 1 2 = μ.1 1 2 := rfl
  rw [em1]
  have em2 : (zz_cpI (zz_upI (zz_cpJ (zz_cpJ μ 2 13 0 0 7) 3 14 0 0 7) 12 2 (μ.1 1 2)) 4 15 0 0 16).1 1 4 = μ.1 1 4 := rfl
  rw [em2]
  generalize hb0 : zz_upI (zz_cpI (zz_upI (zz_cpJ (zz_cpJ μ 2 13 0 0 7) 3 14 0 0 7) 12 2 (μ.1 1 2)) 4 15 0 0 16) 12 4 (μ.1 1 4) = b0
  have k1 : ∀ a, a ≠ 13 → a ≠ 14 → b0.2 a = μ.2 a := fun a h1 h2 => by
    rw [← hb0]; show (if a = 14 then _ else if a = 13 then _ else μ.2 a) = _
    rw [if_neg h2, if_neg h1]
  have k2 : ∀ a, a ≠ 12 → a ≠ 15 → b0.1 a = μ.1 a := fun a h1 h2 => by
    rw [← hb0]; show (if a = 12 then _ else if a = 15 then _ else if a = 12 then _ else μ.1 a) = _
    rw [if_neg h1, if_neg h2, if_neg h1]
  have k3 : ∀ j, j < 7 → b0.2 13 j = μ.2 2 j := fun j hj => by
    rw [← hb0]; show va_cpy (μ.2 2) (μ.2 13) 0 0 7 j = _
    unfold va_cpy; rw [if_pos (by omega), show 0 + (j - 0) = j by omega]
  have k4 : ∀ j, j < 7 → b0.2 14 j = μ.2 3 j := fun j hj => by
    rw [← hb0]; show va_cpy (μ.2 3) (μ.2 14) 0 0 7 j = _
    unfold va_cpy; rw [if_pos (by omega), show 0 + (j - 0) = j by omega]
  have k5 : b0.1 12 2 = μ.1 1 2 := by rw [← hb0]; rfl
  have k6 : b0.1 12 4 = μ.1 1 4 := by rw [← hb0]; rfl
  have k7 : ∀ j, j < 16 → b0.1 15 j = μ.1 4 j := fun j hj => by
    rw [← hb0]; show va_cpy (μ.1 4) (μ.1 15) 0 0 16 j = _
    unfold va_cpy; rw [if_pos (by omega), show 0 + (j - 0) = j by omega]
  refine nm_b ⟨6 + 1, lp2_inv 6 (fun n b => b.2 = b0.2 ∧ (∀ a, a < 17 ∨ 17 + 5 < a → b.1 a = b0.1 a) ∧ (∀ i s, i < n → s < 3 → b.1 (17 + i) s = b0.1 (6 + i) s)) (fun n b K hn hI hK => ?_) (fun b K hI => ?_) 6 0 b0 (by omega) ⟨rfl, fun _ _ => rfl, fun i s hi => absurd hi (by omega)⟩⟩
  · obtain ⟨i1, i2, i3⟩ := hI
    unfold b_X3_takeOver_k_63
    rw [nn_clamp (by omega), show (6 : Int32) = nI 6 from rfl, n_le (by omega) (by omega), nI_1]
    have hv := vp_in_nI (n := n) (N := 6) hn (by omega)
    refine zif_f (by omega) ⟨hv, hv, ?_⟩
    unfold w_X2_become
    refine nm_b (nm_b (nm_b (hK _ ⟨i1, fun a ha => ?_, fun i s hi hs => ?_⟩)))
    · rw [mI1, if_neg (by omega), mI1, if_neg (by omega), mI1, if_neg (by omega)]; exact i2 a ha
    · rw [i2 (6 + n) (by omega)]
      by_cases e : i = n
      · subst e
        rw [mI1, if_pos rfl, mI1, if_pos rfl, mI1, if_pos rfl]
        simp only [upd_at]
        have : s = 0 ∨ s = 1 ∨ s = 2 := by omega
        rcases this with rfl | rfl | rfl
        · rw [if_neg (by omega), if_neg (by omega), if_pos rfl]
        · rw [if_neg (by omega), if_pos rfl]
        · rw [if_pos rfl]
      · rw [mI1, if_neg (by omega), mI1, if_neg (by omega), mI1, if_neg (by omega)]; exact i3 i s (by omega) hs
  · obtain ⟨i1, i2, i3⟩ := hI
    unfold b_X3_takeOver_k_63
    refine zif_t (by decide) (nm_b (h _ (fun a h1 h2 => ?_) (fun a h1 h2 h3 => ?_) (fun j hj => ?_) (fun j hj => ?_) ?_ ?_ ?_ (fun j hj => ?_) (fun i s hi hs => ?_)))
    · rw [mI2, i1]; exact k1 a h1 h2
    · rw [mI1, if_neg h1, i2 a h3]; exact k2 a h1 h2
    · rw [mI2, i1]; exact k3 j hj
    · rw [mI2, i1]; exact k4 j hj
    · rw [mI1, if_pos rfl, upd_at, if_neg (by omega), i2 12 (by omega)]; exact k5
    · rw [mI1, if_pos rfl, upd_at, if_neg (by omega), i2 12 (by omega)]; exact k6
    · rw [mI1, if_pos rfl, upd_at, if_pos rfl, i2 1 (by omega), k2 1 (by omega) (by omega)]
    · rw [mI1, if_neg (by omega), i2 15 (by omega)]; exact k7 j hj
    · rw [mI1, if_neg (by omega), i3 i s hi hs, k2 (6 + i) (by omega) (by omega)]
theorem e_taken {μ : ZMem} {Φ : ZMem → Prop} (h : ∀ μ', (∀ a, a ≠ 2 → a ≠ 3 → μ'.2 a = μ.2 a) → (∀ a, a ≠ 1 → a ≠ 4 → a < 6 ∨ 6 + 5 < a → μ'.1 a = μ.1 a) → (∀ j, j < 7 → μ'.2 2 j = μ.2 13 j) → (∀ j, j < 7 → μ'.2 3 j = μ.2 14 j) → μ'.1 1 2 = μ.1 12 2 → μ'.1 1 4 = μ.1 12 4 → μ'.1 1 6 = μ.1 12 6 → (∀ j, j < 16 → μ'.1 4 j = μ.1 15 j) → (∀ i s, i < 6 → s < 3 → μ'.1 (6 + i) s = μ.1 (17 + i) s) → Φ μ') : w_X3_takeOver_n μ Φ := by
  unfold w_X3_takeOver_n
  refine nm_b (nm_b (nm_b (nm_b (nm_b ?_))))
  have em1 : (zz_cpJ (zz_cpJ μ 13 2 0 0 7) 14 3 0 0 7).1 12 2 = μ.1 12 2 := rfl
  rw [em1]
  have em2 : (zz_cpI (zz_upI (zz_cpJ (zz_cpJ μ 13 2 0 0 7) 14 3 0 0 7) 1 2 (μ.1 12 2)) 15 4 0 0 16).1 12 4 = μ.1 12 4 := rfl
  rw [em2]
  generalize hb0 : zz_upI (zz_cpI (zz_upI (zz_cpJ (zz_cpJ μ 13 2 0 0 7) 14 3 0 0 7) 1 2 (μ.1 12 2)) 15 4 0 0 16) 1 4 (μ.1 12 4) = b0
  have k1 : ∀ a, a ≠ 2 → a ≠ 3 → b0.2 a = μ.2 a := fun a h1 h2 => by
    rw [← hb0]; show (if a = 3 then _ else if a = 2 then _ else μ.2 a) = _
    rw [if_neg h2, if_neg h1]
  have k2 : ∀ a, a ≠ 1 → a ≠ 4 → b0.1 a = μ.1 a := fun a h1 h2 => by
    rw [← hb0]; show (if a = 1 then _ else if a = 4 then _ else if a = 1 then _ else μ.1 a) = _
    rw [if_neg h1, if_neg h2, if_neg h1]
  have k3 : ∀ j, j < 7 → b0.2 2 j = μ.2 13 j := fun j hj => by
    rw [← hb0]; show va_cpy (μ.2 13) (μ.2 2) 0 0 7 j = _
    unfold va_cpy; rw [if_pos (by omega), show 0 + (j - 0) = j by omega]
  have k4 : ∀ j, j < 7 → b0.2 3 j = μ.2 14 j := fun j hj => by
    rw [← hb0]; show va_cpy (μ.2 14) (μ.2 3) 0 0 7 j = _
    unfold va_cpy; rw [if_pos (by omega), show 0 + (j - 0) = j by omega]
  have k5 : b0.1 1 2 = μ.1 12 2 := by rw [← hb0]; rfl
  have k6 : b0.1 1 4 = μ.1 12 4 := by rw [← hb0]; rfl
  have k7 : ∀ j, j < 16 → b0.1 4 j = μ.1 15 j := fun j hj => by
    rw [← hb0]; show va_cpy (μ.1 15) (μ.1 4) 0 0 16 j = _
    unfold va_cpy; rw [if_pos (by omega), show 0 + (j - 0) = j by omega]
  refine nm_b ⟨6 + 1, lp2_inv 6 (fun n b => b.2 = b0.2 ∧ (∀ a, a < 6 ∨ 6 + 5 < a → b.1 a = b0.1 a) ∧ (∀ i s, i < n → s < 3 → b.1 (6 + i) s = b0.1 (17 + i) s)) (fun n b K hn hI hK => ?_) (fun b K hI => ?_) 6 0 b0 (by omega) ⟨rfl, fun _ _ => rfl, fun i s hi => absurd hi (by omega)⟩⟩
  · obtain ⟨i1, i2, i3⟩ := hI
    unfold b_X3_takeOver_n_63
    rw [nn_clamp (by omega), show (6 : Int32) = nI 6 from rfl, n_le (by omega) (by omega), nI_1]
    have hv := vp_in_nI (n := n) (N := 6) hn (by omega)
    refine zif_f (by omega) ⟨hv, hv, ?_⟩
    unfold w_X2_become
    refine nm_b (nm_b (nm_b (hK _ ⟨i1, fun a ha => ?_, fun i s hi hs => ?_⟩)))
    · rw [mI1, if_neg (by omega), mI1, if_neg (by omega), mI1, if_neg (by omega)]; exact i2 a ha
    · rw [i2 (17 + n) (by omega)]
      by_cases e : i = n
      · subst e
        rw [mI1, if_pos rfl, mI1, if_pos rfl, mI1, if_pos rfl]
        simp only [upd_at]
        have : s = 0 ∨ s = 1 ∨ s = 2 := by omega
        rcases this with rfl | rfl | rfl
        · rw [if_neg (by omega), if_neg (by omega), if_pos rfl]
        · rw [if_neg (by omega), if_pos rfl]
        · rw [if_pos rfl]
      · rw [mI1, if_neg (by omega), mI1, if_neg (by omega), mI1, if_neg (by omega)]; exact i3 i s (by omega) hs
  · obtain ⟨i1, i2, i3⟩ := hI
    unfold b_X3_takeOver_n_63
    refine zif_t (by decide) (nm_b (h _ (fun a h1 h2 => ?_) (fun a h1 h2 h3 => ?_) (fun j hj => ?_) (fun j hj => ?_) ?_ ?_ ?_ (fun j hj => ?_) (fun i s hi hs => ?_)))
    · rw [mI2, i1]; exact k1 a h1 h2
    · rw [mI1, if_neg h1, i2 a h3]; exact k2 a h1 h2
    · rw [mI2, i1]; exact k3 j hj
    · rw [mI2, i1]; exact k4 j hj
    · rw [mI1, if_pos rfl, upd_at, if_neg (by omega), i2 1 (by omega)]; exact k5
    · rw [mI1, if_pos rfl, upd_at, if_neg (by omega), i2 1 (by omega)]; exact k6
    · rw [mI1, if_pos rfl, upd_at, if_pos rfl, i2 12 (by omega), k2 12 (by omega) (by omega)]
    · rw [mI1, if_neg (by omega), i2 4 (by omega)]; exact k7 j hj
    · rw [mI1, if_neg (by omega), i3 i s hi hs, k2 (17 + i) (by omega) (by omega)]
theorem rSt_cg {p q p' q' : Nat → Int64} {k w fc k' w' fc' : Int32} {line line' : Nat → Int32} {fac fac' : Nat → Nat → Int32} {g g' : Nat → Int32} (h : rSt p q k w fc line fac g) (e1 : ∀ j, j < 7 → p' j = p j) (e2 : ∀ j, j < 7 → q' j = q j) (e3 : k' = k) (e4 : w' = w) (e5 : fc' = fc) (e6 : ∀ j, j < 16 → line' j = line j) (e7 : ∀ i s, i < 6 → s < 3 → fac' i s = fac i s) (e8 : ∀ j, j < 51 → g' j = g j) : rSt p' q' k' w' fc' line' fac' g' := by
  obtain ⟨a1, a2, a3, a4, a5, ⟨m, c1, c2, c3, c4⟩, n, d1, d2, d3, d4⟩ := h
  subst e3 e4 e5
  refine ⟨fun j hj => ?_, fun j hj => ?_, fun j hj => ?_, ?_, a5, ⟨m, c1, c2, ?_, fun i hi => ?_⟩, n, d1, d2, ?_, fun i hi => ?_⟩
  · rw [e1 j hj, e8 j (by omega)]; exact a1 j hj
  · rw [e2 j hj, e8 _ (by omega)]; exact a2 j hj
  · rw [e8 _ (by omega)]; exact a3 j hj
  · rw [e8 _ (by omega)]; exact a4
  · rw [e8 _ (by omega)]; exact c3
  · rw [e6 i (by omega), e8 _ (by omega)]; exact c4 i hi
  · rw [e8 _ (by omega)]; exact d3
  · rw [e7 i 0 (by omega) (by omega), e7 i 1 (by omega) (by omega), e7 i 2 (by omega) (by omega), e8 _ (by omega), e8 _ (by omega), e8 _ (by omega)]; exact d4 i hi
theorem m_copies {μ : ZMem} {k0 k1 : Nat} (hk : k0 ≠ k1) {Φ : ZMem → Prop} (h : ∀ g, (∀ j, j < 51 → g j = μ.1 k0 j) → Φ (stI μ k1 g)) : w_X12_copies k0 51 k1 51 μ Φ := by
  unfold w_X12_copies
  refine ⟨51 + 1, lp2_inv 51 (fun n b => ∃ g, b = stI μ k1 g ∧ ∀ j, j < n → g j = μ.1 k0 j) (fun n b K hn hI hK => ?_) (fun b K hI => ?_) 51 0 μ (by omega) ⟨μ.1 k1, (stI_self μ k1).symm, fun j hj => absurd hj (by omega)⟩⟩
  · obtain ⟨g, rfl, hg⟩ := hI
    unfold b_X12_copies_2
    rw [nn_clamp (by omega), show (51 : Int32) = nI 51 from rfl, n_le (by omega) (by omega), nI_1]
    have hv := vp_in_nI (n := n) (N := 51) hn (by omega)
    refine zif_f (by omega) ⟨hv, hv, nm_b (hK _ ⟨upd g n (μ.1 k0 n), ?_, fun j hj => ?_⟩)⟩
    · rw [upI_st, stI_stI, stI1, if_pos rfl, stI1, if_neg hk]
    · rw [upd_at]
      split
      · rename_i e; rw [e]
      · exact hg j (by omega)
  · obtain ⟨g, rfl, hg⟩ := hI
    unfold b_X12_copies_2
    exact zif_t (by decide) (h g hg)
theorem o_image {μX μM : ZMem} (h : Rel0 μX μM) : w_X11_image μX (fun r μX1 => w_X12_image μM (fun r2 μM1 => oS μX μM r r2 μX1 μM1)) := by
  unfold w_X11_image
  refine e_takek (fun μ' q1 q2 q3 q4 q5 q6 q7 q8 q9 => nm_b ?_)
  unfold w_X12_image
  refine m_copies (by omega) (fun g hg => nm_b ?_)
  obtain ⟨w, b1, b2, b3, b4⟩ := h.1.2.2.2.2.2.1
  have z1 : ∀ a, a ≠ 0 → a ≠ 12 → a ≠ 15 → a < 17 ∨ 22 < a → (zz_upI μ' 0 2 1).1 a = μX.1 a := fun a h0 h1 h2 h3 => by
    rw [mI1, if_neg h0]; exact q2 a h1 h2 h3
  have z2 : ∀ a, a ≠ 13 → a ≠ 14 → (zz_upI μ' 0 2 1).2 a = μX.2 a := fun a h1 h2 => q1 a h1 h2
  refine ⟨?_, ⟨now_fr h.1 (fun a h1 h2 => ⟨z1 a (by omega) (by omega) (by omega) (by omega), z2 a (by omega) (by omega)⟩) rfl, ?_, ?_, tape_fr h.2.2.2.1 (by rw [z1 23 (by omega) (by omega) (by omega) (by omega)]) (z1 24 (by omega) (by omega) (by omega) (by omega)) rfl rfl, trays_fr h.2.2.2.2 (fun a h1 h2 => ⟨z1 a (by omega) (by omega) (by omega) (by omega), z2 a (by omega) (by omega)⟩) rfl rfl rfl⟩, Or.inl ⟨fun a h1 h2 => ⟨z1 a (by omega) (by omega) (by omega) (by omega), z2 a (by omega) (by omega)⟩, z2 2 (by omega) (by omega), z2 3 (by omega) (by omega)⟩⟩
  · rw [z1 1 (by omega) (by omega) (by omega) (by omega), b2]
    exact b3.symm
  · exact rSt_cg h.1 q3 q4 q5 q6 q7 q8 (fun i s hi hs => by
      show (zz_upI μ' 0 2 1).1 (17 + i) s = _
      rw [mI1, if_neg (by omega)]; exact q9 i s hi hs) hg
  · unfold rFlags
    refine ⟨rfl, ?_⟩
    show upd (μ'.1 0) 2 1 4 = upd (μM.1 0) 2 1 3
    rw [upd_at, if_neg (by omega), upd_at, if_neg (by omega), q2 0 (by omega) (by omega) (by omega)]
    exact h.2.2.1.2
theorem o_undo {μX μM : ZMem} (h : Rel0 μX μM) : w_X11_undo μX (fun r μX1 => w_X12_undo μM (fun r2 μM1 => oS μX μM r r2 μX1 μM1)) := by
  unfold w_X11_undo
  have hf := h.2.2.1.1
  refine zifn (fun n0 => e_taken (fun μ' q1 q2 q3 q4 q5 q6 q7 q8 q9 => ?_)) (fun n0 => ?_)
  · unfold w_X11_forgetSurveys
    refine nm_b (nm_b (nm_b ?_))
    unfold w_X12_undo
    rw [hf] at n0
    refine zifn_f n0 (m_copies (by omega) (fun g hg => ?_))
    obtain ⟨w, b1, b2, b3, b4⟩ := h.2.1.2.2.2.2.2.1
    have z1 : ∀ a, a ≠ 64 → a ≠ 67 → a ≠ 70 → (zz_upI (zz_upI (zz_upI μ' 64 4 0) 67 4 0) 70 3 0).1 a = μ'.1 a := fun a h1 h2 h3 => by
      rw [mI1, if_neg h3, mI1, if_neg h2, mI1, if_neg h1]
    have z2 : ∀ a, a ≠ 64 → a ≠ 67 → a ≠ 70 → a ≠ 1 → a ≠ 4 → a < 6 ∨ 11 < a → (zz_upI (zz_upI (zz_upI μ' 64 4 0) 67 4 0) 70 3 0).1 a = μX.1 a := fun a h1 h2 h3 h4 h5 h6 => by
      rw [z1 a h1 h2 h3]; exact q2 a h4 h5 h6
    have z3 : ∀ a, a ≠ 2 → a ≠ 3 → (zz_upI (zz_upI (zz_upI μ' 64 4 0) 67 4 0) 70 3 0).2 a = μX.2 a := fun a h1 h2 => q1 a h1 h2
    refine ⟨?_, ⟨?_, kept_fr h.2.1 (fun a h1 h2 => ⟨z2 a (by omega) (by omega) (by omega) (by omega) (by omega) (by omega), z3 a (by omega) (by omega)⟩) rfl, ?_, tape_fr h.2.2.2.1 (by rw [z2 23 (by omega) (by omega) (by omega) (by omega) (by omega) (by omega)]) (z2 24 (by omega) (by omega) (by omega) (by omega) (by omega) (by omega)) rfl rfl, trays_fr h.2.2.2.2 (fun a h1 h2 => ⟨z2 a (by omega) (by omega) (by omega) (by omega) (by omega) (by omega), z3 a (by omega) (by omega)⟩) rfl rfl rfl⟩, Or.inr ⟨?_, ?_, ?_, ?_, ?_⟩⟩
    · rw [z1 1 (by omega) (by omega) (by omega), q6]
      show μX.1 12 4 = g 15
      rw [hg 15 (by omega), b2, b3]
    · unfold rNow
      rw [z1 1 (by omega) (by omega) (by omega), z1 4 (by omega) (by omega) (by omega)]
      exact rSt_cg h.2.1 q3 q4 q5 q6 q7 q8 (fun i s hi hs => by
        show (zz_upI (zz_upI (zz_upI μ' 64 4 0) 67 4 0) 70 3 0).1 (6 + i) s = _
        rw [z1 _ (by omega) (by omega) (by omega)]; exact q9 i s hi hs) hg
    · unfold rFlags
      rw [z2 0 (by omega) (by omega) (by omega) (by omega) (by omega) (by omega)]
      exact h.2.2.1
    · rfl
    · rfl
    · rfl
    · show upd (μ'.1 64) 4 0 0 = _
      rw [upd_at, if_neg (by omega), q2 64 (by omega) (by omega) (by omega)]
    · show upd (μ'.1 67) 4 0 0 = _
      rw [upd_at, if_neg (by omega), q2 67 (by omega) (by omega) (by omega)]
  · unfold w_X12_undo
    rw [hf] at n0
    exact zifn_t n0 (oS_0 h _)
