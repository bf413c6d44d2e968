/-! read -/
theorem scA_sm {neg : Bool} {A : Nat → Int32} (h : smA A) : smA (scA neg A) := by
  intro j hj
  unfold scA
  split
  · have := ab_in.mp (h j hj)
    rw [ab_in, Int32.toInt_neg, Int.bmod_eq_of_le (by omega) (by omega)]
    omega
  · exact h j hj
theorem rdS_f {n : Nat} {L : Nat → Int32} (t : ended n L) : (∀ s, rdS n L = Sum.inr s → smA s.2.2) ∧ (∀ e, rdS n L = Sum.inl e → e ≤ 200) := by
  have of := oneS_f t
  unfold rdS
  cases e : oneS L with
  | inl e' =>
    refine ⟨fun s h => (by cases h), fun e'' h => ?_⟩
    have := of.2 e' e
    have := Sum.inl.inj h
    omega
  | inr s =>
    obtain ⟨k1, k2, k3, k4⟩ := of.1 s e
    have gf := gnS_f t (s := s) k1 k3 k4
    dsimp only
    cases g : gnS L s with
    | inl e' =>
      have := gf.2 e' g
      refine ⟨fun s h => (by cases h), fun e'' h => ?_⟩
      have := Sum.inl.inj h
      omega
    | inr s' =>
      obtain ⟨g1, g2, g3⟩ := gf.1 s' g
      have ee : endS n (Sum.inr s') = if s'.1 < n then Sum.inl s'.1 else Sum.inr s' := rfl
      rw [ee]
      split
      · refine ⟨fun s h => (by cases h), fun e'' h => ?_⟩
        have := Sum.inl.inj h
        omega
      · refine ⟨fun s'' h => ?_, fun e'' h => by cases h⟩
        have e3 : (s'.1, s'.2.1, scA (negL (L s.1)) s'.2.2) = s'' := Sum.inr.inj h
        rw [← e3]
        exact scA_sm g1
theorem o_read {μX μM : ZMem} (h : Rel0 μX μM) : w_X11_read μX (fun r μX1 => w_X12_read μM (fun r2 μM1 => oS μX μM r r2 μX1 μM1)) := by
  obtain ⟨n, n1, n2, n3, n4⟩ := h.2.2.2.1
  obtain ⟨L, hL1, hL2⟩ : ∃ L : Nat → Int32, (∀ i, i < n → μM.1 13 i = L i) ∧ ∀ i, n ≤ i → L i = -1 := ⟨fun i => if i < n then μM.1 13 i else -1, fun i hi => (if_pos hi).symm, fun i hi => if_neg (by omega)⟩
  have tX : tapeX n L μX := ⟨⟨n1, hL2⟩, n2, fun i hi => by rw [(n4 i hi).1]; exact hL1 i hi⟩
  have tM : tapeM n L μM := ⟨⟨n1, hL2⟩, n3, hL1⟩
  have rf := rdS_f tX.1
  unfold w_X11_read
  refine e_parse tX (fun b hb => nm_b ?_)
  cases e : rdS n L with
  | inl e' =>
    rw [e] at hb
    obtain ⟨b1, b2⟩ := hb
    have le := rf.2 e' e
    have e5 : (zz_upI b 23 3 0).1 23 5 = nI e' := by rw [mI1, if_pos rfl, upd_at, if_neg (by omega)]; exact b2
    rw [e5]
    refine zif_f (ne_m1 (by omega)) (m_read tM (fun e2 h2 c hc => ?_) (fun s hs => by rw [e] at hs; cases hs))
    rw [e] at h2
    have : e' = e2 := Sum.inl.inj h2
    subst this
    obtain ⟨c1, c2, c3, c4, c5⟩ := hc
    have hx : ∀ a, a ≠ 23 → a ≠ 25 → a ≠ 26 → (zz_upI b 23 3 0).1 a = μX.1 a ∧ (zz_upI b 23 3 0).2 a = μX.2 a := fun a h1 h2 h3 => ⟨by rw [mI1, if_neg h1]; exact b1.1 a h1, b1.2.2 a h2 h3⟩
    refine ⟨rfl, ⟨now_fr h.1 (fun a q1 q2 => hx a (by omega) (by omega) (by omega)) (c1 1 (by omega) (by omega)), kept_fr h.2.1 (fun a q1 q2 => hx a (by omega) (by omega) (by omega)) (c1 2 (by omega) (by omega)), ?_, ⟨0, by omega, rfl, c5, fun i hi => absurd hi (by omega)⟩, trays_fr h.2.2.2.2 (fun a q1 q2 => hx a (by omega) (by omega) (by omega)) (c1 15 (by omega) (by omega)) (c1 16 (by omega) (by omega)) (by rw [c2])⟩, Or.inl ⟨fun a q1 q2 => hx a (by omega) (by omega) (by omega), (hx 2 (by omega) (by omega) (by omega)).2, (hx 3 (by omega) (by omega) (by omega)).2⟩⟩
    unfold rFlags
    rw [(hx 0 (by omega) (by omega) (by omega)).1, c3, c4]
    exact h.2.2.1
  | inr s =>
    rw [e] at hb
    have hb' : sTX μX s b := hb
    obtain ⟨b1, b2, b3, b4, b5⟩ := hb'
    have sm := rf.1 s e
    have e5 : (zz_upI b 23 3 0).1 23 5 = -1 := by rw [mI1, if_pos rfl, upd_at, if_neg (by omega)]; exact b3
    refine zif_t e5 (nm_b (nm_b ?_))
    unfold w_X11_forgetSurveys
    refine nm_b (nm_b (nm_b (nm_b ?_)))
    generalize hD : zz_cpJ (zz_cpJ (zz_upI b 23 3 0) 25 2 0 0 7) 26 3 0 0 7 = D
    have D1 : ∀ a, a ≠ 23 → D.1 a = μX.1 a := fun a h1 => by rw [← hD, mcJ1, mcJ1, mI1, if_neg h1]; exact b1.1 a h1
    have D23 : D.1 23 3 = 0 := by rw [← hD]; rfl
    have D234 : D.1 23 4 = nI s.2.1 := by
      rw [← hD, mcJ1, mcJ1, mI1, if_pos rfl, upd_at, if_neg (by omega)]; exact b2
    have D2 : ∀ a, a ≠ 2 → a ≠ 3 → a ≠ 25 → a ≠ 26 → D.2 a = μX.2 a := fun a h1 h2 h3 h4 => by rw [← hD, mcJ2, if_neg h2, mcJ2, if_neg h1]; exact b1.2.2 a h3 h4
    have Dp : ∀ j, j < 7 → D.2 2 j = Int32.toInt64 (s.2.2 j) := fun j hj => by
      rw [← hD, mcJ2, if_neg (by omega), mcJ2, if_pos rfl]
      unfold va_cpy
      rw [if_pos (by omega), show 0 + (j - 0) = j by omega]
      exact (b5 j hj).1
    have Dq : ∀ j, j < 7 → D.2 3 j = Int32.toInt64 (s.2.2 (7 + j)) := fun j hj => by
      rw [← hD, mcJ2, if_pos rfl]
      unfold va_cpy
      rw [if_pos (by omega), show 0 + (j - 0) = j by omega, mcJ2, if_neg (by omega)]
      exact (b5 j hj).2
    have r4 : (zz_upI (zz_upI (zz_upI (zz_upI D 64 4 0) 67 4 0) 70 3 0) 0 4 ((zz_upI (zz_upI (zz_upI D 64 4 0) 67 4 0) 70 3 0).1 0 4 + 1)).1 23 4 = nI s.2.1 := D234
    rw [r4]
    refine m_read tM (fun e2 h2 => by rw [e] at h2; cases h2) (fun s2 h2 c hc => ?_)
    rw [e] at h2
    have : s = s2 := Sum.inr.inj h2
    subst this
    obtain ⟨c1, c2, c3, c4, c5, c6, c7⟩ := hc
    have v4 : (zz_upI (zz_upI (zz_upI D 64 4 0) 67 4 0) 70 3 0).1 0 4 = D.1 0 4 := rfl
    rw [v4]
    have hx : ∀ a, a ≠ 0 → a ≠ 2 → a ≠ 3 → a ≠ 23 → a ≠ 25 → a ≠ 26 → a ≠ 64 → a ≠ 67 → a ≠ 70 → (zz_upI (zz_upI (zz_upI (zz_upI D 64 4 0) 67 4 0) 70 3 0) 0 4 (D.1 0 4 + 1)).1 a = μX.1 a ∧ (zz_upI (zz_upI (zz_upI (zz_upI D 64 4 0) 67 4 0) 70 3 0) 0 4 (D.1 0 4 + 1)).2 a = μX.2 a := fun a h0 h2 h3 h4 h5 h6 h7 h8 h9 => by
      refine ⟨?_, D2 a h2 h3 h5 h6⟩
      rw [mI1, if_neg h0, mI1, if_neg h9, mI1, if_neg h8, mI1, if_neg h7]; exact D1 a h4
    refine ⟨rfl, ⟨?_, kept_fr h.2.1 (fun a q1 q2 => hx a (by omega) (by omega) (by omega) (by omega) (by omega) (by omega) (by omega) (by omega) (by omega)) (c1 2 (by omega) (by omega) (by omega)), ?_, ⟨0, by omega, D23, c5, fun i hi => absurd hi (by omega)⟩, trays_fr h.2.2.2.2 (fun a q1 q2 => hx a (by omega) (by omega) (by omega) (by omega) (by omega) (by omega) (by omega) (by omega) (by omega)) (c1 15 (by omega) (by omega) (by omega)) (c1 16 (by omega) (by omega) (by omega)) (by rw [c2])⟩, Or.inr ⟨rfl, rfl, rfl, ?_, ?_⟩⟩
    · have e1 := (hx 1 (by omega) (by omega) (by omega) (by omega) (by omega) (by omega) (by omega) (by omega) (by omega)).1
      have e4 := (hx 4 (by omega) (by omega) (by omega) (by omega) (by omega) (by omega) (by omega) (by omega) (by omega)).1
      unfold rNow
      rw [e1, e4]
      refine rSt_fac (rSt_pq h.1 (fun j hj => ?_) (fun j hj => ?_) (fun j hj => ?_) (fun j hj => c7 j hj)) (fun i hi => (hx (6 + i) (by omega) (by omega) (by omega) (by omega) (by omega) (by omega) (by omega) (by omega) (by omega)).1)
      · rw [c6 j (by omega)]; exact Dp j hj
      · rw [c6 (7 + j) (by omega)]; exact Dq j hj
      · rw [c6 j hj]; exact sm j hj
    · unfold rFlags
      refine ⟨?_, ?_⟩
      · rw [c3]
        show upd (D.1 0) 4 (D.1 0 4 + 1) 2 = _
        rw [upd_at, if_neg (by omega), D1 0 (by omega)]
        exact h.2.2.1.1
      · rw [c4]
        show upd (D.1 0) 4 (D.1 0 4 + 1) 4 = _
        rw [upd_at, if_pos rfl, D1 0 (by omega), h.2.2.1.2]
    · show upd (D.1 64) 4 0 0 = _
      rw [upd_at, if_neg (by omega), D1 64 (by omega)]
    · show upd (D.1 67) 4 0 0 = _
      rw [upd_at, if_neg (by omega), D1 67 (by omega)]
