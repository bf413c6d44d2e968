/-! form, degree, caseOf, changes, roots -/
theorem e_isPower {a : Int32} {Φ : Int32 → Prop} (h1 : ∀ k, k < 7 → a = nI k → Φ 1) (h0 : ¬ (0 ≤ a.toInt ∧ a.toInt < 7) → Φ 0) : w_X11_isPower a Φ := by
  unfold w_X11_isPower
  rw [i_lt, i_le, show (0 : Int32).toInt = 0 from rfl, show (7 : Int32).toInt = 7 from rfl]
  refine zif (fun q => h0 (by omega)) (fun q => zif (fun q2 => h0 (by omega)) (fun q2 => ?_))
  obtain ⟨k, k1, k2⟩ := nn_of (i := a) (n := 6) (by omega) (by omega) (by omega)
  exact h1 k (by omega) k2
theorem m_isPower {a : Int32} {Φ : Int32 → Prop} (h1 : ∀ k, k < 7 → a = nI k → Φ 1) (h0 : ¬ (0 ≤ a.toInt ∧ a.toInt < 7) → Φ 0) : w_X12_isPower a Φ := by
  unfold w_X12_isPower
  refine m_in_k (fun q1 q2 => ⟨Or.inr rfl, ?_⟩) (fun q => ⟨Or.inl rfl, h0 ?_⟩)
  · rw [il_toInt, show (0 : Int64).toInt = 0 from rfl] at q1
    rw [il_toInt, show (6 : Int64).toInt = 6 from rfl] at q2
    obtain ⟨k, k1, k2⟩ := nn_of (i := a) (n := 6) (by omega) (by omega) (by omega)
    exact h1 k (by omega) k2
  · rw [il_toInt, show (0 : Int64).toInt = 0 from rfl, show (6 : Int64).toInt = 6 from rfl] at q
    omega
/-- a form without its rows -/
theorem e_form0 {μ : ZMem} {a : Int32} {C : Nat → Int64} (ha : okF a) (hC : ∀ j, j < 7 → mixF 1 (μ.1 1 2) (μ.2 2) (μ.2 3) j = C j) {Φ : ZMem → Prop} (h : ∀ μ', XS 28 μ μ' → (∀ j, j < 7 → μ'.2 29 j = formF a C j) → μ'.1 28 4 = hd7 (formF a C) → μ'.1 28 5 = hd7 C - hd7 (formF a C) → Φ μ') : w_X11_currentC μ (fun r μ_2 => SX[r]? = some (2, 7, []) ∧ w_X8_shape 28 r 7 a μ_2 Φ) := by
  refine e_currentC hC (fun μ1 p1 p2 p3 => ⟨rfl, ?_⟩)
  refine e_shape ha (by decide) (by decide) p3 (fun μ2 q1 q2 q3 q4 q5 => h μ2 ⟨fun x a1 _ => ?_, fun x a1 a2 => ?_⟩ q3 q4 q5)
  · rw [← p1]; exact funext fun s => q1 x s (fun e => a1 e.1)
  · rw [q2 x (by omega) (by omega), p2 x a1]
theorem m_form0 {μ : ZMem} {a : Int32} {C : Nat → Int64} (ha : okF a) (hC : ∀ j, j < 7 → mixM μ 1 (μ.1 1 14) j = C j) {Φ : ZMem → Prop} (h : ∀ μ', MS μ μ' → (∀ j, j < 7 → μ'.2 4 j = formF a C j) → μ'.1 0 9 = hd7 (formF a C) → μ'.1 0 10 = hd7 C - hd7 (formF a C) → Φ μ') : w_X12_laysForm a μ Φ := by
  unfold w_X12_laysForm
  refine m_takes (fun μ1 p1 p2 p3 p4 => ?_)
  have hdC : hd7 (mixM μ 1 (μ.1 1 14)) = hd7 C := by unfold hd7; rw [dg_congr hC]
  rw [hdC] at p4
  refine m_forms (C := C) ha (fun j hj => by rw [p3 j hj]; exact hC j hj) p4 (fun μ2 r1 r2 r3 r4 r5 => h μ2 ?_ r3 r4 r5)
  have s1 : MS μ μ1 := ⟨fun x a1 a2 => funext fun s => p1 x s (fun q => a1 q.1), fun s a1 a2 a3 a4 => p1 0 s (fun q => a2 q.2), fun x a1 => p2 x (by omega)⟩
  exact MS_tr s1 ⟨fun x a1 a2 => funext fun s => r1 x s (fun q => a1 q.1), fun s a1 a2 a3 a4 => r1 0 s (by omega), fun x a1 => r2 x (by omega) (by omega)⟩
theorem q_form {μX μM : ZMem} (hR : rNow μX μM) (a1 a2 : Int32) : w_X11_form a1 a2 μX (fun r μX1 => w_X12_form a1 a2 μM (fun r2 μM1 => qS μX μM r r2 μX1 μM1)) := by
  unfold w_X11_form
  refine e_isForm (fun hF => z1p ?_) (fun hF => z0p ?_)
  · refine e_isPower (fun k hk ek => z1n ?_) (fun hk => z0n ?_)
    · refine e_form0 hF (rNow_mix hR) (fun μX1 sX f1 _ _ => ?_)
      subst ek
      refine ⟨vp_in_nI (by omega) (by omega), ?_⟩
      unfold w_X12_form
      refine m_isForm (fun _ => z1p ?_) (fun q => absurd hF q)
      refine m_isPower (fun k' hk' ek' => z1n ?_) (fun q => absurd (by rw [nI_toInt (by omega)]; omega) q)
      refine m_form0 (C := cNow μM) hF (fun j _ => rfl) (fun μM1 sM f2 _ _ => ⟨vp_in_nI (by omega) (by omega), ?_, sX, sM⟩)
      rw [nn_clamp (by omega), f1 k hk, f2 k hk]
    · unfold w_X12_form
      refine m_isForm (fun _ => z1p ?_) (fun q => absurd hF q)
      refine m_isPower (fun k' hk' ek' => absurd (by rw [ek', nI_toInt (by omega)]; omega) hk) (fun q => z0n (qS_0 μX μM _))
  · unfold w_X12_form
    exact m_isForm (fun q => absurd q hF) (fun _ => z0p (qS_0 μX μM _))
theorem q_degree {μX μM : ZMem} (hR : rNow μX μM) (a1 a2 : Int32) : w_X11_degree a1 a2 μX (fun r μX1 => w_X12_degree a1 a2 μM (fun r2 μM1 => qS μX μM r r2 μX1 μM1)) := by
  unfold w_X11_degree
  refine e_isForm (fun hF => z1p ?_) (fun hF => z0p ?_)
  · have no : ¬ (0 ≤ a2.toInt ∧ a2.toInt ≤ 1) → w_X12_degree a1 a2 μM (fun r2 μM1 => qS μX μM (-2) r2 μX μM1) := by
      intro hn
      unfold w_X12_degree
      refine m_isForm (fun _ => z1p (m_in_k (fun q1 q2 => absurd ⟨?_, ?_⟩ hn) (fun _ => z0n (qS_0 μX μM _)))) (fun q => absurd hF q)
      · rw [il_toInt] at q1; exact q1
      · rw [il_toInt] at q2; exact q2
    rw [i_lt, i_le, show (0 : Int32).toInt = 0 from rfl, show (1 : Int32).toInt = 1 from rfl]
    refine zif (fun q => no (by omega)) (fun q => zif (fun q2 => ?_) (fun q2 => no (by omega)))
    refine e_form0 hF (rNow_mix hR) (fun μX1 sX _ f4 f5 => ?_)
    have ms : ∀ r : Int32, ((a2 = 0 → r = μX1.1 28 4) ∧ (¬ a2 = 0 → r = μX1.1 28 5)) → w_X12_degree a1 a2 μM (fun r2 μM1 => qS μX μM r r2 μX1 μM1) := by
      intro r hr
      unfold w_X12_degree
      refine m_isForm (fun _ => z1p (m_in_k (fun q1 q2 => z1n ?_) (fun q => absurd ?_ q))) (fun q => absurd hF q)
      · refine m_form0 (C := cNow μM) hF (fun j _ => rfl) (fun μM1 sM _ g4 g5 => zifn (fun h0 => ⟨?_, sX, sM⟩) (fun h0 => ⟨?_, sX, sM⟩))
        · rw [hr.2 h0, f5, g5]
        · rw [hr.1 h0, f4, g4]
      · rw [il_toInt]; exact ⟨by show (0 : Int) ≤ _; omega, by show _ ≤ (1 : Int); omega⟩
    exact zifn (fun h0 => ms _ ⟨fun q => absurd q h0, fun _ => rfl⟩) (fun h0 => ms _ ⟨fun _ => rfl, fun q => absurd h0 q⟩)
  · unfold w_X12_degree
    exact m_isForm (fun q => absurd q hF) (fun _ => z0p (qS_0 μX μM _))
theorem tab_eq {μX1 μM1 : ZMem} {C F : Nat → Int64} (tX : tabX 28 μX1 C F) (tM : tabM μM1 C F) (hg : ¬ grt F) : (∀ k, k < dg F → ∀ j, j < 4 → μX1.2 (28 + 4 + k) j = rowM μM1 k j) ∧ (∀ k, k < dg F → μX1.1 39 k = μM1.1 8 k) ∧ μX1.1 28 6 = 0 ∧ μM1.1 0 4 = 0 ∧ (dg F ≠ 0 → μM1.1 8 0 ≠ 2) ∧ (dg F ≠ 0 → μX1.1 39 0 ≠ 2) := by
  obtain ⟨g6, gr⟩ := tX.2.2.2.2 hg
  obtain ⟨m6, mr⟩ := tM.2.2.2.2.2.1 hg
  have hc : ∀ k, k < dg F → μX1.1 39 k = μM1.1 8 k := fun k hk => by rw [(mr k hk).2]; exact (gr k hk).2
  have h0 : dg F ≠ 0 → μM1.1 8 0 ≠ 2 := fun q => by rw [tM.2.2.2.2.2.2 q]; decide
  exact ⟨fun k hk j hj => by rw [(mr k hk).1]; exact (gr k hk).1 j hj, hc, g6, m6, h0, fun q => by rw [hc 0 (by omega)]; exact h0 q⟩
theorem q_caseOf {μX μM : ZMem} (hR : rNow μX μM) (a1 a2 : Int32) : w_X11_caseOf a1 a2 μX (fun r μX1 => w_X12_caseOf a1 a2 μM (fun r2 μM1 => qS μX μM r r2 μX1 μM1)) := by
  unfold w_X11_caseOf
  refine e_isForm (fun hF => z1n ?_) (fun hF => z0n ?_)
  · refine e_tableOf hF (rNow_bd hR) (rNow_mix hR) (fun μX1 sX tX => ⟨zT_28, ?_⟩)
    have hM : ∀ Ψ : ZMem → Prop, (∀ μM1, MS μM μM1 → tabM μM1 (cNow μM) (formF a1 (cNow μM)) → Ψ μM1) → w_X12_laysRowsOf a1 μM Ψ := fun Ψ h => m_laysRowsOf hF (rNow_bd hR) (fun j _ => rfl) h
    have hdl := dg_le (formF a1 (cNow μM))
    unfold w_X12_caseOf
    generalize formF a1 (cNow μM) = F at *
    have t4 : μX1.1 28 4 = nI (dg F) - 1 := tX.2.1
    refine e_hasRow hdl t4 (fun k hk ek => z1n ?_) (fun hk => z0n (m_isForm (fun _ => z1n (hM _ (fun μM1 sM tM => m_isRow hdl tM.2.1 (fun k hk' ek => absurd ?_ hk) (fun _ => z0n ⟨rfl, sX, sM⟩)))) (fun q => absurd hF q)))
    · subst ek
      have hv := vp_in_nI (n := k) (N := 7) (by omega) (by omega)
      refine zif (fun g6 => ⟨hv, ?_⟩) (fun g6 => ?_)
      · refine m_isForm (fun _ => z1n (hM _ (fun μM1 sM tM => m_isRow hdl tM.2.1 (fun k' hk' ek => z1n ?_) (fun q => absurd (by rw [nI_toInt (by omega)]; omega) q)))) (fun q => absurd hF q)
        have hg : ¬ grt F := fun q => by rw [tX.2.2.2.1 q] at g6; exact absurd g6 (by decide)
        obtain ⟨e1, e2, e3, e4, e5, e6⟩ := tab_eq tX tM hg
        refine zif_t e4 ⟨hv, ?_, sX, sM⟩
        rw [nn_clamp (by omega)]; exact e2 k hk
      · refine m_isForm (fun _ => z1n (hM _ (fun μM1 sM tM => m_isRow hdl tM.2.1 (fun k' hk' ek => z1n ?_) (fun q => absurd (by rw [nI_toInt (by omega)]; omega) q)))) (fun q => absurd hF q)
        have hg : grt F := Classical.byContradiction fun q => g6 (tX.2.2.2.2 q).1
        exact zif_f (by rw [tM.2.2.2.2.1 hg]; decide) ⟨rfl, sX, sM⟩
    · rw [ek, nI_toInt (by omega)]; omega
  · unfold w_X12_caseOf
    exact m_isForm (fun q => absurd q hF) (fun _ => z0n (qS_0 μX μM _))
theorem sc_A {k1 k2 : Nat} (h : k1 ≤ k2) (h2 : k2 < 7) : (∀ i, i < k2 - k1 → ¬ nI k2 < nI (k1 + 1 + i)) ∧ nI k2 < nI (k1 + 1 + (k2 - k1)) := by
  refine ⟨fun i hi => ?_, ?_⟩
  · rw [n_lt (by omega) (by omega)]; omega
  · rw [n_lt (by omega) (by omega)]; omega
theorem q_changes {μX μM : ZMem} (hR : rNow μX μM) (a1 a2 a3 : Int32) : w_X11_changes a1 a2 a3 μX (fun r μX1 => w_X12_changes a1 a2 a3 μM (fun r2 μM1 => qS μX μM r r2 μX1 μM1)) := by
  unfold w_X11_changes
  refine e_isForm (fun hF => z1n ?_) (fun hF => z0n ?_)
  · refine e_tableOf hF (rNow_bd hR) (rNow_mix hR) (fun μX1 sX tX => ⟨zT_28, ?_⟩)
    have hM : ∀ Ψ : ZMem → Prop, (∀ μM1, MS μM μM1 → tabM μM1 (cNow μM) (formF a1 (cNow μM)) → Ψ μM1) → w_X12_laysRowsOf a1 μM Ψ := fun Ψ h => m_laysRowsOf hF (rNow_bd hR) (fun j _ => rfl) h
    have hdl := dg_le (formF a1 (cNow μM))
    unfold w_X12_changes
    generalize formF a1 (cNow μM) = F at *
    have t4 : μX1.1 28 4 = nI (dg F) - 1 := tX.2.1
    refine e_hasRow hdl t4 (fun k hk ek => z1p ?_) (fun hk => z0p (m_isForm (fun _ => z1n (hM _ (fun μM1 sM tM => m_isRow hdl tM.2.1 (fun k hk' ek => absurd ?_ hk) (fun _ => z0p ⟨rfl, sX, sM⟩)))) (fun q => absurd hF q)))
    · subst ek
      have in1 : (0 : Int) ≤ (nI k).toInt ∧ (nI k).toInt < dg F := by rw [nI_toInt (by omega)]; omega
      refine e_hasRow hdl t4 (fun k2 hk2 ek2 => z1p ?_) (fun hk2 => z0p (m_isForm (fun _ => z1n (hM _ (fun μM1 sM tM => m_isRow hdl tM.2.1 (fun _ _ _ => z1p (m_isRow hdl tM.2.1 (fun k' hk' ek => absurd ?_ hk2) (fun _ => z0p ⟨rfl, sX, sM⟩))) (fun q => absurd in1 q)))) (fun q => absurd hF q)))
      · subst ek2
        have in2 : (0 : Int) ≤ (nI k2).toInt ∧ (nI k2).toInt < dg F := by rw [nI_toInt (by omega)]; omega
        refine zif (fun h12 => ?_) (fun h12 => m_isForm (fun _ => z1n (hM _ (fun μM1 sM tM => m_isRow hdl tM.2.1 (fun _ _ _ => z1p (m_isRow hdl tM.2.1 (fun _ _ _ => z1p (zif_f h12 ⟨rfl, sX, sM⟩)) (fun q => absurd in2 q))) (fun q => absurd in1 q)))) (fun q => absurd hF q))
        have h12' := h12
        rw [n_le (by omega) (by omega)] at h12
        refine zif (fun g6 => ?_) (fun g6 => ?_)
        · refine e_signChanges (lo := k) (n := k2 - k) (by omega) (sc_A h12 (by omega)).1 (sc_A h12 (by omega)).2 ?_
          refine m_isForm (fun _ => z1n (hM _ (fun μM1 sM tM => m_isRow hdl tM.2.1 (fun _ _ _ => z1p (m_isRow hdl tM.2.1 (fun _ _ _ => z1p (zif_t h12' ?_)) (fun q => absurd in2 q))) (fun q => absurd in1 q)))) (fun q => absurd hF q)
          have hg : ¬ grt F := fun q => by rw [tX.2.2.2.1 q] at g6; exact absurd g6 (by decide)
          obtain ⟨e1, e2, e3, e4, e5, e6⟩ := tab_eq tX tM hg
          refine zif_t e4 (m_changesIn (lo := k) (n := k2 - k) (by omega) (sc_A h12 (by omega)).1 (sc_A h12 (by omega)).2 ⟨?_, sX, sM⟩)
          rw [chN_congr _ (fun i hi => e1 i (by omega) 0 (by omega))]
        · refine m_isForm (fun _ => z1n (hM _ (fun μM1 sM tM => m_isRow hdl tM.2.1 (fun _ _ _ => z1p (m_isRow hdl tM.2.1 (fun _ _ _ => z1p (zif_t h12' ?_)) (fun q => absurd in2 q))) (fun q => absurd in1 q)))) (fun q => absurd hF q)
          have hg : grt F := Classical.byContradiction fun q => g6 (tX.2.2.2.2 q).1
          exact zif_f (by rw [tM.2.2.2.2.1 hg]; decide) ⟨rfl, sX, sM⟩
      · rw [ek, nI_toInt (by omega)]; omega
    · rw [ek, nI_toInt (by omega)]; omega
  · unfold w_X12_changes
    exact m_isForm (fun q => absurd q hF) (fun _ => z0n (qS_0 μX μM _))
