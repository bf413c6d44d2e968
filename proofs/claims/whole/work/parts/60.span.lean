/-! span, its edges -/
theorem mid_k {i o : Int32} (h1 : ab i ≤ 1600) (h2 : ab o ≤ 1600) : ab ((i + o) / 2) ≤ 1600 := by
  rw [ab_in] at h1 h2 ⊢
  have e1 : (i + o).toInt = i.toInt + o.toInt := add_toI (by omega) (by omega) (by omega) (by omega)
  have t := tdiv2 (i.toInt + o.toInt)
  have e2 : ((i + o) / 2).toInt = (i.toInt + o.toInt).tdiv 2 := by
    rw [Int32.toInt_div, e1, show (2 : Int32).toInt = 2 from rfl]
    exact Int.bmod_eq_of_le (by omega) (by omega)
  rw [e2]
  omega
def edN (b : Int32 → Bool) : Nat → Int32 → Int32 → Int32
  | 0, i, _ => i
  | n + 1, i, o => if b ((i + o) / 2) then edN b n ((i + o) / 2) o else edN b n i ((i + o) / 2)
theorem ex_bI (p : Int32 → Prop) : ∃ b : Int32 → Bool, ∀ i, b i = true ↔ p i := by
  refine ⟨fun i => @decide (p i) (Classical.propDecidable _), fun i => ?_⟩
  exact @decide_eq_true_iff (p i) (Classical.propDecidable _)
theorem e_edgeLoop {μ0 : ZMem} {t : Nat} (ht : t = 64 ∨ t = 67) {kind : Int32} (hk : μ0.1 t 0 = kind) (hs : smallPQ (μ0.2 2) (μ0.2 3)) {b : Int32 → Bool} (hb : ∀ v, b v = true ↔ stP (μ0.2 2) (μ0.2 3) kind 16 v) {Φ : Int32 → ZMem → Prop} : ∀ n j i o μ, n + j = 4 → ab i ≤ 1600 → ab o ≤ 1600 → XH μ0 μ → (∀ μ', XH μ0 μ' → Φ (edN b n i o) μ') → lpz4 (b_X6_edge_15 Φ t) (n + 1) i o (nI j) μ := by
  intro n
  induction n with
  | zero =>
    intro j i o μ hj _ _ hμ h
    rw [lpz4]
    dsimp only
    unfold b_X6_edge_15
    exact zif_t (by rw [show (4 : Int32) = nI 4 from rfl, n_le (by omega) (by omega)]; omega) (h μ hμ)
  | succ n ih =>
    intro j i o μ hj hi ho hμ h
    rw [lpz4]
    dsimp only
    generalize hL : lpz4 (b_X6_edge_15 Φ t) (n + 1) = L
    unfold b_X6_edge_15
    rw [show (4 : Int32) = nI 4 from rfl, n_le (by omega) (by omega), hμ.1 t (by omega) (by omega), hk, nI_1]
    have hm := mid_k hi ho
    refine zif_f (by omega) (nm_b ?_)
    have eP := hμ.2 2 (by omega) (by omega)
    have eQ := hμ.2 3 (by omega) (by omega)
    unfold edN at h
    refine e_holds (by rw [eP, eQ]; exact hs) (by decide) hm (fun z μ' xs => ?_) (fun z μ' xs => ?_)
    · rw [eP, eQ] at z
      rw [(hb _).mpr z, if_pos rfl] at h
      refine nm_k2 (fun x y => x = (i + o) / 2 ∧ y = o) (fun J hJ => z1p (hJ _ _ ⟨rfl, rfl⟩)) ?_
      rintro x y ⟨rfl, rfl⟩
      rw [← hL]
      exact ih (j + 1) _ _ μ' (by omega) hm ho (XH_tr hμ xs) h
    · rw [eP, eQ] at z
      have hbf : b ((i + o) / 2) = false := by
        cases hb' : b ((i + o) / 2) with
        | false => rfl
        | true => exact absurd ((hb _).mp hb') z
      rw [hbf] at h
      refine nm_k2 (fun x y => x = i ∧ y = (i + o) / 2) (fun J hJ => z0p (hJ _ _ ⟨rfl, rfl⟩)) ?_
      rintro x y ⟨rfl, rfl⟩
      rw [← hL]
      exact ih (j + 1) _ _ μ' (by omega) hi hm (XH_tr hμ xs) h
theorem m_firstLoop {μ0 : ZMem} {kind a2 : Int32} (ha : ¬ a2 ≤ -100) (hs : smallPQ (pF μ0) (qF μ0)) {b : Int32 → Bool} (hb : ∀ v, ab v ≤ 1600 → (b v = true ↔ stP (pF μ0) (qF μ0) kind 16 v)) {Φ : Int32 → ZMem → Prop} : ∀ n j i o μ, n + j = 4 → ab i ≤ 1600 → ab o ≤ 1600 → MS μ0 μ → (∀ μ', MS μ0 μ' → Φ (edN b n i o) μ') → lpz4 (b_X12_firstEdge_14 Φ a2 kind) (n + 1) i o (nI j) μ := by
  intro n
  induction n with
  | zero =>
    intro j i o μ hj _ _ hμ h
    rw [lpz4]
    dsimp only
    unfold b_X12_firstEdge_14
    exact zif_t (by rw [show (4 : Int32) = nI 4 from rfl, n_le (by omega) (by omega)]; omega) (h μ hμ)
  | succ n ih =>
    intro j i o μ hj hi ho hμ h
    rw [lpz4]
    dsimp only
    generalize hL : lpz4 (b_X12_firstEdge_14 Φ a2 kind) (n + 1) = L
    unfold b_X12_firstEdge_14
    rw [show (4 : Int32) = nI 4 from rfl, n_le (by omega) (by omega), nI_1, Int32.add_comm o i]
    have hm := mid_k hi ho
    refine zif_f (by omega) (zif_f ha (nm_b ?_))
    obtain ⟨eP, eQ⟩ : pF μ = pF μ0 ∧ qF μ = qF μ0 := by
      unfold pF qF
      rw [hμ.1 1 (by omega) (by omega)]
      exact ⟨rfl, rfl⟩
    unfold edN at h
    refine m_isSteady (by rw [eP, eQ]; exact hs) (by decide) hm (fun z μ' xs => ?_) (fun z μ' xs => ?_)
    · rw [eP, eQ] at z
      rw [(hb _ hm).mpr z, if_pos rfl] at h
      refine nm_k (fun x => x = (i + o) / 2) (fun J hJ => z1p (hJ _ rfl)) ?_
      rintro x rfl
      refine nm_k (fun x => x = o) (fun J hJ => z1p (hJ _ rfl)) ?_
      rintro x rfl
      rw [← hL]
      exact ih (j + 1) _ _ μ' (by omega) hm ho (MS_tr hμ xs) h
    · rw [eP, eQ] at z
      have hbf : b ((i + o) / 2) = false := by
        cases hb' : b ((i + o) / 2) with
        | false => rfl
        | true => exact absurd ((hb _ hm).mp hb') z
      rw [hbf] at h
      refine nm_k (fun x => x = i) (fun J hJ => z0p (hJ _ rfl)) ?_
      rintro x rfl
      refine nm_k (fun y => y = (x + o) / 2) (fun J hJ => z0p (hJ _ rfl)) ?_
      rintro y rfl
      rw [← hL]
      exact ih (j + 1) _ _ μ' (by omega) hi hm (MS_tr hμ xs) h
theorem m_lastLoop {μ0 : ZMem} {kind a2 : Int32} (ha : ¬ (100 : Int32) ≤ a2) (hs : smallPQ (pF μ0) (qF μ0)) {b : Int32 → Bool} (hb : ∀ v, ab v ≤ 1600 → (b v = true ↔ stP (pF μ0) (qF μ0) kind 16 v)) {Φ : Int32 → ZMem → Prop} : ∀ n j i o μ, n + j = 4 → ab i ≤ 1600 → ab o ≤ 1600 → MS μ0 μ → (∀ μ', MS μ0 μ' → Φ (edN b n i o) μ') → lpz4 (b_X12_lastEdge_14 Φ a2 kind) (n + 1) i o (nI j) μ := by
  intro n
  induction n with
  | zero =>
    intro j i o μ hj _ _ hμ h
    rw [lpz4]
    dsimp only
    unfold b_X12_lastEdge_14
    exact zif_t (by rw [show (4 : Int32) = nI 4 from rfl, n_le (by omega) (by omega)]; omega) (h μ hμ)
  | succ n ih =>
    intro j i o μ hj hi ho hμ h
    rw [lpz4]
    dsimp only
    generalize hL : lpz4 (b_X12_lastEdge_14 Φ a2 kind) (n + 1) = L
    unfold b_X12_lastEdge_14
    rw [show (4 : Int32) = nI 4 from rfl, n_le (by omega) (by omega), nI_1]
    have hm := mid_k hi ho
    refine zif_f (by omega) (zif_f ha (nm_b ?_))
    obtain ⟨eP, eQ⟩ : pF μ = pF μ0 ∧ qF μ = qF μ0 := by
      unfold pF qF
      rw [hμ.1 1 (by omega) (by omega)]
      exact ⟨rfl, rfl⟩
    unfold edN at h
    refine m_isSteady (by rw [eP, eQ]; exact hs) (by decide) hm (fun z μ' xs => ?_) (fun z μ' xs => ?_)
    · rw [eP, eQ] at z
      rw [(hb _ hm).mpr z, if_pos rfl] at h
      refine nm_k (fun x => x = (i + o) / 2) (fun J hJ => z1p (hJ _ rfl)) ?_
      rintro x rfl
      refine nm_k (fun x => x = o) (fun J hJ => z1p (hJ _ rfl)) ?_
      rintro x rfl
      rw [← hL]
      exact ih (j + 1) _ _ μ' (by omega) hm ho (MS_tr hμ xs) h
    · rw [eP, eQ] at z
      have hbf : b ((i + o) / 2) = false := by
        cases hb' : b ((i + o) / 2) with
        | false => rfl
        | true => exact absurd ((hb _ hm).mp hb') z
      rw [hbf] at h
      refine nm_k (fun x => x = i) (fun J hJ => z0p (hJ _ rfl)) ?_
      rintro x rfl
      refine nm_k (fun y => y = (x + o) / 2) (fun J hJ => z0p (hJ _ rfl)) ?_
      rintro y rfl
      rw [← hL]
      exact ih (j + 1) _ _ μ' (by omega) hi hm (MS_tr hμ xs) h
theorem hd_toInt2 {n : Nat} (h : n ≤ 1000) : (nI n - 1).toInt = (n : Int) - 1 := by
  rw [show (1 : Int32) = nI 1 from rfl, pk_sub_toInt (by omega) (by omega)]; rfl
theorem mul16 {a : Int32} (h : -1000 ≤ a.toInt ∧ a.toInt ≤ 1000) : ((16 : Int32) * a).toInt = 16 * a.toInt := by
  rw [Int32.toInt_mul, show (16 : Int32).toInt = 16 from rfl]
  exact Int.bmod_eq_of_le (by omega) (by omega)
theorem e_edge {μ : ZMem} {t : Nat} (ht : t = 64 ∨ t = 67) {kind a1 a2 : Int32} (hk : μ.1 t 0 = kind) (hs : smallPQ (μ.2 2) (μ.2 3)) {b : Int32 → Bool} (hb : ∀ v, b v = true ↔ stP (μ.2 2) (μ.2 3) kind 16 v) (h1 : ab a1 ≤ 100) (h2 : ab a2 ≤ 100) {Φ : Int32 → ZMem → Prop} (h : ∀ μ', XH μ μ' → Φ (edN b 4 (16 * a1) (16 * a2)) μ') : w_X6_edge t a1 a2 μ Φ := by
  unfold w_X6_edge
  have b1 := ab_in.mp h1
  have b2 := ab_in.mp h2
  have m1 : ab (16 * a1) ≤ 1600 := by rw [ab_in, mul16 (by omega)]; omega
  have m2 : ab (16 * a2) ≤ 1600 := by rw [ab_in, mul16 (by omega)]; omega
  exact nm_b (nm_b ⟨4 + 1, e_edgeLoop ht hk hs hb 4 0 _ _ μ (by omega) m1 m2 (XH_rfl μ) h⟩)
theorem z_span {μX μM : ZMem} (h : Rel μX μM) (a1 a2 a3 : Int32) : w_X11_span a1 a2 a3 μX (fun r μX1 => w_X12_span a1 a2 a3 μM (fun r2 μM1 => r = r2 ∧ Rel μX1 μM1)) := by
  have no : ¬ ((a1 = 0 ∨ a1 = 1) ∧ 0 ≤ a3.toInt ∧ a3.toInt ≤ 4) → w_X12_span a1 a2 a3 μM (fun r2 μM1 => (-2 : Int32) = r2 ∧ Rel μX μM1) := by
    intro hn
    unfold w_X12_span
    refine m_isKind (fun k => z1p (m_in_k (fun q1 q2 => absurd ⟨k, ?_, ?_⟩ hn) (fun _ => z0n ⟨rfl, h⟩))) (fun _ => z0p ⟨rfl, h⟩)
    · rw [il_toInt] at q1; exact q1
    · rw [il_toInt] at q2; exact q2
  unfold w_X11_span
  rw [i_lt0 a3, i_le a3, show (4 : Int32).toInt = 4 from rfl]
  refine e_isKind (fun k => z1p (zif (fun q => no (by omega)) (fun q => zif (fun q2 => o_survey h k (fun n μX1 x1 xn xk g => ⟨zT_tK a1, ?_⟩)) (fun q2 => no (by omega))))) (fun k => z0p (no (fun z => k z.1)))
  obtain ⟨hP, hQ, sM, sX⟩ := rNow_P h.1.1
  have eP := x1.2.1 2 (by omega) (by omega)
  have eQ := x1.2.1 3 (by omega) (by omega)
  have sX1 : smallPQ (μX1.2 2) (μX1.2 3) := by rw [eP, eQ]; exact sX
  have xn1 := xn.1
  have hta := tK_or a1
  have hzt := zT_tK a1
  generalize tK a1 = t at *
  -- the reference, up to the span
  have front : ∀ (Φ : Int32 → ZMem → Prop), (∀ μM1, MP μM μM1 → spE t n μX1 μM1 → Rel μX1 μM1 → (¬ (0 ≤ a2.toInt ∧ a2.toInt < n) → Φ (-1) μM1) ∧ (∀ j, j < n → a2 = nI j → (a3 = 0 → Φ (μX1.1 (t + 1) j + 1000) μM1) ∧ (a3 = 1 → Φ (μX1.1 (t + 2) j + 1000) μM1) ∧ (a3 = 2 → w_X12_firstEdge a1 (μX1.1 (t + 1) j) μM1 (fun r μ' => Φ (r + 10000) μ')) ∧ (a3 = 3 → w_X12_lastEdge a1 (μX1.1 (t + 2) j) μM1 (fun r μ' => Φ (r + 10000) μ')) ∧ (¬ a3 = 0 → ¬ a3 = 1 → ¬ a3 = 2 → ¬ a3 = 3 → Φ (μX1.1 (t + 2) j - μX1.1 (t + 1) j + 1) μM1))) → w_X12_span a1 a2 a3 μM Φ := by
    intro Φ hΦ
    unfold w_X12_span
    refine m_isKind (fun _ => z1p (m_in_k (fun _ _ => z1n (g _ (fun μM1 m1 e r => ?_))) (fun q => absurd ?_ q))) (fun q => absurd k q)
    · obtain ⟨g0, g1⟩ := hΦ μM1 m1 e r
      rw [e.1]
      refine m_in_k (fun q3 q4 => z1n ?_) (fun q3 => z0n (g0 (fun z => q3 ?_)))
      · rw [il_toInt] at q3 q4
        rw [il_toInt, hd_toInt2 (by omega)] at q4
        have q3' : (0 : Int) ≤ a2.toInt := q3
        obtain ⟨j, j1, j2⟩ := nn_of (i := a2) (n := 101) (by omega) (by omega) (by omega)
        subst j2
        rw [nI_toInt (by omega)] at q4
        have hj : j < n := by omega
        obtain ⟨c0, c1, c2, c3, c4⟩ := g1 j hj rfl
        obtain ⟨d1, d2⟩ := e.2 j hj
        have hv := vp_in_nI (n := j) (N := 101) (by omega) (by omega)
        rw [nn_clamp (by omega), ← d1, ← d2]
        exact ⟨hv, nm_b ⟨hv, nm_b ⟨c0, c1, c2, c3, c4⟩⟩⟩
      · rw [il_toInt, il_toInt, hd_toInt2 (by omega)]
        exact ⟨by show (0 : Int) ≤ _; omega, by omega⟩
    · rw [il_toInt]; exact ⟨by show (0 : Int) ≤ _; omega, by show _ ≤ (4 : Int); omega⟩
  rw [xn.2.1, i_lt0, i_lt, nI_toInt (by omega)]
  have no2 : ¬ (0 ≤ a2.toInt ∧ a2.toInt < n) → w_X12_span a1 a2 a3 μM (fun r2 μM1 => (-1 : Int32) = r2 ∧ Rel μX1 μM1) := by
    intro hn
    exact front _ (fun μM1 _ _ r => ⟨fun _ => ⟨rfl, r⟩, fun j hj ej => absurd ⟨by rw [ej, nI_toInt (by omega)]; omega, by rw [ej, nI_toInt (by omega)]; omega⟩ hn⟩)
  refine zif (fun q3 => no2 (by omega)) (fun q3 => zif (fun q4 => ?_) (fun q4 => no2 (by omega)))
  obtain ⟨j, j1, j2⟩ := nn_of (i := a2) (n := 101) (by omega) (by omega) (by omega)
  subst j2
  rw [nI_toInt (by omega)] at q4
  have hj : j < n := by omega
  have hv := vp_in_nI (n := j) (N := 101) (by omega) (by omega)
  rw [nn_clamp (by omega)]
  have uj : ∀ j', nI j = nI j' → j' < n → j' = j := fun j' ej hj' => ((nI_eq (by omega) (by omega)).mp ej).symm
  have nb : ∀ {P : Prop}, ¬ (0 ≤ (nI j).toInt ∧ (nI j).toInt < n) → P := fun q => absurd (by rw [nI_toInt (by omega)]; omega) q
  obtain ⟨i, i', w1, w2, w3, w4⟩ := xn.2.2 j hj
  obtain ⟨b, hb⟩ := ex_bI (fun v => stP (μX1.2 2) (μX1.2 3) a1 16 v)
  have hbM : ∀ μM1, MP μM μM1 → (smallPQ (pF μM1) (qF μM1) ∧ ∀ v, ab v ≤ 1600 → (b v = true ↔ stP (pF μM1) (qF μM1) a1 16 v)) := by
    intro μM1 m1
    obtain ⟨pe, qe⟩ := pF_P m1
    refine ⟨by rw [pe, qe]; exact sM, fun v _ => ?_⟩
    rw [pe, qe, hb v, stP_congr (P' := pF μM) (Q' := qF μM) (fun j hj => by rw [eP]; exact hP j hj) (fun j hj => by rw [eQ]; exact hQ j hj)]
  have fin : ∀ {r r2 : Int32} {μX2 μM1 μM2 : ZMem}, Rel μX1 μM1 → r = r2 → XH μX1 μX2 → MS μM1 μM2 → r = r2 ∧ Rel μX2 μM2 := fun hr e hx hm => ⟨e, (Rel0_H hr.1 hx hm).1, rSv_C hr.2 (Rel0_H hr.1 hx hm).2⟩
  have kb := kI_toInt (m := i) (by omega)
  have kb' := kI_toInt (m := i') (by omega)
  refine ⟨fun q => ⟨hv, ?_⟩, fun q => ⟨hv, ?_⟩, fun q => ?_, fun q => ?_, fun n0 n1 n2 n3 => ⟨hv, hv, ?_⟩⟩
  · refine front _ (fun μM1 _ _ r => ⟨nb, fun j' hj' ej => ?_⟩)
    rw [uj j' ej hj']
    exact ⟨fun _ => ⟨rfl, r⟩, fun z => absurd (q.symm.trans z) (by decide), fun z => absurd (q.symm.trans z) (by decide), fun z => absurd (q.symm.trans z) (by decide), fun z => absurd q z⟩
  · refine front _ (fun μM1 _ _ r => ⟨nb, fun j' hj' ej => ?_⟩)
    rw [uj j' ej hj']
    exact ⟨fun z => absurd (q.symm.trans z) (by decide), fun _ => ⟨rfl, r⟩, fun z => absurd (q.symm.trans z) (by decide), fun z => absurd (q.symm.trans z) (by decide), fun _ z => absurd q z⟩
  · unfold w_X6_firstEdge
    rw [nn_clamp (by omega)]
    refine ⟨hv, nm_b (zifn (fun f => ?_) (fun f => ?_))⟩
    · have fi : 1 ≤ i := by
        apply Classical.byContradiction
        intro z
        exact f (by rw [w3, show i = 0 by omega]; decide)
      have fm : (kI i - 1).toInt = (i : Int) - 101 := by
        rw [sub_toI (by omega) (by omega) (by decide) (by decide), kb, show (1 : Int32).toInt = 1 from rfl]; omega
      have ab1 : ab (kI i) ≤ 100 := kI_ab (by omega)
      have ab2 : ab (kI i - 1) ≤ 100 := by rw [ab_in, fm]; omega
      rw [w3]
      refine e_edge hta xk sX1 hb ab1 ab2 (fun μX2 x2 => ?_)
      refine front _ (fun μM1 m1 _ r => ⟨nb, fun j' hj' ej => ?_⟩)
      rw [uj j' ej hj', w3]
      refine ⟨fun z => absurd (q.symm.trans z) (by decide), fun z => absurd (q.symm.trans z) (by decide), fun _ => ?_, fun z => absurd (q.symm.trans z) (by decide), fun _ _ z => absurd q z⟩
      unfold w_X12_firstEdge
      obtain ⟨sM1, hb1⟩ := hbM μM1 m1
      have e16 : (16 : Int32) * kI i - 16 = 16 * (kI i - 1) := by
        apply Int32.toInt_inj.mp
        rw [sub_toI (by rw [mul16 (by omega)]; omega) (by rw [mul16 (by omega)]; omega) (by decide) (by decide), mul16 (by omega), mul16 (by omega), fm, kb, show (16 : Int32).toInt = 16 from rfl]
        omega
      refine nm_b (nm_b ⟨4 + 1, ?_⟩)
      rw [e16]
      refine m_firstLoop (μ0 := μM1) ?_ sM1 hb1 4 0 _ _ μM1 (by omega) ?_ ?_ (MS_rfl μM1) (fun μM2 hm => fin r rfl x2 hm)
      · rw [i_le, kb]
        show ¬ _ ≤ (-100 : Int)
        omega
      · rw [ab_in, mul16 (by omega)]; omega
      · rw [ab_in, mul16 (by omega)]; omega
    · refine front _ (fun μM1 m1 _ r => ⟨nb, fun j' hj' ej => ?_⟩)
      rw [uj j' ej hj', f]
      refine ⟨fun z => absurd (q.symm.trans z) (by decide), fun z => absurd (q.symm.trans z) (by decide), fun _ => ?_, fun z => absurd (q.symm.trans z) (by decide), fun _ _ z => absurd q z⟩
      unfold w_X12_firstEdge
      refine nm_b (nm_b ⟨1, ?_⟩)
      rw [lpz4]
      dsimp only
      unfold b_X12_firstEdge_14
      exact zif_f (by decide) (zif_t (by decide) ⟨by decide, r⟩)
  · unfold w_X6_lastEdge
    rw [nn_clamp (by omega)]
    refine ⟨hv, nm_b (zifn (fun f => ?_) (fun f => ?_))⟩
    · have fi : i' ≤ 199 := by
        apply Classical.byContradiction
        intro z
        exact f (by rw [w4, show i' = 200 by omega]; decide)
      have fm : (kI i' + 1).toInt = (i' : Int) - 99 := by
        rw [add_toI (by omega) (by omega) (by decide) (by decide), kb', show (1 : Int32).toInt = 1 from rfl]; omega
      have ab1 : ab (kI i') ≤ 100 := kI_ab (by omega)
      have ab2 : ab (kI i' + 1) ≤ 100 := by rw [ab_in, fm]; omega
      rw [w4]
      refine e_edge hta xk sX1 hb ab1 ab2 (fun μX2 x2 => ?_)
      refine front _ (fun μM1 m1 _ r => ⟨nb, fun j' hj' ej => ?_⟩)
      rw [uj j' ej hj', w4]
      refine ⟨fun z => absurd (q.symm.trans z) (by decide), fun z => absurd (q.symm.trans z) (by decide), fun z => absurd (q.symm.trans z) (by decide), fun _ => ?_, fun _ _ _ z => absurd q z⟩
      unfold w_X12_lastEdge
      obtain ⟨sM1, hb1⟩ := hbM μM1 m1
      have e16 : (16 : Int32) * kI i' + 16 = 16 * (kI i' + 1) := by
        apply Int32.toInt_inj.mp
        rw [add_toI (by rw [mul16 (by omega)]; omega) (by rw [mul16 (by omega)]; omega) (by decide) (by decide), mul16 (by omega), mul16 (by omega), fm, kb', show (16 : Int32).toInt = 16 from rfl]
        omega
      refine nm_b (nm_b ⟨4 + 1, ?_⟩)
      rw [e16]
      refine m_lastLoop (μ0 := μM1) ?_ sM1 hb1 4 0 _ _ μM1 (by omega) ?_ ?_ (MS_rfl μM1) (fun μM2 hm => fin r rfl x2 hm)
      · rw [i_le, kb']
        show ¬ (100 : Int) ≤ _
        omega
      · rw [ab_in, mul16 (by omega)]; omega
      · rw [ab_in, mul16 (by omega)]; omega
    · refine front _ (fun μM1 m1 _ r => ⟨nb, fun j' hj' ej => ?_⟩)
      rw [uj j' ej hj', f]
      refine ⟨fun z => absurd (q.symm.trans z) (by decide), fun z => absurd (q.symm.trans z) (by decide), fun z => absurd (q.symm.trans z) (by decide), fun _ => ?_, fun _ _ _ z => absurd q z⟩
      unfold w_X12_lastEdge
      refine nm_b (nm_b ⟨1, ?_⟩)
      rw [lpz4]
      dsimp only
      unfold b_X12_lastEdge_14
      exact zif_f (by decide) (zif_t (by decide) ⟨by decide, r⟩)
  · refine front _ (fun μM1 _ _ r => ⟨nb, fun j' hj' ej => ?_⟩)
    rw [uj j' ej hj']
    exact ⟨fun z => absurd z n0, fun z => absurd z n1, fun z => absurd z n2, fun z => absurd z n3, fun _ _ _ _ => ⟨rfl, r⟩⟩
