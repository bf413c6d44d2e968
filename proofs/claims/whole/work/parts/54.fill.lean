/-! fill, judge -/
theorem rC_tr {μ μ1 μ2 : ZMem} (h1 : rC μ μ1) (h2 : rC μ1 μ2) : rC μ μ2 := by
  rcases h1 with ⟨a1, a2, a3⟩ | ⟨a1, a2, a3, a4, a5⟩ <;> rcases h2 with ⟨b1, b2, b3⟩ | ⟨b1, b2, b3, b4, b5⟩
  · exact Or.inl ⟨fun a q1 q2 => ⟨by rw [(b1 a q1 q2).1, (a1 a q1 q2).1], by rw [(b1 a q1 q2).2, (a1 a q1 q2).2]⟩, by rw [b2, a2], by rw [b3, a3]⟩
  · exact Or.inr ⟨b1, b2, b3, by rw [b4, (a1 64 (by omega) (by omega)).1], by rw [b5, (a1 67 (by omega) (by omega)).1]⟩
  · exact Or.inr ⟨by rw [(b1 64 (by omega) (by omega)).1]; exact a1, by rw [(b1 67 (by omega) (by omega)).1]; exact a2, by rw [(b1 70 (by omega) (by omega)).1]; exact a3, by rw [(b1 64 (by omega) (by omega)).1]; exact a4, by rw [(b1 67 (by omega) (by omega)).1]; exact a5⟩
  · exact Or.inr ⟨b1, b2, b3, by rw [b4]; exact a4, by rw [b5]; exact a5⟩
theorem o_refuse {μX μM : ZMem} (h : Rel0 μX μM) (a1 a2 a3 : Int32) {Φ : Int32 → ZMem → Prop} (hbad : ∀ r μX1, r.toInt < 0 → XS 28 μX μX1 → (∀ Ψ : Int32 → ZMem → Prop, (∀ μM1, MS μM μM1 → Ψ r μM1) → w_X12_wrongRow a1 a2 a3 μM Ψ) → Φ r μX1) (hok : ∀ t k F μX1, a1 = nI t → t < 4 → a3 = nI k → k < dg F → dg F ≤ 7 → XS 28 μX μX1 → tabX 28 μX1 (cNow μM) F → ¬ grt F → ¬ μM.1 15 t = -1 → (∀ Ψ : Int32 → ZMem → Prop, (∀ μM1, MS μM μM1 → tabM μM1 (cNow μM) F → Ψ 0 μM1) → w_X12_wrongRow a1 a2 a3 μM Ψ) → Φ 0 μX1) : w_X11_refusalOfRow a1 a2 a3 μX Φ := by
  have hR := h.1
  have hT := h.2.2.2.2
  unfold w_X11_refusalOfRow
  refine e_isTray (fun t ht et => z1n (e_isForm (fun hF => z1n ?_) (fun hF => z0n ?_))) (fun hn => z0n ?_)
  · subst et
    have hv := vp_in_nI (n := t) (N := 4) ht (by omega)
    refine ⟨hv, ?_⟩
    rw [nn_clamp (by omega)]
    have front : ∀ Ψ : Int32 → ZMem → Prop, ((¬ μM.1 15 t = -1 → w_X12_laysRowsOf a2 μM (fun (μ_7 : ZMem) => w_X12_isRow a3 μ_7 (fun (r_8 : Int32) => (¬ r_8 = 0 → ((μ_7.1 0 4) = 0 → Ψ 0 μ_7) ∧ (¬ (μ_7.1 0 4) = 0 → Ψ (-7) μ_7)) ∧ (r_8 = 0 → Ψ (-1) μ_7)))) ∧ (¬ ¬ μM.1 15 t = -1 → Ψ (-11) μM)) → w_X12_wrongRow (nI t) a2 a3 μM Ψ := by
      intro Ψ g
      unfold w_X12_wrongRow
      refine m_isTray (fun _ _ _ => z1n (m_isForm (fun _ => z1n ⟨hv, ?_⟩) (fun q => absurd hF q))) (fun q => absurd (by rw [nI_toInt (by omega)]; omega) q)
      rw [nn_clamp (by omega), (tr_sg hT ht).2]
      exact g
    refine e_nothing hT ht (fun q => z1p ?_) (fun q => z0p ?_)
    · exact hbad _ _ (by decide) (XS_rfl 28 μX) (fun Ψ g => front Ψ ⟨fun z => absurd q z, fun _ => g μM (MS_rfl μM)⟩)
    · refine e_tableOf hF (rNow_bd hR) (rNow_mix hR) (fun μX1 sX tX => ⟨zT_28, ?_⟩)
      have hM : ∀ Ψ : ZMem → Prop, (∀ μM1, MS μM μM1 → tabM μM1 (cNow μM) (formF a2 (cNow μM)) → Ψ μM1) → w_X12_laysRowsOf a2 μM Ψ := fun Ψ h => m_laysRowsOf hF (rNow_bd hR) (fun j _ => rfl) h
      have hdl := dg_le (formF a2 (cNow μM))
      generalize formF a2 (cNow μM) = F at *
      have t4 : μX1.1 28 4 = nI (dg F) - 1 := tX.2.1
      refine e_hasRow hdl t4 (fun k hk ek => z1n ?_) (fun hn => z0n ?_)
      · subst ek
        by_cases hg : grt F
        · refine ⟨fun q => absurd (tX.2.2.2.1 hg) (by rw [q]; decide), fun _ => ?_⟩
          refine hbad _ _ (by decide) sX (fun Ψ g => front Ψ ⟨fun _ => hM _ (fun μM1 sM tM => ?_), fun z => absurd q z⟩)
          refine m_isRow hdl tM.2.1 (fun _ _ _ => z1n (zif_f (by rw [tM.2.2.2.2.1 hg]; decide) (g μM1 sM))) (fun z => absurd (by rw [nI_toInt (by omega)]; omega) z)
        · refine zif_t (tX.2.2.2.2 hg).1 (hok t k F μX1 rfl ht rfl hk hdl sX tX hg q (fun Ψ g => front Ψ ⟨fun _ => hM _ (fun μM1 sM tM => ?_), fun z => absurd q z⟩))
          refine m_isRow hdl tM.2.1 (fun _ _ _ => z1n (zif_t (tM.2.2.2.2.2.1 hg).1 (g μM1 sM tM))) (fun z => absurd (by rw [nI_toInt (by omega)]; omega) z)
      · refine hbad _ _ (by decide) sX (fun Ψ g => front Ψ ⟨fun _ => hM _ (fun μM1 sM tM => ?_), fun z => absurd q z⟩)
        exact m_isRow hdl tM.2.1 (fun k hk ek => absurd (by rw [ek, nI_toInt (by omega)]; omega) hn) (fun _ => z0n (g μM1 sM))
  · refine hbad _ _ (by decide) (XS_rfl 28 μX) (fun Ψ g => ?_)
    unfold w_X12_wrongRow
    exact m_isTray (fun _ _ _ => z1n (m_isForm (fun q => absurd q hF) (fun _ => z0n (g μM (MS_rfl μM))))) (fun q => absurd (by rw [et, nI_toInt (by omega)]; omega) q)
  · refine hbad _ _ (by decide) (XS_rfl 28 μX) (fun Ψ g => ?_)
    unfold w_X12_wrongRow
    exact m_isTray (fun k hk ek => absurd (by rw [ek, nI_toInt (by omega)]; omega) hn) (fun _ => z0n (g μM (MS_rfl μM)))
def stv (s : Int32) (v : Int64) : Int64 := if s = 1 then Int32.toInt64 (Int64.toInt32 v) else v
theorem e_store {μ : ZMem} {t j : Nat} {v : Int64} (hj : j < 30) {Φ : ZMem → Prop} (h : Φ (zz_upJ μ (t + 1) j (stv (μ.1 t 1) v))) : w_X10_store t (nI j) v μ Φ := by
  unfold w_X10_store
  refine nm_k (fun x => x = stv (μ.1 t 1) v) (fun J hJ => zifn (fun q => hJ _ (by unfold stv; rw [if_neg q])) (fun q => hJ _ (by unfold stv; rw [if_pos q]))) ?_
  rintro x hx
  refine ⟨vp_in_nI (by omega) (by omega), ?_⟩
  rw [nn_clamp (by omega), hx]
  exact h
theorem m_lays {μ : ZMem} {t j : Nat} {v : Int64} (ht : t < 4) (hj : j < 30) {Φ : ZMem → Prop} (h : Φ (zz_upJ μ 17 (30 * t + j) (stv (μ.1 15 t) v))) : w_X12_lays (nI t) (nI j) v μ Φ := by
  unfold w_X12_lays
  rw [nn_clamp (n := t) (by omega)]
  refine ⟨vp_in_nI (by omega) (by omega), ?_⟩
  refine nm_k (fun x => x = stv (μ.1 15 t) v) (fun J hJ => zifn (fun q => hJ _ (by unfold stv; rw [if_neg q])) (fun q => hJ _ (by unfold stv; rw [if_pos q]))) ?_
  rintro x hx
  rw [show (30 : Int32) = nI 30 from rfl, pk_mul, nI_add, nn_clamp (by omega), hx]
  exact ⟨vp_in_nI (by omega) (by omega), h⟩
theorem o_fill {μX μM : ZMem} (h : Rel0 μX μM) (a1 a2 a3 : Int32) : w_X11_fill a1 a2 a3 μX (fun r μX1 => w_X12_fill a1 a2 a3 μM (fun r2 μM1 => oS μX μM r r2 μX1 μM1)) := by
  unfold w_X11_fill
  refine o_refuse h a1 a2 a3 (fun r μX1 hr sX g => ?_) (fun t k F μX1 e1 ht e3 hk hd sX tX hg hs g => ?_)
  · refine ⟨fun q => absurd hr (by rw [q]; decide), fun _ => ?_⟩
    unfold w_X12_fill
    refine g _ (fun μM1 sM => ⟨fun q => absurd hr (by rw [i_0le] at q; omega), fun _ => ⟨rfl, (Rel0_S h sX sM).1, (Rel0_S h sX sM).2⟩⟩)
  · subst e1 e3
    have hw := wd_le (m := dg F - 1) (k := k) (by omega) (by omega)
    have hv := vp_in_nI (n := t) (N := 4) ht (by omega)
    refine zif_t rfl ⟨hv, e_width (m := dg F - 1) (by omega) (by omega) (by rw [tX.2.1]; exact hd_I (by omega)) (nm_b ?_)⟩
    rw [nn_clamp (by omega)]
    have hX86 : ∀ a, 86 ≤ a → μX1.1 a = μX.1 a ∧ μX1.2 a = μX.2 a := fun a ha => ⟨sX.1 a (by omega) (by omega), sX.2 a (by omega) (by omega)⟩
    obtain ⟨z, z1, x1, y1, s1, s2, it⟩ := h.2.2.2.2 t ht
    rw [(hX86 _ (by omega)).1, x1]
    have emin : (if nI (wd (dg F - 1) k) < nI z then nI (wd (dg F - 1) k) else nI z) = nI (min z (wd (dg F - 1) k)) := by
      by_cases q : nI (wd (dg F - 1) k) < nI z
      · rw [if_pos q]
        rw [n_lt (by omega) (by omega)] at q
        rw [show min z (wd (dg F - 1) k) = wd (dg F - 1) k by omega]
      · rw [if_neg q]
        rw [n_lt (by omega) (by omega)] at q
        rw [show min z (wd (dg F - 1) k) = z by omega]
    rw [emin]
    generalize hn : min z (wd (dg F - 1) k) = N
    have hgr := ((tX.2.2.2.2 hg).2 k hk).1
    refine ⟨N + 1, lp2_inv N (fun n b => b.1 = μX1.1 ∧ (∀ a, a ≠ 86 + 2 * t + 1 → b.2 a = μX1.2 a) ∧ (∀ j, b.2 (86 + 2 * t + 1) j = if j < n then stv (μM.1 15 t) (rowK F (dg F - 1) k j) else μX1.2 (86 + 2 * t + 1) j)) (fun n b K hn' hI hK => ?_) (fun b K hI => ?_) N 0 _ (by omega) ⟨rfl, fun _ _ => rfl, fun j => by rw [if_neg (by omega)]⟩⟩
    · obtain ⟨i1, i2, i3⟩ := hI
      unfold b_X11_fill_46
      rw [n_le (by omega) (by omega), nI_1, nn_clamp (n := t) (by omega)]
      refine zif_f (by omega) ⟨vp_in_nI (by omega) (by omega), vp_in_nI (by omega) (by omega), ?_⟩
      rw [nn_clamp (n := k) (by omega), nn_clamp (n := n) (by omega)]
      refine e_store (by omega) (hK _ ⟨i1, fun a ha => ?_, fun j => ?_⟩)
      · rw [mJ2, if_neg ha]; exact i2 a ha
      · rw [mJ2, if_pos rfl, updL_at, i2 _ (by omega), hgr n (by omega), i1, (hX86 _ (by omega)).1, s1, i3 j]
        by_cases e : j = n
        · rw [if_pos e, if_pos (by omega), e]
        · rw [if_neg e]
          by_cases e2 : j < n
          · rw [if_pos e2, if_pos (by omega)]
          · rw [if_neg e2, if_neg (by omega)]
    · obtain ⟨i1, i2, i3⟩ := hI
      unfold b_X11_fill_46
      refine zif_t (by rw [n_le (by omega) (by omega)]; omega) ?_
      unfold w_X12_fill
      refine g _ (fun μM1 sM tM => zif_t (by decide) ?_)
      refine m_itemMany (m := dg F - 1) (by omega) (by omega) (by rw [tM.2.1]; exact hd_I (by omega)) ⟨hv, ?_⟩
      have yM : μM1.1 16 t = nI z := by rw [sM.1 16 (by omega) (by omega)]; exact y1
      have sortM : μM1.1 15 t = μM.1 15 t := by rw [sM.1 15 (by omega) (by omega)]
      have m17 : μM1.2 17 = μM.2 17 := sM.2.2 17 (by omega)
      rw [nn_clamp (by omega), yM, n_le (by omega) (by omega)]
      refine nm_k (fun x => x = nI N) (fun J hJ => zif (fun q => ⟨hv, hJ _ (by rw [show N = z by omega])⟩) (fun q => m_itemMany (m := dg F - 1) (by omega) (by omega) (by rw [tM.2.1]; exact hd_I (by omega)) (hJ _ (by rw [show N = wd (dg F - 1) k by omega])))) ?_
      rintro x rfl
      have hgm := ((tM.2.2.2.2.2.1 hg).2 k hk).1
      obtain ⟨R1, C1⟩ := Rel0_S h sX sM
      refine ⟨N + 1, lp2_inv N (fun n b' => b'.1 = μM1.1 ∧ (∀ a, a ≠ 17 → b'.2 a = μM1.2 a) ∧ (∀ s, b'.2 17 s = if 30 * t ≤ s ∧ s < 30 * t + n then stv (μM.1 15 t) (rowK F (dg F - 1) k (s - 30 * t)) else μM1.2 17 s)) (fun n b' K hn' hI hK => ?_) (fun b' K hI => ?_) N 0 _ (by omega) ⟨rfl, fun _ _ => rfl, fun j => by rw [if_neg (by omega)]⟩⟩
      · obtain ⟨j1, j2, j3⟩ := hI
        unfold b_X12_fill_50
        rw [n_le (by omega) (by omega), nI_1]
        refine zif_f (by omega) (m_item (by omega) (by omega) ?_)
        have er : rowM b' k n = rowK F (dg F - 1) k n := by
          rw [← hgm]
          unfold rowM
          rw [j2 6 (by omega)]
        rw [er]
        refine m_lays ht (by omega) (hK _ ⟨j1, fun a ha => ?_, fun s => ?_⟩)
        · rw [mJ2, if_neg ha]; exact j2 a ha
        · rw [mJ2, if_pos rfl, updL_at, j1, sortM, j3 s]
          by_cases e : s = 30 * t + n
          · rw [if_pos e, if_pos (by omega), show s - 30 * t = n by omega]
          · rw [if_neg e]
            by_cases e2 : 30 * t ≤ s ∧ s < 30 * t + n
            · rw [if_pos e2, if_pos (by omega)]
            · rw [if_neg e2, if_neg (by omega)]
      · obtain ⟨j1, j2, j3⟩ := hI
        unfold b_X12_fill_50
        refine zif_t (by rw [n_le (by omega) (by omega)]; omega) ?_
        obtain ⟨R2, C2⟩ := Rel0_trays (μX' := b) (μM' := b') R1 (fun a ha => ⟨by rw [i1], i2 a (by omega)⟩) (fun a _ _ => by rw [j1]) (fun t' ht' => by
          obtain ⟨z, z1, z2, z3, z4, z5, z6⟩ := R1.2.2.2.2 t' ht'
          rw [i1, j1]
          refine ⟨z, z1, z2, z3, z4, z5, fun i hi => ?_⟩
          rw [j3]
          by_cases e : t' = t
          · subst e
            rw [i3]
            by_cases e2 : i < N
            · rw [if_pos e2, if_pos (by omega), show 30 * t' + i - 30 * t' = i by omega]
            · rw [if_neg e2, if_neg (by omega)]; exact z6 i hi
          · rw [i2 _ (by omega), if_neg (by omega)]; exact z6 i hi)
        exact ⟨rfl, R2, rC_tr C1 C2⟩
theorem first_bad (p : Nat → Prop) (N : Nat) : ∃ o, o ≤ N ∧ (∀ i, i < o → p i) ∧ (o < N → ¬ p o) := by
  induction N with
  | zero => exact ⟨0, Nat.le_refl _, fun i hi => absurd hi (by omega), fun h => absurd h (by omega)⟩
  | succ n ih =>
    obtain ⟨o, o1, o2, o3⟩ := ih
    by_cases e : o = n
    · subst e
      by_cases q : p o
      · refine ⟨o + 1, Nat.le_refl _, fun i hi => ?_, fun h => absurd h (by omega)⟩
        by_cases e2 : i = o
        · rw [e2]; exact q
        · exact o2 i (by omega)
      · exact ⟨o, by omega, o2, fun _ => q⟩
    · exact ⟨o, by omega, o2, fun _ => o3 (by omega)⟩
theorem o_judge {μX μM : ZMem} (h : Rel0 μX μM) (a1 a2 a3 : Int32) : w_X11_judge a1 a2 a3 μX (fun r μX1 => w_X12_judge a1 a2 a3 μM (fun r2 μM1 => oS μX μM r r2 μX1 μM1)) := by
  unfold w_X11_judge
  refine o_refuse h a1 a2 a3 (fun r μX1 hr sX g => ?_) (fun t k F μX1 e1 ht e3 hk hd sX tX hg hs g => ?_)
  · refine ⟨fun q => absurd hr (by rw [q]; decide), fun _ => ?_⟩
    unfold w_X12_judge
    refine g _ (fun μM1 sM => ⟨fun q => absurd hr (by rw [i_0le] at q; omega), fun _ => ⟨rfl, (Rel0_S h sX sM).1, (Rel0_S h sX sM).2⟩⟩)
  · subst e1 e3
    have hw := wd_le (m := dg F - 1) (k := k) (by omega) (by omega)
    have hv := vp_in_nI (n := t) (N := 4) ht (by omega)
    have hX86 : ∀ a, 86 ≤ a → μX1.1 a = μX.1 a ∧ μX1.2 a = μX.2 a := fun a ha => ⟨sX.1 a (by omega) (by omega), sX.2 a (by omega) (by omega)⟩
    obtain ⟨z, z1, x1, y1, s1, s2, it⟩ := h.2.2.2.2 t ht
    have hgr := ((tX.2.2.2.2 hg).2 k hk).1
    obtain ⟨o, o1, o2, o3⟩ := first_bad (fun i => i < wd (dg F - 1) k ∧ μM.2 17 (30 * t + i) = rowK F (dg F - 1) k i) z
    have fin : ∀ μM1, MS μM μM1 → tabM μM1 (cNow μM) F → ∀ r, r = (if o = z then -1 else nI o) → ∃ n, lpz1 (b_X12_judge_20 (nI t) μM1 (fun r2 μM2 => oS μX μM r r2 μX1 μM2) (nI k)) n 0 := by
      intro μM1 sM tM r hr
      have yM : μM1.1 16 t = nI z := by rw [sM.1 16 (by omega) (by omega)]; exact y1
      have m17 : μM1.2 17 = μM.2 17 := sM.2.2 17 (by omega)
      have hgm := ((tM.2.2.2.2.2.1 hg).2 k hk).1
      refine ⟨o + 1, lp1_up o (fun i K hi hK => ?_) (fun K => ?_) o 0 (by omega)⟩
      · unfold b_X12_judge_20
        rw [nn_clamp (n := t) (by omega), yM, n_le (by omega) (by omega), nI_1]
        obtain ⟨p1, p2⟩ := o2 i hi
        refine ⟨hv, zif_f (by omega) (m_itemMany (m := dg F - 1) (by omega) (by omega) (by rw [tM.2.1]; exact hd_I (by omega)) ?_)⟩
        rw [n_le (by omega) (by omega), show (30 : Int32) = nI 30 from rfl, pk_mul, nI_add, nn_clamp (by omega)]
        refine zif_f (by omega) ⟨vp_in_nI (by omega) (by omega), m_item (by omega) (by omega) (zif_t ?_ hK)⟩
        rw [m17, hgm]; exact p2
      · unfold b_X12_judge_20
        rw [nn_clamp (n := t) (by omega), yM, n_le (by omega) (by omega), nI_1]
        refine ⟨hv, zif (fun q => ?_) (fun q => m_itemMany (m := dg F - 1) (by omega) (by omega) (by rw [tM.2.1]; exact hd_I (by omega)) ?_)⟩
        · rw [hr, if_pos (by omega)]
          exact ⟨rfl, (Rel0_S h sX sM).1, (Rel0_S h sX sM).2⟩
        · have nb := o3 (by omega)
          rw [hr, if_neg (by omega), n_le (by omega) (by omega), show (30 : Int32) = nI 30 from rfl, pk_mul, nI_add, nn_clamp (by omega)]
          refine zif (fun _ => ⟨rfl, (Rel0_S h sX sM).1, (Rel0_S h sX sM).2⟩) (fun q2 => ⟨vp_in_nI (by omega) (by omega), m_item (by omega) (by omega) (zif_f ?_ ⟨rfl, (Rel0_S h sX sM).1, (Rel0_S h sX sM).2⟩)⟩)
          rw [m17, hgm]
          exact fun q3 => nb ⟨by omega, q3⟩
    have fin2 : ∀ r, r = (if o = z then -1 else nI o) → w_X12_judge (nI t) a2 (nI k) μM (fun r2 μM2 => oS μX μM r r2 μX1 μM2) := by
      intro r hr
      unfold w_X12_judge
      exact g _ (fun μM1 sM tM => zif_t (by decide) (fin μM1 sM tM r hr))
    have xs : μX1.1 (86 + 2 * t) 2 = nI z := by rw [(hX86 _ (by omega)).1]; exact x1
    refine zif_t rfl ⟨hv, o + 1, lp1_up o (fun i K hi hK => ?_) (fun K => ?_) o 0 (by omega)⟩
    · unfold b_X11_judge_28
      rw [nn_clamp (n := t) (by omega), xs, n_le (by omega) (by omega), nI_1]
      obtain ⟨p1, p2⟩ := o2 i hi
      refine zif_f (by omega) (e_width (m := dg F - 1) (by omega) (by omega) (by rw [tX.2.1]; exact hd_I (by omega)) ?_)
      rw [n_le (by omega) (by omega), nn_clamp (n := i) (by omega)]
      refine zif_f (by omega) ⟨vp_in_nI (by omega) (by omega), vp_in_nI (by omega) (by omega), vp_in_nI (by omega) (by omega), ?_⟩
      rw [nn_clamp (n := k) (by omega), nn_clamp (n := i) (by omega)]
      refine zif_t ?_ hK
      rw [(hX86 _ (by omega)).2, it i (by omega), hgr i (by omega)]; exact p2
    · unfold b_X11_judge_28
      rw [nn_clamp (n := t) (by omega), xs, n_le (by omega) (by omega), nI_1]
      refine zif (fun q => ?_) (fun q => e_width (m := dg F - 1) (by omega) (by omega) (by rw [tX.2.1]; exact hd_I (by omega)) ?_)
      · exact fin2 _ (by rw [if_pos (by omega)])
      · have nb := o3 (by omega)
        rw [n_le (by omega) (by omega), nn_clamp (n := o) (by omega)]
        refine zif (fun _ => fin2 _ (by rw [if_neg (by omega)])) (fun q2 => ⟨vp_in_nI (by omega) (by omega), vp_in_nI (by omega) (by omega), vp_in_nI (by omega) (by omega), ?_⟩)
        rw [nn_clamp (n := k) (by omega), nn_clamp (n := o) (by omega)]
        refine zif_f ?_ (fin2 _ (by rw [if_neg (by omega)]))
        rw [(hX86 _ (by omega)).2, it o (by omega), hgr o (by omega)]
        exact fun q3 => nb ⟨by omega, q3⟩
