/-! tray, copy -/
theorem Rel0_trays {μX μM μX' μM' : ZMem} (h : Rel0 μX μM) (h1 : ∀ a, a < 86 → μX'.1 a = μX.1 a ∧ μX'.2 a = μX.2 a) (h2 : ∀ a, a ≠ 15 → a ≠ 16 → μM'.1 a = μM.1 a) (ht : rTrays μX' μM') : Rel0 μX' μM' ∧ rC μX μX' := by
  refine ⟨⟨now_fr h.1 (fun a q1 q2 => h1 a (by omega)) (h2 1 (by omega) (by omega)), kept_fr h.2.1 (fun a q1 q2 => h1 a (by omega)) (h2 2 (by omega) (by omega)), ?_, tape_fr h.2.2.2.1 (by rw [(h1 23 (by omega)).1]) (h1 24 (by omega)).1 (by rw [h2 0 (by omega) (by omega)]) (h2 13 (by omega) (by omega)), ht⟩, Or.inl ⟨fun a q1 q2 => h1 a (by omega), (h1 2 (by omega)).2, (h1 3 (by omega)).2⟩⟩
  unfold rFlags
  rw [(h1 0 (by omega)).1, h2 0 (by omega) (by omega)]
  exact h.2.2.1
theorem e_become {μ : ZMem} {t : Nat} {a1 a2 : Int32} {Φ : ZMem → Prop} (h : ∀ μ', (∀ a, a ≠ t → μ'.1 a = μ.1 a) → (∀ a, a ≠ t + 1 → μ'.2 a = μ.2 a) → μ'.1 t 1 = a1 → μ'.1 t 2 = a2 → (∀ j, j < 30 → μ'.2 (t + 1) j = 0) → Φ μ') : w_X10_become t a1 a2 μ Φ := by
  unfold w_X10_become
  refine nm_b (nm_b ⟨30 + 1, lp2_inv 30 (fun n b => b.1 = (zz_upI (zz_upI μ t 1 a1) t 2 a2).1 ∧ (∀ a, a ≠ t + 1 → b.2 a = μ.2 a) ∧ (∀ j, j < n → b.2 (t + 1) j = 0)) (fun n b K hn hI hK => ?_) (fun b K hI => ?_) 30 0 _ (by omega) ⟨rfl, fun _ _ => rfl, fun j hj => absurd hj (by omega)⟩⟩)
  · obtain ⟨i1, i2, i3⟩ := hI
    unfold b_X10_become_12
    rw [nn_clamp (by omega), show (30 : Int32) = nI 30 from rfl, n_le (by omega) (by omega), nI_1]
    refine zif_f (by omega) ⟨vp_in_nI (by omega) (by omega), nm_b (hK _ ⟨i1, fun a ha => ?_, fun j hj => ?_⟩)⟩
    · rw [mJ2, if_neg ha]; exact i2 a ha
    · rw [mJ2, if_pos rfl, updL_at]
      split
      · rfl
      · exact i3 j (by omega)
  · obtain ⟨i1, i2, i3⟩ := hI
    unfold b_X10_become_12
    refine zif_t (by decide) (h b (fun a ha => ?_) i2 ?_ ?_ i3)
    · rw [i1, mI1, if_neg ha, mI1, if_neg ha]
    · rw [i1, mI1, if_pos rfl, mI1, if_pos rfl]; rfl
    · rw [i1, mI1, if_pos rfl]; rfl
theorem m_tray {μ : ZMem} {t : Nat} (ht : t < 4) {a2 a3 : Int32} (h2 : -1 ≤ a2.toInt ∧ a2.toInt ≤ 1) {Φ : Int32 → ZMem → Prop} (hBad : ¬ a2 = -1 → ¬ a3.toInt ≤ 30 → Φ (-2) μ) (hSz : ¬ a2 = -1 → a3.toInt < 0 → Φ (-14) μ) (h : (¬ a2 = -1 → 0 ≤ a3.toInt ∧ a3.toInt ≤ 30) → ∀ μ', (∀ a, a ≠ 15 → a ≠ 16 → μ'.1 a = μ.1 a) → (∀ t', t' ≠ t → μ'.1 15 t' = μ.1 15 t' ∧ μ'.1 16 t' = μ.1 16 t') → μ'.1 15 t = a2 → μ'.1 16 t = (if a2 = -1 then 0 else a3) → (∀ s, ¬ (30 * t ≤ s ∧ s < 30 * t + 30) → μ'.2 17 s = μ.2 17 s) → (∀ j, j < 30 → μ'.2 17 (30 * t + j) = 0) → (∀ a, a ≠ 17 → μ'.2 a = μ.2 a) → Φ 1 μ') : w_X12_tray (nI t) a2 a3 μ Φ := by
  have hm : (a2 < 0) = (a2 = -1) := by
    apply propext
    rw [i_lt0, i_eq, show (-1 : Int32).toInt = -1 from rfl]; omega
  have hm2 : ((0 : Int32) ≤ a2) = ¬ (a2 = -1) := by
    apply propext
    rw [i_0le, i_eq, show (-1 : Int32).toInt = -1 from rfl]; omega
  unfold w_X12_tray
  refine m_isTray (fun _ _ _ => z1n ?_) (fun q => absurd (by rw [nI_toInt (by omega)]; omega) q)
  refine m_in_k (fun _ _ => z1p ?_) (fun q => absurd (by rw [il_toInt]; exact h2) q)
  have hv := vp_in_nI (n := t) (N := 4) ht (by omega)
  have body : (¬ a2 = -1 → 0 ≤ a3.toInt ∧ a3.toInt ≤ 30) → vp_in (nI t) 4 ∧ (nm (zz_upI μ 15 (Int32.toNatClampNeg (nI t)) a2) (fun (μ_8 : ZMem) => nm (fun (x_9 : Int32) => vp_in (nI t) 4 ∧ (nm (zz_upI μ_8 16 (Int32.toNatClampNeg (nI t)) x_9) (fun (μ_12 : ZMem) => ∃ n, lpz2 (b_X12_tray_70 Φ (nI t)) n 0 μ_12))) (fun (J_10 : Int32 → Prop) => ((0 : Int32) ≤ a2 → J_10 a3) ∧ (¬ (0 : Int32) ≤ a2 → J_10 0)))) := by
    intro hb
    rw [hm2, nn_clamp (by omega)]
    refine ⟨hv, nm_b ?_⟩
    refine nm_k (fun x => x = if a2 = -1 then 0 else a3) (fun J hJ => zif (fun q => hJ _ (by rw [if_neg q])) (fun q => hJ _ (by rw [if_pos (Classical.not_not.mp q)]))) ?_
    rintro x hx
    refine ⟨hv, nm_b ⟨30 + 1, lp2_inv 30 (fun n b => b.1 = (zz_upI (zz_upI μ 15 t a2) 16 t x).1 ∧ (∀ a, a ≠ 17 → b.2 a = μ.2 a) ∧ (∀ s, ¬ (30 * t ≤ s ∧ s < 30 * t + 30) → b.2 17 s = μ.2 17 s) ∧ (∀ j, j < n → b.2 17 (30 * t + j) = 0)) (fun n b K hn hI hK => ?_) (fun b K hI => ?_) 30 0 _ (by omega) ⟨rfl, fun _ _ => rfl, fun _ _ => rfl, fun j hj => absurd hj (by omega)⟩⟩⟩
    · obtain ⟨i1, i2, i4, i3⟩ := hI
      unfold b_X12_tray_70
      rw [show (30 : Int32) = nI 30 from rfl, pk_mul, nI_add, nn_clamp (by omega), n_le (by omega) (by omega), nI_1]
      refine zif_f (by omega) ⟨vp_in_nI (by omega) (by omega), nm_b (hK _ ⟨i1, fun a ha => ?_, fun s hs => ?_, fun j hj => ?_⟩)⟩
      · rw [mJ2, if_neg ha]; exact i2 a ha
      · rw [mJ2, if_pos rfl, updL_at, if_neg (by omega)]; exact i4 s hs
      · rw [mJ2, if_pos rfl, updL_at]
        split
        · rfl
        · exact i3 j (by omega)
    · obtain ⟨i1, i2, i4, i3⟩ := hI
      unfold b_X12_tray_70
      refine zif_t (by decide) (h hb b (fun a h1 h2 => ?_) (fun t' h1 => ?_) ?_ ?_ i4 i3 i2)
      · rw [i1, mI1, if_neg h2, mI1, if_neg h1]
      · rw [i1]
        refine ⟨?_, ?_⟩
        · show upd (μ.1 15) t a2 t' = _
          rw [upd_at, if_neg h1]
        · show upd (μ.1 16) t x t' = _
          rw [upd_at, if_neg h1]
      · rw [i1]
        show upd (μ.1 15) t a2 t = _
        rw [upd_at, if_pos rfl]
      · rw [i1, ← hx]
        show upd (μ.1 16) t x t = _
        rw [upd_at, if_pos rfl]
  rw [hm, i_0le a3, i_le a3, show (30 : Int32).toInt = 30 from rfl]
  refine nm_b (zif (fun q => nm_b (zif_t q (body (fun z => absurd q z)))) (fun q => zif (fun q2 => nm_b (zif_f q (zif (fun q3 => body (fun _ => ⟨q3, q2⟩)) (fun q3 => hSz q (by omega))))) (fun q2 => hBad q q2)))
theorem o_tray {μX μM : ZMem} (h : Rel0 μX μM) (a1 a2 a3 : Int32) : w_X11_tray a1 a2 a3 μX (fun r μX1 => w_X12_tray a1 a2 a3 μM (fun r2 μM1 => oS μX μM r r2 μX1 μM1)) := by
  unfold w_X11_tray
  refine e_isTray (fun t ht et => z1n ?_) (fun hn => z0n ?_)
  · subst et
    have no : ¬ (-1 ≤ a2.toInt ∧ a2.toInt ≤ 1) → w_X12_tray (nI t) a2 a3 μM (fun r2 μM1 => oS μX μM (-2) r2 μX μM1) := by
      intro hn
      unfold w_X12_tray
      refine m_isTray (fun _ _ _ => z1n ?_) (fun q => absurd (by rw [nI_toInt (by omega)]; omega) q)
      refine m_in_k (fun q1 q2 => absurd ⟨?_, ?_⟩ hn) (fun q => z0p (oS_0 h _))
      · rw [il_toInt] at q1; exact q1
      · rw [il_toInt] at q2; exact q2
    rw [i_lt, i_lt, show (-1 : Int32).toInt = -1 from rfl, show (1 : Int32).toInt = 1 from rfl, i_0le, i_le, show (30 : Int32).toInt = 30 from rfl]
    refine zif (fun q => no (by omega)) (fun q => zif (fun q2 => no (by omega)) (fun q2 => ?_))
    have h2 : -1 ≤ a2.toInt ∧ a2.toInt ≤ 1 := by omega
    have hv := vp_in_nI (n := t) (N := 4) ht (by omega)
    have body : (¬ a2 = -1 → 0 ≤ a3.toInt ∧ a3.toInt ≤ 30) → vp_in (nI t) 4 ∧ (nm (fun (x_6 : Int32) => w_X10_become (86 + 2 * (Int32.toNatClampNeg (nI t))) a2 x_6 μX (fun (μ_9 : ZMem) => w_X12_tray (nI t) a2 a3 μM (fun r2 μM1 => oS μX μM 1 r2 μ_9 μM1))) (fun (J_7 : Int32 → Prop) => (¬ a2 = -1 → J_7 a3) ∧ (a2 = -1 → J_7 0))) := by
      intro hb
      rw [nn_clamp (by omega)]
      refine ⟨hv, ?_⟩
      refine nm_k (fun x => x = if a2 = -1 then 0 else a3) (fun J hJ => zifn (fun q => hJ _ (by rw [if_neg q])) (fun q => hJ _ (by rw [if_pos q]))) ?_
      rintro x hx
      refine e_become (fun μX' p1 p2 p3 p4 p5 => ?_)
      refine m_tray ht h2 (fun q1 q2 => absurd (hb q1).2 q2) (fun q1 q2 => absurd (hb q1).1 (by omega)) (fun _ μM' r1 r2 r3 r4 r5 r6 r7 => ?_)
      refine ⟨rfl, Rel0_trays h (fun a ha => ⟨p1 a (by omega), p2 a (by omega)⟩) r1 (fun t' ht' => ?_)⟩
      by_cases e : t' = t
      · subst e
        obtain ⟨z, z1, z2⟩ : ∃ z, z ≤ 30 ∧ (if a2 = -1 then (0 : Int32) else a3) = nI z ∧ (a2 = -1 → z = 0) := by
          by_cases e2 : a2 = -1
          · exact ⟨0, by omega, by rw [if_pos e2]; rfl, fun _ => rfl⟩
          · obtain ⟨z, z1, z2⟩ := nn_of (i := a3) (n := 30) (hb e2).1 (hb e2).2 (by omega)
            exact ⟨z, z1, by rw [if_neg e2]; exact z2, fun q => absurd q e2⟩
        refine ⟨z, z1, by rw [p4, hx]; exact z2.1, by rw [r4]; exact z2.1, by rw [p3, r3], ?_, fun j hj => by rw [p5 j hj, r6 j hj]⟩
        rw [r3]
        by_cases e2 : a2 = -1
        · exact Or.inl ⟨e2, z2.2 e2⟩
        · right
          obtain ⟨i, i1, i2⟩ := nn_of (i := a2) (n := 1) (by rw [i_eq, show (-1 : Int32).toInt = -1 from rfl] at e2; omega) (by omega) (by omega)
          have : i = 0 ∨ i = 1 := by omega
          rcases this with rfl | rfl
          · exact Or.inl i2
          · exact Or.inr i2
      · obtain ⟨z, z1, z2, z3, z4, z5, z6⟩ := h.2.2.2.2 t' ht'
        refine ⟨z, z1, ?_, ?_, ?_, ?_, fun j hj => ?_⟩
        · rw [p1 _ (by omega)]; exact z2
        · rw [(r2 t' e).2]; exact z3
        · rw [p1 _ (by omega), (r2 t' e).1]; exact z4
        · rw [(r2 t' e).1]; exact z5
        · rw [p2 _ (by omega), r5 _ (by omega)]; exact z6 j hj
    refine nm_b (zif (fun q3 => nm_b (zif_t q3 (body (fun z => absurd q3 z)))) (fun q3 => zif (fun q4 => nm_b (zif_f q3 (zif (fun q5 => body (fun _ => ⟨q5, q4⟩)) (fun q5 => ?_)))) (fun q4 => ?_)))
    · exact m_tray ht h2 (fun _ q => absurd q4 q) (fun _ _ => oS_0 h _) (fun z => absurd (z q3).1 q5)
    · refine m_tray ht h2 (fun _ _ => oS_0 h _) (fun _ q => absurd q (by omega)) (fun z => absurd (z q3).2 q4)
  · unfold w_X12_tray
    exact m_isTray (fun k hk ek => absurd (by rw [ek, nI_toInt (by omega)]; omega) hn) (fun _ => z0n (oS_0 h _))
theorem tr_sg {μX μM : ZMem} (h : rTrays μX μM) {t : Nat} (ht : t < 4) : ((μM.1 15 t < 0) = (μM.1 15 t = -1)) ∧ (((0 : Int32) ≤ μM.1 15 t) = ¬ (μM.1 15 t = -1)) := by
  obtain ⟨z, z1, z2, z3, z4, z5, z6⟩ := h t ht
  rcases z5 with ⟨q, _⟩ | q | q <;> rw [q] <;> decide
theorem e_nothing {μX μM : ZMem} (h : rTrays μX μM) {t : Nat} (ht : t < 4) {Φ : Int32 → Prop} (h1 : μM.1 15 t = -1 → Φ 1) (h0 : ¬ μM.1 15 t = -1 → Φ 0) : w_X10_isNothing (86 + 2 * t) μX Φ := by
  obtain ⟨z, z1, z2, z3, z4, z5, z6⟩ := h t ht
  unfold w_X10_isNothing
  rw [z4]
  exact zifn h0 h1
theorem e_hasPart {μ : ZMem} {t z : Nat} (hz : z ≤ 30) (ht : μ.1 t 2 = nI z) {i n : Int32} {Φ : Int32 → Prop} (h1 : 0 ≤ n.toInt → 0 ≤ i.toInt → i.toInt + n.toInt ≤ z → Φ 1) (h0 : ¬ (0 ≤ n.toInt ∧ 0 ≤ i.toInt ∧ i.toInt + n.toInt ≤ z) → Φ 0) : w_X10_hasPart t i n μ Φ := by
  unfold w_X10_hasPart
  rw [ht, i_lt0, i_lt0, i_lt, nI_toInt (by omega)]
  refine zif (fun q => h0 (by omega)) (fun q => zif (fun q2 => h0 (by omega)) (fun q2 => zif (fun q3 => h0 (by omega)) (fun q3 => ?_)))
  obtain ⟨m, m1, m2⟩ := nn_of (i := n) (n := 30) (by omega) (by omega) (by omega)
  subst m2
  rw [nI_toInt (by omega)] at *
  rw [i_lt, pk_sub (by omega), nI_toInt (by omega)]
  exact zif (fun q4 => h0 (by omega)) (fun q4 => h1 (by omega) (by omega) (by omega))
theorem m_copy {μX μ : ZMem} (h : rTrays μX μ) {t1 t2 : Nat} (ht1 : t1 < 4) (ht2 : t2 < 4) {i j n : Int32} {Φ : Int32 → ZMem → Prop} (hN : (μ.1 15 t1 = -1 ∨ μ.1 15 t2 = -1) → Φ (-11) μ) (hC : ¬ μ.1 15 t1 = -1 → ¬ μ.1 15 t2 = -1 → ¬ μ.1 15 t1 = μ.1 15 t2 → Φ (-12) μ) (hP : ∀ z1 z2 : Nat, μ.1 16 t1 = nI z1 → μ.1 16 t2 = nI z2 → z1 ≤ 30 → z2 ≤ 30 → ¬ μ.1 15 t1 = -1 → ¬ μ.1 15 t2 = -1 → μ.1 15 t1 = μ.1 15 t2 → (¬ (0 ≤ n.toInt ∧ 0 ≤ i.toInt ∧ 0 ≤ j.toInt ∧ i.toInt + n.toInt ≤ z1 ∧ j.toInt + n.toInt ≤ z2) → Φ (-13) μ) ∧ (∀ i' j' n', i = nI i' → j = nI j' → n = nI n' → i' + n' ≤ z1 → j' + n' ≤ z2 → ∀ μ', μ'.1 = μ.1 → (∀ s, μ'.2 17 s = if 30 * t2 + j' ≤ s ∧ s < 30 * t2 + j' + n' then μ.2 17 (30 * t1 + i' + (s - (30 * t2 + j'))) else μ.2 17 s) → Φ (nI n') μ')) : w_X12_copy (nI t1) i (nI t2) j n μ Φ := by
  unfold w_X12_copy
  have v1 := vp_in_nI (n := t1) (N := 4) ht1 (by omega)
  have v2 := vp_in_nI (n := t2) (N := 4) ht2 (by omega)
  refine m_isTray (fun _ _ _ => z1p (m_isTray (fun _ _ _ => z1n ⟨v1, ?_⟩) (fun q => absurd (by rw [nI_toInt (by omega)]; omega) q))) (fun q => absurd (by rw [nI_toInt (by omega)]; omega) q)
  rw [nn_clamp (n := t1) (by omega), nn_clamp (n := t2) (by omega), (tr_sg h ht1).1, (tr_sg h ht2).2]
  obtain ⟨z1, z1l, _, y1, _⟩ := h t1 ht1
  obtain ⟨z2, z2l, _, y2, _⟩ := h t2 ht2
  refine zif (fun q => hN (Or.inl q)) (fun q => ⟨v2, zif (fun q2 => ⟨v1, v2, zif (fun q3 => ?_) (fun q3 => hC q q2 q3)⟩) (fun q2 => hN (Or.inr (Classical.not_not.mp q2)))⟩)
  obtain ⟨P1, P2⟩ := hP z1 z2 y1 y2 z1l z2l q q2 q3
  rw [y1, y2, i_lt0, i_lt0, i_lt0]
  refine zif (fun q4 => P1 (by omega)) (fun q4 => zif (fun q5 => P1 (by omega)) (fun q5 => zif (fun q6 => P1 (by omega)) (fun q6 => ⟨v1, ?_⟩)))
  have es : ∀ z : Nat, z ≤ 30 → (nI z - n).toInt = (z : Int) - n.toInt := fun z hz => by
    rw [Int32.toInt_sub, nI_toInt (by omega)]
    have := Int32.toInt_lt n
    exact Int.bmod_eq_of_le (by omega) (by omega)
  rw [i_lt, es z1 z1l, i_le, es z2 z2l]
  refine zif (fun q7 => P1 (by omega)) (fun q7 => ⟨v2, zif (fun q8 => ?_) (fun q8 => P1 (by omega))⟩)
  obtain ⟨n', n1, n2⟩ := nn_of (i := n) (n := 30) (by omega) (by omega) (by omega)
  obtain ⟨i', i1, i2⟩ := nn_of (i := i) (n := 30) (by omega) (by omega) (by omega)
  obtain ⟨j', j1, j2⟩ := nn_of (i := j) (n := 30) (by omega) (by omega) (by omega)
  subst n2 i2 j2
  rw [nI_toInt (by omega), nI_toInt (by omega)] at q7 q8
  have P2' := P2 i' j' n' rfl rfl rfl (by omega) (by omega)
  refine nm_b ⟨n' + 1, lp2_inv n' (fun m b => b.1 = μ.1 ∧ b.2 17 = μ.2 17 ∧ (∀ s, s < m → b.2 18 s = μ.2 17 (30 * t1 + i' + s))) (fun m b K hm hI hK => ?_) (fun b K hI => ?_) n' 0 _ (by omega) ⟨rfl, rfl, fun j hj => absurd hj (by omega)⟩⟩
  · obtain ⟨c1, c2, c3⟩ := hI
    unfold b_X12_copy_102
    rw [show (30 : Int32) = nI 30 from rfl, pk_mul, nI_add, nI_add, nn_clamp (by omega), nn_clamp (by omega), n_le (by omega) (by omega), nI_1]
    refine zif_f (by omega) ⟨vp_in_nI (by omega) (by omega), vp_in_nI (by omega) (by omega), nm_b (hK _ ⟨c1, ?_, fun s hs => ?_⟩)⟩
    · rw [mJ2, if_neg (by omega)]; exact c2
    · rw [mJ2, if_pos rfl, updL_at]
      split
      · rename_i e; rw [e, c2]
      · exact c3 s (by omega)
  · obtain ⟨c1, c2, c3⟩ := hI
    unfold b_X12_copy_102
    refine zif_t (by rw [n_le (by omega) (by omega)]; omega) ⟨n' + 1, lp2_inv n' (fun m b' => b'.1 = μ.1 ∧ b'.2 18 = b.2 18 ∧ (∀ s, b'.2 17 s = if 30 * t2 + j' ≤ s ∧ s < 30 * t2 + j' + m then μ.2 17 (30 * t1 + i' + (s - (30 * t2 + j'))) else μ.2 17 s)) (fun m b' K hm hI hK => ?_) (fun b' K hI => ?_) n' 0 _ (by omega) ⟨c1, rfl, fun s => by rw [if_neg (by omega), c2]⟩⟩
    · obtain ⟨d1, d2, d3⟩ := hI
      unfold b_X12_copy_139
      rw [show (30 : Int32) = nI 30 from rfl, pk_mul, nI_add, nI_add, nn_clamp (by omega), nn_clamp (by omega), n_le (by omega) (by omega), nI_1]
      refine zif_f (by omega) ⟨vp_in_nI (by omega) (by omega), vp_in_nI (by omega) (by omega), nm_b (hK _ ⟨d1, ?_, fun s => ?_⟩)⟩
      · rw [mJ2, if_neg (by omega)]; exact d2
      · rw [mJ2, if_pos rfl, updL_at, d2, c3 m hm, d3 s]
        by_cases e : s = 30 * t2 + j' + m
        · rw [if_pos e, if_pos (by omega), show s - (30 * t2 + j') = m by omega]
        · rw [if_neg e]
          by_cases e2 : 30 * t2 + j' ≤ s ∧ s < 30 * t2 + j' + m
          · rw [if_pos e2, if_pos (by omega)]
          · rw [if_neg e2, if_neg (by omega)]
    · obtain ⟨d1, d2, d3⟩ := hI
      unfold b_X12_copy_139
      exact zif_t (by rw [n_le (by omega) (by omega)]; omega) (P2' b' d1 d3)
theorem o_copy {μX μM : ZMem} (h : Rel0 μX μM) (a1 a2 a3 a4 a5 : Int32) : w_X11_copy a1 a2 a3 a4 a5 μX (fun r μX1 => w_X12_copy a1 a2 a3 a4 a5 μM (fun r2 μM1 => oS μX μM r r2 μX1 μM1)) := by
  have no : ¬ ((0 ≤ a1.toInt ∧ a1.toInt < 4) ∧ (0 ≤ a3.toInt ∧ a3.toInt < 4)) → w_X12_copy a1 a2 a3 a4 a5 μM (fun r2 μM1 => oS μX μM (-1) r2 μX μM1) := by
    intro hn
    unfold w_X12_copy
    refine m_isTray (fun k hk ek => z1p (m_isTray (fun k2 hk2 ek2 => absurd ?_ hn) (fun q => z0n (oS_0 h _)))) (fun q => z0p (oS_0 h _))
    rw [ek, ek2, nI_toInt (by omega), nI_toInt (by omega)]; omega
  unfold w_X11_copy
  refine e_isTray (fun t1 ht1 et1 => z1p (e_isTray (fun t2 ht2 et2 => z1n ?_) (fun hn => z0n (no (by omega))))) (fun hn => z0p (no (by omega)))
  subst et1 et2
  have v1 := vp_in_nI (n := t1) (N := 4) ht1 (by omega)
  have v2 := vp_in_nI (n := t2) (N := 4) ht2 (by omega)
  refine ⟨v1, v2, ?_⟩
  rw [nn_clamp (n := t1) (by omega), nn_clamp (n := t2) (by omega)]
  have hT := h.2.2.2.2
  refine e_nothing hT ht1 (fun q => z1n (m_copy hT ht1 ht2 (fun _ => oS_0 h _) (fun q1 => absurd q q1) (fun _ _ _ _ _ _ q1 => absurd q q1))) (fun q => z0n (e_nothing hT ht2 (fun q2 => z1p (m_copy hT ht1 ht2 (fun _ => oS_0 h _) (fun _ q1 => absurd q2 q1) (fun _ _ _ _ _ _ _ q1 => absurd q2 q1))) (fun q2 => z0p ?_)))
  obtain ⟨z1, z1l, x1, y1, s1, _, it1⟩ := hT t1 ht1
  obtain ⟨z2, z2l, x2, y2, s2, _, it2⟩ := hT t2 ht2
  rw [s1, s2]
  have no2 : ¬ (0 ≤ a5.toInt ∧ 0 ≤ a2.toInt ∧ 0 ≤ a4.toInt ∧ a2.toInt + a5.toInt ≤ z1 ∧ a4.toInt + a5.toInt ≤ z2) → μM.1 15 t1 = μM.1 15 t2 → w_X12_copy (nI t1) a2 (nI t2) a4 a5 μM (fun r2 μM1 => oS μX μM (-13) r2 μX μM1) := by
    intro hn q3
    refine m_copy hT ht1 ht2 (fun w => absurd w (fun w => w.elim q q2)) (fun _ _ q4 => absurd q3 q4) (fun z1' z2' w1 w2 w3 w4 _ _ _ => ⟨fun _ => oS_0 h _, fun i' j' n' ei ej en li lj => absurd ?_ hn⟩)
    have : z1' = z1 := by rw [y1] at w1; exact ((nI_eq (by omega) (by omega)).mp w1).symm
    have : z2' = z2 := by rw [y2] at w2; exact ((nI_eq (by omega) (by omega)).mp w2).symm
    subst ei ej en
    rw [nI_toInt (by omega), nI_toInt (by omega), nI_toInt (by omega)]
    omega
  refine zif (fun q3 => e_hasPart z1l x1 (fun p1 p2 p3 => z1p (e_hasPart z2l x2 (fun p4 p5 p6 => z1n ?_) (fun p => z0n (no2 (by omega) q3)))) (fun p => z0p (no2 (by omega) q3))) (fun q3 => m_copy hT ht1 ht2 (fun w => absurd w (fun w => w.elim q q2)) (fun _ _ _ => oS_0 h _) (fun _ _ _ _ _ _ _ _ q4 => absurd q4 q3))
  obtain ⟨n', n1, n2⟩ := nn_of (i := a5) (n := 30) (by omega) (by omega) (by omega)
  obtain ⟨i', i1, i2⟩ := nn_of (i := a2) (n := 30) (by omega) (by omega) (by omega)
  obtain ⟨j', j1, j2⟩ := nn_of (i := a4) (n := 30) (by omega) (by omega) (by omega)
  subst n2 i2 j2
  rw [nI_toInt (by omega), nI_toInt (by omega)] at p3 p6
  rw [i_lt0, i_lt0, i_lt0, nI_toInt (by omega), nI_toInt (by omega), nI_toInt (by omega), nn_clamp (by omega), nn_clamp (by omega), nn_clamp (by omega)]
  refine ⟨⟨by omega, by omega, by omega, by omega, by omega⟩, nm_b ?_⟩
  refine m_copy hT ht1 ht2 (fun w => absurd w (fun w => w.elim q q2)) (fun _ _ q4 => absurd q3 q4) (fun z1' z2' w1 w2 w3 w4 _ _ _ => ⟨fun hn => absurd ?_ hn, fun i2 j2 n2 ei ej en li lj μM' m1 m2 => ?_⟩)
  · have : z1' = z1 := by rw [y1] at w1; exact ((nI_eq (by omega) (by omega)).mp w1).symm
    have : z2' = z2 := by rw [y2] at w2; exact ((nI_eq (by omega) (by omega)).mp w2).symm
    rw [nI_toInt (by omega), nI_toInt (by omega), nI_toInt (by omega)]
    omega
  · have : z1' = z1 := by rw [y1] at w1; exact ((nI_eq (by omega) (by omega)).mp w1).symm
    have : z2' = z2 := by rw [y2] at w2; exact ((nI_eq (by omega) (by omega)).mp w2).symm
    have ei' : i' = i2 := (nI_eq (by omega) (by omega)).mp ei
    have ej' : j' = j2 := (nI_eq (by omega) (by omega)).mp ej
    have en' : n' = n2 := (nI_eq (by omega) (by omega)).mp en
    subst ei' ej' en'
    refine ⟨rfl, Rel0_trays h (fun a ha => ⟨rfl, ?_⟩) (fun a _ _ => by rw [m1]) (fun t' ht' => ?_)⟩
    · show (if a = 86 + 2 * t2 + 1 then _ else μX.2 a) = _
      rw [if_neg (by omega)]
    · obtain ⟨z, z1, z2, z3, z4, z5, z6⟩ := hT t' ht'
      rw [m1]
      refine ⟨z, z1, z2, z3, z4, z5, fun k hk => ?_⟩
      rw [m2, mcJ2]
      by_cases e : t' = t2
      · subst e
        rw [if_pos rfl]
        unfold va_cpy
        by_cases e2 : j' ≤ k ∧ k < j' + n'
        · rw [if_pos e2, if_pos (by omega), it1 _ (by omega), show 30 * t' + k - (30 * t' + j') = k - j' by omega, Nat.add_assoc]
        · rw [if_neg e2, if_neg (by omega)]; exact z6 k hk
      · rw [if_neg (by omega), if_neg (by omega)]; exact z6 k hk
