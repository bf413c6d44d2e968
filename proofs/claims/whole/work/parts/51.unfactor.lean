/-! unfactor -/
theorem e_drop {μ : ZMem} {n a : Nat} (hn : n ≤ 6) (ha : a < n) (h6 : μ.1 1 6 = nI n) {Φ : ZMem → Prop} (h : ∀ μ', μ'.2 = μ.2 → (∀ c, c ≠ 1 → c < 6 ∨ 11 < c → μ'.1 c = μ.1 c) → (∀ s, s ≠ 6 → μ'.1 1 s = μ.1 1 s) → μ'.1 1 6 = nI (n - 1) → (∀ t s, t < n - 1 → s < 3 → μ'.1 (6 + t) s = if t < a then μ.1 (6 + t) s else μ.1 (6 + (t + 1)) s) → Φ μ') : w_X3_dropFactor (nI a) μ Φ := by
  unfold w_X3_dropFactor
  refine nm_b ?_
  rw [h6, show (1 : Int32) = nI 1 from rfl, pk_sub (by omega)]
  refine ⟨(n - 1 - a) + 1, lp2_inv (n - 1) (fun i b => a ≤ i ∧ b.2 = μ.2 ∧ (∀ c, c ≠ 1 → c < 6 ∨ 11 < c → b.1 c = μ.1 c) ∧ (∀ s, s ≠ 6 → b.1 1 s = μ.1 1 s) ∧ b.1 1 6 = nI (n - 1) ∧ (∀ t s, t < n → s < 3 → b.1 (6 + t) s = if t < a ∨ i ≤ t then μ.1 (6 + t) s else μ.1 (6 + (t + 1)) s)) (fun i b K hi hI hK => ?_) (fun b K hI => ?_) (n - 1 - a) a _ (by omega) ⟨Nat.le_refl _, rfl, fun c h1 _ => ?_, fun s h1 => ?_, rfl, fun t s h1 h2 => ?_⟩⟩
  · obtain ⟨i1, i2, i3, i4, i5, i6⟩ := hI
    unfold b_X3_dropFactor_12
    rw [i5, n_le (by omega) (by omega), nI_1, nn_clamp (by omega), nn_clamp (by omega)]
    refine zif_f (by omega) ⟨vp_in_nI (by omega) (by omega), vp_in_nI (by omega) (by omega), ?_⟩
    unfold w_X2_become
    refine nm_b (nm_b (nm_b (hK _ ⟨by omega, i2, fun c h1 h2 => ?_, fun s h1 => ?_, ?_, fun t s h1 h2 => ?_⟩)))
    · rw [mI1, if_neg (by omega), mI1, if_neg (by omega), mI1, if_neg (by omega)]; exact i3 c h1 h2
    · rw [mI1, if_neg (by omega), mI1, if_neg (by omega), mI1, if_neg (by omega)]; exact i4 s h1
    · rw [mI1, if_neg (by omega), mI1, if_neg (by omega), mI1, if_neg (by omega)]; exact i5
    · by_cases e : t = i
      · subst e
        rw [if_neg (by omega), mI1, if_pos rfl, mI1, if_pos rfl, mI1, if_pos rfl]
        have q0 := i6 (t + 1) 0 (by omega) (by omega)
        have q1 := i6 (t + 1) 1 (by omega) (by omega)
        have q2 := i6 (t + 1) 2 (by omega) (by omega)
        rw [if_pos (by omega)] at q0 q1 q2
        simp only [upd_at]
        have : s = 0 ∨ s = 1 ∨ s = 2 := by omega
        rcases this with rfl | rfl | rfl
        · rw [if_neg (by omega), if_neg (by omega), if_pos rfl]; exact q0
        · rw [if_neg (by omega), if_pos rfl]; exact q1
        · rw [if_pos rfl]; exact q2
      · rw [mI1, if_neg (by omega), mI1, if_neg (by omega), mI1, if_neg (by omega), i6 t s h1 h2]
        by_cases e2 : t < a ∨ i ≤ t
        · rw [if_pos e2, if_pos (by omega)]
        · rw [if_neg e2, if_neg (by omega)]
  · obtain ⟨i1, i2, i3, i4, i5, i6⟩ := hI
    unfold b_X3_dropFactor_12
    rw [i5]
    refine zif_t (by rw [n_le (by omega) (by omega)]; omega) (h b i2 i3 i4 i5 (fun t s h1 h2 => ?_))
    rw [i6 t s (by omega) h2]
    by_cases e2 : t < a
    · rw [if_pos e2, if_pos (Or.inl e2)]
    · rw [if_neg e2, if_neg (by omega)]
  · rw [mI1, if_neg h1]
  · rw [mI1, if_pos rfl, upd_at, if_neg h1]
  · rw [mI1, if_neg (by omega), if_pos (by omega)]
theorem m_unfactor {μ : ZMem} {n a : Nat} (hn : n ≤ 6) (ha : a < n) (h32 : μ.1 1 32 = nI n) {Φ : Int32 → ZMem → Prop} (h : ∀ g, (∀ s, s < 32 → g s = μ.1 1 s) → g 32 = nI (n - 1) → (∀ t s, t < n - 1 → s = 33 ∨ s = 39 ∨ s = 45 → g (s + t) = if t < a then μ.1 1 (s + t) else μ.1 1 (s + (t + 1))) → Φ (nI (n - 1)) (stI μ 1 g)) : w_X12_unfactor (nI a) μ Φ := by
  unfold w_X12_unfactor w_X12_isFactor
  refine m_in_k (fun _ _ => ⟨Or.inr rfl, z1n (nm_b ?_)⟩) (fun q => absurd ?_ q)
  · rw [h32, show (1 : Int32) = nI 1 from rfl, pk_sub (by omega), upI_st]
    refine ⟨(n - 1 - a) + 1, lp2_inv (n - 1) (fun i b => a ≤ i ∧ ∃ g, b = stI μ 1 g ∧ (∀ s, s < 32 → g s = μ.1 1 s) ∧ g 32 = nI (n - 1) ∧ (∀ t s, t < n → s = 33 ∨ s = 39 ∨ s = 45 → g (s + t) = if t < a ∨ i ≤ t then μ.1 1 (s + t) else μ.1 1 (s + (t + 1)))) (fun i b K hi hI hK => ?_) (fun b K hI => ?_) (n - 1 - a) a _ (by omega) ⟨Nat.le_refl _, _, rfl, fun s h1 => ?_, ?_, fun t s h1 h2 => ?_⟩⟩
    · obtain ⟨i1, g, rfl, g1, g2, g3⟩ := hI
      unfold b_X12_unfactor_23
      have e32 : (stI μ 1 g).1 1 32 = nI (n - 1) := g2
      rw [e32, n_le (by omega) (by omega), show (33 : Int32) = nI 33 from rfl, show (39 : Int32) = nI 39 from rfl, show (45 : Int32) = nI 45 from rfl, nI_add, nI_add, nI_add, nI_1, nI_1, nI_1, nI_1, nn_clamp (by omega), nn_clamp (by omega), nn_clamp (by omega), nn_clamp (by omega), nn_clamp (by omega), nn_clamp (by omega)]
      refine zif_f (by omega) ⟨vp_in_nI (by omega) (by omega), vp_in_nI (by omega) (by omega), nm_b ⟨vp_in_nI (by omega) (by omega), vp_in_nI (by omega) (by omega), nm_b ⟨vp_in_nI (by omega) (by omega), vp_in_nI (by omega) (by omega), nm_b ?_⟩⟩⟩
      rw [upI_st (stI μ 1 g), upI_st, upI_st]
      simp only [stI_stI]
      have r1 := g3 (i + 1) 33 (by omega) (by omega)
      have r2 := g3 (i + 1) 39 (by omega) (by omega)
      have r3 := g3 (i + 1) 45 (by omega) (by omega)
      rw [if_pos (by omega)] at r1 r2 r3
      have v2 : upd g (33 + i) (g (33 + i + 1)) (39 + i + 1) = g (39 + i + 1) := by rw [upd_at, if_neg (by omega)]
      have v3 : upd (upd g (33 + i) (g (33 + i + 1))) (39 + i) (g (39 + i + 1)) (45 + i + 1) = g (45 + i + 1) := by rw [upd_at, if_neg (by omega), upd_at, if_neg (by omega)]
      refine hK _ ⟨by omega, upd (upd (upd g (33 + i) (g (33 + i + 1))) (39 + i) (g (39 + i + 1))) (45 + i) (g (45 + i + 1)), ?_, fun s h1 => ?_, ?_, fun t s h1 h2 => ?_⟩
      · have ee : ∀ f, (stI μ 1 f).1 1 = f := fun _ => rfl
        simp only [ee, v2, v3]
      · rw [upd_at, if_neg (by omega), upd_at, if_neg (by omega), upd_at, if_neg (by omega)]; exact g1 s h1
      · rw [upd_at, if_neg (by omega), upd_at, if_neg (by omega), upd_at, if_neg (by omega)]; exact g2
      · have g3' := g3 t s h1 h2
        by_cases e : t = i
        · subst e
          rw [if_neg (by omega)]
          rcases h2 with rfl | rfl | rfl
          · rw [upd_at, if_neg (by omega), upd_at, if_neg (by omega), upd_at, if_pos rfl]; exact r1
          · rw [upd_at, if_neg (by omega), upd_at, if_pos rfl]; exact r2
          · rw [upd_at, if_pos rfl]; exact r3
        · rw [upd_at, if_neg (by omega), upd_at, if_neg (by omega), upd_at, if_neg (by omega), g3']
          by_cases e2 : t < a ∨ i ≤ t
          · rw [if_pos e2, if_pos (by omega)]
          · rw [if_neg e2, if_neg (by omega)]
    · obtain ⟨i1, g, rfl, g1, g2, g3⟩ := hI
      unfold b_X12_unfactor_23
      have e32 : (stI μ 1 g).1 1 32 = nI (n - 1) := g2
      rw [e32]
      refine zif_t (by rw [n_le (by omega) (by omega)]; omega) (h g g1 g2 (fun t s h1 h2 => ?_))
      rw [g3 t s (by omega) h2]
      by_cases e2 : t < a
      · rw [if_pos e2, if_pos (Or.inl e2)]
      · rw [if_neg e2, if_neg (by omega)]
    · rw [upd_at, if_neg (by omega)]
    · rw [upd_at, if_pos rfl]
    · rw [upd_at, if_neg (by omega), if_pos (by omega)]
  · rw [il_toInt, il_toInt, h32, nI_toInt (by omega), hd_toInt (by omega)]; exact ⟨by show (0 : Int) ≤ _; omega, by omega⟩
theorem m_noFactor {μ : ZMem} {n : Nat} {a1 : Int32} (hn : n ≤ 6) (h32 : μ.1 1 32 = nI n) (ha : ¬ (0 ≤ a1.toInt ∧ a1.toInt < n)) {Φ : Int32 → Prop} (h : Φ 0) : w_X12_isFactor a1 μ Φ := by
  unfold w_X12_isFactor
  refine m_in_k (fun q1 q2 => absurd ⟨?_, ?_⟩ ha) (fun q => ⟨Or.inl rfl, h⟩)
  · rw [il_toInt] at q1; exact q1
  · rw [il_toInt, il_toInt, h32, hd_toInt (by omega)] at q2; omega
theorem o_unfactor {μX μM : ZMem} (h : Rel0 μX μM) (a1 : Int32) : w_X11_unfactor a1 μX (fun r μX1 => w_X12_unfactor a1 μM (fun r2 μM1 => oS μX μM r r2 μX1 μM1)) := by
  obtain ⟨n, hB⟩ := fB_of h.1
  obtain ⟨b1, b2, b3, b4⟩ := hB
  have no : ¬ (0 ≤ a1.toInt ∧ a1.toInt < n) → w_X12_unfactor a1 μM (fun r2 μM1 => oS μX μM (-1) r2 μX μM1) := by
    intro hn
    unfold w_X12_unfactor
    exact m_noFactor b3 b2 hn (z0n (oS_0 h _))
  unfold w_X11_unfactor
  rw [b1, i_lt, i_lt, nI_toInt (by omega), show (0 : Int32).toInt = 0 from rfl]
  refine zif (fun q => no (by omega)) (fun q => zif (fun q2 => ?_) (fun q2 => no (by omega)))
  obtain ⟨a, a1', a2⟩ := nn_of (i := a1) (n := 6) (by omega) (by omega) (by omega)
  subst a2
  rw [nI_toInt (by omega)] at q2
  refine e_drop b3 (by omega) b1 (fun μ' p1 p2 p3 p4 p5 => ?_)
  rw [p4]
  refine m_unfactor b3 (by omega) b2 (fun g g1 g2 g3 => ?_)
  refine ⟨rfl, Rel0_facs (n := n - 1) h p2 p1 (p3 2 (by omega)) (p3 4 (by omega)) (fun a q => if_neg q) rfl (by omega) p4 g1 g2 (fun i hi => ?_)⟩
  rw [p5 i 0 hi (by omega), p5 i 1 hi (by omega), p5 i 2 hi (by omega)]
  show _ = g (33 + i) ∧ _ = g (39 + i) ∧ _ = g (45 + i) ∧ _
  rw [g3 i 33 hi (by omega), g3 i 39 hi (by omega), g3 i 45 hi (by omega)]
  by_cases e : i < a
  · simp only [if_pos e]; exact b4 i (by omega)
  · simp only [if_neg e]; exact b4 (i + 1) (by omega)
