/-! links, link, chain, real -/
theorem Rel0_C {μX μM μX' μM' : ZMem} (h : Rel0 μX μM) (hX : XC μX μX') (hM : MC μM μM') : Rel0 μX' μM' ∧ rC μX μX' := by
  have hx : ∀ a, (a < 40 ∨ 49 < a) → a ≠ 85 → μX'.1 a = μX.1 a ∧ μX'.2 a = μX.2 a := fun a ha h5 => ⟨hX.1 a (by omega), hX.2 a h5 (by omega)⟩
  refine ⟨⟨now_fr h.1 (fun a q1 q2 => hx a (by omega) (by omega)) (hM.1 1 (by omega)), kept_fr h.2.1 (fun a q1 q2 => hx a (by omega) (by omega)) (hM.1 2 (by omega)), ?_, tape_fr h.2.2.2.1 (by rw [(hx 23 (by omega) (by omega)).1]) (hx 24 (by omega) (by omega)).1 (hM.2.1 22 (by omega) (by omega) (by omega)) (hM.1 13 (by omega)), trays_fr h.2.2.2.2 (fun a q1 q2 => hx a (by omega) (by omega)) (hM.1 15 (by omega)) (hM.1 16 (by omega)) (hM.2.2 17 (by omega) (by omega) (by omega))⟩, Or.inl ⟨fun a q1 q2 => hx a (by omega) (by omega), (hx 2 (by omega) (by omega)).2, (hx 3 (by omega) (by omega)).2⟩⟩
  unfold rFlags
  rw [(hx 0 (by omega) (by omega)).1, hM.2.1 2 (by omega) (by omega) (by omega), hM.2.1 3 (by omega) (by omega) (by omega)]
  exact h.2.2.1
theorem e_cur1 {μX μM : ZMem} (h : rNow μX μM) (hd : ¬ 2 ≤ dg (cNow μM)) {Ψ : Int32 → ZMem → Prop} (h0 : ∀ μ', XC μX μ' → Ψ 0 μ') : w_X11_currentC μX (fun r μ2 => SX[r]? = some (2, 7, []) ∧ (w_X0_build r 7 μ2 Ψ)) :=
  e_currentC (rNow_mix h) (fun μ1 p1 p2 p3 => ⟨rfl, e_build1 p3 hd (fun μ' x => h0 μ' ⟨fun a ha => by rw [x.1 a ha, p1], fun a h5 ha => by rw [x.2 a h5 ha, p2 a h5]⟩)⟩)
theorem e_cur2 {μX μM : ZMem} (h : rNow μX μM) (hd : 2 ≤ dg (cNow μM)) {o : Nat} (ho : chS (cNow μM) o) {Ψ : Int32 → ZMem → Prop} (h0 : ∀ μ', XC μX μ' → chX (cNow μM) o μ' → Ψ 1 μ') : w_X11_currentC μX (fun r μ2 => SX[r]? = some (2, 7, []) ∧ (w_X0_build r 7 μ2 Ψ)) :=
  e_currentC (rNow_mix h) (fun μ1 p1 p2 p3 => ⟨rfl, e_build2 p3 (rNow_bd h) hd ho (fun μ' x c => h0 μ' ⟨fun a ha => by rw [x.1 a ha, p1], fun a h5 ha => by rw [x.2 a h5 ha, p2 a h5]⟩ c)⟩)
theorem m_lays1 {μX μM : ZMem} (hd : ¬ 2 ≤ dg (cNow μM)) {Φ : Int32 → ZMem → Prop} (h0 : ∀ μ', MC μM μ' → Φ (-2) μ') : w_X12_laysChain μM Φ := m_laysChain1 (fun _ _ => rfl) hd h0
theorem m_lays2 {μX μM : ZMem} (h : rNow μX μM) (hd : 2 ≤ dg (cNow μM)) {o : Nat} (ho : chS (cNow μM) o) {Φ : Int32 → ZMem → Prop} (h0 : ∀ μ', MC μM μ' → chM (cNow μM) o μ' → (μ'.1 0 4 = 0 → Φ 0 μ') ∧ (¬ μ'.1 0 4 = 0 → Φ (-7) μ')) : w_X12_laysChain μM Φ := m_laysChain2 (fun _ _ => rfl) (rNow_bd h) hd ho h0
theorem lk_all {C : Nat → Int64} (h : bd C 200000) (h2 : 2 ≤ dg C) {o : Nat} (ho : chS C o) (i : Nat) (hi : i < o + 2) : noM (LK C i) ∧ 1 ≤ dg (LK C i) := by
  obtain ⟨o1, o2, _⟩ := ho
  by_cases e : i ≤ o
  · obtain ⟨a1, a2, a3, a4, a5⟩ := lk_ok h h2 i (fun k hk => o2 k (by omega))
    exact ⟨a1, by omega⟩
  · obtain ⟨a1, a2, a3, a4, a5⟩ := lk_ok h h2 o o2
    rw [show i = o + 1 by omega]
    exact ⟨a2, a3⟩
theorem fl_of {C : Nat → Int64} {o : Nat} {μ : ZMem} (h : chM C o μ) (q : ∃ r, rmK C o = some r) : μ.1 0 4 = 0 := by
  rcases h.2.1 with ⟨z, _⟩ | ⟨_, z⟩
  · obtain ⟨r, hr⟩ := q
    rw [hr] at z; cases z
  · exact z
theorem fl_no {C : Nat → Int64} {o : Nat} {μ : ZMem} (h : chM C o μ) (q : rmK C o = none) : ¬ μ.1 0 4 = 0 := by
  rcases h.2.1 with ⟨_, z⟩ | ⟨⟨r, hr⟩, _⟩
  · rw [z]; decide
  · rw [q] at hr; cases hr
theorem z_links {μX μM : ZMem} (h : Rel μX μM) : w_X11_links μX (fun r μX1 => w_X12_links μM (fun r2 μM1 => r = r2 ∧ Rel μX1 μM1)) := by
  have fin : ∀ {r r2 : Int32} {μX1 μM1 : ZMem}, r = r2 → XC μX μX1 → MC μM μM1 → r = r2 ∧ Rel μX1 μM1 := fun e hx hm => ⟨e, (Rel0_C h.1 hx hm).1, rSv_C h.2 (Rel0_C h.1 hx hm).2⟩
  unfold w_X11_links
  by_cases hd : 2 ≤ dg (cNow μM)
  · obtain ⟨o, ho⟩ := ch_ex (rNow_bd h.1.1) hd
    refine e_cur2 h.1.1 hd ho (fun μX1 x1 c1 => z1n ?_)
    rcases c1.2.1 with ⟨hr, f⟩ | ⟨hr, f⟩
    · refine zif_f (by rw [f]; decide) ?_
      unfold w_X12_links
      refine m_lays2 h.1.1 hd ho (fun μM1 m1 d1 => zif_f (fl_no d1 hr) (zif_f (by decide) (fin rfl x1 m1)))
    · refine zif_t f ?_
      unfold w_X12_links
      refine m_lays2 h.1.1 hd ho (fun μM1 m1 d1 => zif_t (fl_of d1 hr) (zif_t (by decide) (fin (by rw [c1.1, d1.1]) x1 m1)))
  · refine e_cur1 h.1.1 hd (fun μX1 x1 => z0n ?_)
    unfold w_X12_links
    exact m_lays1 (μX := μX) hd (fun μM1 m1 => zif_f (by decide) (fin rfl x1 m1))
theorem z_link {μX μM : ZMem} (h : Rel μX μM) (a1 a2 : Int32) : w_X11_link a1 a2 μX (fun r μX1 => w_X12_link a1 a2 μM (fun r2 μM1 => r = r2 ∧ Rel μX1 μM1)) := by
  have fin : ∀ {r r2 : Int64} {μX1 μM1 : ZMem}, r = r2 → XC μX μX1 → MC μM μM1 → r = r2 ∧ Rel μX1 μM1 := fun e hx hm => ⟨e, (Rel0_C h.1 hx hm).1, rSv_C h.2 (Rel0_C h.1 hx hm).2⟩
  unfold w_X11_link
  by_cases hd : 2 ≤ dg (cNow μM)
  · obtain ⟨o, ho⟩ := ch_ex (rNow_bd h.1.1) hd
    have o5 := ho.1
    refine e_cur2 h.1.1 hd ho (fun μX1 x1 c1 => z1p ?_)
    rcases c1.2.1 with ⟨hr, f⟩ | ⟨hr, f⟩
    · refine zif_f (by rw [f]; decide) ?_
      unfold w_X12_link
      refine m_lays2 h.1.1 hd ho (fun μM1 m1 d1 => zif_f (fl_no d1 hr) (zif_t (by decide) (fin rfl x1 m1)))
    · refine zif_t f ?_
      have back : ∀ Φ : Int64 → ZMem → Prop, (∀ μM1, MC μM μM1 → (¬ ((0 ≤ a1.toInt ∧ a1.toInt < o + 2) ∧ (0 ≤ a2.toInt ∧ a2.toInt < 7)) → Φ (-9223372036854775808) μM1) ∧ ∀ i j, i < o + 2 → j < 7 → a1 = nI i → a2 = nI j → Φ (LK (cNow μM) i j) μM1) → w_X12_link a1 a2 μM Φ := by
        intro Φ hΦ
        unfold w_X12_link
        refine m_lays2 h.1.1 hd ho (fun μM1 m1 d1 => zif_t (fl_of d1 hr) (zif_f (by decide) ?_))
        obtain ⟨g0, g1⟩ := hΦ μM1 m1
        rw [d1.1]
        refine m_in_k (fun q1 q2 => z1p ?_) (fun q => z0p (g0 (fun z => q ?_)))
        · rw [il_toInt] at q1
          rw [il_toInt, il_toInt, hd_toInt2 (by omega)] at q2
          have q1' : (0 : Int) ≤ a1.toInt := q1
          refine m_isPower (fun j hj ej => z1n ?_) (fun q => z0n (g0 (fun z => q ?_)))
          · obtain ⟨i, i1, i2⟩ := nn_of (i := a1) (n := 7) (by omega) (by omega) (by omega)
            subst i2 ej
            rw [nI_toInt (by omega)] at q2
            rw [show (7 : Int32) = nI 7 from rfl, pk_mul, nI_add, nn_clamp (by omega), d1.2.2 i (by omega) j hj]
            exact ⟨vp_in_nI (by omega) (by omega), g1 i j (by omega) hj rfl rfl⟩
          · exact z.2
        · rw [il_toInt, il_toInt, hd_toInt2 (by omega)]
          exact ⟨z.1.1, by omega⟩
      have no : ¬ ((0 ≤ a1.toInt ∧ a1.toInt < o + 2) ∧ (0 ≤ a2.toInt ∧ a2.toInt < 7)) → w_X12_link a1 a2 μM (fun r2 μM1 => (-9223372036854775808 : Int64) = r2 ∧ Rel μX1 μM1) := by
        intro hn
        refine back _ (fun μM1 m1 => ⟨fun _ => fin rfl x1 m1, fun i j hi hj ei ej => absurd ?_ hn⟩)
        rw [ei, ej, nI_toInt (by omega), nI_toInt (by omega)]; omega
      rw [i_lt0, c1.1, i_le, nI_toInt (by omega)]
      refine zif (fun q => no (by omega)) (fun q => zif (fun q2 => no (by omega)) (fun q2 => e_isPower (fun j hj ej => z1n ?_) (fun q3 => z0n (no (fun z => q3 z.2)))))
      obtain ⟨i, i1, i2⟩ := nn_of (i := a1) (n := 7) (by omega) (by omega) (by omega)
      subst i2 ej
      rw [nI_toInt (by omega)] at q2
      unfold w_X0_coefficient
      rw [nn_clamp (by omega), nn_clamp (by omega), c1.2.2 i (by omega) j hj]
      refine ⟨vp_in_nI (by omega) (by omega), vp_in_nI (by omega) (by omega), back _ (fun μM1 m1 => ⟨fun hn => absurd ?_ hn, fun i' j' hi' hj' ei ej => ?_⟩)⟩
      · rw [nI_toInt (by omega), nI_toInt (by omega)]; omega
      · have e1 : i = i' := (nI_eq (by omega) (by omega)).mp ei
        have e2 : j = j' := (nI_eq (by omega) (by omega)).mp ej
        rw [← e1, ← e2]
        exact fin rfl x1 m1
  · refine e_cur1 h.1.1 hd (fun μX1 x1 => z0p ?_)
    unfold w_X12_link
    exact m_lays1 (μX := μX) hd (fun μM1 m1 => zif_t (by decide) (fin rfl x1 m1))
theorem e_chAt {μX1 : ZMem} {C : Nat → Int64} (hb : bd C 200000) (h2 : 2 ≤ dg C) {o : Nat} (ho : chS C o) (c1 : chX C o μX1) {x : Int32} {Φ : Int32 → Prop} (hY : (∃ q, rmK C o = some q) → (∀ i, i < o + 2 → vAt C x i ≠ none) → Φ (nI (cgN (vGt C x) (o + 2)).1)) (hN : ¬ ((∃ q, rmK C o = some q) ∧ ∀ i, i < o + 2 → vAt C x i ≠ none) → Φ (-7)) : w_X0_changesAt x μX1 Φ := by
  have o5 := ho.1
  rcases c1.2.1 with ⟨hr, f⟩ | ⟨hr, f⟩
  · unfold w_X0_changesAt
    refine nm_b ⟨1, ?_⟩
    rw [lpz3]
    dsimp only
    unfold b_X0_changesAt_7
    rw [c1.1, show (0 : Int32) = nI 0 from rfl, n_le (by omega) (by omega)]
    refine zif_f (by omega) (zifn_f (by rw [f]; decide) (zif_f (by rw [f]; decide) (hN (fun z => ?_))))
    obtain ⟨q, hq⟩ := z.1
    rw [hr] at hq; cases hq
  · exact e_changesAt (by omega) c1.1 f (fun i hi j hj => ⟨c1.2.2 i hi j hj, (lk_all hb h2 ho i hi).1 j hj⟩) (fun i hi => (lk_all hb h2 ho i hi).2) (fun ok => hY hr ok) (fun nok => hN (fun z => nok z.2))
theorem MC_flag {μ b c : ZMem} (h : MC μ b) (h1 : ∀ a t, ¬ (a = 0 ∧ t = 4) → c.1 a t = b.1 a t) (h2 : c.2 = b.2) : MC μ c := ⟨fun a ha => funext fun t => by rw [h1 a t (fun z => ha z.1), h.1 a ha], fun t q1 q2 q3 => by rw [h1 0 t (fun z => q1 z.2)]; exact h.2.1 t q1 q2 q3, fun a q1 q2 q3 => by rw [h2]; exact h.2.2 a q1 q2 q3⟩
theorem z_chain {μX μM : ZMem} (h : Rel μX μM) (a1 : Int32) : w_X11_chain a1 μX (fun r μX1 => w_X12_chain a1 μM (fun r2 μM1 => r = r2 ∧ Rel μX1 μM1)) := by
  have fin : ∀ {r r2 : Int32} {μX1 μM1 : ZMem}, r = r2 → XC μX μX1 → MC μM μM1 → r = r2 ∧ Rel μX1 μM1 := fun e hx hm => ⟨e, (Rel0_C h.1 hx hm).1, rSv_C h.2 (Rel0_C h.1 hx hm).2⟩
  have hb := rNow_bd h.1.1
  unfold w_X11_chain
  refine e_far (fun q1 q2 => z1p ?_) (fun q => z0p ?_)
  · by_cases hd : 2 ≤ dg (cNow μM)
    · obtain ⟨o, ho⟩ := ch_ex hb hd
      have o5 := ho.1
      refine e_cur2 h.1.1 hd ho (fun μX1 x1 c1 => z1n ?_)
      have back : ∀ r : Int32, ((∃ q, rmK (cNow μM) o = some q) → (∀ i, i < o + 2 → vAt (cNow μM) a1 i ≠ none) → r = nI (cgN (vGt (cNow μM) a1) (o + 2)).1) → (¬ ((∃ q, rmK (cNow μM) o = some q) ∧ ∀ i, i < o + 2 → vAt (cNow μM) a1 i ≠ none) → r = -7) → w_X12_chain a1 μM (fun r2 μM1 => r = r2 ∧ Rel μX1 μM1) := by
        intro r hy hn
        unfold w_X12_chain
        refine m_isFar (fun _ _ => nm_b (z1p (m_lays2 h.1.1 hd ho (fun μM1 m1 d1 => ?_)))) (fun q => absurd ⟨q1, q2⟩ q)
        refine zif (fun f => zif_t (by decide) ?_) (fun f => zif_f (by decide) (fin (hn (fun z => f (fl_of d1 z.1))) x1 m1))
        have hr : ∃ q, rmK (cNow μM) o = some q := by
          rcases d1.2.1 with ⟨_, z⟩ | ⟨z, _⟩
          · rw [z] at f; exact absurd f (by decide)
          · exact z
        refine m_changesAt (P := True) (by omega) d1.1 (Or.inl ⟨f, trivial⟩) d1.2.2 (fun i hi => (lk_all hb hd ho i hi).2) (fun v b b1 b2 b3 b4 => ?_)
        have mb := MC_flag m1 b1 b2
        refine zif (fun g => ?_) (fun g => fin (hn (fun z => g ((FL_0 b3).mpr ⟨trivial, z.2⟩))) x1 mb)
        have ok := ((FL_0 b3).mp g).2
        exact fin (by rw [b4 ok]; exact hy hr ok) x1 mb
      exact e_chAt hb hd ho c1 (fun hr ok => back _ (fun _ _ => rfl) (fun z => absurd ⟨hr, ok⟩ z)) (fun nok => back _ (fun hr ok => absurd ⟨hr, ok⟩ nok) (fun _ => rfl))
    · refine e_cur1 h.1.1 hd (fun μX1 x1 => z0n ?_)
      unfold w_X12_chain
      exact m_isFar (fun _ _ => nm_b (z1p (m_lays1 (μX := μX) hd (fun μM1 m1 => zif_f (by decide) (fin rfl x1 m1))))) (fun q => absurd ⟨q1, q2⟩ q)
  · unfold w_X12_chain
    exact m_isFar (fun q1 q2 => absurd ⟨q1, q2⟩ q) (fun _ => nm_b (z0p (zif_f (by decide) ⟨rfl, h⟩)))
theorem z_real {μX μM : ZMem} (h : Rel μX μM) (a1 a2 : Int32) : w_X11_real a1 a2 μX (fun r μX1 => w_X12_real a1 a2 μM (fun r2 μM1 => r = r2 ∧ Rel μX1 μM1)) := by
  have fin : ∀ {r r2 : Int32} {μX1 μM1 : ZMem}, r = r2 → XC μX μX1 → MC μM μM1 → r = r2 ∧ Rel μX1 μM1 := fun e hx hm => ⟨e, (Rel0_C h.1 hx hm).1, rSv_C h.2 (Rel0_C h.1 hx hm).2⟩
  have hb := rNow_bd h.1.1
  have no : ¬ ((-20 ≤ a1.toInt ∧ a1.toInt ≤ 20) ∧ (-20 ≤ a2.toInt ∧ a2.toInt ≤ 20) ∧ a1.toInt < a2.toInt) → w_X12_real a1 a2 μM (fun r2 μM1 => (-2 : Int32) = r2 ∧ Rel μX μM1) := by
    intro hn
    unfold w_X12_real
    have out : (0 : Int32) ≤ -2 → False := by decide
    refine m_isFar (fun q1 q2 => nm_b (nm_b (z1p (m_isFar (fun q3 q4 => z1p (zif (fun _ => zif_f (by decide) ⟨rfl, h⟩) (fun q5 => absurd ?_ hn))) (fun _ => z0p (zif_f (by decide) ⟨rfl, h⟩)))))) (fun _ => nm_b (nm_b (z0p (zif_f (by decide) ⟨rfl, h⟩))))
    rw [i_le] at q5
    omega
  unfold w_X11_real
  refine e_far (fun q1 q2 => z1p (e_far (fun q3 q4 => z1p ?_) (fun q => z0p (no (by omega))))) (fun q => z0p (no (by omega)))
  rw [i_lt]
  refine zif (fun q5 => ?_) (fun q5 => no (by omega))
  have front : ∀ Φ : Int32 → ZMem → Prop, w_X12_laysChain μM (fun (r_14 : Int32) (μ_15 : ZMem) => (0 ≤ r_14 → w_X12_changesAt a1 μ_15 (fun (r_6 : Int32) (μ_7 : ZMem) => w_X12_changesAt a2 μ_7 (fun (r_8 : Int32) (μ_9 : ZMem) => nm (((r_6 - r_8) + 100)) (fun (v4_10 : Int32) => ((μ_9.1 0 4) = 0 → Φ v4_10 μ_9) ∧ (¬ (μ_9.1 0 4) = 0 → Φ (-7) μ_9))))) ∧ (¬ 0 ≤ r_14 → Φ r_14 μ_15)) → w_X12_real a1 a2 μM Φ := by
    intro Φ g
    unfold w_X12_real
    refine m_isFar (fun _ _ => nm_b (nm_b (z1p (m_isFar (fun _ _ => z1p (zif_f (by rw [i_le]; omega) g)) (fun q => absurd ⟨q3, q4⟩ q))))) (fun q => absurd ⟨q1, q2⟩ q)
  by_cases hd : 2 ≤ dg (cNow μM)
  · obtain ⟨o, ho⟩ := ch_ex hb hd
    have o5 := ho.1
    refine e_cur2 h.1.1 hd ho (fun μX1 x1 c1 => z1n ?_)
    have l1 := cgN_le (vGt (cNow μM) a1) (o + 2)
    have l2 := cgN_le (vGt (cNow μM) a2) (o + 2)
    have back : ∀ r : Int32, ((∃ q, rmK (cNow μM) o = some q) → (∀ i, i < o + 2 → vAt (cNow μM) a1 i ≠ none) → (∀ i, i < o + 2 → vAt (cNow μM) a2 i ≠ none) → r = nI (cgN (vGt (cNow μM) a1) (o + 2)).1 - nI (cgN (vGt (cNow μM) a2) (o + 2)).1 + 100) → (¬ ((∃ q, rmK (cNow μM) o = some q) ∧ (∀ i, i < o + 2 → vAt (cNow μM) a1 i ≠ none) ∧ ∀ i, i < o + 2 → vAt (cNow μM) a2 i ≠ none) → r = -7) → w_X12_real a1 a2 μM (fun r2 μM1 => r = r2 ∧ Rel μX1 μM1) := by
      intro r hy hn
      refine front _ (m_lays2 h.1.1 hd ho (fun μM1 m1 d1 => ?_))
      refine zif (fun f => zif_t (by decide) ?_) (fun f => zif_f (by decide) (fin (hn (fun z => f (fl_of d1 z.1))) x1 m1))
      have hr : ∃ q, rmK (cNow μM) o = some q := by
        rcases d1.2.1 with ⟨_, z⟩ | ⟨z, _⟩
        · rw [z] at f; exact absurd f (by decide)
        · exact z
      refine m_changesAt (P := True) (by omega) d1.1 (Or.inl ⟨f, trivial⟩) d1.2.2 (fun i hi => (lk_all hb hd ho i hi).2) (fun v b b1 b2 b3 b4 => ?_)
      have mb := MC_flag m1 b1 b2
      refine m_changesAt (s := o + 2) (C := cNow μM) (by omega) (by rw [b1 0 19 (by omega)]; exact d1.1) b3 (fun i hi j hj => by rw [b2]; exact d1.2.2 i hi j hj) (fun i hi => (lk_all hb hd ho i hi).2) (fun w c c1' c2' c3' c4' => nm_b ?_)
      have mc := MC_flag mb c1' c2'
      refine zif (fun g => ?_) (fun g => fin (hn (fun z => g ((FL_0 c3').mpr ⟨⟨trivial, z.2.1⟩, z.2.2⟩))) x1 mc)
      have ok := (FL_0 c3').mp g
      exact fin (by rw [b4 ok.1.2, c4' ok.2]; exact hy hr ok.1.2 ok.2) x1 mc
    have n7 : ∀ n, n ≤ o + 2 → ¬ nI n = -7 := fun n hn q => by
      have := congrArg Int32.toInt q
      rw [nI_toInt (by omega), show (-7 : Int32).toInt = -7 from rfl] at this
      omega
    refine e_chAt hb hd ho c1 (fun hr ok1 => e_chAt hb hd ho c1 (fun _ ok2 => zif_f (n7 _ l1) (zifn_f (n7 _ l2) (back _ (fun _ _ _ => rfl) (fun z => absurd ⟨hr, ok1, ok2⟩ z)))) (fun nok => zif_f (n7 _ l1) (zifn_t rfl (back _ (fun _ _ ok2 => absurd ⟨hr, ok2⟩ nok) (fun _ => rfl))))) (fun nok => e_chAt hb hd ho c1 (fun hr ok2 => zif_t rfl (back _ (fun hr ok1 _ => absurd ⟨hr, ok1⟩ nok) (fun _ => rfl))) (fun _ => zif_t rfl (back _ (fun hr ok1 _ => absurd ⟨hr, ok1⟩ nok) (fun _ => rfl))))
  · refine e_cur1 h.1.1 hd (fun μX1 x1 => z0n ?_)
    exact front _ (m_lays1 (μX := μX) hd (fun μM1 m1 => zif_f (by decide) (fin rfl x1 m1)))
