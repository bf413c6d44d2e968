/-! roots, strip, reach -/
theorem q_roots {μX μM : ZMem} (hR : rNow μX μM) (a1 a2 : Int32) : w_X11_roots a1 a2 μX (fun r μX1 => w_X12_roots a1 a2 μM (fun r2 μM1 => qS μX μM r r2 μX1 μM1)) := by
  unfold w_X11_roots
  refine e_isForm (fun hF => z1p ?_) (fun hF => z0p ?_)
  · have no : ¬ (0 ≤ a2.toInt ∧ a2.toInt ≤ 4) → w_X12_roots a1 a2 μM (fun r2 μM1 => qS μX μM (-2) r2 μX μM1) := by
      intro hn
      unfold w_X12_roots
      refine m_isForm (fun _ => z1p (m_in_k (fun q1 q2 => absurd ⟨?_, ?_⟩ hn) (fun _ => z0n (qS_0 μX μM _)))) (fun q => absurd hF q)
      · rw [il_toInt] at q1; exact q1
      · rw [il_toInt] at q2; exact q2
    rw [i_lt, i_le, show (0 : Int32).toInt = 0 from rfl, show (4 : Int32).toInt = 4 from rfl]
    refine zif (fun q => no (by omega)) (fun q => zif (fun q2 => ?_) (fun q2 => no (by omega)))
    refine e_tableOf hF (rNow_bd hR) (rNow_mix hR) (fun μX1 sX tX => ⟨zT_28, ?_⟩)
    have hM : ∀ Ψ : ZMem → Prop, (∀ μM1, MS μM μM1 → tabM μM1 (cNow μM) (formF a1 (cNow μM)) → Ψ μM1) → w_X12_laysRowsOf a1 μM Ψ := fun Ψ h => m_laysRowsOf hF (rNow_bd hR) (fun j _ => rfl) h
    have hdl := dg_le (formF a1 (cNow μM))
    have ms : ∀ (r : Int32), (∀ μM1, MS μM μM1 → tabM μM1 (cNow μM) (formF a1 (cNow μM)) → ((μM1.1 0 4) = 0 → (a2 = 0 → w_X12_right μM1 (fun r_7 => qS μX μM r r_7 μX1 μM1)) ∧ (a2 = 1 → w_X12_axis μM1 (fun r_9 => qS μX μM r r_9 μX1 μM1)) ∧ (a2 = 2 → w_X12_left μM1 (fun r_11 => qS μX μM r r_11 μX1 μM1)) ∧ (a2 = 3 → w_X12_firstCase μM1 (fun r_13 => qS μX μM r r_13 μX1 μM1)) ∧ (¬ a2 = 0 → ¬ a2 = 1 → ¬ a2 = 2 → ¬ a2 = 3 → w_X12_axis μM1 (fun r_15 => (¬ a1 = 3 → qS μX μM r (r_15 + 0) μX1 μM1) ∧ (a1 = 3 → qS μX μM r (r_15 + (μM1.1 0 10)) μX1 μM1)))) ∧ (¬ (μM1.1 0 4) = 0 → qS μX μM r (-7) μX1 μM1)) → w_X12_roots a1 a2 μM (fun r2 μM1 => qS μX μM r r2 μX1 μM1) := by
      intro r hr
      unfold w_X12_roots
      refine m_isForm (fun _ => z1p (m_in_k (fun q1 q2 => z1n (hM _ (fun μM1 sM tM => hr μM1 sM tM))) (fun q => absurd ?_ q))) (fun q => absurd hF q)
      rw [il_toInt]; exact ⟨by show (0 : Int) ≤ _; omega, by show _ ≤ (4 : Int); omega⟩
    generalize formF a1 (cNow μM) = F at *
    have t4 : μX1.1 28 4 = nI (dg F) - 1 := tX.2.1
    refine zif (fun g6 => ?_) (fun g6 => ms _ (fun μM1 sM tM => ?_))
    · have hg : ¬ grt F := fun q => by rw [tX.2.2.2.1 q] at g6; exact absurd g6 (by decide)
      have hx0 : dg F ≠ 0 → μX1.1 (28 + 11) 0 ≠ 2 := fun q => by
        rw [((tX.2.2.2.2 hg).2 0 (by omega)).2]; exact (show (0 : Int32) ≠ 2 by decide)
      refine ⟨fun a0 => e_rightCount hdl t4 (ms _ (fun μM1 sM tM => ?_)), fun a0 => e_axisCount hdl t4 hx0 (ms _ (fun μM1 sM tM => ?_)), fun a0 => e_leftCount hdl t4 hx0 (ms _ (fun μM1 sM tM => ?_)), fun a0 => e_firstNothing hdl t4 (ms _ (fun μM1 sM tM => ?_)), fun n0 n1 n2 n3 => e_axisCount hdl t4 hx0 (zifn (fun n4 => ms _ (fun μM1 sM tM => ?_)) (fun n4 => ms _ (fun μM1 sM tM => ?_)))⟩
      · obtain ⟨e1, e2, e3, e4, e5, e6⟩ := tab_eq tX tM hg
        refine zif_t e4 ⟨fun _ => m_right hdl tM.2.1 ⟨rgI_congr (fun k hk => e1 k hk 0 (by omega)), sX, sM⟩, fun q => ?_, fun q => ?_, fun q => ?_, fun q => absurd a0 q⟩ <;> (rw [a0] at q; exact absurd q (by decide))
      · obtain ⟨e1, e2, e3, e4, e5, e6⟩ := tab_eq tX tM hg
        refine zif_t e4 ⟨fun q => ?_, fun _ => m_axis hdl tM.2.1 e5 ⟨axI_congr (fun k hk => e1 k hk 0 (by omega)) e2 e6, sX, sM⟩, fun q => ?_, fun q => ?_, fun _ q => absurd a0 q⟩ <;> (rw [a0] at q; exact absurd q (by decide))
      · obtain ⟨e1, e2, e3, e4, e5, e6⟩ := tab_eq tX tM hg
        refine zif_t e4 ⟨fun q => ?_, fun q => ?_, fun _ => m_left hdl tM.2.1 e5 ⟨lfI_congr (fun k hk => e1 k hk 0 (by omega)) e2 e6, sX, sM⟩, fun q => ?_, fun _ _ q => absurd a0 q⟩ <;> (rw [a0] at q; exact absurd q (by decide))
      · obtain ⟨e1, e2, e3, e4, e5, e6⟩ := tab_eq tX tM hg
        refine zif_t e4 ⟨fun q => ?_, fun q => ?_, fun q => ?_, fun _ => m_firstCase hdl tM.2.1 ⟨frI_congr e2, sX, sM⟩, fun _ _ _ q => absurd a0 q⟩ <;> (rw [a0] at q; exact absurd q (by decide))
      · obtain ⟨e1, e2, e3, e4, e5, e6⟩ := tab_eq tX tM hg
        refine zif_t e4 ⟨fun q => absurd q n0, fun q => absurd q n1, fun q => absurd q n2, fun q => absurd q n3, fun _ _ _ _ => m_axis hdl tM.2.1 e5 (zifn_f n4 ⟨?_, sX, sM⟩)⟩
        rw [axI_congr (fun k hk => e1 k hk 0 (by omega)) e2 e6]
      · obtain ⟨e1, e2, e3, e4, e5, e6⟩ := tab_eq tX tM hg
        refine zif_t e4 ⟨fun q => absurd q n0, fun q => absurd q n1, fun q => absurd q n2, fun q => absurd q n3, fun _ _ _ _ => m_axis hdl tM.2.1 e5 (zifn_t n4 ⟨?_, sX, sM⟩)⟩
        rw [axI_congr (fun k hk => e1 k hk 0 (by omega)) e2 e6, tX.2.2.1, tM.2.2.2.1]
    · have hg : grt F := Classical.byContradiction fun q => g6 (tX.2.2.2.2 q).1
      exact zif_f (by rw [tM.2.2.2.2.1 hg]; decide) ⟨rfl, sX, sM⟩
  · unfold w_X12_roots
    exact m_isForm (fun q => absurd q hF) (fun _ => z0p (qS_0 μX μM _))
/-- places from -20 to 20 -/
theorem e_far {a : Int32} {Φ : Int32 → Prop} (h1 : -20 ≤ a.toInt → a.toInt ≤ 20 → Φ 1) (h0 : ¬ (-20 ≤ a.toInt ∧ a.toInt ≤ 20) → Φ 0) : w_X11_isWithin a 20 Φ := by
  rw [e_within]
  unfold bI
  have e1 : (a < -(20 : Int32)) = (a.toInt < -20) := by rw [i_lt]; rfl
  have e2 : ((20 : Int32) < a) = (20 < a.toInt) := by rw [i_lt]; rfl
  simp only [e1, e2]
  split
  · exact h1 (by omega) (by omega)
  · exact h0 (by omega)
theorem m_isFar {a : Int32} {Φ : Int32 → Prop} (h1 : -20 ≤ a.toInt → a.toInt ≤ 20 → Φ 1) (h0 : ¬ (-20 ≤ a.toInt ∧ a.toInt ≤ 20) → Φ 0) : w_X12_isFar a Φ := by
  unfold w_X12_isFar
  refine m_in_k (fun q1 q2 => ⟨Or.inr rfl, h1 ?_ ?_⟩) (fun q => ⟨Or.inl rfl, h0 ?_⟩)
  · rw [il_toInt] at q1; exact q1
  · rw [il_toInt] at q2; exact q2
  · rw [il_toInt] at q; exact q
theorem okF_far {a : Int32} (h1 : -20 ≤ a.toInt) (h2 : a.toInt ≤ 20) : okF (30 + a) := by
  unfold okF
  rw [Int32.toInt_add, show (30 : Int32).toInt = 30 from rfl, Int.bmod_eq_of_le (by omega) (by omega)]
  omega
theorem q_strip {μX μM : ZMem} (hR : rNow μX μM) (a1 a2 : Int32) : w_X11_strip a1 a2 μX (fun r μX1 => w_X12_strip a1 a2 μM (fun r2 μM1 => qS μX μM r r2 μX1 μM1)) := by
  unfold w_X11_strip
  refine e_far (fun h1 h2 => z1p ?_) (fun hn => z0p ?_)
  · refine e_far (fun h3 h4 => z1p ?_) (fun hn => z0p ?_)
    · refine zif (fun hlt => ?_) (fun hlt => ?_)
      · have F1 := okF_far h1 h2
        have F2 := okF_far h3 h4
        -- the reference's side, whole
        have ms : ∀ (μX1 : ZMem) (r : Int32), XS 28 μX μX1 → (∀ μM1 μM2, MS μM μM2 → tabM μM1 (cNow μM) (formF (30 + a2) (cNow μM)) → tabM μM2 (cNow μM) (formF (30 + a1) (cNow μM)) → (grt (formF (30 + a2) (cNow μM)) → r = -7) ∧ (grt (formF (30 + a1) (cNow μM)) → r = -7) ∧ (¬ grt (formF (30 + a2) (cNow μM)) → ¬ grt (formF (30 + a1) (cNow μM)) → r = lfI (fun k => rowM μM1 k 0) (μM1.1 8) (dg (formF (30 + a2) (cNow μM))) - lfI (fun k => rowM μM2 k 0) (μM2.1 8) (dg (formF (30 + a1) (cNow μM))) - axI (fun k => rowM μM2 k 0) (μM2.1 8) (dg (formF (30 + a1) (cNow μM))))) → w_X12_strip a1 a2 μM (fun r2 μM1 => qS μX μM r r2 μX1 μM1) := by
          intro μX1 r sX hr
          unfold w_X12_strip
          refine m_isFar (fun _ _ => z1p (m_isFar (fun _ _ => z1p (zif_t hlt ?_)) (fun q => absurd ⟨h3, h4⟩ q))) (fun q => absurd ⟨h1, h2⟩ q)
          refine m_laysRowsOf F2 (rNow_bd hR) (fun j _ => rfl) (fun μM1 sM1 tM1 => ?_)
          have h80 : ∀ {μ : ZMem} {F : Nat → Int64}, tabM μ (cNow μM) F → dg F ≠ 0 → μ.1 8 0 ≠ 2 := fun t q => by rw [t.2.2.2.2.2.2 q]; decide
          refine m_left (dg_le _) tM1.2.1 (h80 tM1) (nm_b ?_)
          have c1 : cNow μM1 = cNow μM := cNow_S sM1
          refine m_laysRowsOf F1 (by rw [← c1] ; exact (c1 ▸ rNow_bd hR)) (C := cNow μM) (fun j _ => congrFun c1 j) (fun μM2 sM2 tM2 => ?_)
          have hrr := hr μM1 μM2 (MS_tr sM1 sM2) tM1 tM2
          refine zifn (fun g => ⟨hrr.1 ?_, sX, MS_tr sM1 sM2⟩) (fun g => zif (fun g2 => m_left (dg_le _) tM2.2.1 (h80 tM2) (m_axis (dg_le _) tM2.2.1 (h80 tM2) ⟨hrr.2.2 ?_ ?_, sX, MS_tr sM1 sM2⟩)) (fun g2 => ⟨hrr.2.1 ?_, sX, MS_tr sM1 sM2⟩))
          · exact Classical.byContradiction fun q => g (tM1.2.2.2.2.2.1 q).1
          · exact fun q => by rw [tM1.2.2.2.2.1 q] at g; exact absurd g (by decide)
          · exact fun q => by rw [tM2.2.2.2.2.1 q] at g2; exact absurd g2 (by decide)
          · exact Classical.byContradiction fun q => g2 (tM2.2.2.2.2.2.1 q).1
        refine e_tableOf F1 (rNow_bd hR) (rNow_mix hR) (fun μX1 sX1 tX1 => ⟨zT_28, ?_⟩)
        have hx0 : ∀ {μ : ZMem} {F : Nat → Int64}, tabX 28 μ (cNow μM) F → ¬ grt F → dg F ≠ 0 → μ.1 (28 + 11) 0 ≠ 2 := fun t hg q => by
          rw [((t.2.2.2.2 hg).2 0 (by omega)).2]; exact (show (0 : Int32) ≠ 2 by decide)
        refine zif (fun g6 => ?_) (fun g6 => ms _ _ sX1 (fun μM1 μM2 sM tM1 tM2 => ?_))
        · have hg1 : ¬ grt (formF (30 + a1) (cNow μM)) := fun q => by rw [tX1.2.2.2.1 q] at g6; exact absurd g6 (by decide)
          refine e_leftCount (dg_le _) tX1.2.1 (hx0 tX1 hg1) (e_axisCount (dg_le _) tX1.2.1 (hx0 tX1 hg1) (nm_b ?_))
          have hR1 : rNow μX1 μM := rNow_S hR sX1 (MS_rfl μM)
          refine e_tableOf F2 (rNow_bd hR1) (rNow_mix hR1) (fun μX2 sX2 tX2 => ⟨zT_28, ?_⟩)
          refine zif (fun g7 => ?_) (fun g7 => ms _ _ (XS_tr sX1 sX2) (fun μM1 μM2 sM tM1 tM2 => ?_))
          · have hg2 : ¬ grt (formF (30 + a2) (cNow μM)) := fun q => by rw [tX2.2.2.2.1 q] at g7; exact absurd g7 (by decide)
            refine e_leftCount (dg_le _) tX2.2.1 (hx0 tX2 hg2) (ms _ _ (XS_tr sX1 sX2) (fun μM1 μM2 sM tM1 tM2 => ⟨fun q => absurd q hg2, fun q => absurd q hg1, fun _ _ => ?_⟩))
            obtain ⟨e1, e2, _, _, e5, e6⟩ := tab_eq tX1 tM2 hg1
            obtain ⟨f1, f2, _, _, f5, f6⟩ := tab_eq tX2 tM1 hg2
            rw [lfI_congr (fun k hk => e1 k hk 0 (by omega)) e2 e6, axI_congr (fun k hk => e1 k hk 0 (by omega)) e2 e6, lfI_congr (fun k hk => f1 k hk 0 (by omega)) f2 f6]
            grind
          · have hg2 : grt (formF (30 + a2) (cNow μM)) := Classical.byContradiction fun q => g7 (tX2.2.2.2.2 q).1
            exact ⟨fun _ => rfl, fun _ => rfl, fun q => absurd hg2 q⟩
        · have hg1 : grt (formF (30 + a1) (cNow μM)) := Classical.byContradiction fun q => g6 (tX1.2.2.2.2 q).1
          exact ⟨fun _ => rfl, fun _ => rfl, fun _ q => absurd hg1 q⟩
      · unfold w_X12_strip
        exact m_isFar (fun _ _ => z1p (m_isFar (fun _ _ => z1p (zif_f hlt (qS_0 μX μM _))) (fun q => absurd ⟨h3, h4⟩ q))) (fun q => absurd ⟨h1, h2⟩ q)
    · unfold w_X12_strip
      exact m_isFar (fun _ _ => z1p (m_isFar (fun q1 q2 => absurd ⟨q1, q2⟩ hn) (fun _ => z0p (qS_0 μX μM _)))) (fun q => absurd ⟨h1, h2⟩ q)
  · unfold w_X12_strip
    exact m_isFar (fun q1 q2 => absurd ⟨q1, q2⟩ hn) (fun _ => z0p (qS_0 μX μM _))

/-- the search of reach, by its bounds -/
def rcN (C : Nat → Int64) : Nat → Int32 → Int32 → Int32
  | 0, _, hi => if hi ≤ 20 then hi + 1000 else -1
  | n + 1, lo, hi => if hi - lo ≤ 1 then (if hi ≤ 20 then hi + 1000 else -1) else
    let mid := (lo + hi) / 2
    let F := formF (30 + mid) C
    if dg F ≠ 0 ∧ ¬ (rowP F (dg F - 1) (dg F - 1)).isSome = true then -7 else
      if lfI (fun k => rowK F (dg F - 1) k 0) (cseK F (dg F - 1)) (dg F) = hd7 C then rcN C n lo mid else rcN C n mid hi
theorem tdiv2 (x : Int) : (0 ≤ x → x.tdiv 2 = x / 2) ∧ (x < 0 → x.tdiv 2 = -((-x) / 2)) := by
  refine ⟨fun h => Int.tdiv_eq_ediv_of_nonneg h, fun h => ?_⟩
  have h1 := Int.tdiv_eq_ediv_of_nonneg (a := -x) (b := 2) (by omega)
  rw [Int.neg_tdiv] at h1
  omega
theorem mid_in {lo hi : Int32} (h1 : -21 ≤ lo.toInt) (h2 : hi.toInt ≤ 21) (h3 : lo.toInt < hi.toInt) (h4 : ¬ hi - lo ≤ 1) : ((lo + hi) / 2).toInt = (lo.toInt + hi.toInt).tdiv 2 ∧ (hi - lo).toInt = hi.toInt - lo.toInt := by
  have e1 : (lo + hi).toInt = lo.toInt + hi.toInt := by rw [Int32.toInt_add, Int.bmod_eq_of_le (by omega) (by omega)]
  have e2 : (hi - lo).toInt = hi.toInt - lo.toInt := by rw [Int32.toInt_sub, Int.bmod_eq_of_le (by omega) (by omega)]
  refine ⟨?_, e2⟩
  rw [Int32.toInt_div, e1, show (2 : Int32).toInt = 2 from rfl]
  have t := tdiv2 (lo.toInt + hi.toInt)
  rw [Int.bmod_eq_of_le (by omega) (by omega)]

theorem rcN_s {C : Nat → Int64} {n : Nat} {lo hi : Int32} (h : ¬ hi - lo ≤ 1) : (grt (formF (30 + (lo + hi) / 2) C) → rcN C (n + 1) lo hi = -7) ∧ (¬ grt (formF (30 + (lo + hi) / 2) C) → rcN C (n + 1) lo hi = if lfI (fun k => rowK (formF (30 + (lo + hi) / 2) C) (dg (formF (30 + (lo + hi) / 2) C) - 1) k 0) (cseK (formF (30 + (lo + hi) / 2) C) (dg (formF (30 + (lo + hi) / 2) C) - 1)) (dg (formF (30 + (lo + hi) / 2) C)) = hd7 C then rcN C n lo ((lo + hi) / 2) else rcN C n ((lo + hi) / 2) hi) := by
  constructor
  · intro g
    rw [rcN, if_neg h]
    exact if_pos g
  · intro g
    rw [rcN, if_neg h]
    exact if_neg g
theorem rcN_e {C : Nat → Int64} {n : Nat} {lo hi : Int32} (h : hi - lo ≤ 1) : rcN C n lo hi = if hi ≤ 20 then hi + 1000 else -1 := by
  cases n with
  | zero => rfl
  | succ n => rw [rcN, if_pos h]
/-- the steps that are left suffice -/
def fuel (lo hi : Int32) (n : Nat) : Prop := -21 ≤ lo.toInt ∧ hi.toInt ≤ 21 ∧ lo.toInt < hi.toInt ∧ hi.toInt - lo.toInt ≤ ((2 ^ n : Nat) : Int)
theorem fuel_s {lo hi : Int32} {n : Nat} (h : fuel lo hi (n + 1)) (h4 : ¬ hi - lo ≤ 1) : fuel lo ((lo + hi) / 2) n ∧ fuel ((lo + hi) / 2) hi n ∧ okF (30 + (lo + hi) / 2) := by
  obtain ⟨h1, h2, h3, h5⟩ := h
  obtain ⟨e1, e2⟩ := mid_in h1 h2 h3 h4
  have t := tdiv2 (lo.toInt + hi.toInt)
  rw [i_le, e2, show (1 : Int32).toInt = 1 from rfl] at h4
  have hp : 2 ^ (n + 1) = 2 * 2 ^ n := by rw [Nat.pow_succ, Nat.mul_comm]
  rw [hp] at h5
  unfold fuel
  rw [e1]
  refine ⟨by omega, by omega, okF_far (by rw [e1]; omega) (by rw [e1]; omega)⟩
theorem fuel_0 {lo hi : Int32} (h : fuel lo hi 0) : hi - lo ≤ 1 := by
  obtain ⟨h1, h2, h3, h5⟩ := h
  have h6 : ((2 ^ 0 : Nat) : Int) = 1 := rfl
  rw [h6] at h5
  rw [i_le, Int32.toInt_sub, Int.bmod_eq_of_le (by omega) (by omega)]
  show _ ≤ (1 : Int)
  omega

theorem e_reachL {μX μM : ZMem} (hR : rNow μX μM) {Φ : Int32 → ZMem → Prop} {R : Int32} (hΦ : ∀ μ', XS 28 μX μ' → Φ R μ') : ∀ n lo hi i μ', fuel lo hi n → i + n ≤ 39 → XS 28 μX μ' → rcN (cNow μM) n lo hi = R → lpz4 (b_X11_reach_25 (fun v3_5 μ_6 => (v3_5 ≤ 20 → Φ (v3_5 + 1000) μ_6) ∧ (¬ v3_5 ≤ 20 → Φ (-1) μ_6)) (hd7 (cNow μM)) Φ) (n + 1) lo hi (nI i) μ' := by
  have fin : ∀ n lo hi μ', hi - lo ≤ 1 → XS 28 μX μ' → rcN (cNow μM) n lo hi = R → (hi ≤ 20 → Φ (hi + 1000) μ') ∧ (¬ hi ≤ 20 → Φ (-1) μ') := by
    intro n lo hi μ' h1 sX hr
    rw [rcN_e h1] at hr
    refine zif (fun q => ?_) (fun q => ?_)
    · rw [if_pos q] at hr; rw [hr]; exact hΦ μ' sX
    · rw [if_neg q] at hr; rw [hr]; exact hΦ μ' sX
  intro n
  induction n with
  | zero =>
    intro lo hi i μ' hf hi2 sX hr
    exact zif_f (by rw [show (40 : Int32) = nI 40 from rfl, n_le (by omega) (by omega)]; omega) (zif_t (fuel_0 hf) (fin 0 lo hi μ' (fuel_0 hf) sX hr))
  | succ n ih =>
    intro lo hi i μ' hf hi2 sX hr
    rw [lpz4]
    have ih' := fun lo hi => ih lo hi (i + 1)
    generalize lpz4 (b_X11_reach_25 (fun v3_5 μ_6 => (v3_5 ≤ 20 → Φ (v3_5 + 1000) μ_6) ∧ (¬ v3_5 ≤ 20 → Φ (-1) μ_6)) (hd7 (cNow μM)) Φ) (n + 1) = L at ih' ⊢
    unfold b_X11_reach_25
    dsimp only
    rw [nI_1]
    refine zif_f (by rw [show (40 : Int32) = nI 40 from rfl, n_le (by omega) (by omega)]; omega) (zif (fun h1 => fin (n + 1) lo hi μ' h1 sX hr) (fun h1 => nm_b ?_))
    obtain ⟨f1, f2, f3⟩ := fuel_s hf h1
    obtain ⟨r1, r2⟩ := rcN_s (C := cNow μM) (n := n) h1
    have hR1 : rNow μ' μM := rNow_S hR sX (MS_rfl μM)
    refine e_tableOf f3 (rNow_bd hR1) (rNow_mix hR1) (fun μ1 s1 t1 => ⟨zT_28, zif (fun g6 => ?_) (fun g6 => ?_)⟩)
    · have hg : ¬ grt (formF (30 + (lo + hi) / 2) (cNow μM)) := fun q => by rw [t1.2.2.2.1 q] at g6; exact absurd g6 (by decide)
      have r2' := r2 hg
      obtain ⟨g7, gr⟩ := t1.2.2.2.2 hg
      have hx0 : dg (formF (30 + (lo + hi) / 2) (cNow μM)) ≠ 0 → μ1.1 (28 + 11) 0 ≠ 2 := fun q => by
        rw [(gr 0 (by omega)).2]; exact (show (0 : Int32) ≠ 2 by decide)
      refine e_leftCount (dg_le _) t1.2.1 hx0 ?_
      rw [lfI_congr (r' := fun k => rowK (formF (30 + (lo + hi) / 2) (cNow μM)) (dg (formF (30 + (lo + hi) / 2) (cNow μM)) - 1) k 0) (cs' := cseK (formF (30 + (lo + hi) / 2) (cNow μM)) (dg (formF (30 + (lo + hi) / 2) (cNow μM)) - 1)) (fun k hk => (gr k hk).1 0 (by omega)) (fun k hk => (gr k hk).2) hx0]
      show (¬ _ = _ → L _ _ _ _) ∧ _
      refine zifn (fun q => ?_) (fun q => ?_)
      · rw [if_neg q] at r2'
        exact ih' _ _ μ1 f2 (by omega) (XS_tr sX s1) (by rw [← r2']; exact hr)
      · rw [if_pos q] at r2'
        exact ih' _ _ μ1 f1 (by omega) (XS_tr sX s1) (by rw [← r2']; exact hr)
    · have hg : grt (formF (30 + (lo + hi) / 2) (cNow μM)) := Classical.byContradiction fun q => g6 (t1.2.2.2.2 q).1
      rw [← r1 hg, hr]
      exact hΦ μ1 (XS_tr sX s1)
theorem m_reachL {μX μM0 μM : ZMem} (hR : rNow μX μM0) (hC : cNow μM = cNow μM0) {Φ : Int32 → ZMem → Prop} {R : Int32} (hΦ : ∀ μ', MS μM μ' → Φ R μ') : ∀ n lo hi μ', fuel lo hi n → MS μM μ' → rcN (cNow μM) n lo hi = R → lpz3 (b_X12_reach_29 (fun v2_3 μ_4 => (v2_3 ≤ 20 → Φ (v2_3 + 1000) μ_4) ∧ (¬ v2_3 ≤ 20 → Φ (-1) μ_4)) Φ) (n + 1) lo hi μ' := by
  have fin : ∀ n lo hi μ', hi - lo ≤ 1 → MS μM μ' → rcN (cNow μM) n lo hi = R → (hi ≤ 20 → Φ (hi + 1000) μ') ∧ (¬ hi ≤ 20 → Φ (-1) μ') := by
    intro n lo hi μ' h1 sX hr
    rw [rcN_e h1] at hr
    refine zif (fun q => ?_) (fun q => ?_)
    · rw [if_pos q] at hr; rw [hr]; exact hΦ μ' sX
    · rw [if_neg q] at hr; rw [hr]; exact hΦ μ' sX
  intro n
  induction n with
  | zero =>
    intro lo hi μ' hf sX hr
    exact zif_t (fuel_0 hf) (fin 0 lo hi μ' (fuel_0 hf) sX hr)
  | succ n ih =>
    intro lo hi μ' hf sX hr
    rw [lpz3]
    generalize lpz3 (b_X12_reach_29 (fun v2_3 μ_4 => (v2_3 ≤ 20 → Φ (v2_3 + 1000) μ_4) ∧ (¬ v2_3 ≤ 20 → Φ (-1) μ_4)) Φ) (n + 1) = L at ih ⊢
    unfold b_X12_reach_29
    refine zif (fun h1 => fin (n + 1) lo hi μ' h1 sX hr) (fun h1 => nm_b ?_)
    obtain ⟨f1, f2, f3⟩ := fuel_s hf h1
    obtain ⟨r1, r2⟩ := rcN_s (C := cNow μM) (n := n) h1
    have c1 : cNow μ' = cNow μM := cNow_S sX
    refine m_laysRowsOf f3 (C := cNow μM) (by rw [hC]; exact rNow_bd hR) (fun j _ => congrFun c1 j) (fun μ1 s1 t1 => zif (fun g6 => ?_) (fun g6 => ?_))
    · have hg : ¬ grt (formF (30 + (lo + hi) / 2) (cNow μM)) := fun q => by rw [t1.2.2.2.2.1 q] at g6; exact absurd g6 (by decide)
      have r2' := r2 hg
      obtain ⟨g7, gr⟩ := t1.2.2.2.2.2.1 hg
      have hx0 : dg (formF (30 + (lo + hi) / 2) (cNow μM)) ≠ 0 → μ1.1 8 0 ≠ 2 := fun q => by rw [t1.2.2.2.2.2.2 q]; decide
      refine m_left (dg_le _) t1.2.1 hx0 ?_
      rw [lfI_congr (r' := fun k => rowK (formF (30 + (lo + hi) / 2) (cNow μM)) (dg (formF (30 + (lo + hi) / 2) (cNow μM)) - 1) k 0) (cs' := cseK (formF (30 + (lo + hi) / 2) (cNow μM)) (dg (formF (30 + (lo + hi) / 2) (cNow μM)) - 1)) (fun k hk => congrFun (gr k hk).1 0) (fun k hk => (gr k hk).2) hx0, t1.2.2.1]
      refine nm_k (fun x => x = if lfI (fun k => rowK (formF (30 + (lo + hi) / 2) (cNow μM)) (dg (formF (30 + (lo + hi) / 2) (cNow μM)) - 1) k 0) (cseK (formF (30 + (lo + hi) / 2) (cNow μM)) (dg (formF (30 + (lo + hi) / 2) (cNow μM)) - 1)) (dg (formF (30 + (lo + hi) / 2) (cNow μM))) = hd7 (cNow μM) then 1 else 0) (fun J hJ => zifn (fun q => hJ _ (by rw [if_neg q])) (fun q => hJ _ (by rw [if_pos q]))) ?_
      intro x hx
      by_cases q : lfI (fun k => rowK (formF (30 + (lo + hi) / 2) (cNow μM)) (dg (formF (30 + (lo + hi) / 2) (cNow μM)) - 1) k 0) (cseK (formF (30 + (lo + hi) / 2) (cNow μM)) (dg (formF (30 + (lo + hi) / 2) (cNow μM)) - 1)) (dg (formF (30 + (lo + hi) / 2) (cNow μM))) = hd7 (cNow μM)
      · rw [if_pos q] at hx r2'
        subst hx
        refine nm_k (fun y => y = (lo + hi) / 2) (fun J hJ => z1p (hJ _ rfl)) (fun y hy => ?_)
        refine nm_k (fun y => y = lo) (fun J hJ => z1p (hJ _ rfl)) (fun y2 hy2 => ?_)
        rw [hy, hy2]
        exact ih _ _ μ1 f1 (MS_tr sX s1) (by rw [← r2']; exact hr)
      · rw [if_neg q] at hx r2'
        subst hx
        refine nm_k (fun y => y = hi) (fun J hJ => z0p (hJ _ rfl)) (fun y hy => ?_)
        refine nm_k (fun y => y = (lo + hi) / 2) (fun J hJ => z0p (hJ _ rfl)) (fun y2 hy2 => ?_)
        rw [hy, hy2]
        exact ih _ _ μ1 f2 (MS_tr sX s1) (by rw [← r2']; exact hr)
    · have hg : grt (formF (30 + (lo + hi) / 2) (cNow μM)) := Classical.byContradiction fun q => g6 (t1.2.2.2.2.2.1 q).1
      rw [← r1 hg, hr]
      exact hΦ μ1 (MS_tr sX s1)
theorem q_reach {μX μM : ZMem} (hR : rNow μX μM) : w_X11_reach μX (fun r μX1 => w_X12_reach μM (fun r2 μM1 => qS μX μM r r2 μX1 μM1)) := by
  unfold w_X11_reach
  refine e_currentC (rNow_mix hR) (fun μ1 p1 p2 p3 => ⟨rfl, e_highest ?_⟩)
  have e85 : hd7 (μ1.2 85) = hd7 (cNow μM) := by unfold hd7; rw [dg_congr p3]
  rw [e85]
  have s1 : XS 28 μX μ1 := ⟨fun x _ _ => by rw [p1], fun x a1 _ => p2 x a1⟩
  have f0 : fuel (-21) 21 6 := ⟨by decide, by decide, by decide, by decide⟩
  have ms : ∀ Ψ : ZMem → Prop, (∀ μ', MS μM μ' → μ'.1 0 8 = hd7 (cNow μM) → Ψ μ') → w_X12_takes 1 (μM.1 1 14) μM Ψ := by
    intro Ψ h
    refine m_takes (fun μ2 q1 q2 q3 q4 => h μ2 ⟨fun x a1 a2 => funext fun s => q1 x s (fun q => a1 q.1), fun s a1 a2 a3 a4 => q1 0 s (fun q => a2 q.2), fun x a1 => q2 x (by omega)⟩ q4)
  refine zif (fun h1 => ?_) (fun h1 => ?_)
  · have f1 : fuel (-21) 21 6 := f0
    refine ⟨7, e_reachL (Φ := fun r μX1 => w_X12_reach μM (fun r2 μM1 => qS μX μM r r2 μX1 μM1)) (R := rcN (cNow μM) 6 (-21) 21) hR (fun μ' sX => ?_) 6 (-21) 21 0 μ1 f1 (by omega) s1 rfl⟩
    unfold w_X12_reach
    refine ms _ (fun μ2 sM h8 => ?_)
    rw [h8]
    have c2 : cNow μ2 = cNow μM := cNow_S sM
    refine zif_t h1 ⟨7, m_reachL (Φ := fun r2 μM1 => qS μX μM (rcN (cNow μM) 6 (-21) 21) r2 μ' μM1) (R := rcN (cNow μM) 6 (-21) 21) hR c2 (fun μ3 s3 => ⟨rfl, sX, MS_tr sM s3⟩) 6 (-21) 21 μ2 f1 (MS_rfl μ2) (by rw [c2])⟩
  · unfold w_X12_reach
    refine ms _ (fun μ2 sM h8 => ?_)
    rw [h8]
    exact zif_f h1 ⟨rfl, s1, sM⟩
