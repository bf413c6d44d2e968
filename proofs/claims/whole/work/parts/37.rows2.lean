/-! what both are asked about forms and rows -/
theorem z1n {A B : Prop} (a : A) : (¬ (1 : Int32) = 0 → A) ∧ ((1 : Int32) = 0 → B) := ⟨fun _ => a, fun q => absurd q (by decide)⟩
theorem z1p {A B : Prop} (b : B) : ((1 : Int32) = 0 → A) ∧ (¬ (1 : Int32) = 0 → B) := ⟨fun q => absurd q (by decide), fun _ => b⟩
theorem z0n {A B : Prop} (b : B) : (¬ (0 : Int32) = 0 → A) ∧ ((0 : Int32) = 0 → B) := ⟨fun q => absurd rfl q, fun _ => b⟩
theorem z0p {A B : Prop} (a : A) : ((0 : Int32) = 0 → A) ∧ (¬ (0 : Int32) = 0 → B) := ⟨fun _ => a, fun q => absurd rfl q⟩
def ab (x : Int32) : Nat := x.toInt.natAbs
/-- a state of the class and one of the reference -/
def rSt (p q : Nat → Int64) (k w fc : Int32) (line : Nat → Int32) (fac : Nat → Nat → Int32) (g : Nat → Int32) : Prop :=
  (∀ j, j < 7 → p j = Int32.toInt64 (g j)) ∧ (∀ j, j < 7 → q j = Int32.toInt64 (g (7 + j))) ∧ (∀ j, j < 14 → ab (g j) ≤ 99) ∧ k = g 14 ∧ ab k ≤ 100 ∧
  (∃ n, n ≤ 16 ∧ w = nI n ∧ g 15 = nI n ∧ ∀ i, i < n → line i = g (16 + i) ∧ ab (line i) ≤ 100) ∧
  (∃ n, n ≤ 6 ∧ fc = nI n ∧ g 32 = nI n ∧ ∀ i, i < n → fac i 0 = g (33 + i) ∧ fac i 1 = g (39 + i) ∧ fac i 2 = g (45 + i) ∧ 0 ≤ (fac i 0).toInt ∧ (fac i 0).toInt ≤ 3 ∧ ab (fac i 1) ≤ 20 ∧ ab (fac i 2) ≤ 20)
def rNow (μX μM : ZMem) : Prop := rSt (μX.2 2) (μX.2 3) (μX.1 1 2) (μX.1 1 4) (μX.1 1 6) (μX.1 4) (fun i => μX.1 (6 + i)) (μM.1 1)
def rKept (μX μM : ZMem) : Prop := rSt (μX.2 13) (μX.2 14) (μX.1 12 2) (μX.1 12 4) (μX.1 12 6) (μX.1 15) (fun i => μX.1 (17 + i)) (μM.1 2)
theorem ab_64 (x : Int32) : (Int32.toInt64 x).toInt.natAbs = ab x := by rw [Int32.toInt_toInt64]; rfl
theorem bd_mix {μ : ZMem} {u v : Int32} (hg : ∀ j, j < 14 → ab (μ.1 1 j) ≤ 99) (hu : ab u ≤ 1) (hv : ab v ≤ 100) : bd (mixM μ u v) 10000 := by
  intro j hj
  unfold mixM
  have h1 := bd_mul (x := Int32.toInt64 u) (y := Int32.toInt64 (μ.1 1 j)) (A := 1) (B := 99) (by rw [ab_64]; exact hu) (by rw [ab_64]; exact hg j (by omega)) (by decide)
  have h2 := bd_mul (x := Int32.toInt64 v) (y := Int32.toInt64 (μ.1 1 (7 + j))) (A := 100) (B := 99) (by rw [ab_64]; exact hv) (by rw [ab_64]; exact hg _ (by omega)) (by decide)
  exact Nat.le_trans (bd_add h1 h2 (by decide)) (by decide)
/-- the mixture of now -/
def cNow (μM : ZMem) : Nat → Int64 := mixM μM 1 (μM.1 1 14)
theorem rNow_bd {μX μM : ZMem} (h : rNow μX μM) : bd (cNow μM) 200000 := by
  obtain ⟨_, _, h3, h4, h5, _⟩ := h
  exact fun j hj => Nat.le_trans (bd_mix h3 (by decide) (by rw [← h4]; exact h5) j hj) (by decide)
theorem rNow_mix {μX μM : ZMem} (h : rNow μX μM) (j : Nat) (hj : j < 7) : mixF 1 (μX.1 1 2) (μX.2 2) (μX.2 3) j = cNow μM j := by
  obtain ⟨h1, h2, _, h4, _⟩ := h
  unfold mixF cNow mixM
  rw [h1 j hj, h2 j hj, h4]
theorem rNow_S {μX μM μX' μM' : ZMem} (h : rNow μX μM) (hX : XS 28 μX μX') (hM : MS μM μM') : rNow μX' μM' := by
  unfold rNow at h ⊢
  have e : (fun i => μX'.1 (6 + i)) = (fun i => if i < 6 then μX.1 (6 + i) else μX'.1 (6 + i)) := by
    funext i
    split
    · exact hX.1 (6 + i) (by omega) (by omega)
    · rfl
  have e2 : rSt (μX'.2 2) (μX'.2 3) (μX'.1 1 2) (μX'.1 1 4) (μX'.1 1 6) (μX'.1 4) (fun i => μX.1 (6 + i)) (μM'.1 1) := by
    rw [hX.2 2 (by decide) (by omega), hX.2 3 (by decide) (by omega), hX.1 1 (by decide) (by decide), hX.1 4 (by decide) (by decide), hM.1 1 (by decide) (by decide)]
    exact h
  obtain ⟨a1, a2, a3, a4, a5, a6, n, a7, a8, a9, a10⟩ := e2
  refine ⟨a1, a2, a3, a4, a5, a6, n, a7, a8, a9, fun i hi => ?_⟩
  have := a10 i hi
  show μX'.1 (6 + i) 0 = _ ∧ μX'.1 (6 + i) 1 = _ ∧ μX'.1 (6 + i) 2 = _ ∧ 0 ≤ (μX'.1 (6 + i) 0).toInt ∧ (μX'.1 (6 + i) 0).toInt ≤ 3 ∧ ab (μX'.1 (6 + i) 1) ≤ 20 ∧ ab (μX'.1 (6 + i) 2) ≤ 20
  rw [hX.1 (6 + i) (by omega) (by omega)]
  exact this
theorem cNow_S {μM μM' : ZMem} (hM : MS μM μM') : cNow μM' = cNow μM := by
  unfold cNow mixM
  rw [hM.1 1 (by decide) (by decide)]
theorem m_in_k {a b c : Int64} {Φ : Int32 → Prop} (hy : b.toInt ≤ a.toInt → a.toInt ≤ c.toInt → Φ 1) (hn : ¬ (b.toInt ≤ a.toInt ∧ a.toInt ≤ c.toInt) → Φ 0) : w_X12_in a b c Φ := by
  rw [e_in]
  unfold bI
  split
  · rename_i h; exact hy h.1 h.2
  · rename_i h; exact hn h
theorem e_isForm {a : Int32} {Φ : Int32 → Prop} (h1 : okF a → Φ 1) (h0 : ¬ okF a → Φ 0) : w_X11_isForm a Φ := by
  unfold w_X11_isForm
  refine nm_k (fun x => (x = 1 ∧ 0 ≤ a.toInt ∧ a.toInt ≤ 3) ∨ (x = 0 ∧ ¬ (0 ≤ a.toInt ∧ a.toInt ≤ 3))) (fun J hJ => ?_) ?_
  · show (a < 0 → J 0) ∧ _
    rw [i_lt, i_lt, show (0 : Int32).toInt = 0 from rfl, show (3 : Int32).toInt = 3 from rfl]
    exact zif (fun q => hJ _ (Or.inr ⟨rfl, by omega⟩)) (fun q => zif (fun q2 => hJ _ (Or.inr ⟨rfl, by omega⟩)) (fun q2 => hJ _ (Or.inl ⟨rfl, by omega, by omega⟩)))
  rintro x (⟨rfl, q1, q2⟩ | ⟨rfl, q⟩)
  · exact zifn_f (by decide) (h1 (Or.inl ⟨q1, q2⟩))
  · rw [i_lt, i_lt, show (10 : Int32).toInt = 10 from rfl, show (50 : Int32).toInt = 50 from rfl]
    refine zifn_t rfl (zif (fun q1 => h0 ?_) (fun q1 => zif (fun q2 => h0 ?_) (fun q2 => h1 ?_)))
    · unfold okF; omega
    · unfold okF; omega
    · unfold okF; omega
theorem m_isForm {a : Int32} {Φ : Int32 → Prop} (h1 : okF a → Φ 1) (h0 : ¬ okF a → Φ 0) : w_X12_isForm a Φ := by
  unfold w_X12_isForm
  refine m_in_k (fun q1 q2 => ?_) (fun q => ?_)
  · rw [il_toInt, show (0 : Int64).toInt = 0 from rfl] at q1
    rw [il_toInt, show (3 : Int64).toInt = 3 from rfl] at q2
    exact z1n (h1 (Or.inl ⟨q1, q2⟩))
  · rw [il_toInt, show (0 : Int64).toInt = 0 from rfl, show (3 : Int64).toInt = 3 from rfl] at q
    refine z0n (m_in_k (fun q1 q2 => ?_) (fun q1 => ?_))
    · rw [il_toInt, show (10 : Int64).toInt = 10 from rfl] at q1
      rw [il_toInt, show (50 : Int64).toInt = 50 from rfl] at q2
      exact z1p (h1 (Or.inr ⟨q1, q2⟩))
    · rw [il_toInt, show (10 : Int64).toInt = 10 from rfl, show (50 : Int64).toInt = 50 from rfl] at q1
      exact z0p (h0 (by unfold okF; omega))
theorem e_hasRow {μ : ZMem} {t d : Nat} {a : Int32} (hd : d ≤ 7) (ht : μ.1 t 4 = nI d - 1) {Φ : Int32 → Prop} (h1 : ∀ k, k < d → a = nI k → Φ 1) (h0 : ¬ (0 ≤ a.toInt ∧ a.toInt < d) → Φ 0) : w_X8_hasRow t a μ Φ := by
  unfold w_X8_hasRow
  rw [ht, i_lt, i_lt, hd_toInt hd, show (0 : Int32).toInt = 0 from rfl]
  refine zif (fun q => h0 (by omega)) (fun q => zif (fun q2 => h0 (by omega)) (fun q2 => ?_))
  obtain ⟨k, k1, k2⟩ := nn_of (i := a) (n := 7) (by omega) (by omega) (by omega)
  exact h1 k (by rw [k2, nI_toInt (by omega)] at q2; omega) k2
theorem m_isRow {μ : ZMem} {d : Nat} {a : Int32} (hd : d ≤ 7) (ht : μ.1 0 9 = nI d - 1) {Φ : Int32 → Prop} (h1 : ∀ k, k < d → a = nI k → Φ 1) (h0 : ¬ (0 ≤ a.toInt ∧ a.toInt < d) → Φ 0) : w_X12_isRow a μ Φ := by
  unfold w_X12_isRow
  refine m_in_k (fun q1 q2 => ⟨Or.inr rfl, ?_⟩) (fun q => ⟨Or.inl rfl, h0 ?_⟩)
  · rw [il_toInt, show (0 : Int64).toInt = 0 from rfl] at q1
    rw [il_toInt, il_toInt, ht, hd_toInt hd] at q2
    obtain ⟨k, k1, k2⟩ := nn_of (i := a) (n := 7) (by omega) (by omega) (by omega)
    exact h1 k (by rw [k2, nI_toInt (by omega)] at q2; omega) k2
  · rw [il_toInt, il_toInt, ht, hd_toInt hd, show (0 : Int64).toInt = 0 from rfl] at q
    omega
theorem zT_28 : zT_Table 28 := by
  refine ⟨rfl, rfl, rfl, rfl, fun i hi => ?_, rfl⟩
  have : i = 0 ∨ i = 1 ∨ i = 2 ∨ i = 3 ∨ i = 4 ∨ i = 5 ∨ i = 6 := by omega
  rcases this with rfl | rfl | rfl | rfl | rfl | rfl | rfl <;> rfl
/-- both are asked, with the memories of tables changed -/
def qS (μX μM : ZMem) {α : Type} (r r2 : α) (μX1 μM1 : ZMem) : Prop := r = r2 ∧ XS 28 μX μX1 ∧ MS μM μM1
theorem qS_0 (μX μM : ZMem) {α : Type} (r : α) : qS μX μM r r μX μM := ⟨rfl, XS_rfl 28 μX, MS_rfl μM⟩
theorem wd_I2 {d k : Nat} (hd : d ≤ 7) (hk : k < d) : ∀ {μ : ZMem} {t : Nat}, μ.1 t 4 = nI d - 1 → μ.1 t 4 = nI (d - 1) := by
  intro μ t h
  rw [h, show (1 : Int32) = nI 1 from rfl, pk_sub (by omega)]
theorem hd_I {d : Nat} (h0 : d ≠ 0) : nI d - 1 = nI (d - 1) := by
  rw [show (1 : Int32) = nI 1 from rfl, pk_sub (by omega)]
theorem q_row {μX μM : ZMem} (hR : rNow μX μM) (a1 a2 a3 : Int32) : w_X11_row a1 a2 a3 μX (fun r μX1 => w_X12_row a1 a2 a3 μM (fun r2 μM1 => qS μX μM r r2 μX1 μM1)) := by
  unfold w_X11_row
  refine e_isForm (fun hF => ?_) (fun hF => ?_)
  · refine z1n (e_tableOf hF (rNow_bd hR) (rNow_mix hR) (fun μX1 sX tX => ⟨zT_28, ?_⟩))
    have hM : ∀ Ψ : ZMem → Prop, (∀ μM1, MS μM μM1 → tabM μM1 (cNow μM) (formF a1 (cNow μM)) → Ψ μM1) → w_X12_laysRowsOf a1 μM Ψ := fun Ψ h => m_laysRowsOf hF (rNow_bd hR) (fun j _ => rfl) h
    unfold w_X12_row
    have hdl := dg_le (formF a1 (cNow μM))
    generalize formF a1 (cNow μM) = F at *
    have t4 : μX1.1 28 4 = nI (dg F) - 1 := tX.2.1
    by_cases hg : grt F
    · refine zifn_f (by rw [tX.2.2.2.1 hg]; decide) (m_isForm (fun _ => z1n (hM _ (fun μM1 sM tM => ?_))) (fun q => absurd hF q))
      have t9 : μM1.1 0 9 = nI (dg F) - 1 := tM.2.1
      have fin : qS μX μM (-9223372036854775808 : Int64) (-9223372036854775808) μX1 μM1 := ⟨rfl, sX, sM⟩
      refine m_isRow hdl t9 (fun k hk ek => z1p ?_) (fun q => z0p fin)
      subst ek
      refine m_itemMany (m := dg F - 1) (by omega) (by omega) (by rw [t9]; exact hd_I (by omega)) ?_
      refine m_in_k (fun _ _ => z1p (zif_f (by rw [tM.2.2.2.2.1 hg]; decide) fin)) (fun _ => z0p fin)
    · obtain ⟨g6, gr⟩ := tX.2.2.2.2 hg
      have mside : ∀ r : Int64, ((∃ k j, k < dg F ∧ a2 = nI k ∧ j < wd (dg F - 1) k ∧ a3 = nI j ∧ r = rowK F (dg F - 1) k j) ∨ ((∀ k j, k < dg F → a2 = nI k → j < wd (dg F - 1) k → a3 = nI j → False) ∧ r = -9223372036854775808)) → w_X12_isForm a1 (fun r_1 => (¬ r_1 = 0 → w_X12_laysRowsOf a1 μM (fun μ_4 => w_X12_isRow a2 μ_4 (fun r_5 => (r_5 = 0 → qS μX μM r (-9223372036854775808) μX1 μ_4) ∧ (¬ r_5 = 0 → w_X12_itemMany a2 μ_4 (fun r_7 => w_X12_in (Int32.toInt64 a3) (0 : Int64) (Int32.toInt64 (r_7 - 1)) (fun r_9 => (r_9 = 0 → qS μX μM r (-9223372036854775808) μX1 μ_4) ∧ (¬ r_9 = 0 → ((μ_4.1 0 4) = 0 → w_X12_item a2 a3 μ_4 (fun r_11 => qS μX μM r r_11 μX1 μ_4)) ∧ (¬ (μ_4.1 0 4) = 0 → qS μX μM r (-9223372036854775808) μX1 μ_4)))))))) ∧ (r_1 = 0 → qS μX μM r (-9223372036854775808) μX1 μM)) := by
        intro r hr
        refine m_isForm (fun _ => z1n (hM _ (fun μM1 sM tM => ?_))) (fun q => absurd hF q)
        have t9 : μM1.1 0 9 = nI (dg F) - 1 := tM.2.1
        obtain ⟨m6, mr⟩ := tM.2.2.2.2.2.1 hg
        refine m_isRow hdl t9 (fun k hk ek => z1p ?_) (fun q => z0p ?_)
        · subst ek
          have hw := wd_le (m := dg F - 1) (k := k) (by omega) (by omega)
          refine m_itemMany (m := dg F - 1) (by omega) (by omega) (by rw [t9]; exact hd_I (by omega)) ?_
          have ew : (Int32.toInt64 (nI (wd (dg F - 1) k) - 1)).toInt = (wd (dg F - 1) k : Int) - 1 := by rw [il_toInt, hd_toInt (by omega)]
          refine m_in_k (fun q1 q2 => z1p (zif_t m6 ?_)) (fun q => z0p ?_)
          · rw [il_toInt, show (0 : Int64).toInt = 0 from rfl] at q1
            rw [il_toInt, ew] at q2
            obtain ⟨j, j1, j2⟩ := nn_of (i := a3) (n := 7) (by omega) (by omega) (by omega)
            subst j2
            rw [nI_toInt (by omega)] at q2
            refine m_item (by omega) (by omega) ⟨?_, sX, sM⟩
            rcases hr with ⟨k', j', e1, e2, e3, e4, e5⟩ | ⟨hno, _⟩
            · have : k = k' := (nI_eq (by omega) (by omega)).mp e2
              subst k'
              have : j = j' := (nI_eq (by omega) (by omega)).mp e4
              subst j'
              rw [(mr k hk).1]; exact e5
            · exact absurd (hno k j hk rfl (by omega) rfl) id
          · refine ⟨?_, sX, sM⟩
            rcases hr with ⟨k', j', e1, e2, e3, e4, e5⟩ | ⟨_, e⟩
            · have : k = k' := (nI_eq (by omega) (by omega)).mp e2
              subst k'
              rw [il_toInt, ew, e4, nI_toInt (by omega), show (0 : Int64).toInt = 0 from rfl] at q
              omega
            · exact e
        · refine ⟨?_, sX, sM⟩
          rcases hr with ⟨k', j', e1, e2, e3, e4, e5⟩ | ⟨_, e⟩
          · rw [e2, nI_toInt (by omega)] at q
            omega
          · exact e
      refine zifn_t g6 (e_hasRow hdl t4 (fun k hk ek => z1p ?_) (fun q => z0p (mside _ (Or.inr ⟨fun k j hk ek _ _ => ?_, rfl⟩))))
      · subst ek
        have hw := wd_le (m := dg F - 1) (k := k) (by omega) (by omega)
        rw [i_lt, show (0 : Int32).toInt = 0 from rfl]
        refine zif (fun q => mside _ (Or.inr ⟨fun k' j hk' _ hj' ej => ?_, rfl⟩)) (fun q => e_width (m := dg F - 1) (by omega) (by omega) (by rw [t4]; exact hd_I (by omega)) ?_)
        · have hw' := wd_le (m := dg F - 1) (k := k') (by omega) (by omega)
          rw [ej, nI_toInt (by omega)] at q; omega
        · rw [i_lt, nI_toInt (by omega)]
          refine zif (fun q2 => ?_) (fun q2 => mside _ (Or.inr ⟨fun k' j hk' ek' hj' ej => ?_, rfl⟩))
          · obtain ⟨j, j1, j2⟩ := nn_of (i := a3) (n := 7) (by omega) (by omega) (by omega)
            subst j2
            rw [nI_toInt (by omega)] at q2
            refine ⟨vp_in_nI (by omega) (by omega), vp_in_nI (by omega) (by omega), ?_⟩
            rw [nn_clamp (n := k) (by omega), nn_clamp (n := j) (by omega)]
            exact mside _ (Or.inl ⟨k, j, hk, rfl, by omega, rfl, (gr k hk).1 j (by omega)⟩)
          · have : k = k' := (nI_eq (by omega) (by omega)).mp ek'
            subst k'
            rw [ej, nI_toInt (by omega)] at q2
            omega
      · rw [ek, nI_toInt (by omega)] at q
        omega
  · refine z0n ?_
    unfold w_X12_row
    exact m_isForm (fun q => absurd q hF) (fun _ => z0n (qS_0 μX μM _))
