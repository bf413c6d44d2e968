/-! how the two memories agree, but for what the class keeps of its surveys -/
def rTape (μX μM : ZMem) : Prop := ∃ n, n ≤ 60 ∧ μX.1 23 3 = nI n ∧ μM.1 0 22 = nI n ∧ ∀ i, i < n → μX.1 24 i = μM.1 13 i ∧ 0 ≤ (μM.1 13 i).toInt ∧ (μM.1 13 i).toInt ≤ 127
def rTrays (μX μM : ZMem) : Prop := ∀ t, t < 4 → ∃ z, z ≤ 30 ∧ μX.1 (86 + 2 * t) 2 = nI z ∧ μM.1 16 t = nI z ∧ μX.1 (86 + 2 * t) 1 = μM.1 15 t ∧ ((μM.1 15 t = -1 ∧ z = 0) ∨ μM.1 15 t = 0 ∨ μM.1 15 t = 1) ∧ ∀ j, j < 30 → μX.2 (86 + 2 * t + 1) j = μM.2 17 (30 * t + j)
def rFlags (μX μM : ZMem) : Prop := μX.1 0 2 = μM.1 0 2 ∧ μX.1 0 4 = μM.1 0 3
def Rel0 (μX μM : ZMem) : Prop := rNow μX μM ∧ rKept μX μM ∧ rFlags μX μM ∧ rTape μX μM ∧ rTrays μX μM
/-- the surveys stand, or are forgotten -/
def rC (μX μX' : ZMem) : Prop := ((∀ a, 64 ≤ a → a ≤ 84 → μX'.1 a = μX.1 a ∧ μX'.2 a = μX.2 a) ∧ μX'.2 2 = μX.2 2 ∧ μX'.2 3 = μX.2 3) ∨ (μX'.1 64 4 = 0 ∧ μX'.1 67 4 = 0 ∧ μX'.1 70 3 = 0 ∧ μX'.1 64 0 = μX.1 64 0 ∧ μX'.1 67 0 = μX.1 67 0)
def oS (μX μM : ZMem) {α : Type} (r r2 : α) (μX1 μM1 : ZMem) : Prop := r = r2 ∧ Rel0 μX1 μM1 ∧ rC μX μX1
theorem rC_rfl (μX : ZMem) : rC μX μX := Or.inl ⟨fun _ _ _ => ⟨rfl, rfl⟩, rfl, rfl⟩
theorem oS_0 {μX μM : ZMem} (h : Rel0 μX μM) {α : Type} (r : α) : oS μX μM r r μX μM := ⟨rfl, h, rC_rfl μX⟩
theorem rSt_fac {p q : Nat → Int64} {k w fc : Int32} {line : Nat → Int32} {fac fac' : Nat → Nat → Int32} {g : Nat → Int32} (h : rSt p q k w fc line fac g) (e : ∀ i, i < 6 → fac' i = fac i) : rSt p q k w fc line fac' g := by
  obtain ⟨a1, a2, a3, a4, a5, a6, n, a7, a8, a9, a10⟩ := h
  refine ⟨a1, a2, a3, a4, a5, a6, n, a7, a8, a9, fun i hi => ?_⟩
  rw [e i (by omega)]
  exact a10 i hi
theorem ab_in {a : Int32} {n : Nat} : ab a ≤ n ↔ -(n : Int) ≤ a.toInt ∧ a.toInt ≤ n := by unfold ab; omega
theorem rSt_gain {p q : Nat → Int64} {k w fc a : Int32} {line : Nat → Int32} {fac : Nat → Nat → Int32} {g : Nat → Int32} (h : rSt p q k w fc line fac g) (ha : ab a ≤ 100) : rSt p q a w fc line fac (upd g 14 a) := by
  obtain ⟨a1, a2, a3, a4, a5, ⟨w', b1, b2, b3, b4⟩, n, a7, a8, a9, a10⟩ := h
  refine ⟨fun j hj => ?_, fun j hj => ?_, fun j hj => ?_, ?_, ha, ⟨w', b1, b2, ?_, fun i hi => ?_⟩, n, a7, a8, ?_, fun i hi => ?_⟩
  · rw [upd_at, if_neg (by omega)]; exact a1 j hj
  · rw [upd_at, if_neg (by omega)]; exact a2 j hj
  · rw [upd_at, if_neg (by omega)]; exact a3 j hj
  · rw [upd_at, if_pos rfl]
  · rw [upd_at, if_neg (by omega)]; exact b3
  · rw [upd_at, if_neg (by omega)]; exact b4 i hi
  · rw [upd_at, if_neg (by omega)]; exact a9
  · rw [upd_at, if_neg (by omega), upd_at, if_neg (by omega), upd_at, if_neg (by omega)]; exact a10 i hi
theorem within_k {a b : Int32} {n : Nat} (hb : b = nI n) (hn : n < 1000) {Φ : Int32 → Prop} (h1 : ab a ≤ n → Φ 1) (h0 : ¬ ab a ≤ n → Φ 0) : w_X11_isWithin a b Φ := by
  subst hb
  rw [e_within]
  unfold bI
  have e1 : (a < -(nI n)) = (a.toInt < -(n : Int)) := by
    rw [i_lt, Int32.toInt_neg, nI_toInt (by omega), Int.bmod_eq_of_le (by omega) (by omega)]
  have e2 : (nI n < a) = ((n : Int) < a.toInt) := by rw [i_lt, nI_toInt (by omega)]
  simp only [e1, e2]
  split
  · exact h1 (ab_in.mpr (by omega))
  · exact h0 (fun q => by have := ab_in.mp q; omega)
theorem kept_fr {μX μM μX' μM' : ZMem} (h : rKept μX μM) (hX : ∀ a, 12 ≤ a → a ≤ 22 → μX'.1 a = μX.1 a ∧ μX'.2 a = μX.2 a) (hM : μM'.1 2 = μM.1 2) : rKept μX' μM' := by
  unfold rKept at h ⊢
  rw [(hX 13 (by omega) (by omega)).2, (hX 14 (by omega) (by omega)).2, (hX 12 (by omega) (by omega)).1, (hX 15 (by omega) (by omega)).1, hM]
  exact rSt_fac h (fun i hi => (hX (17 + i) (by omega) (by omega)).1)
theorem now_fr {μX μM μX' μM' : ZMem} (h : rNow μX μM) (hX : ∀ a, 1 ≤ a → a ≤ 11 → μX'.1 a = μX.1 a ∧ μX'.2 a = μX.2 a) (hM : μM'.1 1 = μM.1 1) : rNow μX' μM' := by
  unfold rNow at h ⊢
  rw [(hX 2 (by omega) (by omega)).2, (hX 3 (by omega) (by omega)).2, (hX 1 (by omega) (by omega)).1, (hX 4 (by omega) (by omega)).1, hM]
  exact rSt_fac h (fun i hi => (hX (6 + i) (by omega) (by omega)).1)
theorem tape_fr {μX μM μX' μM' : ZMem} (h : rTape μX μM) (h1 : μX'.1 23 3 = μX.1 23 3) (h2 : μX'.1 24 = μX.1 24) (h3 : μM'.1 0 22 = μM.1 0 22) (h4 : μM'.1 13 = μM.1 13) : rTape μX' μM' := by
  unfold rTape at h ⊢
  rw [h1, h2, h3, h4]; exact h
theorem trays_fr {μX μM μX' μM' : ZMem} (h : rTrays μX μM) (hX : ∀ a, 86 ≤ a → a ≤ 93 → μX'.1 a = μX.1 a ∧ μX'.2 a = μX.2 a) (h1 : μM'.1 15 = μM.1 15) (h2 : μM'.1 16 = μM.1 16) (h3 : μM'.2 17 = μM.2 17) : rTrays μX' μM' := by
  intro t ht
  obtain ⟨z, z1, z2, z3, z4, z5, z6⟩ := h t ht
  rw [(hX (86 + 2 * t) (by omega) (by omega)).1, (hX (86 + 2 * t + 1) (by omega) (by omega)).2, h1, h2, h3]
  exact ⟨z, z1, z2, z3, z4, z5, z6⟩
theorem o_gain {μX μM : ZMem} (h : Rel0 μX μM) (a1 : Int32) : w_X11_gain a1 μX (fun r μX1 => w_X12_gain a1 μM (fun r2 μM1 => oS μX μM r r2 μX1 μM1)) := by
  unfold w_X11_gain
  refine within_k (n := 100) rfl (by omega) (fun ha => z1n (nm_b ?_)) (fun ha => z0n ?_)
  · unfold w_X12_gain
    refine m_in_k (fun _ _ => z1n (nm_b ⟨rfl, ⟨?_, kept_fr h.2.1 (fun a q1 q2 => ⟨if_neg (by omega), rfl⟩) rfl, h.2.2.1, tape_fr h.2.2.2.1 rfl rfl rfl rfl, trays_fr h.2.2.2.2 (fun a q1 q2 => ⟨if_neg (by omega), rfl⟩) rfl rfl rfl⟩, ?_⟩)) (fun q => absurd ?_ q)
    · exact rSt_fac (rSt_gain h.1 ha) (fun i hi => if_neg (by omega))
    · exact Or.inl ⟨fun a q1 q2 => ⟨if_neg (by omega), rfl⟩, rfl, rfl⟩
    · rw [il_toInt]; exact ab_in.mp ha
  · unfold w_X12_gain
    refine m_in_k (fun q1 q2 => absurd (ab_in.mpr ⟨?_, ?_⟩) ha) (fun _ => z0n (oS_0 h _))
    · rw [il_toInt] at q1; exact q1
    · rw [il_toInt] at q2; exact q2
