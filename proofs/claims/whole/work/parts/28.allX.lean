/-! the class's building -/
def z0 : Nat → Int64 := fun _ => 0
def rowA (F : Nat → Int64) (m k : Nat) : Nat → Int64 := if k < 2 then z0 else rowK F m (k - 2)
def rowB (F : Nat → Int64) (m k : Nat) : Nat → Int64 := if k = 0 then z0 else rowK F m (k - 1)
theorem rowP_0 (F : Nat → Int64) (m : Nat) : rowP F m 0 = (stepR F m 0 z0 z0).map fun r => (z0, r) := rfl
theorem rowP_s (F : Nat → Int64) (m k : Nat) : rowP F m (k + 1) = (rowP F m k).bind fun p => (stepR F m (k + 1) p.1 p.2).map fun r => (p.2, r) := rfl
theorem rowP_ok {F : Nat → Int64} {m : Nat} : ∀ {k : Nat}, okK F m k → rowP F m k = some (rowA F m (k + 1), rowK F m k) := by
  intro k
  cases k with
  | zero =>
    intro h
    have h' := h
    unfold okK at h
    rw [Option.isSome_iff_exists] at h
    obtain ⟨p, hp⟩ := h
    have e : rowK F m 0 = p.2 := by unfold rowK; rw [hp]; rfl
    rw [e, hp]
    rw [rowP_0, Option.map_eq_some_iff] at hp
    obtain ⟨r, hr, hp⟩ := hp
    rw [← hp]; rfl
  | succ k =>
    intro h
    unfold okK at h
    rw [Option.isSome_iff_exists] at h
    obtain ⟨p, hp⟩ := h
    have e : rowK F m (k + 1) = p.2 := by unfold rowK; rw [hp]; rfl
    rw [e, hp]
    rw [rowP_s, Option.bind_eq_some_iff] at hp
    obtain ⟨q, hq, hp⟩ := hp
    rw [Option.map_eq_some_iff] at hp
    obtain ⟨r, hr, hp⟩ := hp
    have e2 : rowA F m (k + 1 + 1) = q.2 := by
      unfold rowA
      rw [if_neg (by omega), show k + 1 + 1 - 2 = k by omega]
      unfold rowK; rw [hq]; rfl
    rw [e2, ← hp]
theorem stepK {F : Nat → Int64} {m k : Nat} (hk : ∀ i, i < k → okK F m i) : (stepR F m k (rowA F m k) (rowB F m k) = none → ¬ okK F m k) ∧ (∀ r, stepR F m k (rowA F m k) (rowB F m k) = some r → okK F m k ∧ rowK F m k = r) ∧ cseK F m k = stepC F m k (rowA F m k) (rowB F m k) := by
  cases k with
  | zero =>
    refine ⟨fun h q => ?_, fun r h => ?_, rfl⟩
    · unfold okK at q
      rw [rowP_0, show stepR F m 0 z0 z0 = none from h] at q
      cases q
    · have hp : rowP F m 0 = some (z0, r) := by rw [rowP_0, show stepR F m 0 z0 z0 = some r from h]; rfl
      unfold okK rowK
      rw [hp]
      exact ⟨rfl, rfl⟩
  | succ k =>
    have hp := rowP_ok (hk k (Nat.lt_succ_self k))
    have hB : rowB F m (k + 1) = rowK F m k := rfl
    rw [hB]
    refine ⟨fun h q => ?_, fun r h => ?_, ?_⟩
    · unfold okK at q
      rw [rowP_s, hp, Option.bind_some, h] at q
      cases q
    · have hp2 : rowP F m (k + 1) = some (rowK F m k, r) := by rw [rowP_s, hp, Option.bind_some, h]; rfl
      unfold okK rowK
      rw [hp2]
      exact ⟨rfl, rfl⟩
    · unfold cseK stepC
      rw [if_neg (Nat.succ_ne_zero k)]
      dsimp only
      rw [hp]
      rfl
theorem rowK_ne {F : Nat → Int64} {m k : Nat} (hm : m ≤ 6) (hF : ∀ i, i < 7 → ¬ F i = MINL) (h : okK F m k) (j : Nat) : ¬ rowK F m k j = MINL := by
  have hs := stepK (F := F) (m := m) (k := k) (fun i hi => okK_le h (by omega))
  cases e : stepR F m k (rowA F m k) (rowB F m k) with
  | none => exact absurd h (hs.1 e)
  | some r => rw [(hs.2.1 r e).2]; exact stepR_ne hm hF e j
theorem rowK_ge {F : Nat → Int64} {m k j : Nat} (h : okK F m k) (hj : wd m k ≤ j) : rowK F m k j = 0 := by
  have hs := stepK (F := F) (m := m) (k := k) (fun i hi => okK_le h (by omega))
  cases e : stepR F m k (rowA F m k) (rowB F m k) with
  | none => exact absurd h (hs.1 e)
  | some r =>
    rw [(hs.2.1 r e).2]
    unfold stepR at e
    rw [Option.bind_eq_some_iff] at e
    obtain ⟨q, _, e⟩ := e
    rw [Option.map_eq_some_iff] at e
    obtain ⟨u, _, e⟩ := e
    rw [← e]
    unfold shr cut
    rw [if_neg (by omega)]
/-- what the building may change -/
def frB (t : Nat) (μ μ' : ZMem) : Prop := (∀ a s, ¬ (a = t ∧ s = 6) → a ≠ t + 11 → μ'.1 a s = μ.1 a s) ∧ (∀ a, (a < t + 4 ∨ t + 10 < a) → μ'.2 a = μ.2 a)
theorem e_build {μ : ZMem} {t m : Nat} {F : Nat → Int64} (hm : m ≤ 6) (ht : μ.1 t 4 = nI m) (hF : ∀ j, j < 7 → μ.2 (t + 1) j = F j ∧ ¬ F j = MINL) {Φ : ZMem → Prop}
    (h : ∀ μ', frB t μ μ' → (okK F m m → μ'.1 t 6 = 0 ∧ ∀ k, k ≤ m → (∀ j, j < 4 → μ'.2 (t + 4 + k) j = rowK F m k j) ∧ μ'.1 (t + 11) k = cseK F m k) → (¬ okK F m m → μ'.1 t 6 = 1) → Φ μ') : w_X8_build t μ Φ := by
  refine ⟨m + 2, ?_⟩
  have hFn : ∀ j, j < 7 → ¬ F j = MINL := fun j hj => (hF j hj).2
  have key : ∀ n k μ', k + n = m + 1 → frB t μ μ' → μ'.1 t 6 = 0 → (∀ i, i < k → okK F m i ∧ (∀ j, j < 4 → μ'.2 (t + 4 + i) j = rowK F m i j) ∧ μ'.1 (t + 11) i = cseK F m i) → lpz2 (b_X8_build_7 t Φ) (n + 1) (nI k) μ' := by
    intro n
    induction n with
    | zero =>
      intro k μ' hk hfr h6 hi
      obtain rfl : k = m + 1 := by omega
      refine (show b_X8_build_7 t Φ (nI (m + 1)) μ' (lpz2 (b_X8_build_7 t Φ) 0) from ?_)
      generalize lpz2 (b_X8_build_7 t Φ) 0 = L
      unfold b_X8_build_7
      rw [hfr.1 t 4 (by omega) (by omega), ht]
      refine zif_t (by rw [n_lt (by omega) (by omega)]; omega) ?_
      exact h μ' hfr (fun _ => ⟨h6, fun k hk => (hi k (by omega)).2⟩) (fun q => absurd (hi m (by omega)).1 q)
    | succ n ih =>
      intro k μ' hk hfr h6 hi
      rw [lpz2]
      have hs := stepK (F := F) (m := m) (k := k) (fun i h => (hi i h).1)
      refine e_stepX (F := F) (A := rowA F m k) (B := rowB F m k) (m := m) hm (by omega) (by rw [hfr.1 t 4 (by omega) (by omega)]; exact ht) h6 (fun j hj => ⟨by rw [hfr.2 (t + 1) (by omega)]; exact (hF j hj).1, hFn j hj⟩) (fun h1 j hj => ?_) (fun h1 j hj => ?_) (fun μ2 h2 hbad hgood => ?_)
      · unfold rowB
        rw [if_neg (by omega)]
        exact ⟨(hi (k - 1) (by omega)).2.1 j hj, rowK_ne hm hFn (hi (k - 1) (by omega)).1 j⟩
      · unfold rowA
        rw [if_neg (by omega)]
        exact ⟨(hi (k - 2) (by omega)).2.1 j hj, rowK_ne hm hFn (hi (k - 2) (by omega)).1 j⟩
      · have hfr2 : frB t μ μ2 := by
          refine ⟨fun a s a1 a2 => ?_, fun a ha => ?_⟩
          · rw [h2.1 a s a1 (fun q => a2 q.1)]; exact hfr.1 a s a1 a2
          · rw [h2.2 a (by omega)]; exact hfr.2 a ha
        cases e : stepR F m k (rowA F m k) (rowB F m k) with
        | none =>
          have h61 := hbad e
          rw [lpz2]
          unfold b_X8_build_7
          have fin : Φ μ2 := h μ2 hfr2 (fun q => absurd (okK_le q (show k ≤ m by omega)) (hs.1 e)) (fun _ => h61)
          exact ⟨fun _ => fin, fun _ => zifn_f (by rw [h61]; decide) fin⟩
        | some r =>
          obtain ⟨g1, g2, g3⟩ := hgood r e
          refine ih (k + 1) μ2 (by omega) hfr2 g1 (fun i hik => ?_)
          by_cases hie : i = k
          · subst hie
            refine ⟨(hs.2.1 r e).1, fun j hj => ?_, ?_⟩
            · rw [(hs.2.1 r e).2]; exact g2 j hj
            · rw [hs.2.2]; exact g3
          · have hio := hi i (by omega)
            refine ⟨hio.1, fun j hj => ?_, ?_⟩
            · rw [h2.2 _ (by omega)]; exact hio.2.1 j hj
            · rw [h2.1 _ _ (by omega) (by omega)]; exact hio.2.2
  refine key (m + 1) 0 _ (by omega) ⟨fun a s a1 a2 => ?_, fun a ha => rfl⟩ ?_ (fun i hi => absurd hi (Nat.not_lt_zero i))
  · rw [mI1]
    split
    · rename_i q
      subst q
      rw [upd_at, if_neg (fun q => a1 ⟨rfl, q⟩)]
    · rfl
  · rw [mI1, if_pos rfl, upd_at, if_pos rfl]
theorem e_build_m {μ : ZMem} {t : Nat} (ht : μ.1 t 4 = -1) {Φ : ZMem → Prop} (h : Φ (zz_upI μ t 6 0)) : w_X8_build t μ Φ := by
  refine ⟨1, ?_⟩
  show b_X8_build_7 t Φ 0 _ _
  unfold b_X8_build_7
  have e : (zz_upI μ t 6 0).1 t 4 = -1 := by rw [mI1, if_pos rfl, upd_at, if_neg (by decide)]; exact ht
  rw [e]
  exact zif_t (by decide) h
