/-! what changes only tables keeps the relation -/
theorem Rel0_S {μX μM μX' μM' : ZMem} (h : Rel0 μX μM) (hX : XS 28 μX μX') (hM : MS μM μM') : Rel0 μX' μM' ∧ rC μX μX' := by
  have hx : ∀ a, (a < 28 ∨ (39 < a ∧ a ≠ 85)) → μX'.1 a = μX.1 a ∧ μX'.2 a = μX.2 a := fun a ha => ⟨hX.1 a (by omega) (by omega), hX.2 a (by omega) (by omega)⟩
  refine ⟨⟨now_fr h.1 (fun a q1 q2 => hx a (by omega)) (hM.1 1 (by omega) (by omega)), kept_fr h.2.1 (fun a q1 q2 => hx a (by omega)) (hM.1 2 (by omega) (by omega)), ?_, tape_fr h.2.2.2.1 (by rw [(hx 23 (by omega)).1]) (hx 24 (by omega)).1 (hM.2.1 22 (by omega) (by omega) (by omega) (by omega)) (hM.1 13 (by omega) (by omega)), trays_fr h.2.2.2.2 (fun a q1 q2 => hx a (by omega)) (hM.1 15 (by omega) (by omega)) (hM.1 16 (by omega) (by omega)) (hM.2.2 17 (by omega))⟩, Or.inl ⟨fun a q1 q2 => hx a (by omega), (hx 2 (by omega)).2, (hx 3 (by omega)).2⟩⟩
  unfold rFlags
  rw [(hx 0 (by omega)).1, hM.2.1 2 (by omega) (by omega) (by omega) (by omega), hM.2.1 3 (by omega) (by omega) (by omega) (by omega)]
  exact h.2.2.1
theorem oS_q {μX μM : ZMem} (h : Rel0 μX μM) {α : Type} {r r2 : α} {μX1 μM1 : ZMem} (q : qS μX μM r r2 μX1 μM1) : oS μX μM r r2 μX1 μM1 := ⟨q.1, (Rel0_S h q.2.1 q.2.2).1, (Rel0_S h q.2.1 q.2.2).2⟩
theorem q_of {μX μM : ZMem} (h : rNow μX μM) (a1 a2 : Int32) : w_X11_of a1 a2 μX (fun r μX1 => w_X12_of a1 a2 μM (fun r2 μM1 => qS μX μM r r2 μX1 μM1)) := by
  have no : ¬ (0 ≤ a1.toInt ∧ a1.toInt ≤ 2 ∧ 0 ≤ a2.toInt ∧ a2.toInt < 7) → w_X12_of a1 a2 μM (fun r2 μM1 => qS μX μM (-9223372036854775808) r2 μX μM1) := by
    intro hn
    unfold w_X12_of
    refine m_in_k (fun q1 q2 => z1p ?_) (fun _ => z0p (qS_0 μX μM _))
    rw [il_toInt] at q1 q2
    have q1' : (0 : Int) ≤ a1.toInt := q1
    have q2' : a1.toInt ≤ (2 : Int) := q2
    refine m_isPower (fun k hk ek => absurd ⟨q1', q2', ?_⟩ hn) (fun _ => z0n (qS_0 μX μM _))
    rw [ek, nI_toInt (by omega)]; omega
  unfold w_X11_of
  rw [i_lt, i_lt, show (0 : Int32).toInt = 0 from rfl, show (2 : Int32).toInt = 2 from rfl]
  refine zif (fun q => no (by omega)) (fun q => zif (fun q2 => no (by omega)) (fun q2 => ?_))
  refine e_isPower (fun k hk ek => z1n ?_) (fun hn => z0n (no (by omega)))
  subst ek
  have hv := vp_in_nI (n := k) (N := 7) hk (by omega)
  have ms : ∀ (μX1 : ZMem) (r : Int64), XS 28 μX μX1 → (∀ μM1, MS μM μM1 → (∀ j, j < 7 → μM1.2 3 j = cNow μM j) → (¬ a1 = 2 → r = Int32.toInt64 (μM1.1 1 (Int32.toNatClampNeg (7 * a1 + nI k)))) ∧ (a1 = 2 → r = μM1.2 3 k)) → w_X12_of a1 (nI k) μM (fun r2 μM1 => qS μX μM r r2 μX1 μM1) := by
    intro μX1 r sX hr
    unfold w_X12_of
    refine m_in_k (fun _ _ => z1p (m_isPower (fun _ _ _ => z1n ?_) (fun hn => absurd (by rw [nI_toInt (by omega)]; omega) hn))) (fun hn => absurd (by rw [il_toInt]; exact ⟨by show (0 : Int) ≤ _; omega, by show _ ≤ (2 : Int); omega⟩) hn)
    refine m_takes (fun μM1 q1 q2 q3 q4 => ?_)
    have sM : MS μM μM1 := ⟨fun x a1 a2 => funext fun s => q1 x s (fun q => a1 q.1), fun s a1 a2 a3 a4 => q1 0 s (fun q => a2 q.2), fun x a1 => q2 x (by omega)⟩
    have hr' := hr μM1 sM q3
    refine zifn (fun n2 => ⟨?_, hr'.1 n2, sX, sM⟩) (fun n2 => ⟨hv, ?_, sX, sM⟩)
    · obtain ⟨i, i1, i2⟩ := nn_of (i := a1) (n := 2) (by omega) (by omega) (by omega)
      rw [i2, show (7 : Int32) = nI 7 from rfl, pk_mul, nI_add]
      exact vp_in_nI (by omega) (by omega)
    · rw [nn_clamp (by omega)]; exact hr'.2 n2
  refine zifn (fun n2 => zifn (fun n0 => ⟨hv, ?_⟩) (fun n0 => ⟨hv, ?_⟩)) (fun n2 => ?_)
  · have e1 : a1 = nI 1 := by
      obtain ⟨i, i1, i2⟩ := nn_of (i := a1) (n := 2) (by omega) (by omega) (by omega)
      have : i = 0 ∨ i = 1 ∨ i = 2 := by omega
      rcases this with rfl | rfl | rfl
      · exact absurd i2 n0
      · exact i2
      · exact absurd i2 n2
    refine ms μX _ (XS_rfl 28 μX) (fun μM1 sM _ => ⟨fun _ => ?_, fun q => absurd q n2⟩)
    rw [e1, show (7 : Int32) * nI 1 = nI 7 from rfl, nI_add, nn_clamp (by omega), nn_clamp (by omega), sM.1 1 (by decide) (by decide)]
    exact h.2.1 k hk
  · refine ms μX _ (XS_rfl 28 μX) (fun μM1 sM _ => ⟨fun _ => ?_, fun q => absurd q n2⟩)
    rw [n0, show (7 : Int32) * 0 = nI 0 from rfl, nI_add, nn_clamp (by omega), nn_clamp (by omega), sM.1 1 (by decide) (by decide), Nat.zero_add]
    exact h.1 k hk
  · refine e_currentC (rNow_mix h) (fun μ1 p1 p2 p3 => ⟨rfl, hv, ?_⟩)
    rw [nn_clamp (by omega)]
    refine ms μ1 _ ⟨fun x _ _ => by rw [p1], fun x a1 _ => p2 x a1⟩ (fun μM1 sM q3 => ⟨fun q => absurd n2 q, fun _ => ?_⟩)
    rw [p3 k hk, q3 k hk]
