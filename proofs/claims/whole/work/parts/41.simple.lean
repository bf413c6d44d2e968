/-! feed, await, waiting -/
theorem o_feed {μX μM : ZMem} (h : Rel0 μX μM) (a1 : Int32) : w_X11_feed a1 μX (fun r μX1 => w_X12_feed a1 μM (fun r2 μM1 => oS μX μM r r2 μX1 μM1)) := by
  obtain ⟨n, n1, n2, n3, n4⟩ := h.2.2.2.1
  have no : ¬ (0 ≤ a1.toInt ∧ a1.toInt ≤ 127) → w_X12_feed a1 μM (fun r2 μM1 => oS μX μM (-2) r2 μX μM1) := by
    intro hn
    unfold w_X12_feed
    refine m_in_k (fun q1 q2 => absurd ⟨?_, ?_⟩ hn) (fun _ => z0n (oS_0 h _))
    · rw [il_toInt] at q1; exact q1
    · rw [il_toInt] at q2; exact q2
  unfold w_X11_feed
  rw [i_lt, i_le, show (0 : Int32).toInt = 0 from rfl, show (127 : Int32).toInt = 127 from rfl]
  refine zif (fun q => no (by omega)) (fun q => zif (fun q2 => ?_) (fun q2 => no (by omega)))
  rw [n2, show (60 : Int32) = nI 60 from rfl, n_lt (by omega) (by omega)]
  have yes : ∀ Ψ : Prop, Ψ → ∀ B : Prop, (¬ (1 : Int32) = 0 → Ψ) ∧ ((1 : Int32) = 0 → B) := fun Ψ x B => z1n x
  refine zif (fun h6 => ?_) (fun h6 => ?_)
  · unfold w_X9_append
    rw [n2, show (60 : Int32) = nI 60 from rfl, n_le (by omega) (by omega), nn_clamp (by omega)]
    refine zif_f (by omega) ⟨vp_in_nI (by omega) (by omega), nm_b (nm_b ?_)⟩
    have e3 : (zz_upI μX 24 n a1).1 23 3 = nI n := n2
    rw [e3, nI_1]
    unfold w_X12_feed
    refine m_in_k (fun _ _ => z1n ?_) (fun q0 => absurd ?_ q0)
    · rw [n3, show (60 : Int32) = nI 60 from rfl, nI_eq (by omega) (by omega), nn_clamp (by omega)]
      refine zifn_f (by omega) ⟨vp_in_nI (by omega) (by omega), nm_b (nm_b ?_)⟩
      have e4 : (zz_upI μM 13 n a1).1 0 22 = nI n := n3
      rw [e4, nI_1]
      refine ⟨rfl, ⟨now_fr h.1 (fun a q1 q2 => ⟨?_, rfl⟩) rfl, kept_fr h.2.1 (fun a q1 q2 => ⟨?_, rfl⟩) rfl, h.2.2.1, ⟨n + 1, by omega, rfl, rfl, fun i hi => ?_⟩, trays_fr h.2.2.2.2 (fun a q1 q2 => ⟨?_, rfl⟩) rfl rfl rfl⟩, Or.inl ⟨fun a q1 q2 => ⟨?_, rfl⟩, rfl, rfl⟩⟩
      · rw [mI1, if_neg (by omega), mI1, if_neg (by omega)]
      · rw [mI1, if_neg (by omega), mI1, if_neg (by omega)]
      · show upd (μX.1 24) n a1 i = upd (μM.1 13) n a1 i ∧ 0 ≤ (upd (μM.1 13) n a1 i).toInt ∧ (upd (μM.1 13) n a1 i).toInt ≤ 127
        rw [upd_at, upd_at]
        by_cases e : i = n
        · rw [if_pos e, if_pos e]; exact ⟨rfl, by omega, by omega⟩
        · rw [if_neg e, if_neg e]; exact n4 i (by omega)
      · rw [mI1, if_neg (by omega), mI1, if_neg (by omega)]
      · rw [mI1, if_neg (by omega), mI1, if_neg (by omega)]
    · rw [il_toInt]; exact ⟨by show (0 : Int) ≤ _; omega, by show _ ≤ (127 : Int); omega⟩
  · unfold w_X12_feed
    refine m_in_k (fun _ _ => z1n ?_) (fun q0 => absurd ?_ q0)
    · rw [n3, show (60 : Int32) = nI 60 from rfl, nI_eq (by omega) (by omega)]
      exact zifn_t (by omega) (oS_0 h _)
    · rw [il_toInt]; exact ⟨by show (0 : Int) ≤ _; omega, by show _ ≤ (127 : Int); omega⟩
theorem o_waiting {μX μM : ZMem} (h : Rel0 μX μM) (a1 : Int32) : w_X11_waiting a1 μX (fun r => w_X12_waiting a1 μM (fun r2 => oS μX μM r r2 μX μM)) := by
  obtain ⟨w, b1, b2, b3, b4⟩ := h.1.2.2.2.2.2.1
  have el : ((Int32.toInt64 (μM.1 1 15 - 1)).toInt) = (w : Int) - 1 := by
    rw [il_toInt, b3, show (1 : Int32) = nI 1 from rfl, pk_sub_toInt (by omega) (by omega)]; rfl
  have no : ¬ (0 ≤ a1.toInt ∧ a1.toInt < w) → w_X12_waiting a1 μM (fun r2 => oS μX μM (-1) r2 μX μM) := by
    intro hn
    unfold w_X12_waiting
    refine m_in_k (fun q1 q2 => absurd ⟨?_, ?_⟩ hn) (fun _ => z0p (oS_0 h _))
    · rw [il_toInt] at q1; exact q1
    · rw [il_toInt, el] at q2; omega
  unfold w_X11_waiting
  rw [b2, i_lt, i_lt, nI_toInt (by omega), show (0 : Int32).toInt = 0 from rfl]
  refine zif (fun q => no (by omega)) (fun q => zif (fun q2 => ?_) (fun q2 => no (by omega)))
  obtain ⟨i, i1, i2⟩ := nn_of (i := a1) (n := 16) (by omega) (by omega) (by omega)
  subst i2
  rw [nI_toInt (by omega)] at q2
  refine ⟨vp_in_nI (by omega) (by omega), ?_⟩
  rw [nn_clamp (by omega)]
  unfold w_X12_waiting
  refine m_in_k (fun _ _ => z1p ?_) (fun q0 => absurd ?_ q0)
  · rw [show (16 : Int32) + nI i = nI (16 + i) from nI_add 16 i, nn_clamp (by omega)]
    refine ⟨vp_in_nI (by omega) (by omega), ?_⟩
    rw [(b4 i (by omega)).1]
    exact oS_0 h _
  · rw [il_toInt, el, nI_toInt (by omega)]; exact ⟨by show (0 : Int) ≤ _; omega, by omega⟩
