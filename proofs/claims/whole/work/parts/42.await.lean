/-! await, of -/
theorem rSt_await {p q : Nat → Int64} {k fc a : Int32} {line : Nat → Int32} {fac : Nat → Nat → Int32} {g : Nat → Int32} {n : Nat} (h : rSt p q k (nI n) fc line fac g) (hn : n < 16) (ha : ab a ≤ 100) : rSt p q k (nI (n + 1)) fc (upd line n a) fac (upd (upd g (16 + n) a) 15 (nI (n + 1))) := by
  obtain ⟨a1, a2, a3, a4, a5, ⟨w', b1, b2, b3, b4⟩, m, a7, a8, a9, a10⟩ := h
  have hw : n = w' := (nI_eq (by omega) (by omega)).mp b2
  subst hw
  have low : ∀ j, j < 15 ∨ 32 ≤ j → upd (upd g (16 + n) a) 15 (nI (n + 1)) j = g j := fun j hj => by
    rw [upd_at, if_neg (by omega), upd_at, if_neg (by omega)]
  refine ⟨fun j hj => ?_, fun j hj => ?_, fun j hj => ?_, ?_, a5, ⟨n + 1, by omega, rfl, ?_, fun i hi => ?_⟩, m, a7, a8, ?_, fun i hi => ?_⟩
  · rw [low _ (by omega)]; exact a1 j hj
  · rw [low _ (by omega)]; exact a2 j hj
  · rw [low _ (by omega)]; exact a3 j hj
  · rw [low _ (by omega)]; exact a4
  · rw [upd_at, if_pos rfl]
  · rw [upd_at line, upd_at _ 15, if_neg (show ¬ 16 + i = 15 by omega), upd_at g]
    by_cases e : i = n
    · rw [if_pos e, if_pos (show 16 + i = 16 + n by omega)]; exact ⟨rfl, ha⟩
    · rw [if_neg e, if_neg (show ¬ 16 + i = 16 + n by omega)]; exact b4 i (by omega)
  · rw [low _ (by omega)]; exact a9
  · rw [low _ (by omega), low _ (by omega), low _ (by omega)]; exact a10 i hi
theorem o_await {μX μM : ZMem} (h : Rel0 μX μM) (a1 : Int32) : w_X11_await a1 μX (fun r μX1 => w_X12_await a1 μM (fun r2 μM1 => oS μX μM r r2 μX1 μM1)) := by
  obtain ⟨w, b1, b2, b3, b4⟩ := h.1.2.2.2.2.2.1
  unfold w_X11_await
  refine within_k (n := 100) rfl (by omega) (fun ha => z1n ?_) (fun ha => z0n ?_)
  · rw [b2, show (16 : Int32) = nI 16 from rfl, n_lt (by omega) (by omega), nn_clamp (by omega)]
    have hin : (Int64.toInt (-100) ≤ (Int32.toInt64 a1).toInt ∧ (Int32.toInt64 a1).toInt ≤ Int64.toInt 100) := by rw [il_toInt]; exact ab_in.mp ha
    refine zif (fun h6 => ⟨vp_in_nI (by omega) (by omega), nm_b (nm_b ?_)⟩) (fun h6 => ?_)
    · have e3 : (zz_upI μX 4 w a1).1 1 4 = nI w := b2
      rw [e3, nI_1]
      unfold w_X12_await
      refine m_in_k (fun _ _ => z1n ?_) (fun q0 => absurd hin q0)
      rw [b3, show (16 : Int32) = nI 16 from rfl, nI_eq (by omega) (by omega), nI_add, nn_clamp (by omega)]
      refine zifn_f (by omega) ⟨vp_in_nI (by omega) (by omega), nm_b (nm_b ?_)⟩
      have e4 : (zz_upI μM 1 (16 + w) a1).1 1 15 = nI w := by
        rw [mI1, if_pos rfl, upd_at, if_neg (by omega)]; exact b3
      rw [e4, nI_1]
      have hs : rSt (μX.2 2) (μX.2 3) (μX.1 1 2) (nI w) (μX.1 1 6) (μX.1 4) (fun i => μX.1 (6 + i)) (μM.1 1) := by rw [← b2]; exact h.1
      refine ⟨?_, ⟨?_, kept_fr h.2.1 (fun a q1 q2 => ⟨?_, rfl⟩) rfl, h.2.2.1, tape_fr h.2.2.2.1 rfl rfl rfl rfl, trays_fr h.2.2.2.2 (fun a q1 q2 => ⟨?_, rfl⟩) rfl rfl rfl⟩, Or.inl ⟨fun a q1 q2 => ⟨?_, rfl⟩, rfl, rfl⟩⟩
      · rfl
      · exact rSt_fac (rSt_await hs (by omega) ha) (fun i hi => by rw [mI1, if_neg (by omega), mI1, if_neg (by omega)])
      · rw [mI1, if_neg (by omega), mI1, if_neg (by omega)]
      · rw [mI1, if_neg (by omega), mI1, if_neg (by omega)]
      · rw [mI1, if_neg (by omega), mI1, if_neg (by omega)]
    · unfold w_X12_await
      refine m_in_k (fun _ _ => z1n ?_) (fun q0 => absurd hin q0)
      rw [b3, show (16 : Int32) = nI 16 from rfl, nI_eq (by omega) (by omega)]
      exact zifn_t (by omega) (oS_0 h _)
  · unfold w_X12_await
    refine m_in_k (fun q1 q2 => absurd (ab_in.mpr ⟨?_, ?_⟩) ha) (fun _ => z0n (oS_0 h _))
    · rw [il_toInt] at q1; exact q1
    · rw [il_toInt] at q2; exact q2
