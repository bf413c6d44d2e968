/-! get, put -/
theorem e_isTray {a : Int32} {Φ : Int32 → Prop} (h1 : ∀ k, k < 4 → a = nI k → Φ 1) (h0 : ¬ (0 ≤ a.toInt ∧ a.toInt < 4) → Φ 0) : w_X11_isTray a Φ := by
  unfold w_X11_isTray
  rw [i_lt, i_le, show (0 : Int32).toInt = 0 from rfl, show (4 : Int32).toInt = 4 from rfl]
  refine zif (fun q => h0 (by omega)) (fun q => zif (fun q2 => h0 (by omega)) (fun q2 => ?_))
  obtain ⟨k, k1, k2⟩ := nn_of (i := a) (n := 3) (by omega) (by omega) (by omega)
  exact h1 k (by omega) k2
theorem m_isTray {a : Int32} {Φ : Int32 → Prop} (h1 : ∀ k, k < 4 → a = nI k → Φ 1) (h0 : ¬ (0 ≤ a.toInt ∧ a.toInt < 4) → Φ 0) : w_X12_isTray a Φ := by
  unfold w_X12_isTray
  refine m_in_k (fun q1 q2 => ⟨Or.inr rfl, ?_⟩) (fun q => ⟨Or.inl rfl, h0 ?_⟩)
  · rw [il_toInt, show (0 : Int64).toInt = 0 from rfl] at q1
    rw [il_toInt, show (3 : Int64).toInt = 3 from rfl] at q2
    obtain ⟨k, k1, k2⟩ := nn_of (i := a) (n := 3) (by omega) (by omega) (by omega)
    exact h1 k (by omega) k2
  · rw [il_toInt, show (0 : Int64).toInt = 0 from rfl, show (3 : Int64).toInt = 3 from rfl] at q
    omega
theorem o_get {μX μM : ZMem} (h : Rel0 μX μM) (a1 a2 : Int32) : w_X11_get a1 a2 μX (fun r => w_X12_get a1 a2 μM (fun r2 => oS μX μM r r2 μX μM)) := by
  unfold w_X11_get
  refine e_isTray (fun t ht et => z1n ?_) (fun hn => z0n ?_)
  · subst et
    obtain ⟨z, z1, z2, z3, z4, z5, z6⟩ := h.2.2.2.2 t ht
    have hv := vp_in_nI (n := t) (N := 4) ht (by omega)
    have el : ((Int32.toInt64 (nI z - 1)).toInt) = (z : Int) - 1 := by
      rw [il_toInt, show (1 : Int32) = nI 1 from rfl, pk_sub_toInt (by omega) (by omega)]; rfl
    have no : ¬ (0 ≤ a2.toInt ∧ a2.toInt < z) → w_X12_get (nI t) a2 μM (fun r2 => oS μX μM (-9223372036854775808) r2 μX μM) := by
      intro hn
      unfold w_X12_get
      refine m_isTray (fun _ _ _ => z1p ⟨hv, ?_⟩) (fun q => absurd (by rw [nI_toInt (by omega)]; omega) q)
      rw [nn_clamp (by omega), z3]
      refine m_in_k (fun q1 q2 => absurd ⟨?_, ?_⟩ hn) (fun _ => z0p (oS_0 h _))
      · rw [il_toInt] at q1; exact q1
      · rw [il_toInt, el] at q2; omega
    refine ⟨hv, ?_⟩
    rw [nn_clamp (by omega)]
    unfold w_X10_isNothing
    rw [z2, z4]
    refine zifn (fun hs => z0n ?_) (fun hs => z1n (no ?_))
    · rw [i_lt, i_lt, nI_toInt (by omega), show (0 : Int32).toInt = 0 from rfl]
      refine zif (fun q => no (by omega)) (fun q => zif (fun q2 => ?_) (fun q2 => no (by omega)))
      obtain ⟨j, j1, j2⟩ := nn_of (i := a2) (n := 30) (by omega) (by omega) (by omega)
      subst j2
      rw [nI_toInt (by omega)] at q2
      refine ⟨vp_in_nI (by omega) (by omega), ?_⟩
      rw [nn_clamp (by omega)]
      unfold w_X12_get
      refine m_isTray (fun _ _ _ => z1p ⟨hv, ?_⟩) (fun q => absurd (by rw [nI_toInt (by omega)]; omega) q)
      rw [nn_clamp (n := t) (by omega), z3]
      refine m_in_k (fun _ _ => z1p ?_) (fun q0 => absurd ?_ q0)
      · rw [show (30 : Int32) = nI 30 from rfl, pk_mul, nI_add, nn_clamp (by omega)]
        refine ⟨vp_in_nI (by omega) (by omega), ?_⟩
        rw [z6 j (by omega)]
        exact oS_0 h _
      · rw [il_toInt, el, nI_toInt (by omega)]; exact ⟨by show (0 : Int) ≤ _; omega, by omega⟩
    · rcases z5 with ⟨_, e⟩ | e | e
      · omega
      · rw [e] at hs; exact absurd hs (by decide)
      · rw [e] at hs; exact absurd hs (by decide)
  · unfold w_X12_get
    exact m_isTray (fun k hk ek => absurd (by rw [ek, nI_toInt (by omega)]; omega) hn) (fun _ => z0p (oS_0 h _))
