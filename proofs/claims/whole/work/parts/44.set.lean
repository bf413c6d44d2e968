/-! set -/
theorem rSt_pq {p q p' q' : Nat → Int64} {k w fc : Int32} {line : Nat → Int32} {fac : Nat → Nat → Int32} {g g' : Nat → Int32} (h : rSt p q k w fc line fac g) (hp : ∀ j, j < 7 → p' j = Int32.toInt64 (g' j)) (hq : ∀ j, j < 7 → q' j = Int32.toInt64 (g' (7 + j))) (hb : ∀ j, j < 14 → ab (g' j) ≤ 99) (hg : ∀ j, 14 ≤ j → g' j = g j) : rSt p' q' k w fc line fac g' := by
  obtain ⟨a1, a2, a3, a4, a5, ⟨w', b1, b2, b3, b4⟩, n, a7, a8, a9, a10⟩ := h
  refine ⟨hp, hq, hb, by rw [hg 14 (by omega)]; exact a4, a5, ⟨w', b1, b2, by rw [hg 15 (by omega)]; exact b3, fun i hi => by rw [hg (16 + i) (by omega)]; exact b4 i hi⟩, n, a7, a8, by rw [hg 32 (by omega)]; exact a9, fun i hi => by rw [hg (33 + i) (by omega), hg (39 + i) (by omega), hg (45 + i) (by omega)]; exact a10 i hi⟩
theorem o_set {μX μM : ZMem} (h : Rel0 μX μM) (a1 a2 a3 : Int32) : w_X11_set a1 a2 a3 μX (fun r μX1 => w_X12_set a1 a2 a3 μM (fun r2 μM1 => oS μX μM r r2 μX1 μM1)) := by
  have no : ¬ (0 ≤ a1.toInt ∧ a1.toInt ≤ 1 ∧ 0 ≤ a2.toInt ∧ a2.toInt < 7 ∧ ab a3 ≤ 99) → w_X12_set a1 a2 a3 μM (fun r2 μM1 => oS μX μM (-9223372036854775808) r2 μX μM1) := by
    intro hn
    unfold w_X12_set
    refine m_in_k (fun q1 q2 => z1p ?_) (fun _ => z0p (oS_0 h _))
    rw [il_toInt] at q1 q2
    have q1' : (0 : Int) ≤ a1.toInt := q1
    have q2' : a1.toInt ≤ (1 : Int) := q2
    refine m_isPower (fun k hk ek => z1p (m_in_k (fun q3 q4 => absurd ⟨q1', q2', ?_, ?_, ab_in.mpr ⟨?_, ?_⟩⟩ hn) (fun _ => z0n (oS_0 h _)))) (fun _ => z0p (oS_0 h _))
    · rw [ek, nI_toInt (by omega)]; omega
    · rw [ek, nI_toInt (by omega)]; omega
    · rw [il_toInt] at q3; exact q3
    · rw [il_toInt] at q4; exact q4
  unfold w_X11_set
  rw [i_lt, i_lt, show (0 : Int32).toInt = 0 from rfl, show (1 : Int32).toInt = 1 from rfl]
  refine zif (fun q => no (by omega)) (fun q => zif (fun q2 => no (by omega)) (fun q2 => ?_))
  refine e_isPower (fun k hk ek => z1p ?_) (fun hn => z0p (no (by omega)))
  subst ek
  have hv := vp_in_nI (n := k) (N := 7) hk (by omega)
  refine within_k (n := 99) rfl (by omega) (fun ha => z1n ?_) (fun ha => z0n (no (fun q => ha q.2.2.2.2)))
  obtain ⟨s, s1, s2⟩ := nn_of (i := a1) (n := 1) (by omega) (by omega) (by omega)
  subst s2
  have hs : s = 0 ∨ s = 1 := by omega
  refine nm_k (fun x => x = 2 + s) (fun J hJ => ?_) ?_
  · refine zifn (fun n0 => hJ _ ?_) (fun n0 => hJ _ ?_)
    · rcases hs with rfl | rfl
      · exact absurd rfl n0
      · rfl
    · rcases hs with rfl | rfl
      · rfl
      · exact absurd n0 (by decide)
  rintro x rfl
  rw [nn_clamp (by omega)]
  refine ⟨hv, nm_b ⟨hv, nm_b ?_⟩⟩
  unfold w_X11_forgetSurveys
  refine nm_b (nm_b (nm_b ?_))
  unfold w_X12_set
  refine m_in_k (fun _ _ => z1p (m_isPower (fun _ _ _ => z1p (m_in_k (fun _ _ => z1n ?_) (fun hn => absurd (by rw [il_toInt]; exact ab_in.mp ha) hn))) (fun hn => absurd (by rw [nI_toInt (by omega)]; omega) hn))) (fun hn => absurd (by rw [il_toInt]; exact ⟨by show (0 : Int) ≤ _; omega, by show _ ≤ (1 : Int); omega⟩) hn)
  rw [show (7 : Int32) = nI 7 from rfl, pk_mul, nI_add, nn_clamp (by omega)]
  have hv2 := vp_in_nI (n := 7 * s + k) (N := 51) (by omega) (by omega)
  have hxx : ∀ a, a ≠ 64 → a ≠ 67 → a ≠ 70 → a ≠ 2 + s → (zz_upI (zz_upI (zz_upI (zz_upJ μX (2 + s) k (Int32.toInt64 a3)) 64 4 0) 67 4 0) 70 3 0).1 a = μX.1 a ∧ (zz_upI (zz_upI (zz_upI (zz_upJ μX (2 + s) k (Int32.toInt64 a3)) 64 4 0) 67 4 0) 70 3 0).2 a = μX.2 a := by
    intro a h1 h2 h3 h4
    refine ⟨?_, ?_⟩
    · rw [mI1, if_neg h3, mI1, if_neg h2, mI1, if_neg h1, mJ1]
    · rw [mI2, mI2, mI2, mJ2, if_neg h4]
  refine ⟨hv2, nm_b ⟨hv2, nm_b ⟨?_, ⟨?_, kept_fr h.2.1 (fun a q1 q2 => hxx a (by omega) (by omega) (by omega) (by omega)) rfl, h.2.2.1, tape_fr h.2.2.2.1 rfl rfl rfl rfl, trays_fr h.2.2.2.2 (fun a q1 q2 => hxx a (by omega) (by omega) (by omega) (by omega)) rfl rfl rfl⟩, Or.inr ⟨rfl, rfl, rfl, rfl, rfl⟩⟩⟩⟩
  · rcases hs with rfl | rfl
    · rw [show 7 * 0 + k = k by omega]; exact h.1.1 k hk
    · rw [show 7 * 1 + k = 7 + k by omega]; exact h.1.2.1 k hk
  · have hb : ∀ j, j < 14 → ab (upd (μM.1 1) (7 * s + k) a3 j) ≤ 99 := by
      intro j hj
      rw [upd_at]
      split
      · exact ha
      · exact h.1.2.2.1 j hj
    have hg : ∀ j, 14 ≤ j → upd (μM.1 1) (7 * s + k) a3 j = μM.1 1 j := fun j hj => by rw [upd_at, if_neg (by omega)]
    refine rSt_fac (rSt_pq h.1 ?_ ?_ hb hg) (fun i hi => (hxx (6 + i) (by omega) (by omega) (by omega) (by omega)).1)
    · intro j hj
      show (zz_upJ μX (2 + s) k (Int32.toInt64 a3)).2 2 j = Int32.toInt64 (upd (μM.1 1) (7 * s + k) a3 j)
      rw [mJ2, upd_at]
      rcases hs with rfl | rfl
      · rw [if_pos rfl, updL_at]
        by_cases e : j = k
        · rw [if_pos e, if_pos (by omega)]
        · rw [if_neg e, if_neg (by omega)]; exact h.1.1 j hj
      · rw [if_neg (by omega), if_neg (by omega)]; exact h.1.1 j hj
    · intro j hj
      show (zz_upJ μX (2 + s) k (Int32.toInt64 a3)).2 3 j = Int32.toInt64 (upd (μM.1 1) (7 * s + k) a3 (7 + j))
      rw [mJ2, upd_at]
      rcases hs with rfl | rfl
      · rw [if_neg (by omega), if_neg (by omega)]; exact h.1.2.1 j hj
      · rw [if_pos rfl, updL_at]
        by_cases e : j = k
        · rw [if_pos e, if_pos (by omega)]
        · rw [if_neg e, if_neg (by omega)]; exact h.1.2.1 j hj
