/-! best -/
/-- the smaller the better: fewer on the right, nearer to 0, first -/
def ky (R : Nat → Int32) (i : Nat) : Int := (R i).toInt * 1000000 + (((i : Int) - 100).natAbs : Int) * 1000 + i
def okR (R : Nat → Int32) : Prop := ∀ i, i < 201 → (R i).toInt = -7 ∨ (0 ≤ (R i).toInt ∧ (R i).toInt ≤ 6)
def bestAt (R : Nat → Int32) (p : Nat) : Prop := p < 201 ∧ ¬ (R p).toInt = -7 ∧ ∀ j, j < 201 → ¬ (R j).toInt = -7 → ky R p ≤ ky R j
theorem ky_lt {R : Nat → Int32} (hR : okR R) {i j : Nat} (hi : i < 201) (hj : j < 201) (h1 : ¬ (R i).toInt = -7) (h2 : ¬ (R j).toInt = -7) : ky R i < ky R j ↔ ((R i).toInt < (R j).toInt ∨ ((R i).toInt = (R j).toInt ∧ (((i : Int) - 100).natAbs < ((j : Int) - 100).natAbs ∨ (((i : Int) - 100).natAbs = ((j : Int) - 100).natAbs ∧ i < j)))) := by
  have a := hR i hi
  have b := hR j hj
  unfold ky
  omega
theorem best_eq {R : Nat → Int32} (hR : okR R) {p q : Nat} (hp : bestAt R p) (hq : bestAt R q) : p = q := by
  obtain ⟨p1, p2, p3⟩ := hp
  obtain ⟨q1, q2, q3⟩ := hq
  have h1 := p3 q q1 q2
  have h2 := q3 p p1 p2
  have a := hR p p1
  have b := hR q q1
  unfold ky at h1 h2
  omega
theorem absI {x : Int32} (h : -1000 ≤ x.toInt ∧ x.toInt ≤ 1000) : (if (0 : Int32) ≤ x then x else 0 - x).toInt = (x.toInt.natAbs : Int) := by
  by_cases q : (0 : Int32) ≤ x
  · rw [if_pos q]
    rw [i_0le] at q
    omega
  · rw [if_neg q]
    rw [i_0le] at q
    rw [sub_toI (by decide) (by decide) (by omega) (by omega), show (0 : Int32).toInt = 0 from rfl]
    omega
theorem e_hasBest {μ : ZMem} (hR : okR (μ.1 84)) {Φ : Int32 → Prop} (h1 : (∃ j, j < 201 ∧ ¬ (μ.1 84 j).toInt = -7) → Φ 1) (h0 : (¬ ∃ j, j < 201 ∧ ¬ (μ.1 84 j).toInt = -7) → Φ 0) : w_X5_hasBest μ Φ := by
  unfold w_X5_hasBest
  have e7 : ∀ x : Int32, (x = -7) = (x.toInt = -7) := fun x => by rw [i_eq]; rfl
  obtain ⟨o, o1, o2, o3⟩ := first_bad (fun j => (μ.1 84 j).toInt = -7) 201
  refine ⟨o + 1, lp1_up o (fun i K hi hK => ?_) (fun K => ?_) o 0 (by omega)⟩
  · unfold b_X5_hasBest_2
    rw [show (201 : Int32) = nI 201 from rfl, n_le (by omega) (by omega), nn_clamp (by omega), nI_1, e7]
    exact zif_f (by omega) ⟨vp_in_nI (by omega) (by omega), zif_t (o2 i hi) hK⟩
  · unfold b_X5_hasBest_2
    rw [show (201 : Int32) = nI 201 from rfl, n_le (by omega) (by omega), nn_clamp (by omega), e7]
    refine zif (fun q => h0 (fun z => ?_)) (fun q => ⟨vp_in_nI (by omega) (by omega), zif_f (o3 (by omega)) (h1 ⟨o, by omega, o3 (by omega)⟩)⟩)
    obtain ⟨j, j1, j2⟩ := z
    exact j2 (o2 j (by omega))
/-- the best of the first m -/
def bestTo (R : Nat → Int32) (m : Nat) (v1 v2 : Int32) : Prop := ((∀ j, j < m → (R j).toInt = -7) ∧ v1 = 100 ∧ v2 = 7) ∨ ∃ p, p < m ∧ ¬ (R p).toInt = -7 ∧ v1 = kI p ∧ v2 = R p ∧ ∀ j, j < m → ¬ (R j).toInt = -7 → ky R p ≤ ky R j
theorem lp3_k {A B : Type} {body : A → B → Int32 → (A → B → Int32 → Prop) → Prop} (N : Nat) (x : Nat → Int32) (I : Nat → A → B → Prop) (hs : ∀ i a b K, i < N → I i a b → (∀ a' b', I (i + 1) a' b' → K a' b' (x (i + 1))) → body a b (x i) K) (hx : ∀ a b K, I N a b → body a b (x N) K) : ∀ m i a b, i + m = N → I i a b → lpz3 body (m + 1) a b (x i) := by
  intro m
  induction m with
  | zero => intro i a b hi hI; (obtain rfl : i = N := (by omega)); exact hx a b _ hI
  | succ m ih => intro i a b hi hI; exact hs i a b _ (by omega) hI (fun a' b' h' => ih (i + 1) a' b' (by omega) h')
theorem e_bestGain {μ : ZMem} (hR : okR (μ.1 84)) (hex : ∃ j, j < 201 ∧ ¬ (μ.1 84 j).toInt = -7) {Φ : Int32 → Prop} (h : ∀ p, bestAt (μ.1 84) p → Φ (kI p)) : w_X5_bestGain μ Φ := by
  unfold w_X5_bestGain
  generalize hRR : μ.1 84 = R at *
  have e7 : ∀ x : Int32, (x = -7) = (x.toInt = -7) := fun x => by rw [i_eq]; rfl
  refine ⟨201 + 1, lp3_k 201 kI (bestTo R) (fun m v1 v2 K hm hI hK => ?_) (fun v1 v2 K hI => ?_) 201 0 _ _ (by omega) (Or.inl ⟨fun j hj => absurd hj (by omega), rfl, rfl⟩)⟩
  · unfold b_X5_bestGain_9
    rw [kI_lt (by omega), kI_s]
    refine zif_f (by omega) (e_at hm ?_)
    rw [hRR, e7]
    have rm := hR m hm
    have km := kI_toInt (m := m) (by omega)
    -- what is near
    refine nm_k (fun x => (x = 1 ∨ x = 0) ∧ (x = 1 ↔ R m = v2 ∧ (kI m).toInt.natAbs < v1.toInt.natAbs)) (fun J hJ => nm_b ?_) ?_
    · have bv1 : -1000 ≤ v1.toInt ∧ v1.toInt ≤ 1000 := by
        rcases hI with ⟨_, rfl, _⟩ | ⟨p, p1, _, rfl, _⟩
        · decide
        · rw [kI_toInt (by omega)]; omega
      rw [i_le, absI bv1, absI (by omega)]
      refine zifn (fun q => hJ _ ⟨Or.inr rfl, ⟨fun z => absurd z (by decide), fun z => absurd z.1 q⟩⟩) (fun q => zif (fun q2 => hJ _ ⟨Or.inr rfl, ⟨fun z => absurd z (by decide), fun z => by omega⟩⟩) (fun q2 => hJ _ ⟨Or.inl rfl, ⟨fun _ => ⟨q, by omega⟩, fun _ => rfl⟩⟩))
    rintro x ⟨x0, x1⟩
    refine nm_k2 (bestTo R (m + 1)) (fun J hJ => ?_) ?_
    · have stay : (R m).toInt = -7 ∨ (¬ (R m).toInt = -7 ∧ ¬ (R m).toInt < v2.toInt ∧ ¬ (R m = v2 ∧ (kI m).toInt.natAbs < v1.toInt.natAbs)) → J v1 v2 := by
        intro c
        refine hJ _ _ ?_
        rcases hI with ⟨i1, i2, i3⟩ | ⟨p, p1, p2, p3, p4, p5⟩
        · rcases c with c | ⟨c1, c2, c3⟩
          · refine Or.inl ⟨fun j hj => ?_, i2, i3⟩
            by_cases e : j = m
            · rw [e]; exact c
            · exact i1 j (by omega)
          · rw [i3, show (7 : Int32).toInt = 7 from rfl] at c2
            omega
        · refine Or.inr ⟨p, by omega, p2, p3, p4, fun j hj hj2 => ?_⟩
          by_cases e : j = m
          · subst e
            rcases c with c | ⟨c1, c2, c3⟩
            · exact absurd c hj2
            · have kl := ky_lt hR (i := j) (j := p) hm (by omega) hj2 p2
              rw [p4] at c2 c3
              rw [p3, km, kI_toInt (by omega), i_eq] at c3
              apply Classical.byContradiction
              intro z
              have := kl.mp (by omega)
              omega
          · exact p5 j (by omega) hj2
      have take : ¬ (R m).toInt = -7 → ((R m).toInt < v2.toInt ∨ (R m = v2 ∧ (kI m).toInt.natAbs < v1.toInt.natAbs)) → J (kI m) (R m) := by
        intro c d
        refine hJ _ _ (Or.inr ⟨m, by omega, c, rfl, rfl, fun j hj hj2 => ?_⟩)
        by_cases e : j = m
        · rw [e]; exact Int.le_refl _
        · rcases hI with ⟨i1, i2, i3⟩ | ⟨p, p1, p2, p3, p4, p5⟩
          · exact absurd (i1 j (by omega)) hj2
          · have kl := ky_lt hR (i := m) (j := p) hm (by omega) c p2
            rw [p4, p3, km, kI_toInt (by omega), i_eq] at d
            have := kl.mpr (by omega)
            have := p5 j (by omega) hj2
            omega
      refine zif (fun q => stay (Or.inl q)) (fun q => nm_b ?_)
      rw [i_lt]
      refine zif (fun q2 => take q (Or.inl q2)) (fun q2 => zif (fun q3 => stay (Or.inr ⟨q, q2, fun z => ?_⟩)) (fun q3 => take q (Or.inr (x1.mp (x0.resolve_right q3)))))
      rw [x1.mpr z] at q3
      exact absurd q3 (by decide)
    rintro a b hab
    exact hK a b hab
  · unfold b_X5_bestGain_9
    refine zif_t (by rw [kI_lt (by omega)]; omega) ?_
    rcases hI with ⟨i1, i2, i3⟩ | ⟨p, p1, p2, p3, p4, p5⟩
    · obtain ⟨j, j1, j2⟩ := hex
      exact absurd (i1 j j1) j2
    · rw [p3]; exact h p ⟨p1, p2, p5⟩
/-- the reference's order -/
def qo (s : Nat) : Nat := if s % 2 = 0 then 100 + s / 2 else 100 - (s + 1) / 2
theorem qo_lt {s : Nat} (h : s < 201) : qo s < 201 := by unfold qo; split <;> omega
theorem qo_ord {s s' : Nat} (h : s' < s) (hs : s < 201) : (((qo s' : Nat) : Int) - 100).natAbs < (((qo s : Nat) : Int) - 100).natAbs ∨ ((((qo s' : Nat) : Int) - 100).natAbs = (((qo s : Nat) : Int) - 100).natAbs ∧ qo s' < qo s) := by
  unfold qo
  split <;> split <;> omega
theorem qo_all {i : Nat} (h : i < 201) : ∃ s, s < 201 ∧ qo s = i := by
  by_cases q : 100 ≤ i
  · refine ⟨2 * (i - 100), by omega, ?_⟩
    unfold qo
    rw [if_pos (by omega)]; omega
  · refine ⟨2 * (100 - i) - 1, by omega, ?_⟩
    unfold qo
    rw [if_neg (by omega)]; omega
theorem qo_I : ∀ s : Nat, s < 201 → ((nI s - nI s / 2 * 2 = 0) ↔ s % 2 = 0) ∧ (s % 2 = 0 → nI s / 2 = kI (qo s)) ∧ (¬ s % 2 = 0 → (-(nI s + 1)) / 2 = kI (qo s)) := by decide +kernel
def bestOf (R : Nat → Int32) (m : Nat) (v1 v2 : Int32) : Prop := ((∀ s, s < m → (R (qo s)).toInt = -7) ∧ v1 = 0 ∧ v2 = -1) ∨ ∃ t, t < m ∧ ¬ (R (qo t)).toInt = -7 ∧ v1 = kI (qo t) ∧ v2 = R (qo t) ∧ ∀ s, s < m → ¬ (R (qo s)).toInt = -7 → ky R (qo t) ≤ ky R (qo s)
theorem lp4_inv {A B C : Type} {body : A → B → Int32 → C → (A → B → Int32 → C → Prop) → Prop} (N : Nat) (I : Nat → A → B → C → Prop) (hs : ∀ i a b c K, i < N → I i a b c → (∀ a' b' c', I (i + 1) a' b' c' → K a' b' (nI (i + 1)) c') → body a b (nI i) c K) (hx : ∀ a b c K, I N a b c → body a b (nI N) c K) : ∀ m i a b c, i + m = N → I i a b c → lpz4 body (m + 1) a b (nI i) c := by
  intro m
  induction m with
  | zero => intro i a b c hi hI; (obtain rfl : i = N := (by omega)); exact hx a b c _ hI
  | succ m ih => intro i a b c hi hI; exact hs i a b c _ (by omega) hI (fun a' b' c' h' => ih (i + 1) a' b' c' (by omega) h')
theorem m_best {μ : ZMem} {R : Nat → Int32} (hs : smallPQ (pF μ) (qF μ)) (hR : ∀ i, i < 201 → isR (pF μ) (qF μ) (kI i) (R i)) (hO : okR R) {Φ : Int32 → ZMem → Prop} (h0 : ∀ μ', MR μ μ' → (¬ ∃ j, j < 201 ∧ ¬ (R j).toInt = -7) → Φ (-1) μ') (h1 : ∀ μ' p, MR μ μ' → bestAt R p → Φ (kI p + 1000) μ') : w_X12_best μ Φ := by
  unfold w_X12_best
  refine nm_b ⟨201 + 1, lp4_inv 201 (fun m v1 v2 b => MR μ b ∧ bestOf R m v1 v2) (fun m v1 v2 b K hm hI hK => ?_) (fun v1 v2 b K hI => ?_) 201 0 _ _ _ (by omega) ⟨MR_rfl μ, Or.inl ⟨fun j hj => absurd hj (by omega), rfl, rfl⟩⟩⟩
  · obtain ⟨m1, hI⟩ := hI
    unfold b_X12_best_6
    obtain ⟨q1, q2, q3⟩ := qo_I m hm
    rw [q1, show (200 : Int32) = nI 200 from rfl, n_lt (by omega) (by omega), nI_1]
    refine zif_f (by omega) ?_
    refine nm_k (fun x => x = kI (qo m)) (fun J hJ => zifn (fun q => hJ _ (by rw [← nI_1]; exact q3 q)) (fun q => hJ _ (q2 q))) ?_
    rintro x rfl
    obtain ⟨pe, qe⟩ := pF_R m1
    have ql := qo_lt hm
    refine m_rightsAt (by rw [pe, qe]; exact hs) (kI_ab ql) (fun v μ2 n1 n2 => ?_)
    rw [pe, qe] at n2
    have hv := isR_eq n2 (hR (qo m) ql)
    subst hv
    have r2 := MR_S m1 n1
    have rm := hO (qo m) ql
    refine nm_k2 (bestOf R (m + 1)) (fun J hJ => ?_) ?_
    · have stay : (R (qo m)).toInt = -7 ∨ (¬ (R (qo m)).toInt = -7 ∧ ¬ v2.toInt < 0 ∧ ¬ (R (qo m)).toInt < v2.toInt) → J v1 v2 := by
        intro c
        refine hJ _ _ ?_
        rcases hI with ⟨i1, i2, i3⟩ | ⟨t, t1, t2, t3, t4, t5⟩
        · rcases c with c | ⟨c1, c2, c3⟩
          · refine Or.inl ⟨fun j hj => ?_, i2, i3⟩
            by_cases e : j = m
            · rw [e]; exact c
            · exact i1 j (by omega)
          · rw [i3] at c2
            exact absurd (show (-1 : Int) < 0 by decide) c2
        · refine Or.inr ⟨t, by omega, t2, t3, t4, fun j hj hj2 => ?_⟩
          by_cases e : j = m
          · subst e
            rcases c with c | ⟨c1, c2, c3⟩
            · exact absurd c hj2
            · have kl := ky_lt hO (i := qo j) (j := qo t) ql (qo_lt (by omega)) hj2 t2
              have od := qo_ord t1 hm
              rw [t4] at c3
              apply Classical.byContradiction
              intro z
              have := kl.mp (by omega)
              omega
          · exact t5 j (by omega) hj2
      have take : ¬ (R (qo m)).toInt = -7 → (v2.toInt < 0 ∨ (R (qo m)).toInt < v2.toInt) → J (kI (qo m)) (R (qo m)) := by
        intro c d
        refine hJ _ _ (Or.inr ⟨m, by omega, c, rfl, rfl, fun j hj hj2 => ?_⟩)
        by_cases e : j = m
        · rw [e]; exact Int.le_refl _
        · rcases hI with ⟨i1, i2, i3⟩ | ⟨t, t1, t2, t3, t4, t5⟩
          · exact absurd (i1 j (by omega)) hj2
          · have kl := ky_lt hO (i := qo m) (j := qo t) ql (qo_lt (by omega)) c t2
            have rt := hO (qo t) (qo_lt (by omega))
            rw [t4] at d
            have := kl.mpr (by omega)
            have := t5 j (by omega) hj2
            omega
      rw [i_lt0, i_lt0, i_le]
      refine zif (fun q => stay (Or.inl (by omega))) (fun q => nm_b (zif (fun q2 => take (by omega) (Or.inl q2)) (fun q2 => zif (fun q3 => stay (Or.inr ⟨by omega, q2, by omega⟩)) (fun q3 => take (by omega) (Or.inr (by omega))))))
    rintro a b hab
    exact hK a b μ2 ⟨r2, hab⟩
  · obtain ⟨m1, hI⟩ := hI
    unfold b_X12_best_6
    refine zif_t (by decide) ?_
    rcases hI with ⟨i1, i2, i3⟩ | ⟨t, t1, t2, t3, t4, t5⟩
    · rw [i3]
      refine zif_f (by decide) (h0 b m1 (fun z => ?_))
      obtain ⟨j, j1, j2⟩ := z
      obtain ⟨s, s1, s2⟩ := qo_all j1
      rw [← s2] at j2
      exact j2 (i1 s s1)
    · have rt := hO (qo t) (qo_lt t1)
      rw [t4, t3]
      refine zif_t (by rw [i_0le]; omega) (h1 b (qo t) m1 ⟨qo_lt t1, t2, fun j hj hj2 => ?_⟩)
      obtain ⟨s, s1, s2⟩ := qo_all hj
      rw [← s2] at hj2 ⊢
      exact t5 s s1 hj2
theorem z_best {μX μM : ZMem} (h : Rel μX μM) : w_X11_best μX (fun r μX1 => w_X12_best μM (fun r2 μM1 => r = r2 ∧ Rel μX1 μM1)) := by
  obtain ⟨hP, hQ, sM, sX⟩ := rNow_P h.1.1
  unfold w_X11_best
  refine o_rsurvey h (fun μX1 hR hRel => ?_)
  have hO : okR (μX1.1 84) := fun i hi => isR_in (hR i hi)
  refine e_hasBest hO (fun hex => z1p (e_bestGain hO hex (fun p hp => ?_))) (fun hno => z0p ?_)
  · exact m_best (Φ := fun r2 μM1 => kI p + 1000 = r2 ∧ Rel μX1 μM1) sM hR hO (fun μM1 m1 hn => absurd hex hn) (fun μM1 q m1 hq => ⟨by rw [best_eq hO hp hq], hRel μM1 m1⟩)
  · exact m_best (Φ := fun r2 μM1 => (-1 : Int32) = r2 ∧ Rel μX1 μM1) sM hR hO (fun μM1 m1 _ => ⟨rfl, hRel μM1 m1⟩) (fun μM1 q m1 hq => absurd ⟨q, hq.1, hq.2.1⟩ hno)
