/-! rights, jumps, jump, best -/
def isR (P Q : Nat → Int64) (k v : Int32) : Prop := (grt (formF 0 (mx P Q 1 k)) → v = -7) ∧ (¬ grt (formF 0 (mx P Q 1 k)) → v = rgF (formF 0 (mx P Q 1 k)))
theorem rgF_in (F : Nat → Int64) : 0 ≤ (rgF F).toInt ∧ (rgF F).toInt ≤ 6 := by
  have h1 := chN_le (rwF F) 0 (dg F - 1)
  have h2 := dg_le F
  unfold rgF rgI
  rw [nI_toInt (by omega)]
  omega
theorem isR_in {P Q : Nat → Int64} {k v : Int32} (h : isR P Q k v) : v.toInt = -7 ∨ (0 ≤ v.toInt ∧ v.toInt ≤ 6) := by
  by_cases g : grt (formF 0 (mx P Q 1 k))
  · rw [h.1 g]; exact Or.inl rfl
  · rw [h.2 g]; exact Or.inr (rgF_in _)
theorem isR_eq {P Q : Nat → Int64} {k v w : Int32} (h : isR P Q k v) (h2 : isR P Q k w) : v = w := by
  by_cases g : grt (formF 0 (mx P Q 1 k))
  · rw [h.1 g, h2.1 g]
  · rw [h.2 g, h2.2 g]
theorem isR_congr {P Q P' Q' : Nat → Int64} (hP : ∀ j, j < 7 → P j = P' j) (hQ : ∀ j, j < 7 → Q j = Q' j) (k v : Int32) : isR P Q k v = isR P' Q' k v := by
  unfold isR
  rw [mx_congr hP hQ]
/-- what the class's survey changes -/
def XR (μ μ' : ZMem) : Prop := (∀ a, a ≠ 70 → a ≠ 72 → a ≠ 83 → a ≠ 84 → μ'.1 a = μ.1 a) ∧ (∀ a, a ≠ 85 → (a < 71 ∨ 82 < a) → μ'.2 a = μ.2 a)
theorem e_rsurvey {μ : ZMem} (hs : smallPQ (μ.2 2) (μ.2 3)) (hc : μ.1 70 3 = 0 ∨ rgc μ) {Φ : ZMem → Prop} (h : ∀ μ', XR μ μ' → rgc μ' → Φ μ') : w_X5_survey μ Φ := by
  unfold w_X5_survey
  refine zif (fun q3 => nm_b ⟨201 + 1, ?_⟩) (fun q3 => h μ ⟨fun _ _ _ _ _ => rfl, fun _ _ _ => rfl⟩ (hc.resolve_left q3))
  have key : ∀ m i b, i + m = 201 → XR μ b → b.1 70 = μ.1 70 → (∀ j, j < i → isR (μ.2 2) (μ.2 3) (kI j) (b.1 84 j)) → lpz2 (b_X5_survey_11 (fun (μ_1 : ZMem) => nm (zz_upI μ_1 70 3 1) (fun (μ_3 : ZMem) => Φ μ_3))) (m + 1) (kI i) b := by
    intro m
    induction m with
    | zero =>
      intro i b hi hx h70 hR
      rw [lpz2]
      dsimp only
      unfold b_X5_survey_11
      refine zif_t (by rw [kI_lt (by omega)]; omega) (nm_b (h _ ⟨fun a h1 h2 h3 h4 => ?_, fun a h1 h2 => hx.2 a h1 h2⟩ (fun j hj => ?_)))
      · rw [mI1, if_neg h1]; exact hx.1 a h1 h2 h3 h4
      · rw [mI2, mI1, if_neg (by omega), hx.2 2 (by omega) (by omega), hx.2 3 (by omega) (by omega)]
        exact hR j (by omega)
    | succ m ih =>
      intro i b hi hx h70 hR
      rw [lpz2]
      dsimp only
      generalize hL : lpz2 (b_X5_survey_11 (fun (μ_1 : ZMem) => nm (zz_upI μ_1 70 3 1) (fun (μ_3 : ZMem) => Φ μ_3))) (m + 1) = L
      unfold b_X5_survey_11
      rw [kI_lt (by omega)]
      have eP := hx.2 2 (by omega) (by omega)
      have eQ := hx.2 3 (by omega) (by omega)
      refine zif_f (by omega) (e_mix (by omega) (by omega) ?_)
      generalize hμ1 : stJ b 71 (ovr 7 (mixF 1 (kI i) (b.2 2) (b.2 3)) (b.2 71)) = μ1
      have p1 : μ1.1 = b.1 := by rw [← hμ1]; rfl
      have p2 : ∀ a, a ≠ 71 → μ1.2 a = b.2 a := fun a ha => by rw [← hμ1]; exact if_neg ha
      have p3 : ∀ j, j < 7 → μ1.2 71 j = mx (μ.2 2) (μ.2 3) 1 (kI i) j := fun j hj => by
        rw [← hμ1, stJ_eq, ovr_lt hj, eP, eQ]
        unfold mx mixF
        rw [if_pos hj]
      have hbd := bd_mx hs (u := 1) (v := kI i) (by decide) (Nat.le_trans (kI_ab (by omega)) (by decide))
      refine e_tab (Or.inl ⟨by decide, by decide⟩) hbd (by omega) (by omega) p3 (fun μ2 s2 t2 => ?_)
      have hF : isR (μ.2 2) (μ.2 3) (kI i) (if μ2.1 72 6 = 0 then rgF (formF 0 (mx (μ.2 2) (μ.2 3) 1 (kI i))) else -7) := by
        refine ⟨fun g => ?_, fun g => ?_⟩
        · rw [t2.2.2.2.1 g, if_neg (by decide)]
        · rw [(t2.2.2.2.2 g).1, if_pos rfl]
      have hidx : kI i + 100 = nI i := by
        unfold kI
        rw [Int32.sub_add_cancel]
      rw [hidx, nn_clamp (by omega), kI_s]
      refine nm_k (fun x => isR (μ.2 2) (μ.2 3) (kI i) x) (fun J hJ => zif (fun q => ?_) (fun q => hJ _ (by rw [if_neg q] at hF; exact hF))) ?_
      · have hg : ¬ grt (formF 0 (mx (μ.2 2) (μ.2 3) 1 (kI i))) := fun g => by rw [t2.2.2.2.1 g] at q; exact absurd q (by decide)
        exact tX_right t2 hg (hJ _ (by rw [if_pos q] at hF; exact hF))
      rintro x hx2
      rw [← hL]
      have x2 : XR μ μ2 := ⟨fun a h1 h2 h3 h4 => by rw [s2.1 a h2 h3, p1]; exact hx.1 a h1 h2 h3 h4, fun a h1 h2 => by rw [s2.2 a h1 (by omega), p2 a (by omega)]; exact hx.2 a h1 h2⟩
      refine ⟨vp_in_nI (by omega) (by omega), nm_b (ih (i + 1) _ (by omega) ⟨fun a h1 h2 h3 h4 => ?_, fun a h1 h2 => x2.2 a h1 h2⟩ ?_ (fun j hj => ?_))⟩
      · rw [mI1, if_neg h4]; exact x2.1 a h1 h2 h3 h4
      · rw [mI1, if_neg (by omega), s2.1 70 (by omega) (by omega), p1]; exact h70
      · rw [mI1, if_pos rfl, upd_at]
        by_cases e : j = i
        · rw [if_pos e, e]; exact hx2
        · rw [if_neg e, s2.1 84 (by omega) (by omega), p1]; exact hR j (by omega)
  exact key 201 0 μ (by omega) ⟨fun _ _ _ _ _ => rfl, fun _ _ _ => rfl⟩ rfl (fun j hj => absurd hj (by omega))
theorem m_rightsAt {μ : ZMem} {k : Int32} (hs : smallPQ (pF μ) (qF μ)) (hk : ab k ≤ 100) {Φ : Int32 → ZMem → Prop} (h : ∀ v μ', MS μ μ' → isR (pF μ) (qF μ) k v → Φ v μ') : w_X12_rightsAt k μ Φ := by
  unfold w_X12_rightsAt
  have hbd := bd_mx hs (u := 1) (v := k) (by decide) (Nat.le_trans hk (by decide))
  refine m_tab (a := 0) (C := mx (pF μ) (qF μ) 1 k) (Or.inl ⟨by decide, by decide⟩) hbd (fun j hj => ?_) (fun μ2 s2 t2 => ?_)
  · unfold mixM mx pF qF
    rw [if_pos hj]
  · refine zif (fun q => ?_) (fun q => h _ _ s2 ⟨fun _ => rfl, fun g => absurd (t2.2.2.2.2.2.1 g).1 q⟩)
    have hg : ¬ grt (formF 0 (mx (pF μ) (qF μ) 1 k)) := fun g => by rw [t2.2.2.2.2.1 g] at q; exact absurd q (by decide)
    exact tM_right t2 hg (h _ _ s2 ⟨fun g => absurd g hg, fun _ => rfl⟩)
theorem Rel0_R {μX μM μX' μM' : ZMem} (h : Rel0 μX μM) (hX : XR μX μX') (h1 : ∀ a, a ≠ 0 → a ≠ 8 → μM'.1 a = μM.1 a) (h2 : μM'.1 0 2 = μM.1 0 2 ∧ μM'.1 0 3 = μM.1 0 3 ∧ μM'.1 0 22 = μM.1 0 22) (h3 : μM'.2 17 = μM.2 17) : Rel0 μX' μM' := by
  have hx : ∀ a, (a < 70 ∨ 84 < a) → a ≠ 85 → μX'.1 a = μX.1 a ∧ μX'.2 a = μX.2 a := fun a ha h5 => ⟨hX.1 a (by omega) (by omega) (by omega) (by omega), hX.2 a h5 (by omega)⟩
  refine ⟨now_fr h.1 (fun a q1 q2 => hx a (by omega) (by omega)) (h1 1 (by omega) (by omega)), kept_fr h.2.1 (fun a q1 q2 => hx a (by omega) (by omega)) (h1 2 (by omega) (by omega)), ?_, tape_fr h.2.2.2.1 (by rw [(hx 23 (by omega) (by omega)).1]) (hx 24 (by omega) (by omega)).1 h2.2.2 (h1 13 (by omega) (by omega)), trays_fr h.2.2.2.2 (fun a q1 q2 => hx a (by omega) (by omega)) (h1 15 (by omega) (by omega)) (h1 16 (by omega) (by omega)) h3⟩
  unfold rFlags
  rw [(hx 0 (by omega) (by omega)).1, h2.1, h2.2.1]
  exact h.2.2.1
theorem rSv_R {μ μ' : ZMem} (h : rSv μ) (hX : XR μ μ') (hs : rgc μ') : rSv μ' := by
  obtain ⟨h1, h2, h3, h4, h5⟩ := h
  have f : ∀ a, a < 70 → μ'.1 a = μ.1 a := fun a ha => hX.1 a (by omega) (by omega) (by omega) (by omega)
  have eP := hX.2 2 (by omega) (by omega)
  have eQ := hX.2 3 (by omega) (by omega)
  refine ⟨by rw [f 64 (by omega)]; exact h1, by rw [f 67 (by omega)]; exact h2, ?_, ?_, Or.inr hs⟩
  · rw [f 64 (by omega)]
    exact h3.imp id (fun z => spc_fr z (f 64 (by omega)) (f 65 (by omega)) (f 66 (by omega)) eP eQ)
  · rw [f 67 (by omega)]
    exact h4.imp id (fun z => spc_fr z (f 67 (by omega)) (f 68 (by omega)) (f 69 (by omega)) eP eQ)
/-- the reference while it looks at gains -/
def MR (μ μ' : ZMem) : Prop := (∀ a, a ≠ 0 → a ≠ 8 → μ'.1 a = μ.1 a) ∧ (μ'.1 0 2 = μ.1 0 2 ∧ μ'.1 0 3 = μ.1 0 3 ∧ μ'.1 0 22 = μ.1 0 22) ∧ (∀ a, (a < 3 ∨ 7 < a) → μ'.2 a = μ.2 a)
theorem MR_S {a b c : ZMem} (h1 : MR a b) (h2 : MS b c) : MR a c := ⟨fun x p q => (h2.1 x p q).trans (h1.1 x p q), ⟨(h2.2.1 2 (by omega) (by omega) (by omega) (by omega)).trans h1.2.1.1, (h2.2.1 3 (by omega) (by omega) (by omega) (by omega)).trans h1.2.1.2.1, (h2.2.1 22 (by omega) (by omega) (by omega) (by omega)).trans h1.2.1.2.2⟩, fun x p => (h2.2.2 x p).trans (h1.2.2 x p)⟩
theorem MR_rfl (μ : ZMem) : MR μ μ := ⟨fun _ _ _ => rfl, ⟨rfl, rfl, rfl⟩, fun _ _ => rfl⟩
theorem pF_R {μ μ' : ZMem} (h : MR μ μ') : pF μ' = pF μ ∧ qF μ' = qF μ := by
  unfold pF qF
  rw [h.1 1 (by omega) (by omega)]
  exact ⟨rfl, rfl⟩
/-- the class has surveyed; what the reference will find -/
theorem o_rsurvey {μX μM : ZMem} (h : Rel μX μM) {Φ : ZMem → Prop} (hΦ : ∀ μX1, (∀ i, i < 201 → isR (pF μM) (qF μM) (kI i) (μX1.1 84 i)) → (∀ μM1, MR μM μM1 → Rel μX1 μM1) → Φ μX1) : w_X5_survey μX Φ := by
  obtain ⟨hP, hQ, sM, sX⟩ := rNow_P h.1.1
  refine e_rsurvey sX h.2.2.2.2.2 (fun μX1 x1 x2 => hΦ μX1 (fun i hi => ?_) (fun μM1 m1 => ⟨Rel0_R h.1 x1 m1.1 m1.2.1 (m1.2.2 17 (by omega)), rSv_R h.2 x1 x2⟩))
  have := x2 i hi
  rw [x1.2 2 (by omega) (by omega), x1.2 3 (by omega) (by omega)] at this
  have h2 : isR (μX.2 2) (μX.2 3) (kI i) (μX1.1 84 i) := this
  rw [isR_congr hP hQ] at h2
  exact h2
theorem kI_of {a : Int32} (h : ab a ≤ 100) : ∃ i, i < 201 ∧ a = kI i := by
  have h' := ab_in.mp h
  refine ⟨(a.toInt + 100).toNat, by omega, ?_⟩
  apply Int32.toInt_inj.mp
  rw [kI_toInt (by omega)]
  omega
theorem kI_100 {i : Nat} : kI i + 100 = nI i := by
  unfold kI
  rw [Int32.sub_add_cancel]
theorem e_at {μ : ZMem} {i : Nat} (hi : i < 201) {Φ : Int32 → Prop} (h : Φ (μ.1 84 i)) : w_X5_at (kI i) μ Φ := by
  unfold w_X5_at
  rw [kI_100, nn_clamp (by omega)]
  exact ⟨vp_in_nI (by omega) (by omega), h⟩
theorem z_rights {μX μM : ZMem} (h : Rel μX μM) (a1 : Int32) : w_X11_rights a1 μX (fun r μX1 => w_X12_rights a1 μM (fun r2 μM1 => r = r2 ∧ Rel μX1 μM1)) := by
  obtain ⟨hP, hQ, sM, sX⟩ := rNow_P h.1.1
  unfold w_X11_rights
  refine within_k (n := 100) rfl (by omega) (fun ha => z1n (o_rsurvey h (fun μX1 hR hRel => ?_))) (fun ha => z0n ?_)
  · obtain ⟨i, i1, i2⟩ := kI_of ha
    rw [i2]
    refine e_at i1 ?_
    unfold w_X12_rights
    refine m_in_k (fun _ _ => z1p (m_rightsAt sM (kI_ab i1) (fun v μM1 m1 m2 => ⟨isR_eq (hR i i1) m2, hRel μM1 (MR_S (MR_rfl μM) m1)⟩))) (fun q => absurd ?_ q)
    rw [il_toInt]; exact ab_in.mp (kI_ab i1)
  · unfold w_X12_rights
    refine m_in_k (fun q1 q2 => absurd (ab_in.mpr ⟨?_, ?_⟩) ha) (fun _ => z0p ⟨rfl, h⟩)
    · rw [il_toInt] at q1; exact q1
    · rw [il_toInt] at q2; exact q2
/-- jumps up to m -/
def jc (R : Nat → Int32) : Nat → Nat
  | 0 => 0
  | m + 1 => if R (m + 1) = R m then jc R m else jc R m + 1
theorem jc_le (R : Nat → Int32) : ∀ m, jc R m ≤ m := by
  intro m
  induction m with
  | zero => exact Nat.le_refl _
  | succ m ih => rw [jc]; split <;> omega
theorem jc_mono (R : Nat → Int32) {i : Nat} : ∀ {m : Nat}, i ≤ m → jc R i ≤ jc R m := by
  intro m
  induction m with
  | zero => intro h; rw [show i = 0 by omega]; exact Nat.le_refl _
  | succ m ih =>
    intro h
    by_cases e : i = m + 1
    · rw [e]; exact Nat.le_refl _
    · have := ih (by omega)
      rw [jc.eq_2]; split <;> omega
theorem e_isJump {μ : ZMem} {m : Nat} (hm : m < 200) {Φ : Int32 → Prop} (h : Φ (if μ.1 84 (m + 1) = μ.1 84 m then 0 else 1)) : w_X5_isJump (kI (m + 1)) μ Φ := by
  unfold w_X5_isJump
  refine e_at (by omega) ?_
  have e : kI (m + 1) - 1 = kI m := by rw [← kI_s]; exact Int32.add_sub_cancel _ _
  rw [e]
  refine e_at (by omega) ?_
  refine zif (fun q => ?_) (fun q => ?_)
  · rw [if_pos q] at h; exact h
  · rw [if_neg q] at h; exact h
theorem lp2_k {A : Type} {body : A → Int32 → (A → Int32 → Prop) → Prop} (N : Nat) (st : Nat → A) (x : Nat → Int32) (hs : ∀ i K, i < N → K (st (i + 1)) (x (i + 1)) → body (st i) (x i) K) (hx : ∀ K, body (st N) (x N) K) : ∀ m i, i + m = N → lpz2 body (m + 1) (st i) (x i) := by
  intro m
  induction m with
  | zero => intro i hi; rw [show i = N by omega]; exact hx _
  | succ m ih => intro i hi; exact hs i _ (by omega) (ih (i + 1) (by omega))
theorem e_jumpCount {μ : ZMem} {Φ : Int32 → Prop} (h : Φ (nI (jc (μ.1 84) 200))) : w_X5_jumpCount μ Φ := by
  unfold w_X5_jumpCount
  refine ⟨200 + 1, lp2_k 200 (fun i => nI (jc (μ.1 84) i)) (fun i => kI (i + 1)) (fun i K hi hK => ?_) (fun K => ?_) 200 0 (by omega)⟩
  · unfold b_X5_jumpCount_5
    rw [kI_lt (by omega), kI_s]
    refine zif_f (by omega) (e_isJump hi ?_)
    refine nm_k (fun x => nI (jc (μ.1 84) i) + x = nI (jc (μ.1 84) (i + 1))) (fun J hJ => ?_) ?_
    · have e0 : nI (jc (μ.1 84) i) + 0 = nI (jc (μ.1 84) i) := Int32.add_zero _
      by_cases q : μ.1 84 (i + 1) = μ.1 84 i
      · rw [if_pos q]
        exact z0p (hJ _ (by rw [e0, jc, if_pos q]))
      · rw [if_neg q]
        exact z1p (hJ _ (by rw [nI_1, jc, if_neg q]))
    rintro x hx
    exact nm_b (by rw [hx]; exact hK)
  · unfold b_X5_jumpCount_5
    exact zif_t (by rw [kI_lt (by omega)]; omega) h
theorem e_jumpAt {μ : ZMem} {a p : Nat} (hp : p < 200) (h1 : jc (μ.1 84) (p + 1) = a + 1) (h2 : jc (μ.1 84) p = a) {Φ : Int32 → Prop} (h : Φ (kI (p + 1))) : w_X5_jumpAt (nI a) μ Φ := by
  unfold w_X5_jumpAt
  have ha : a ≤ 200 := by have := jc_le (μ.1 84) p; omega
  refine ⟨p + 1, lp2_k p (fun i => nI (jc (μ.1 84) i)) (fun i => kI (i + 1)) (fun i K hi hK => ?_) (fun K => ?_) p 0 (by omega)⟩
  · unfold b_X5_jumpAt_5
    have m1 := jc_mono (μ.1 84) (i := i + 1) (m := p) (by omega)
    rw [kI_lt (by omega), kI_s]
    refine zif_f (by omega) (e_isJump (by omega) ?_)
    refine nm_k (fun x => nI (jc (μ.1 84) i) + x = nI (jc (μ.1 84) (i + 1))) (fun J hJ => ?_) ?_
    · have e0 : nI (jc (μ.1 84) i) + 0 = nI (jc (μ.1 84) i) := Int32.add_zero _
      by_cases q : μ.1 84 (i + 1) = μ.1 84 i
      · rw [if_pos q]
        exact z0p (hJ _ (by rw [e0, jc, if_pos q]))
      · rw [if_neg q]
        exact z1p (hJ _ (by rw [nI_1, jc, if_neg q]))
    rintro x hx
    refine nm_b ?_
    rw [hx, n_le (by omega) (by omega)]
    exact zif_t (by omega) hK
  · unfold b_X5_jumpAt_5
    have q : ¬ μ.1 84 (p + 1) = μ.1 84 p := fun q => by
      rw [jc, if_pos q] at h1; omega
    rw [kI_lt (by omega)]
    refine zif_f (by omega) (e_isJump hp ?_)
    rw [if_neg q]
    refine nm_k (fun x => x = 1) (fun J hJ => z1p (hJ _ rfl)) ?_
    rintro x rfl
    refine nm_b ?_
    rw [h2, nI_1, n_le (by omega) (by omega)]
    exact zif_f (by omega) h
theorem m_findsJump {μ : ZMem} {a1 : Int32} {R : Nat → Int32} (hs : smallPQ (pF μ) (qF μ)) (hR : ∀ i, i < 201 → isR (pF μ) (qF μ) (kI i) (R i)) {Φ : ZMem → Prop} (h : ∀ μ', MR μ μ' → μ'.1 0 30 = nI (jc R 200) → (∀ a p, a1 = nI a → a ≤ 200 → p < 200 → jc R (p + 1) = a + 1 → jc R p = a → μ'.1 0 31 = kI (p + 1)) → Φ μ') : w_X12_findsJump a1 μ Φ := by
  unfold w_X12_findsJump
  refine nm_b ?_
  generalize hμ0 : zz_upI μ 0 30 0 = μ0
  have r0 : MR μ μ0 := by
    rw [← hμ0]
    exact ⟨fun a h0 _ => if_neg h0, ⟨rfl, rfl, rfl⟩, fun _ _ => rfl⟩
  have e30 : μ0.1 0 30 = nI 0 := by rw [← hμ0]; rfl
  obtain ⟨pe, qe⟩ := pF_R r0
  rw [show (-100 : Int32) = kI 0 from rfl]
  refine m_rightsAt (by rw [pe, qe]; exact hs) (kI_ab (by omega)) (fun v μ1 m1 m2 => ?_)
  rw [pe, qe] at m2
  have r1 := MR_S r0 m1
  have f30 : μ1.1 0 30 = nI 0 := by rw [m1.2.1 30 (by omega) (by omega) (by omega) (by omega)]; exact e30
  refine ⟨200 + 1, lp3_inv 200 (fun i => kI (i + 1)) (fun i v b => v = R i ∧ MR μ b ∧ b.1 0 30 = nI (jc R i) ∧ (∀ a p, a1 = nI a → a ≤ 200 → p < i → jc R (p + 1) = a + 1 → jc R p = a → b.1 0 31 = kI (p + 1))) (fun i v b K hi hI hK => ?_) (fun v b K hI => ?_) 200 0 v μ1 (by omega) ⟨isR_eq m2 (hR 0 (by omega)), r1, f30, fun a p _ _ hp => absurd hp (by omega)⟩⟩
  · obtain ⟨rfl, i2, i3, i4⟩ := hI
    unfold b_X12_findsJump_15
    obtain ⟨pe', qe'⟩ := pF_R i2
    have jl := jc_le R i
    rw [kI_lt (by omega), kI_s]
    refine zif_f (by omega) (m_rightsAt (by rw [pe', qe']; exact hs) (kI_ab (by omega)) (fun v μ2 n1 n2 => ?_))
    rw [pe', qe'] at n2
    have hv := isR_eq n2 (hR (i + 1) (by omega))
    have r2 := MR_S i2 n1
    have g30 : μ2.1 0 30 = nI (jc R i) := by rw [n1.2.1 30 (by omega) (by omega) (by omega) (by omega)]; exact i3
    have g31 : μ2.1 0 31 = b.1 0 31 := n1.2.1 31 (by omega) (by omega) (by omega) (by omega)
    rw [hv]
    refine nm_k (fun c => MR μ c ∧ c.1 0 30 = nI (jc R (i + 1)) ∧ (∀ a p, a1 = nI a → a ≤ 200 → p < i + 1 → jc R (p + 1) = a + 1 → jc R p = a → c.1 0 31 = kI (p + 1))) (fun J hJ => ?_) ?_
    · refine zif (fun q => hJ _ ⟨r2, by rw [jc, if_pos q]; exact g30, fun a p ea ha hp j1 j2 => ?_⟩) (fun q => ?_)
      · by_cases e : p = i
        · subst e
          rw [jc, if_pos q] at j1; omega
        · rw [g31]; exact i4 a p ea ha (by omega) j1 j2
      · have hjs : jc R (i + 1) = jc R i + 1 := by rw [jc, if_neg q]
        refine nm_k (fun x => (μ2.1 0 30 = a1 → x = kI (i + 1)) ∧ (¬ μ2.1 0 30 = a1 → x = μ2.1 0 31)) (fun J2 hJ2 => zifn (fun q2 => hJ2 _ ⟨fun z => absurd z q2, fun _ => rfl⟩) (fun q2 => hJ2 _ ⟨fun _ => rfl, fun z => absurd q2 z⟩)) ?_
        rintro x ⟨x1, x2⟩
        refine nm_b (nm_b (hJ _ ⟨⟨fun a h0 h8 => ?_, ?_, fun a ha => r2.2.2 a ha⟩, ?_, fun a p ea ha hp j1 j2 => ?_⟩))
        · rw [mI1, if_neg h0, mI1, if_neg h0]; exact r2.1 a h0 h8
        · exact r2.2.1
        · show μ2.1 0 30 + 1 = _
          rw [g30, nI_1, hjs]
        · show x = kI (p + 1)
          by_cases e : p = i
          · subst e
            exact x1 (by rw [g30, j2, ea])
          · have hm := jc_mono R (i := p + 1) (m := i) (by omega)
            rw [x2 (by rw [g30, ea, nI_eq (by omega) (by omega)]; omega), g31]
            exact i4 a p ea ha (by omega) j1 j2
    rintro c ⟨c1, c2, c3⟩
    exact nm_b (hK _ _ ⟨rfl, c1, c2, c3⟩)
  · obtain ⟨rfl, i2, i3, i4⟩ := hI
    unfold b_X12_findsJump_15
    exact zif_t (by rw [kI_lt (by omega)]; omega) (h b i2 i3 i4)
theorem z_jumps {μX μM : ZMem} (h : Rel μX μM) : w_X11_jumps μX (fun r μX1 => w_X12_jumps μM (fun r2 μM1 => r = r2 ∧ Rel μX1 μM1)) := by
  obtain ⟨hP, hQ, sM, sX⟩ := rNow_P h.1.1
  unfold w_X11_jumps
  refine o_rsurvey h (fun μX1 hR hRel => e_jumpCount ?_)
  unfold w_X12_jumps
  exact m_findsJump sM hR (fun μM1 m1 m2 _ => ⟨m2.symm, hRel μM1 m1⟩)
theorem jc_find (R : Nat → Int32) {a : Nat} : ∀ m, a < jc R m → ∃ p, p < m ∧ jc R (p + 1) = a + 1 ∧ jc R p = a := by
  intro m
  induction m with
  | zero => intro h; exact absurd h (Nat.not_lt_zero a)
  | succ m ih =>
    intro h
    by_cases q : a < jc R m
    · obtain ⟨p, p1, p2⟩ := ih q
      exact ⟨p, by omega, p2⟩
    · have h' := h
      rw [jc] at h
      split at h
      · exact absurd h q
      · rename_i q2
        refine ⟨m, by omega, ?_, by omega⟩
        rw [jc, if_neg q2]; omega
theorem z_jump {μX μM : ZMem} (h : Rel μX μM) (a1 : Int32) : w_X11_jump a1 μX (fun r μX1 => w_X12_jump a1 μM (fun r2 μM1 => r = r2 ∧ Rel μX1 μM1)) := by
  obtain ⟨hP, hQ, sM, sX⟩ := rNow_P h.1.1
  unfold w_X11_jump
  refine o_rsurvey h (fun μX1 hR hRel => ?_)
  have jl := jc_le (μX1.1 84) 200
  have no : ¬ (0 ≤ a1.toInt ∧ a1.toInt < jc (μX1.1 84) 200) → w_X12_jump a1 μM (fun r2 μM1 => (-1 : Int32) = r2 ∧ Rel μX1 μM1) := by
    intro hn
    unfold w_X12_jump
    refine m_findsJump sM hR (fun μM1 m1 m2 _ => ?_)
    refine m_in_k (fun q1 q2 => absurd ⟨?_, ?_⟩ hn) (fun _ => z0p ⟨rfl, hRel μM1 m1⟩)
    · rw [il_toInt] at q1; exact q1
    · rw [il_toInt, il_toInt, m2, hd_toInt2 (by omega)] at q2; omega
  rw [i_lt0]
  refine zif (fun q => no (by omega)) (fun q => e_jumpCount ?_)
  rw [i_lt, nI_toInt (by omega)]
  refine zif (fun q2 => ?_) (fun q2 => no (by omega))
  obtain ⟨a, a1', a2⟩ := nn_of (i := a1) (n := 200) (by omega) (by omega) (by omega)
  subst a2
  rw [nI_toInt (by omega)] at q2
  obtain ⟨p, p1, p2, p3⟩ := jc_find (μX1.1 84) (a := a) 200 (by omega)
  refine e_jumpAt p1 p2 p3 ?_
  unfold w_X12_jump
  refine m_findsJump sM hR (fun μM1 m1 m2 m3 => ?_)
  rw [m3 a p rfl a1' p1 p2 p3]
  refine m_in_k (fun _ _ => z1p ⟨rfl, hRel μM1 m1⟩) (fun q3 => absurd ?_ q3)
  rw [il_toInt, il_toInt, m2, nI_toInt (by omega), hd_toInt2 (by omega)]
  exact ⟨by show (0 : Int) ≤ _; omega, by omega⟩
