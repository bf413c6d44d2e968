/-! the relation itself; spans, count, nearest, span -/
def rgc (μ : ZMem) : Prop := ∀ i, i < 201 → (grt (formF 0 (mx (μ.2 2) (μ.2 3) 1 (kI i))) → μ.1 84 i = -7) ∧ (¬ grt (formF 0 (mx (μ.2 2) (μ.2 3) 1 (kI i))) → μ.1 84 i = rgF (formF 0 (mx (μ.2 2) (μ.2 3) 1 (kI i))))
def rSv (μ : ZMem) : Prop := μ.1 64 0 = 0 ∧ μ.1 67 0 = 1 ∧ (μ.1 64 4 = 0 ∨ spc 64 μ) ∧ (μ.1 67 4 = 0 ∨ spc 67 μ) ∧ (μ.1 70 3 = 0 ∨ rgc μ)
def Rel (μX μM : ZMem) : Prop := Rel0 μX μM ∧ rSv μX
theorem spc_fr {t : Nat} {μ μ' : ZMem} (h : spc t μ) (e0 : μ'.1 t = μ.1 t) (e1 : μ'.1 (t + 1) = μ.1 (t + 1)) (e2 : μ'.1 (t + 2) = μ.1 (t + 2)) (eP : μ'.2 2 = μ.2 2) (eQ : μ'.2 3 = μ.2 3) : spc t μ' := by
  unfold spc at h ⊢
  rw [e0, e1, e2, eP, eQ]
  exact h
theorem rgc_fr {μ μ' : ZMem} (h : rgc μ) (e0 : μ'.1 84 = μ.1 84) (eP : μ'.2 2 = μ.2 2) (eQ : μ'.2 3 = μ.2 3) : rgc μ' := by
  unfold rgc at h ⊢
  rw [e0, eP, eQ]
  exact h
theorem rSv_C {μ μ' : ZMem} (h : rSv μ) (hC : rC μ μ') : rSv μ' := by
  obtain ⟨h1, h2, h3, h4, h5⟩ := h
  rcases hC with ⟨a1, a2, a3⟩ | ⟨b1, b2, b3, b4, b5⟩
  · have f := fun a q1 q2 => (a1 a q1 q2).1
    refine ⟨by rw [f 64 (by omega) (by omega)]; exact h1, by rw [f 67 (by omega) (by omega)]; exact h2, ?_, ?_, ?_⟩
    · rw [f 64 (by omega) (by omega)]
      exact h3.imp id (fun z => spc_fr z (f 64 (by omega) (by omega)) (f 65 (by omega) (by omega)) (f 66 (by omega) (by omega)) a2 a3)
    · rw [f 67 (by omega) (by omega)]
      exact h4.imp id (fun z => spc_fr z (f 67 (by omega) (by omega)) (f 68 (by omega) (by omega)) (f 69 (by omega) (by omega)) a2 a3)
    · rw [f 70 (by omega) (by omega)]
      exact h5.imp id (fun z => rgc_fr z (f 84 (by omega) (by omega)) a2 a3)
  · exact ⟨by rw [b4]; exact h1, by rw [b5]; exact h2, Or.inl b1, Or.inl b2, Or.inl b3⟩
theorem Rel_o {μX μM : ZMem} (h : Rel μX μM) {α : Type} {r r2 : α} {μX1 μM1 : ZMem} (q : oS μX μM r r2 μX1 μM1) : r = r2 ∧ Rel μX1 μM1 := ⟨q.1, q.2.1, rSv_C h.2 q.2.2⟩
theorem Rel0_P {t : Nat} (ht : t = 64 ∨ t = 67) {μX μM μX' μM' : ZMem} (h : Rel0 μX μM) (hX : XP t μX μX') (hM : MP μM μM') : Rel0 μX' μM' := by
  have hx : ∀ a, (a < 50 ∨ 63 < a) → (a < 64 ∨ 69 < a) → a ≠ 85 → μX'.1 a = μX.1 a ∧ μX'.2 a = μX.2 a := fun a ha h6 h5 => ⟨hX.1 a (by omega) (by omega) (by omega) (by omega) (by omega), hX.2.1 a h5 (by omega)⟩
  refine ⟨now_fr h.1 (fun a q1 q2 => hx a (by omega) (by omega) (by omega)) (hM.1 1 (by omega) (by omega) (by omega) (by omega)), kept_fr h.2.1 (fun a q1 q2 => hx a (by omega) (by omega) (by omega)) (hM.1 2 (by omega) (by omega) (by omega) (by omega)), ?_, tape_fr h.2.2.2.1 (by rw [(hx 23 (by omega) (by omega) (by omega)).1]) (hx 24 (by omega) (by omega) (by omega)).1 (hM.2.1 22 (by omega) (by omega) (by omega) (by omega) (by omega)) (hM.1 13 (by omega) (by omega) (by omega) (by omega)), trays_fr h.2.2.2.2 (fun a q1 q2 => hx a (by omega) (by omega) (by omega)) (hM.1 15 (by omega) (by omega) (by omega) (by omega)) (hM.1 16 (by omega) (by omega) (by omega) (by omega)) (hM.2.2 17 (by omega))⟩
  unfold rFlags
  rw [(hx 0 (by omega) (by omega) (by omega)).1, hM.2.1 2 (by omega) (by omega) (by omega) (by omega) (by omega), hM.2.1 3 (by omega) (by omega) (by omega) (by omega) (by omega)]
  exact h.2.2.1
theorem rSv_P {t : Nat} (ht : t = 64 ∨ t = 67) {μ μ' : ZMem} (h : rSv μ) (hX : XP t μ μ') (hs : spc t μ') : rSv μ' := by
  obtain ⟨h1, h2, h3, h4, h5⟩ := h
  have eP := hX.2.1 2 (by omega) (by omega)
  have eQ := hX.2.1 3 (by omega) (by omega)
  have r5 : μ'.1 70 3 = 0 ∨ rgc μ' := by
    rw [hX.1 70 (by omega) (by omega) (by omega) (by omega) (by omega)]
    exact h5.imp id (fun z => rgc_fr z (hX.1 84 (by omega) (by omega) (by omega) (by omega) (by omega)) eP eQ)
  rcases ht with rfl | rfl
  · refine ⟨by rw [hX.2.2]; exact h1, by rw [hX.1 67 (by omega) (by omega) (by omega) (by omega) (by omega)]; exact h2, Or.inr hs, ?_, r5⟩
    rw [hX.1 67 (by omega) (by omega) (by omega) (by omega) (by omega)]
    exact h4.imp id (fun z => spc_fr z (hX.1 67 (by omega) (by omega) (by omega) (by omega) (by omega)) (hX.1 68 (by omega) (by omega) (by omega) (by omega) (by omega)) (hX.1 69 (by omega) (by omega) (by omega) (by omega) (by omega)) eP eQ)
  · refine ⟨by rw [hX.1 64 (by omega) (by omega) (by omega) (by omega) (by omega)]; exact h1, by rw [hX.2.2]; exact h2, ?_, Or.inr hs, r5⟩
    rw [hX.1 64 (by omega) (by omega) (by omega) (by omega) (by omega)]
    exact h3.imp id (fun z => spc_fr z (hX.1 64 (by omega) (by omega) (by omega) (by omega) (by omega)) (hX.1 65 (by omega) (by omega) (by omega) (by omega) (by omega)) (hX.1 66 (by omega) (by omega) (by omega) (by omega) (by omega)) eP eQ)
def tK (a1 : Int32) : Nat := if a1 = 0 then 64 else 67
theorem tK_or (a1 : Int32) : tK a1 = 64 ∨ tK a1 = 67 := by unfold tK; split <;> simp
theorem zT_tK (a1 : Int32) : zT_Spans (tK a1) := by
  rcases tK_or a1 with e | e <;> rw [e]
  · exact zcX_64
  · exact zcX_67
theorem e_spansOf {μ : ZMem} {a1 : Int32} (hk : a1 = 0 ∨ a1 = 1) (hs : smallPQ (μ.2 2) (μ.2 3)) (hv : rSv μ) {Φ : Nat → ZMem → Prop} (h : ∀ μ', XP (tK a1) μ μ' → spc (tK a1) μ' → rSv μ' → μ'.1 (tK a1) 0 = a1 → Φ (tK a1) μ') : w_X11_spansOf a1 μ Φ := by
  unfold w_X11_spansOf
  refine nm_k (fun x => x = tK a1) (fun J hJ => zifn (fun q => hJ _ (by unfold tK; rw [if_neg q])) (fun q => hJ _ (by unfold tK; rw [if_pos q]))) ?_
  rintro x rfl
  have hc : μ.1 (tK a1) 4 = 0 ∨ spc (tK a1) μ := by
    rcases hk with rfl | rfl
    · exact hv.2.2.1
    · exact hv.2.2.2.1
  have hkk : μ.1 (tK a1) 0 = a1 := by
    rcases hk with rfl | rfl
    · exact hv.1
    · exact hv.2.1
  exact e_survey (tK_or a1) hs hc (fun μ' x s => h μ' x s (rSv_P (tK_or a1) hv x s) (by rw [x.2.2]; exact hkk))
theorem fs_lt (b : Nat → Bool) : ∀ m, ∀ j, j < spN b m → (∃ i, i < m ∧ fsN b m j = kI i) ∧ ∃ i i', i ≤ i' ∧ i' < m ∧ fsN b m j = kI i ∧ lsN b m j = kI i' := by
  intro m
  induction m with
  | zero => intro j hj; exact absurd hj (Nat.not_lt_zero j)
  | succ m ih =>
    intro j hj
    have second : ∃ i i', i ≤ i' ∧ i' < m + 1 ∧ fsN b (m + 1) j = kI i ∧ lsN b (m + 1) j = kI i' := by
      cases hb : b m with
      | false =>
        have hsp : spN b (m + 1) = spN b m := by rw [spN, hb]; rfl
        have hfs : fsN b (m + 1) = fsN b m := by rw [fsN, hb]; rfl
        have hls : lsN b (m + 1) = lsN b m := by rw [lsN, hb]; rfl
        rw [hsp] at hj
        obtain ⟨i, i', q1, q2, q3, q4⟩ := (ih j hj).2
        exact ⟨i, i', q1, by omega, by rw [hfs]; exact q3, by rw [hls]; exact q4⟩
      | true =>
        have hls : lsN b (m + 1) = upd (lsN b m) (spN b (m + 1) - 1) (kI m) := by rw [lsN, hb]; rfl
        cases hi : insB b m with
        | false =>
          have hsp : spN b (m + 1) = spN b m + 1 := by rw [spN, hb, hi]; rfl
          have hfs : fsN b (m + 1) = upd (fsN b m) (spN b m) (kI m) := by rw [fsN, hb, hi]; rfl
          rw [hls, hfs, hsp, upd_at, upd_at]
          by_cases e : j = spN b m
          · rw [if_pos e, if_pos (by omega)]
            exact ⟨m, m, Nat.le_refl _, by omega, rfl, rfl⟩
          · rw [if_neg e, if_neg (by omega)]
            obtain ⟨i, i', q1, q2, q3, q4⟩ := (ih j (by omega)).2
            exact ⟨i, i', q1, by omega, q3, q4⟩
        | true =>
          have hsp : spN b (m + 1) = spN b m := by rw [spN, hb, hi]; rfl
          have hfs : fsN b (m + 1) = fsN b m := by rw [fsN, hb, hi]; rfl
          rw [hsp] at hj
          rw [hls, hfs, hsp, upd_at]
          obtain ⟨i, i', q1, q2, q3, q4⟩ := (ih j hj).2
          by_cases e : j = spN b m - 1
          · rw [if_pos e]
            exact ⟨i, m, by omega, by omega, q3, rfl⟩
          · rw [if_neg e]
            exact ⟨i, i', q1, by omega, q3, q4⟩
    obtain ⟨i, i', q1, q2, q3, q4⟩ := second
    exact ⟨⟨i, by omega, q3⟩, i, i', q1, q2, q3, q4⟩
/-- what the class found -/
def spX (t n : Nat) (μX : ZMem) : Prop := n ≤ 101 ∧ μX.1 t 3 = nI n ∧ ∀ j, j < n → ∃ i i', i ≤ i' ∧ i' < 201 ∧ μX.1 (t + 1) j = kI i ∧ μX.1 (t + 2) j = kI i'
/-- the reference found the same -/
def spE (t n : Nat) (μX μM : ZMem) : Prop := μM.1 0 16 = nI n ∧ ∀ j, j < n → μX.1 (t + 1) j = μM.1 9 j ∧ μX.1 (t + 2) j = μM.1 10 j
theorem sp_eq {t : Nat} {kind : Int32} {μX : ZMem} (hX : spc t μX) (hk : μX.1 t 0 = kind) : ∃ n, spX t n μX ∧ ∀ μM μ0, msp kind μ0 μM → (∀ j, j < 7 → μX.2 2 j = pF μ0 j) → (∀ j, j < 7 → μX.2 3 j = qF μ0 j) → spE t n μX μM := by
  obtain ⟨b, b1, b2, b3⟩ := hX
  have sl := spN_le b 201
  refine ⟨spN b 201, ⟨by (split at sl) <;> omega, b2, fun j hj => ?_⟩, fun μM μ0 hM hP hQ => ?_⟩
  · obtain ⟨i, i', q1, q2, q3, q4⟩ := (fs_lt b 201 j hj).2
    obtain ⟨x1, x2⟩ := b3 j hj
    exact ⟨i, i', q1, q2, by rw [x1, q3], by rw [x2, q4]⟩
  obtain ⟨c, c1, c2, c3⟩ := hM
  have hbc : ∀ i, i < 201 → b i = c i := by
    intro i hi
    have h1 := b1 i hi
    rw [hk, stP_congr hP hQ] at h1
    have h2 := c1 i hi
    cases hb : b i <;> cases hc : c i
    · rfl
    · exact absurd (h1.mpr (h2.mp hc)) (by rw [hb]; decide)
    · exact absurd (h2.mpr (h1.mp hb)) (by rw [hc]; decide)
    · rfl
  obtain ⟨_, s2, s3, s4⟩ := sp_congr 201 hbc
  refine ⟨by rw [c2, s2], fun j hj => ?_⟩
  obtain ⟨x1, x2⟩ := b3 j hj
  obtain ⟨y1, y2⟩ := c3 j (by rw [← s2]; exact hj)
  rw [← s3] at y1
  rw [← s4] at y2
  exact ⟨by rw [x1, y1], by rw [x2, y2]⟩
/-- both survey -/
theorem o_survey {μX μM : ZMem} (h : Rel μX μM) {a1 : Int32} (hk : a1 = 0 ∨ a1 = 1) {ΦX : Nat → ZMem → Prop} (hΦ : ∀ n μX1, XP (tK a1) μX μX1 → spX (tK a1) n μX1 → μX1.1 (tK a1) 0 = a1 → (∀ (ΦM : ZMem → Prop), (∀ μM1, MP μM μM1 → spE (tK a1) n μX1 μM1 → Rel μX1 μM1 → ΦM μM1) → w_X12_laysSpans a1 μM ΦM) → ΦX (tK a1) μX1) : w_X11_spansOf a1 μX ΦX := by
  obtain ⟨hP, hQ, sM, sX⟩ := rNow_P h.1.1
  refine e_spansOf hk sX h.2 (fun μX1 x1 x2 x3 x4 => ?_)
  obtain ⟨n, hn, he⟩ := sp_eq x2 x4
  refine hΦ n μX1 x1 hn x4 (fun ΦM g => m_laysSpans sM (fun μM1 m1 m2 => ?_))
  have hE := he μM1 μM m2 (fun j hj => by rw [x1.2.1 2 (by omega) (by omega)]; exact hP j hj) (fun j hj => by rw [x1.2.1 3 (by omega) (by omega)]; exact hQ j hj)
  exact g μM1 m1 hE ⟨Rel0_P (tK_or a1) h.1 x1 m1, x3⟩
theorem z_spans {μX μM : ZMem} (h : Rel μX μM) (a1 : Int32) : w_X11_spans a1 μX (fun r μX1 => w_X12_spans a1 μM (fun r2 μM1 => r = r2 ∧ Rel μX1 μM1)) := by
  unfold w_X11_spans
  refine e_isKind (fun k => z1p (o_survey h k (fun n μX1 x1 xn _ g => ⟨zT_tK a1, ?_⟩))) (fun k => z0p ?_)
  · unfold w_X12_spans
    refine m_isKind (fun _ => z1n (g _ (fun μM1 m1 e r => ⟨by rw [xn.2.1, e.1], r⟩))) (fun q => absurd k q)
  · unfold w_X12_spans
    exact m_isKind (fun q => absurd q k) (fun _ => z0n ⟨rfl, h⟩)
theorem z_count {μX μM : ZMem} (h : Rel μX μM) (a1 : Int32) : w_X11_count a1 μX (fun r μX1 => w_X12_count a1 μM (fun r2 μM1 => r = r2 ∧ Rel μX1 μM1)) := by
  obtain ⟨w, b1, b2, b3, _⟩ := h.1.1.2.2.2.2.2.1
  obtain ⟨f, c1, c2, c3, _⟩ := h.1.1.2.2.2.2.2.2
  obtain ⟨n, n1, n2, n3, _⟩ := h.1.2.2.2.1
  have d : ∀ x : Int32, ∀ y : Int32, x = y → ∀ {P : Prop}, (¬ x = y → P) := fun x y e P q => absurd e q
  have dd : ∀ x y : Int32, (x = y) = False → a1 = x → ∀ {P : Prop}, (a1 = y → P) := fun x y e q P z => absurd (q.symm.trans z) (by rw [e]; exact id)
  unfold w_X11_count
  refine ⟨fun q => ?_, fun q => ?_, fun q => ?_, fun q => ?_, fun q => ?_, fun q => ?_, fun q0 q1 q2 q3 q4 q5 => ?_⟩
  · unfold w_X12_count
    refine ⟨fun _ => ⟨by rw [b2, b3], h⟩, dd 0 1 (by decide) q, dd 0 2 (by decide) q, dd 0 3 (by decide) q, dd 0 4 (by decide) q, dd 0 5 (by decide) q, fun z => absurd q z⟩
  · unfold w_X12_count
    refine ⟨dd 1 0 (by decide) q, fun _ => ⟨by rw [n2, n3], h⟩, dd 1 2 (by decide) q, dd 1 3 (by decide) q, dd 1 4 (by decide) q, dd 1 5 (by decide) q, fun _ z => absurd q z⟩
  · unfold w_X12_count
    refine ⟨dd 2 0 (by decide) q, dd 2 1 (by decide) q, fun _ => ⟨h.1.2.2.1.2, h⟩, dd 2 3 (by decide) q, dd 2 4 (by decide) q, dd 2 5 (by decide) q, fun _ _ z => absurd q z⟩
  · obtain ⟨hP, hQ, sM, sX⟩ := rNow_P h.1.1
    refine e_spansOf (a1 := 0) (Or.inl rfl) sX h.2 (fun μX1 x1 x2 x3 x4 => ⟨zT_tK 0, ?_⟩)
    have eP1 := x1.2.1 2 (by omega) (by omega)
    have eQ1 := x1.2.1 3 (by omega) (by omega)
    refine e_spansOf (a1 := 1) (Or.inr rfl) (by rw [eP1, eQ1]; exact sX) x3 (fun μX2 y1 y2 y3 y4 => ⟨zT_tK 1, ?_⟩)
    have eP2 := y1.2.1 2 (by omega) (by omega)
    have eQ2 := y1.2.1 3 (by omega) (by omega)
    unfold w_X12_count
    refine ⟨dd 3 0 (by decide) q, dd 3 1 (by decide) q, dd 3 2 (by decide) q, fun _ => ?_, dd 3 4 (by decide) q, dd 3 5 (by decide) q, fun _ _ _ z => absurd q z⟩
    unfold w_X12_spans
    refine m_isKind (fun _ => z1n (m_laysSpans sM (fun μM1 m1 m2 => ?_))) (fun q => absurd (Or.inl rfl) q)
    obtain ⟨pe, qe⟩ := pF_P m1
    refine m_isKind (fun _ => z1n (m_laysSpans (by rw [pe, qe]; exact sM) (fun μM2 n1 n2 => ?_))) (fun q => absurd (Or.inr rfl) q)
    obtain ⟨u, u1, u2⟩ := sp_eq x2 x4
    obtain ⟨v, v1, v2⟩ := sp_eq y2 y4
    have hu := u2 μM1 μM m2 (fun j hj => by rw [eP1]; exact hP j hj) (fun j hj => by rw [eQ1]; exact hQ j hj)
    have hv := v2 μM2 μM1 n2 (fun j hj => by rw [eP2, eP1, pe]; exact hP j hj) (fun j hj => by rw [eQ2, eQ1, qe]; exact hQ j hj)
    exact ⟨by rw [u1.2.1, hu.1, v1.2.1, hv.1], Rel0_P (tK_or 1) (Rel0_P (tK_or 0) h.1 x1 m1) y1 n1, y3⟩
  · unfold w_X12_count
    refine ⟨dd 4 0 (by decide) q, dd 4 1 (by decide) q, dd 4 2 (by decide) q, dd 4 3 (by decide) q, fun _ => ⟨by rw [h.1.1.2.2.2.1], h⟩, dd 4 5 (by decide) q, fun _ _ _ _ z => absurd q z⟩
  · unfold w_X12_count
    refine ⟨dd 5 0 (by decide) q, dd 5 1 (by decide) q, dd 5 2 (by decide) q, dd 5 3 (by decide) q, dd 5 4 (by decide) q, fun _ => ⟨by rw [c2, c3], h⟩, fun _ _ _ _ _ z => absurd q z⟩
  · unfold w_X12_count
    exact ⟨fun z => absurd z q0, fun z => absurd z q1, fun z => absurd z q2, fun z => absurd z q3, fun z => absurd z q4, fun z => absurd z q5, fun _ _ _ _ _ _ => ⟨rfl, h⟩⟩
/-! nearest -/
theorem lp3_thd {A B : Type} {body : A → B → Int32 → (A → B → Int32 → Prop) → Prop} (N : Nat) (sa : Nat → A) (sb : Nat → B) (hs : ∀ i K, i < N → K (sa (i + 1)) (sb (i + 1)) (nI (i + 1)) → body (sa i) (sb i) (nI i) K) (hx : ∀ K, body (sa N) (sb N) (nI N) K) : ∀ m i, i + m = N → lpz3 body (m + 1) (sa i) (sb i) (nI i) := by
  intro m
  induction m with
  | zero => intro i hi; rw [show i = N by omega]; exact hx _
  | succ m ih => intro i hi; exact hs i _ (by omega) (ih (i + 1) (by omega))
/-- how far k lies from a span -/
def awN (f l k : Int) : Int := if k < f then f - k else if l < k then k - l else 0
/-- the nearest span so far and how far it is -/
def nrN (F L : Nat → Int) (k : Int) : Nat → Int × Int
  | 0 => (-1, 0)
  | m + 1 => if (nrN F L k m).1 < 0 ∨ awN (F m) (L m) k < (nrN F L k m).2 then ((m : Int), awN (F m) (L m) k) else nrN F L k m
theorem nrN_bd {F L : Nat → Int} {k : Int} {n : Nat} (hF : ∀ j, j < n → -100 ≤ F j ∧ F j ≤ L j ∧ L j ≤ 100) (hk : -100 ≤ k ∧ k ≤ 100) : ∀ m, m ≤ n → -1 ≤ (nrN F L k m).1 ∧ (nrN F L k m).1 < m ∧ 0 ≤ (nrN F L k m).2 ∧ (nrN F L k m).2 ≤ 200 := by
  intro m
  induction m with
  | zero => intro _; unfold nrN; dsimp only; omega
  | succ m ih =>
    intro hm
    have ih' := ih (by omega)
    have hf := hF m (by omega)
    rw [nrN]
    split
    · dsimp only
      unfold awN
      split
      · omega
      · split <;> omega
    · omega
def iI (x : Int) : Int32 := Int32.ofInt x
theorem iI_toInt {x : Int} (h1 : -1000000 ≤ x) (h2 : x ≤ 1000000) : (iI x).toInt = x := by
  unfold iI
  exact Int32.toInt_ofInt_of_le (by omega) (by omega)
theorem iI_of {a : Int32} {x : Int} (h : a.toInt = x) : a = iI x := by
  unfold iI
  rw [← h]
  exact (Int32.ofInt_toInt a).symm
theorem nI_iI (n : Nat) (h : n < 1000000) : nI n = iI (n : Int) := iI_of (nI_toInt (by omega))
theorem sub_toI {a b : Int32} (h1 : -1000000 ≤ a.toInt) (h2 : a.toInt ≤ 1000000) (h3 : -1000000 ≤ b.toInt) (h4 : b.toInt ≤ 1000000) : (a - b).toInt = a.toInt - b.toInt := by
  rw [Int32.toInt_sub]
  exact Int.bmod_eq_of_le (by omega) (by omega)
theorem add_toI {a b : Int32} (h1 : -1000000 ≤ a.toInt) (h2 : a.toInt ≤ 1000000) (h3 : -1000000 ≤ b.toInt) (h4 : b.toInt ≤ 1000000) : (a + b).toInt = a.toInt + b.toInt := by
  rw [Int32.toInt_add]
  exact Int.bmod_eq_of_le (by omega) (by omega)
theorem e_closest {μ : ZMem} {t n : Nat} (hn : n ≤ 101) (h3 : μ.1 t 3 = nI n) {a1 : Int32} (hk : -100 ≤ a1.toInt ∧ a1.toInt ≤ 100) (hF : ∀ j, j < n → -100 ≤ (μ.1 (t + 1) j).toInt ∧ (μ.1 (t + 1) j).toInt ≤ (μ.1 (t + 2) j).toInt ∧ (μ.1 (t + 2) j).toInt ≤ 100) {Φ : Int32 → Prop} (h : Φ (iI (nrN (fun j => (μ.1 (t + 1) j).toInt) (fun j => (μ.1 (t + 2) j).toInt) a1.toInt n).1)) : w_X6_closestTo t a1 μ Φ := by
  unfold w_X6_closestTo
  have hb := nrN_bd (F := fun j => (μ.1 (t + 1) j).toInt) (L := fun j => (μ.1 (t + 2) j).toInt) hF hk
  have s1 : (-1 : Int32) = iI (nrN (fun j => (μ.1 (t + 1) j).toInt) (fun j => (μ.1 (t + 2) j).toInt) a1.toInt 0).1 := (show (-1 : Int32) = iI (-1) by decide)
  have s2 : (201 : Int32) = iI (if (nrN (fun j => (μ.1 (t + 1) j).toInt) (fun j => (μ.1 (t + 2) j).toInt) a1.toInt 0).1 < 0 then 201 else (nrN (fun j => (μ.1 (t + 1) j).toInt) (fun j => (μ.1 (t + 2) j).toInt) a1.toInt 0).2) := (show (201 : Int32) = iI (if (-1 : Int) < 0 then 201 else 0) by decide)
  rw [s1, s2]
  generalize hW : nrN (fun j => (μ.1 (t + 1) j).toInt) (fun j => (μ.1 (t + 2) j).toInt) a1.toInt = W at *
  refine ⟨n + 1, lp3_thd n (fun i => iI (W i).1) (fun i => iI (if (W i).1 < 0 then 201 else (W i).2)) (fun i K hi hK => ?_) (fun K => ?_) n 0 (by omega)⟩
  · unfold b_X6_closestTo_9
    rw [h3, n_le (by omega) (by omega), nn_clamp (by omega), nI_1]
    obtain ⟨f1, f2, f3⟩ := hF i hi
    obtain ⟨w1, w2, w3, w4⟩ := hb i (by omega)
    have eW : W (i + 1) = if (W i).1 < 0 ∨ awN (μ.1 (t + 1) i).toInt (μ.1 (t + 2) i).toInt a1.toInt < (W i).2 then ((i : Int), awN (μ.1 (t + 1) i).toInt (μ.1 (t + 2) i).toInt a1.toInt) else W i := by
      rw [← hW, nrN]
    have hv := vp_in_nI (n := i) (N := 101) (by omega) (by omega)
    refine zif_f (by omega) ⟨hv, hv, nm_b ?_⟩
    generalize hf : μ.1 (t + 1) i = f at *
    generalize hl : μ.1 (t + 2) i = l at *
    have d1 := sub_toI (a := f) (b := a1) (by omega) (by omega) (by omega) (by omega)
    have d2 := sub_toI (a := a1) (b := l) (by omega) (by omega) (by omega) (by omega)
    have ex : (if 0 < (if f - a1 < a1 - l then a1 - l else f - a1) then (if f - a1 < a1 - l then a1 - l else f - a1) else 0) = iI (awN f.toInt l.toInt a1.toInt) := by
      have c1 : (f - a1 < a1 - l) = (f.toInt - a1.toInt < a1.toInt - l.toInt) := by rw [i_lt, d1, d2]
      have c2 : ((0 : Int32) < a1 - l) = (0 < a1.toInt - l.toInt) := by rw [i_lt, d2]; rfl
      have c3 : ((0 : Int32) < f - a1) = (0 < f.toInt - a1.toInt) := by rw [i_lt, d1]; rfl
      apply iI_of
      unfold awN
      by_cases q : f - a1 < a1 - l
      · rw [if_pos q]
        rw [c1] at q
        by_cases q2 : (0 : Int32) < a1 - l
        · rw [if_pos q2, d2]
          rw [c2] at q2
          rw [if_neg (by omega), if_pos (by omega)]
        · rw [if_neg q2]
          rw [c2] at q2
          rw [if_neg (by omega), if_neg (by omega)]; rfl
      · rw [if_neg q]
        rw [c1] at q
        by_cases q2 : (0 : Int32) < f - a1
        · rw [if_pos q2, d1]
          rw [c3] at q2
          rw [if_pos (by omega)]
        · rw [if_neg q2]
          rw [c3] at q2
          rw [if_neg (by omega), if_neg (by omega)]; rfl
    rw [ex]
    have aw : 0 ≤ awN f.toInt l.toInt a1.toInt ∧ awN f.toInt l.toInt a1.toInt ≤ 200 := by
      unfold awN
      split
      · omega
      · split <;> omega
    generalize awN f.toInt l.toInt a1.toInt = aw' at *
    refine nm_k2 (fun x y => x = iI (W (i + 1)).1 ∧ y = iI (if (W (i + 1)).1 < 0 then 201 else (W (i + 1)).2)) (fun J hJ => ?_) ?_
    · rw [i_le, iI_toInt (by split <;> omega) (by split <;> omega), iI_toInt (by omega) (by omega)]
      by_cases c : (W i).1 < 0 ∨ aw' < (W i).2
      · rw [if_pos c] at eW
        refine zif_f (by split <;> omega) (hJ _ _ ⟨?_, ?_⟩)
        · rw [eW]; exact nI_iI i (by omega)
        · rw [eW, if_neg (by dsimp only; omega)]
      · rw [if_neg c] at eW
        refine zif_t (by rw [if_neg (by omega)]; omega) (hJ _ _ ⟨by rw [eW], by rw [eW]⟩)
    rintro x y ⟨rfl, rfl⟩
    exact hK
  · unfold b_X6_closestTo_9
    rw [h3]
    exact zif_t (by rw [n_le (by omega) (by omega)]; omega) h
theorem m_nearLoop {μ : ZMem} {n : Nat} (hn : n ≤ 101) (h3 : μ.1 0 16 = nI n) {a1 : Int32} (hk : -100 ≤ a1.toInt ∧ a1.toInt ≤ 100) (hF : ∀ j, j < n → -100 ≤ (μ.1 9 j).toInt ∧ (μ.1 9 j).toInt ≤ (μ.1 10 j).toInt ∧ (μ.1 10 j).toInt ≤ 100) {Φ : Int32 → ZMem → Prop} (h : Φ (iI (nrN (fun j => (μ.1 9 j).toInt) (fun j => (μ.1 10 j).toInt) a1.toInt n).1) μ) : ∃ n, lpz3 (b_X12_nearest_37 μ Φ a1) n (-1) 0 0 := by
  have hb := nrN_bd (F := fun j => (μ.1 9 j).toInt) (L := fun j => (μ.1 10 j).toInt) hF hk
  have s1 : (-1 : Int32) = iI (nrN (fun j => (μ.1 9 j).toInt) (fun j => (μ.1 10 j).toInt) a1.toInt 0).1 := (show (-1 : Int32) = iI (-1) by decide)
  have s2 : (0 : Int32) = iI (nrN (fun j => (μ.1 9 j).toInt) (fun j => (μ.1 10 j).toInt) a1.toInt 0).2 := (show (0 : Int32) = iI 0 by decide)
  refine ⟨n + 1, ?_⟩
  have key : lpz3 (b_X12_nearest_37 μ Φ a1) (n + 1) (iI (nrN (fun j => (μ.1 9 j).toInt) (fun j => (μ.1 10 j).toInt) a1.toInt 0).1) (iI (nrN (fun j => (μ.1 9 j).toInt) (fun j => (μ.1 10 j).toInt) a1.toInt 0).2) (nI 0) := by
    generalize hW : nrN (fun j => (μ.1 9 j).toInt) (fun j => (μ.1 10 j).toInt) a1.toInt = W at *
    refine lp3_thd n (fun i => iI (W i).1) (fun i => iI (W i).2) (fun i K hi hK => ?_) (fun K => ?_) n 0 (by omega)
    · unfold b_X12_nearest_37
      rw [h3, n_le (by omega) (by omega), nn_clamp (by omega), nI_1]
      obtain ⟨f1, f2, f3⟩ := hF i hi
      obtain ⟨w1, w2, w3, w4⟩ := hb i (by omega)
      have eW : W (i + 1) = if (W i).1 < 0 ∨ awN (μ.1 9 i).toInt (μ.1 10 i).toInt a1.toInt < (W i).2 then ((i : Int), awN (μ.1 9 i).toInt (μ.1 10 i).toInt a1.toInt) else W i := by
        rw [← hW, nrN]
      have hv := vp_in_nI (n := i) (N := 101) (by omega) (by omega)
      generalize hf : μ.1 9 i = f at *
      generalize hl : μ.1 10 i = l at *
      have d1 := sub_toI (a := f) (b := a1) (by omega) (by omega) (by omega) (by omega)
      have d2 := sub_toI (a := a1) (b := l) (by omega) (by omega) (by omega) (by omega)
      refine zif_f (by omega) ⟨hv, ?_⟩
      refine nm_k (fun x => x = iI (awN f.toInt l.toInt a1.toInt)) (fun J hJ => ?_) ?_
      · rw [i_le, i_le]
        unfold awN at hJ
        refine zif (fun q => ⟨hv, zif (fun q2 => hJ _ ?_) (fun q2 => ⟨hv, hJ _ (iI_of ?_)⟩)⟩) (fun q => ⟨hv, hJ _ (iI_of ?_)⟩)
        · rw [if_neg (by omega), if_neg (by omega)]; decide
        · rw [if_neg (by omega), if_pos (by omega)]; exact d2
        · rw [if_pos (by omega)]; exact d1
      rintro x rfl
      have aw : 0 ≤ awN f.toInt l.toInt a1.toInt ∧ awN f.toInt l.toInt a1.toInt ≤ 200 := by
        unfold awN
        split
        · omega
        · split <;> omega
      generalize awN f.toInt l.toInt a1.toInt = aw' at *
      refine nm_k2 (fun x y => x = iI (W (i + 1)).1 ∧ y = iI (W (i + 1)).2) (fun J hJ => nm_b ?_) ?_
      · have take : ((W i).1 < 0 ∨ aw' < (W i).2) → J (nI i) (iI aw') := fun c => by
          rw [if_pos c] at eW
          exact hJ _ _ ⟨by rw [eW]; exact nI_iI i (by omega), by rw [eW]⟩
        rw [i_lt0, i_le, iI_toInt (by omega) (by omega), iI_toInt (by omega) (by omega), iI_toInt (by omega) (by omega)]
        refine zif (fun q => take (Or.inl q)) (fun q => zif (fun q2 => hJ _ _ ?_) (fun q2 => take (Or.inr (by omega))))
        rw [if_neg (by omega)] at eW
        exact ⟨by rw [eW], by rw [eW]⟩
      rintro x y ⟨rfl, rfl⟩
      exact hK
    · unfold b_X12_nearest_37
      rw [h3]
      exact zif_t (by rw [n_le (by omega) (by omega)]; omega) h
  rw [← s1, ← s2] at key
  exact key
theorem spX_F {t n : Nat} {μX : ZMem} (h : spX t n μX) : ∀ j, j < n → -100 ≤ (μX.1 (t + 1) j).toInt ∧ (μX.1 (t + 1) j).toInt ≤ (μX.1 (t + 2) j).toInt ∧ (μX.1 (t + 2) j).toInt ≤ 100 := by
  intro j hj
  obtain ⟨i, i', q1, q2, q3, q4⟩ := h.2.2 j hj
  rw [q3, q4, kI_toInt (by omega), kI_toInt (by omega)]
  omega
theorem nrN_congr {F L F' L' : Nat → Int} {k : Int} : ∀ n, (∀ j, j < n → F j = F' j ∧ L j = L' j) → nrN F L k n = nrN F' L' k n := by
  intro n
  induction n with
  | zero => intro _; rfl
  | succ n ih => intro h; rw [nrN, nrN, ih (fun j hj => h j (by omega)), (h n (by omega)).1, (h n (by omega)).2]
theorem z_nearest {μX μM : ZMem} (h : Rel μX μM) (a1 a2 : Int32) : w_X11_nearest a1 a2 μX (fun r μX1 => w_X12_nearest a1 a2 μM (fun r2 μM1 => r = r2 ∧ Rel μX1 μM1)) := by
  have no : ¬ ((a1 = 0 ∨ a1 = 1) ∧ ab a2 ≤ 100) → w_X12_nearest a1 a2 μM (fun r2 μM1 => (-2 : Int32) = r2 ∧ Rel μX μM1) := by
    intro hn
    unfold w_X12_nearest
    refine m_isKind (fun k => z1p (m_in_k (fun q1 q2 => absurd ⟨k, ab_in.mpr ⟨?_, ?_⟩⟩ hn) (fun _ => z0n ⟨rfl, h⟩))) (fun _ => z0p ⟨rfl, h⟩)
    · rw [il_toInt] at q1; exact q1
    · rw [il_toInt] at q2; exact q2
  unfold w_X11_nearest
  refine e_isKind (fun k => z1p (within_k (n := 100) rfl (by omega) (fun ha => z1n (o_survey h k (fun n μX1 x1 xn _ g => ⟨zT_tK a1, ?_⟩))) (fun ha => z0n (no (fun z => ha z.2))))) (fun k => z0p (no (fun z => k z.1)))
  have ha' := ab_in.mp ha
  refine e_closest xn.1 xn.2.1 ha' (spX_F xn) ?_
  unfold w_X12_nearest
  refine m_isKind (fun _ => z1p (m_in_k (fun _ _ => z1n (g _ (fun μM1 m1 e r => m_nearLoop xn.1 e.1 ha' (fun j hj => ?_) ⟨?_, r⟩))) (fun q => absurd ?_ q))) (fun q => absurd k q)
  · rw [← (e.2 j hj).1, ← (e.2 j hj).2]; exact spX_F xn j hj
  · rw [nrN_congr n (fun j hj => ⟨by rw [(e.2 j hj).1], by rw [(e.2 j hj).2]⟩)]
  · rw [il_toInt]; exact ha'
