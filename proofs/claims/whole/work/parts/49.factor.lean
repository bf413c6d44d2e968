/-! factors -/
theorem rSt_facs {p q : Nat → Int64} {k w fc : Int32} {line : Nat → Int32} {fac fac' : Nat → Nat → Int32} {g g' : Nat → Int32} (h : rSt p q k w fc line fac g) {n : Nat} (hn : n ≤ 6) (hg : ∀ j, j < 32 → g' j = g j) (g32 : g' 32 = nI n) (hf : ∀ i, i < n → fac' i 0 = g' (33 + i) ∧ fac' i 1 = g' (39 + i) ∧ fac' i 2 = g' (45 + i) ∧ 0 ≤ (fac' i 0).toInt ∧ (fac' i 0).toInt ≤ 3 ∧ ab (fac' i 1) ≤ 20 ∧ ab (fac' i 2) ≤ 20) : rSt p q k w (nI n) line fac' g' := by
  obtain ⟨a1, a2, a3, a4, a5, ⟨m, c1, c2, c3, c4⟩, _⟩ := h
  refine ⟨fun j hj => ?_, fun j hj => ?_, fun j hj => ?_, ?_, a5, ⟨m, c1, c2, ?_, fun i hi => ?_⟩, n, hn, rfl, g32, hf⟩
  · rw [hg _ (by omega)]; exact a1 j hj
  · rw [hg _ (by omega)]; exact a2 j hj
  · rw [hg _ (by omega)]; exact a3 j hj
  · rw [hg _ (by omega)]; exact a4
  · rw [hg _ (by omega)]; exact c3
  · rw [hg _ (by omega)]; exact c4 i hi
theorem Rel0_facs {μX μM μX' μM' : ZMem} (h : Rel0 μX μM) (hX : ∀ a, a ≠ 1 → a < 6 ∨ 11 < a → μX'.1 a = μX.1 a) (hX2 : μX'.2 = μX.2) (e2 : μX'.1 1 2 = μX.1 1 2) (e4 : μX'.1 1 4 = μX.1 1 4) (hM : ∀ a, a ≠ 1 → μM'.1 a = μM.1 a) (hM2 : μM'.2 = μM.2) {n : Nat} (hn : n ≤ 6) (h6 : μX'.1 1 6 = nI n) (hg : ∀ j, j < 32 → μM'.1 1 j = μM.1 1 j) (g32 : μM'.1 1 32 = nI n) (hf : ∀ i, i < n → μX'.1 (6 + i) 0 = μM'.1 1 (33 + i) ∧ μX'.1 (6 + i) 1 = μM'.1 1 (39 + i) ∧ μX'.1 (6 + i) 2 = μM'.1 1 (45 + i) ∧ 0 ≤ (μX'.1 (6 + i) 0).toInt ∧ (μX'.1 (6 + i) 0).toInt ≤ 3 ∧ ab (μX'.1 (6 + i) 1) ≤ 20 ∧ ab (μX'.1 (6 + i) 2) ≤ 20) : Rel0 μX' μM' ∧ rC μX μX' := by
  refine ⟨⟨?_, kept_fr h.2.1 (fun a q1 q2 => ⟨hX a (by omega) (by omega), by rw [hX2]⟩) (hM 2 (by omega)), ?_, tape_fr h.2.2.2.1 (by rw [hX 23 (by omega) (by omega)]) (hX 24 (by omega) (by omega)) (by rw [hM 0 (by omega)]) (hM 13 (by omega)), trays_fr h.2.2.2.2 (fun a q1 q2 => ⟨hX a (by omega) (by omega), by rw [hX2]⟩) (hM 15 (by omega)) (hM 16 (by omega)) (by rw [hM2])⟩, Or.inl ⟨fun a q1 q2 => ⟨hX a (by omega) (by omega), by rw [hX2]⟩, by rw [hX2], by rw [hX2]⟩⟩
  · unfold rNow
    rw [hX2, e2, e4, h6, hX 4 (by omega) (by omega)]
    exact rSt_facs h.1 hn hg g32 hf
  · unfold rFlags
    rw [hX 0 (by omega) (by omega), hM 0 (by omega)]
    exact h.2.2.1
theorem xGate {x a : Int32} {b : Bool} (hx : x = if b then 1 else 0) {A B : Prop} (hA : (b = true → ab a ≤ 20) → A) (hB : b = true → ¬ ab a ≤ 20 → B) : (x = 0 → A) ∧ (¬ x = 0 → w_X11_isWithin a 20 (fun r => (r = 0 → B) ∧ (¬ r = 0 → A))) := by
  subst hx
  cases b with
  | false => exact z0p (hA (fun q => absurd q (by decide)))
  | true => exact z1p (within_k (n := 20) rfl (by omega) (fun q => z1p (hA (fun _ => q))) (fun q => z0p (hB rfl q)))
theorem xGate2 {x a : Int32} {b : Bool} (hx : x = if b then 1 else 0) {A B : Prop} (hA : (b = true → ab a ≤ 20) → A) (hB : b = true → ¬ ab a ≤ 20 → B) : (x = 0 → A) ∧ (¬ x = 0 → w_X11_isWithin a 20 (fun r => (¬ r = 0 → A) ∧ (r = 0 → B))) := by
  subst hx
  cases b with
  | false => exact z0p (hA (fun q => absurd q (by decide)))
  | true => exact z1p (within_k (n := 20) rfl (by omega) (fun q => z1n (hA (fun _ => q))) (fun q => z0n (hB rfl q)))
def kA (c : Nat) : Bool := decide (c < 2)
def kB (c : Nat) : Bool := decide (c % 2 = 1)
theorem in20 {a : Int32} {Φ : Int32 → Prop} (h1 : ab a ≤ 20 → Φ 1) (h0 : ¬ ab a ≤ 20 → Φ 0) : w_X12_in (Int32.toInt64 a) (-20) 20 Φ := by
  refine m_in_k (fun q1 q2 => h1 (ab_in.mpr ⟨?_, ?_⟩)) (fun q => h0 (fun z => q ?_))
  · rw [il_toInt] at q1; exact q1
  · rw [il_toInt] at q2; exact q2
  · rw [il_toInt]; exact ab_in.mp z
theorem m_factor {μ : ZMem} {c n : Nat} (hc : c < 4) (hn : n ≤ 6) (h32 : μ.1 1 32 = nI n) (a2 a3 : Int32) {Φ : Int32 → ZMem → Prop} (hBad : ¬ ((kA c = true → ab a2 ≤ 20) ∧ (kB c = true → ab a3 ≤ 20)) → Φ (-2) μ) (hFull : (kA c = true → ab a2 ≤ 20) → (kB c = true → ab a3 ≤ 20) → n = 6 → Φ (-4) μ) (hGo : (kA c = true → ab a2 ≤ 20) → (kB c = true → ab a3 ≤ 20) → n < 6 → ∀ g, g = upd (upd (upd (upd (μ.1 1) (33 + n) (nI c)) (39 + n) (if kA c then a2 else 0)) (45 + n) (if kB c then a3 else 0)) 32 (nI (n + 1)) → Φ (nI (n + 1)) (stI μ 1 g)) : w_X12_factor (nI c) a2 a3 μ Φ := by
  unfold w_X12_factor
  have e2 : ((2 : Int32) ≤ nI c) = (¬ kA c = true) := by
    rw [show (2 : Int32) = nI 2 from rfl]
    apply propext
    rw [n_le (by omega) (by omega)]; unfold kA; simp
  have e3 : (nI c - nI c / 2 * 2 = 1) = (kB c = true) := by
    apply propext
    rw [nI_par c (by omega)]; unfold kB; simp
  refine m_in_k (fun _ _ => z1n ?_) (fun q => absurd ?_ q)
  · rw [e2, e3]
    have body : (kA c = true → ab a2 ≤ 20) → nm (nm ((μ.1 1 32)) (fun (v4_5 : Int32) => (¬ v4_5 = 6 → vp_in (33 + v4_5) 51 ∧ (nm (zz_upI μ 1 (Int32.toNatClampNeg (33 + v4_5)) (nI c)) (fun (μ_7 : ZMem) => nm (fun (x_8 : Int32) => vp_in (39 + v4_5) 51 ∧ (nm (zz_upI μ_7 1 (Int32.toNatClampNeg (39 + v4_5)) x_8) (fun (μ_11 : ZMem) => nm (fun (x_12 : Int32) => vp_in (45 + v4_5) 51 ∧ (nm (zz_upI μ_11 1 (Int32.toNatClampNeg (45 + v4_5)) x_12) (fun (μ_15 : ZMem) => nm (zz_upI μ_15 1 32 ((μ_15.1 1 32) + 1)) (fun (μ_16 : ZMem) => Φ (μ_16.1 1 32) μ_16)))) (fun (J_13 : Int32 → Prop) => (¬ kB c = true → J_13 0) ∧ (kB c = true → J_13 a3))))) (fun (J_9 : Int32 → Prop) => (¬ kA c = true → J_9 0) ∧ (¬ ¬ kA c = true → J_9 a2))))) ∧ (v4_5 = 6 → Φ (-4) μ))) (fun (J_4 : Prop) => (¬ kB c = true → J_4) ∧ (kB c = true → w_X12_in (Int32.toInt64 a3) (-20) 20 (fun (r_17 : Int32) => (¬ r_17 = 0 → J_4) ∧ (r_17 = 0 → Φ (-2) μ)))) := by
      intro hA
      have inner : (kB c = true → ab a3 ≤ 20) → nm ((μ.1 1 32)) (fun (v4_5 : Int32) => (¬ v4_5 = 6 → vp_in (33 + v4_5) 51 ∧ (nm (zz_upI μ 1 (Int32.toNatClampNeg (33 + v4_5)) (nI c)) (fun (μ_7 : ZMem) => nm (fun (x_8 : Int32) => vp_in (39 + v4_5) 51 ∧ (nm (zz_upI μ_7 1 (Int32.toNatClampNeg (39 + v4_5)) x_8) (fun (μ_11 : ZMem) => nm (fun (x_12 : Int32) => vp_in (45 + v4_5) 51 ∧ (nm (zz_upI μ_11 1 (Int32.toNatClampNeg (45 + v4_5)) x_12) (fun (μ_15 : ZMem) => nm (zz_upI μ_15 1 32 ((μ_15.1 1 32) + 1)) (fun (μ_16 : ZMem) => Φ (μ_16.1 1 32) μ_16)))) (fun (J_13 : Int32 → Prop) => (¬ kB c = true → J_13 0) ∧ (kB c = true → J_13 a3))))) (fun (J_9 : Int32 → Prop) => (¬ kA c = true → J_9 0) ∧ (¬ ¬ kA c = true → J_9 a2))))) ∧ (v4_5 = 6 → Φ (-4) μ)) := by
        intro hB
        refine nm_b ?_
        rw [h32, show (6 : Int32) = nI 6 from rfl, nI_eq (by omega) (by omega), show (33 : Int32) = nI 33 from rfl, show (39 : Int32) = nI 39 from rfl, show (45 : Int32) = nI 45 from rfl, nI_add, nI_add, nI_add, nn_clamp (by omega), nn_clamp (by omega), nn_clamp (by omega)]
        refine zifn (fun h6 => ⟨vp_in_nI (by omega) (by omega), nm_b ?_⟩) (fun h6 => hFull hA hB h6)
        refine nm_k (fun x => x = if kA c then a2 else 0) (fun J hJ => zif (fun q => hJ _ (by rw [if_neg q])) (fun q => hJ _ (by rw [if_pos (Classical.not_not.mp q)]))) ?_
        rintro x hx
        refine ⟨vp_in_nI (by omega) (by omega), nm_b ?_⟩
        refine nm_k (fun y => y = if kB c then a3 else 0) (fun J hJ => zifn (fun q => hJ _ (by rw [if_neg q])) (fun q => hJ _ (by rw [if_pos q]))) ?_
        rintro y hy
        refine ⟨vp_in_nI (by omega) (by omega), nm_b (nm_b ?_)⟩
        have e32 : (zz_upI (zz_upI (zz_upI μ 1 (33 + n) (nI c)) 1 (39 + n) x) 1 (45 + n) y).1 1 32 = nI n := by
          show upd (upd (upd (μ.1 1) (33 + n) (nI c)) (39 + n) x) (45 + n) y 32 = _
          rw [upd_at, if_neg (by omega), upd_at, if_neg (by omega), upd_at, if_neg (by omega)]; exact h32
        rw [e32, nI_1, hx, hy]
        have := hGo hA hB (by omega) _ rfl
        simp only [upI_st, stI_stI]
        exact this
      refine nm_b (zifn (fun q => inner (fun z => absurd z q)) (fun q => in20 (fun z => z1n (inner (fun _ => z))) (fun z => z0n (hBad (fun t => z (t.2 q))))))
    exact nm_b (zif (fun q => body (fun z => absurd z q)) (fun q => in20 (fun z => z1p (body (fun _ => z))) (fun z => z0p (hBad (fun t => z (t.1 (Classical.not_not.mp q)))))))
  · rw [il_toInt, nI_toInt (by omega)]; exact ⟨by show (0 : Int) ≤ _; omega, by show _ ≤ (3 : Int); omega⟩
theorem o_factor {μX μM : ZMem} (h : Rel0 μX μM) (a1 a2 a3 : Int32) : w_X11_factor a1 a2 a3 μX (fun r μX1 => w_X12_factor a1 a2 a3 μM (fun r2 μM1 => oS μX μM r r2 μX1 μM1)) := by
  obtain ⟨n, b1, b2, b3, b4⟩ := h.1.2.2.2.2.2.2
  have no : ¬ (0 ≤ a1.toInt ∧ a1.toInt ≤ 3) → w_X12_factor a1 a2 a3 μM (fun r2 μM1 => oS μX μM (-1) r2 μX μM1) := by
    intro hn
    unfold w_X12_factor
    refine m_in_k (fun q1 q2 => absurd ⟨?_, ?_⟩ hn) (fun _ => z0n (oS_0 h _))
    · rw [il_toInt] at q1; exact q1
    · rw [il_toInt] at q2; exact q2
  unfold w_X11_factor
  rw [i_lt, i_le, show (0 : Int32).toInt = 0 from rfl, show (3 : Int32).toInt = 3 from rfl]
  refine zif (fun q => no (by omega)) (fun q => zif (fun q2 => ?_) (fun q2 => no (by omega)))
  obtain ⟨c, c1, c2⟩ := nn_of (i := a1) (n := 3) (by omega) (by omega) (by omega)
  subst c2
  have hc : c = 0 ∨ c = 1 ∨ c = 2 ∨ c = 3 := by omega
  refine nm_k (fun x => x = if kA c then 1 else 0) (fun J hJ => ?_) ?_
  · rcases hc with rfl | rfl | rfl | rfl
    · exact nm_b (zif_t rfl (hJ _ rfl))
    · exact nm_b (zif_f (by decide) (zifn_t rfl (hJ _ rfl)))
    · exact nm_b (zif_f (by decide) (zifn_f (by decide) (hJ _ rfl)))
    · exact nm_b (zif_f (by decide) (zifn_f (by decide) (hJ _ rfl)))
  rintro x1 hx1
  refine nm_k (fun x => x = if kB c then 1 else 0) (fun J hJ => ?_) ?_
  · rcases hc with rfl | rfl | rfl | rfl
    · exact nm_b (zif_f (by decide) (zifn_f (by decide) (hJ _ rfl)))
    · exact nm_b (zif_t rfl (hJ _ rfl))
    · exact nm_b (zif_f (by decide) (zifn_f (by decide) (hJ _ rfl)))
    · exact nm_b (zif_f (by decide) (zifn_t rfl (hJ _ rfl)))
  rintro x3 hx3
  have bad : ¬ ((kA c = true → ab a2 ≤ 20) ∧ (kB c = true → ab a3 ≤ 20)) → w_X12_factor (nI c) a2 a3 μM (fun r2 μM1 => oS μX μM (-2) r2 μX μM1) := by
    intro hb
    exact m_factor (by omega) b1 b3 a2 a3 (fun _ => oS_0 h _) (fun q1 q2 _ => absurd ⟨q1, q2⟩ hb) (fun q1 q2 _ => absurd ⟨q1, q2⟩ hb)
  refine nm_b (xGate hx1 (fun hA => nm_b (xGate2 hx3 (fun hB => ?_) (fun qb qn => bad (fun t => qn (t.2 qb))))) (fun qa qn => bad (fun t => qn (t.1 qa))))
  rw [b2, show (6 : Int32) = nI 6 from rfl, n_lt (by omega) (by omega), nn_clamp (by omega)]
  refine zif (fun h6 => ⟨vp_in_nI (by omega) (by omega), ?_⟩) (fun h6 => m_factor (by omega) b1 b3 a2 a3 (fun q => absurd ⟨hA, hB⟩ q) (fun _ _ _ => oS_0 h _) (fun _ _ q => absurd q h6))
  refine nm_k (fun x => x = if kA c then a2 else 0) (fun J hJ => ?_) ?_
  · cases hk : kA c with
    | false => rw [hk] at hx1 hJ; exact zif_t hx1 (hJ _ rfl)
    | true => rw [hk] at hx1 hJ; exact zif_f (by rw [hx1]; decide) (hJ _ rfl)
  rintro va hva
  refine nm_k (fun x => x = if kB c then a3 else 0) (fun J hJ => ?_) ?_
  · cases hk : kB c with
    | false => rw [hk] at hx3 hJ; exact zif_t hx3 (hJ _ rfl)
    | true => rw [hk] at hx3 hJ; exact zif_f (by rw [hx3]; decide) (hJ _ rfl)
  rintro vb hvb
  unfold w_X2_become
  refine nm_b (nm_b (nm_b (nm_b ?_)))
  have e6 : (zz_upI (zz_upI (zz_upI μX (6 + n) 0 (nI c)) (6 + n) 1 va) (6 + n) 2 vb).1 1 6 = nI n := by
    rw [mI1, if_neg (by omega), mI1, if_neg (by omega), mI1, if_neg (by omega)]; exact b2
  rw [e6, nI_1]
  refine m_factor (by omega) b1 b3 a2 a3 (fun q => absurd ⟨hA, hB⟩ q) (fun _ _ q => absurd q (by omega)) (fun _ _ _ g hg => ?_)
  rw [← hva, ← hvb] at hg
  have va20 : ab va ≤ 20 := by
    rw [hva]
    cases hk : kA c with
    | false => exact Nat.zero_le _
    | true => exact hA hk
  have vb20 : ab vb ≤ 20 := by
    rw [hvb]
    cases hk : kB c with
    | false => exact Nat.zero_le _
    | true => exact hB hk
  have hsl : ∀ s, s ≠ 6 → (zz_upI (zz_upI (zz_upI (zz_upI μX (6 + n) 0 (nI c)) (6 + n) 1 va) (6 + n) 2 vb) 1 6 (nI (n + 1))).1 1 s = μX.1 1 s := by
    intro s hs
    rw [mI1, if_pos rfl, upd_at, if_neg hs, mI1, if_neg (by omega), mI1, if_neg (by omega), mI1, if_neg (by omega)]
  refine ⟨rfl, Rel0_facs (n := n + 1) h (fun a q1 q2 => ?_) rfl (hsl 2 (by omega)) (hsl 4 (by omega)) (fun a q => if_neg q) rfl (by omega) rfl (fun j hj => ?_) ?_ (fun i hi => ?_)⟩
  · rw [mI1, if_neg q1, mI1, if_neg (by omega), mI1, if_neg (by omega), mI1, if_neg (by omega)]
  · show g j = _
    rw [hg, upd_at, if_neg (by omega), upd_at, if_neg (by omega), upd_at, if_neg (by omega), upd_at, if_neg (by omega)]
  · show g 32 = _
    rw [hg, upd_at, if_pos rfl]
  · have hX : ∀ s, (zz_upI (zz_upI (zz_upI (zz_upI μX (6 + n) 0 (nI c)) (6 + n) 1 va) (6 + n) 2 vb) 1 6 (nI (n + 1))).1 (6 + i) s = if i = n then upd (upd (upd (μX.1 (6 + n)) 0 (nI c)) 1 va) 2 vb s else μX.1 (6 + i) s := by
      intro s
      rw [mI1, if_neg (by omega)]
      by_cases e : i = n
      · subst e
        rw [if_pos rfl, mI1, if_pos rfl, mI1, if_pos rfl, mI1, if_pos rfl]
      · rw [if_neg e, mI1, if_neg (by omega), mI1, if_neg (by omega), mI1, if_neg (by omega)]
    have hM : ∀ s, s = 33 + i ∨ s = 39 + i ∨ s = 45 + i → (stI μM 1 g).1 1 s = if i = n then upd (upd (upd (μM.1 1) (33 + n) (nI c)) (39 + n) va) (45 + n) vb s else μM.1 1 s := by
      intro s hs
      show g s = _
      rw [hg, upd_at, if_neg (by omega)]
      by_cases e : i = n
      · rw [if_pos e]
      · rw [if_neg e, upd_at, if_neg (by omega), upd_at, if_neg (by omega), upd_at, if_neg (by omega)]
    rw [hX 0, hX 1, hX 2, hM _ (Or.inl rfl), hM _ (Or.inr (Or.inl rfl)), hM _ (Or.inr (Or.inr rfl))]
    by_cases e : i = n
    · subst e
      simp only [if_pos]
      refine ⟨?_, ?_, ?_, ?_, ?_, ?_, ?_⟩
      · simp only [upd_at]; rw [if_neg (by omega), if_neg (by omega), if_pos trivial, if_neg (by omega), if_neg (by omega), if_pos trivial]
      · simp only [upd_at]; rw [if_neg (by omega), if_pos trivial, if_neg (by omega), if_pos trivial]
      · simp only [upd_at]; rw [if_pos trivial, if_pos trivial]
      · show 0 ≤ (nI c).toInt
        rw [nI_toInt (by omega)]; omega
      · show (nI c).toInt ≤ 3
        rw [nI_toInt (by omega)]; omega
      · exact va20
      · exact vb20
    · simp only [if_neg e]
      exact b4 i (by omega)
