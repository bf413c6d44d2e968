/-! texts: the reference's terms -/
def tapeM (n : Nat) (L : Nat → Int32) (μ : ZMem) : Prop := ended n L ∧ μ.1 0 22 = nI n ∧ ∀ i, i < n → μ.1 13 i = L i
def frM (μ b : ZMem) : Prop := (∀ a, a ≠ 0 → a ≠ 14 → b.1 a = μ.1 a) ∧ (∀ t, t ≠ 23 → t ≠ 24 → t ≠ 25 → b.1 0 t = μ.1 0 t) ∧ b.2 = μ.2
def sTM (μ : ZMem) (s : Nat × Nat × (Nat → Int32)) (b : ZMem) : Prop := frM μ b ∧ b.1 0 25 = nI s.2.1 ∧ b.1 0 24 = -1 ∧ b.1 0 23 = nI s.1 ∧ ∀ j, j < 14 → b.1 14 j = s.2.2 j
def oTM (μ : ZMem) (o : Nat ⊕ (Nat × Nat × (Nat → Int32))) (b : ZMem) : Prop := match o with
  | Sum.inl e => frM μ b ∧ b.1 0 24 = nI e ∧ ∃ q, q ≤ 1000 ∧ b.1 0 23 = nI q
  | Sum.inr s => sTM μ s b
theorem tapeM_f {n : Nat} {L : Nat → Int32} {μ b : ZMem} (t : tapeM n L μ) (h : frM μ b) : tapeM n L b := ⟨t.1, by rw [h.2.1 22 (by omega) (by omega) (by omega)]; exact t.2.1, fun i hi => by rw [h.1 13 (by omega) (by omega)]; exact t.2.2 i hi⟩
theorem m_here {n p : Nat} {L : Nat → Int32} {μ : ZMem} (t : tapeM n L μ) (h23 : μ.1 0 23 = nI p) (hp : p ≤ 1000) {Φ : Int32 → Prop} (h : Φ (L p)) : w_X12_here μ Φ := by
  obtain ⟨⟨t1, t2⟩, t3, t4⟩ := t
  unfold w_X12_here
  rw [t3, h23, n_le (by omega) (by omega), nn_clamp (by omega)]
  refine zif (fun q => ?_) (fun q => ⟨vp_in_nI (by omega) (by omega), ?_⟩)
  · rw [t2 p q] at h; exact h
  · rw [t4 p (by omega)]; exact h
theorem m_isDigit {n p : Nat} {L : Nat → Int32} {μ : ZMem} (t : tapeM n L μ) (h23 : μ.1 0 23 = nI p) (hp : p ≤ 1000) {Φ : Int32 → Prop} (h1 : (48 ≤ (L p).toInt ∧ (L p).toInt ≤ 57) → Φ 1) (h0 : ¬ (48 ≤ (L p).toInt ∧ (L p).toInt ≤ 57) → Φ 0) : w_X12_isDigit μ Φ := by
  unfold w_X12_isDigit
  refine m_here t h23 hp (m_in_k (fun q1 q2 => ⟨Or.inr rfl, h1 ⟨?_, ?_⟩⟩) (fun q => ⟨Or.inl rfl, h0 (fun z => q ?_)⟩))
  · rw [il_toInt] at q1; exact q1
  · rw [il_toInt] at q2; exact q2
  · rw [il_toInt]; exact z
def upM (μ b : ZMem) (q : Nat) : Prop := (∀ a s, ¬ (a = 0 ∧ s = 23) → b.1 a s = μ.1 a s) ∧ b.2 = μ.2 ∧ b.1 0 23 = nI q
theorem upM_rfl {μ : ZMem} {p : Nat} (h : μ.1 0 23 = nI p) : upM μ μ p := ⟨fun _ _ _ => rfl, rfl, h⟩
theorem upM_z {μ b : ZMem} {p : Nat} (h : upM μ b p) : upM μ (zz_upI b 0 23 (nI (p + 1))) (p + 1) := by
  refine ⟨fun a s hs => ?_, h.2.1, rfl⟩
  rw [mI1]
  by_cases e : a = 0
  · rw [if_pos e, upd_at, if_neg (fun z => hs ⟨e, z⟩)]
    rw [← e]; exact h.1 a s hs
  · rw [if_neg e]; exact h.1 a s hs
theorem tapeM_P {n q : Nat} {L : Nat → Int32} {μ b : ZMem} (t : tapeM n L μ) (h : upM μ b q) : tapeM n L b := ⟨t.1, by rw [h.1 0 22 (by omega)]; exact t.2.1, fun i hi => by rw [h.1 13 i (by omega)]; exact t.2.2 i hi⟩
theorem frM_P {μ b c : ZMem} {q : Nat} (h : frM μ b) (p : upM b c q) : frM μ c := ⟨fun a h0 h14 => funext fun s => by rw [p.1 a s (fun z => h0 z.1), h.1 a h0 h14], fun t h1 h2 h3 => by rw [p.1 0 t (fun z => h1 z.2)]; exact h.2.1 t h1 h2 h3, by rw [p.2.1]; exact h.2.2⟩
theorem numS_p (L : Nat → Int32) (p : Nat) : (numS L p).2 = p ↔ ¬ (48 ≤ (L p).toInt ∧ (L p).toInt ≤ 57) := by
  unfold numS
  split
  · rename_i q
    split
    · dsimp only; exact ⟨fun z => by omega, fun z => absurd q z⟩
    · dsimp only; exact ⟨fun z => by omega, fun z => absurd q z⟩
  · rename_i q
    exact ⟨fun _ => q, fun _ => rfl⟩
theorem itmS_p {n p : Nat} {L : Nat → Int32} (h : ended n L) : (itmS L p).2.2 = p ↔ (¬ (48 ≤ (L p).toInt ∧ (L p).toInt ≤ 57) ∧ ¬ L p = 115) := by
  have a := numS_f (p := p) h
  have b := numS_p L p
  unfold itmS
  split
  · rename_i q
    have c := powS_f (p := (numS L p).2 + 1) h
    dsimp only
    constructor
    · intro z; omega
    · rintro ⟨z1, z2⟩
      rw [b.mpr z1] at q
      exact absurd q z2
  · rename_i q
    dsimp only
    constructor
    · intro z
      refine ⟨b.mp z, ?_⟩
      rw [z] at q; exact q
    · intro z; exact b.mpr z.1
theorem m_number {n p : Nat} {L : Nat → Int32} {μ : ZMem} (t : tapeM n L μ) (h23 : μ.1 0 23 = nI p) (hp : p ≤ 100) {J : Int32 → ZMem → Prop} (h : ∀ b, upM μ b (numS L p).2 → J (nI (if (numS L p).2 = p then 1 else (numS L p).1)) b) {x : Int32} (hx : x = if 48 ≤ (L p).toInt ∧ (L p).toInt ≤ 57 then 0 else 1) : ∃ n, lpz3 (b_X12_term_47 J) n x 0 μ := by
  refine ⟨3, ?_⟩
  rw [lpz3]
  dsimp only
  generalize hL2 : lpz3 (b_X12_term_47 J) 2 = K2
  unfold b_X12_term_47
  refine zif_f (by decide) (m_isDigit t h23 (by omega) (fun hd => z1p (m_here t h23 (by omega) (nm_b ?_))) (fun hd => z0p ?_))
  · rw [if_pos hd] at hx
    have e1 : (10 : Int32) * 0 + L p - 48 = nI (10 * 0 + dv (L p)) := digI (a := 0) (by omega) hd.1 hd.2
    refine nm_b ?_
    rw [hx, e1, h23, nI_1, ← hL2, lpz3]
    dsimp only
    generalize hL1 : lpz3 (b_X12_term_47 J) 1 = K1
    unfold b_X12_term_47
    have x1 := upM_z (upM_rfl h23)
    have t1 := tapeM_P t x1
    have hdv : 10 * 0 + dv (L p) ≤ 9 := by unfold dv; omega
    refine zif_f (by decide) (m_isDigit t1 x1.2.2 (by omega) (fun hd2 => z1p (m_here t1 x1.2.2 (by omega) (nm_b (nm_b ?_)))) (fun hd2 => z0p ?_))
    · rw [digI hdv hd2.1 hd2.2, x1.2.2, nI_1, ← hL1, lpz3]
      dsimp only
      unfold b_X12_term_47
      refine zif_t (by decide) ?_
      have e : numS L p = (10 * dv (L p) + dv (L (p + 1)), p + 2) := by unfold numS; rw [if_pos hd, if_pos hd2]
      rw [e] at h
      dsimp only at h
      rw [if_neg (show ¬ p + 2 = p by omega)] at h
      rw [show 10 * (10 * 0 + dv (L p)) + dv (L (p + 1)) = 10 * dv (L p) + dv (L (p + 1)) by omega]
      exact h _ (upM_z x1)
    · have e : numS L p = (dv (L p), p + 1) := by unfold numS; rw [if_pos hd, if_neg hd2]
      rw [e] at h
      dsimp only at h
      rw [if_neg (show ¬ p + 1 = p by omega)] at h
      rw [show 10 * 0 + dv (L p) = dv (L p) by omega]
      exact h _ x1
  · have e : numS L p = (0, p) := by unfold numS; rw [if_neg hd]
    rw [e] at h
    dsimp only at h
    rw [if_pos rfl] at h
    rw [hx, if_neg hd]
    exact h μ (upM_rfl h23)
theorem m_term {n p tm off : Nat} {neg : Bool} {a1 a2 : Int32} {A : Nat → Int32} {L : Nat → Int32} {μ b : ZMem} (hk : (off = 0 ∧ a1 = 0) ∨ (off = 7 ∧ a1 = 1)) (ha : a2 = if neg then 1 else 0) (t : tapeM n L μ) (hp : p ≤ 100) (htm : tm ≤ 1000) (hA : smA A) (hb : sTM μ (p, tm, A) b) {Φ : ZMem → Prop} (h : ∀ b', oTM μ (termS L off neg p tm A) b' → Φ b') : w_X12_term a1 a2 b Φ := by
  obtain ⟨b1, b2, b3, b4, b5⟩ := hb
  have tn := t.1.1
  have tb := tapeM_f t b1
  have b6 : b.1 0 23 = nI p := b4
  unfold w_X12_term
  rw [b6]
  have f := itmS_f (p := p) t.1
  have ip := itmS_p (p := p) t.1
  have eT : termS L off neg p tm A = if (itmS L p).2.2 = p then Sum.inl p else if ab (A (off + (itmS L p).2.1) + sgI neg (itmS L p).1) ≤ 99 then Sum.inr ((itmS L p).2.2, tm + 1, upd A (off + (itmS L p).2.1) (A (off + (itmS L p).2.1) + sgI neg (itmS L p).1)) else Sum.inl p := rfl
  rw [eT] at h
  have main : (48 ≤ (L p).toInt ∧ (L p).toInt ≤ 57) ∨ L p = 115 → w_X12_isDigit b (fun (r_5 : Int32) => nm (fun (x_7 : Int32) => nm (fun (v4_9 : Int32) (μ_10 : ZMem) => w_X12_here μ_10 (fun (r_12 : Int32) => nm (fun (v5_14 : Int32) (μ_15 : ZMem) => nm (((7 * a1) + v5_14)) (fun (v6_17 : Int32) => vp_in v6_17 14 ∧ (nm (fun (x_19 : Int32) => vp_in v6_17 14 ∧ (nm (zz_upI μ_15 14 (Int32.toNatClampNeg v6_17) ((μ_15.1 14 (Int32.toNatClampNeg v6_17)) + x_19)) (fun (μ_22 : ZMem) => nm (zz_upI μ_22 0 25 ((μ_22.1 0 25) + 1)) (fun (μ_23 : ZMem) => vp_in v6_17 14 ∧ (w_X12_in (Int32.toInt64 (μ_23.1 14 (Int32.toNatClampNeg v6_17))) (-99) 99 (fun (r_25 : Int32) => nm (fun (x_27 : Int32) => nm (zz_upI μ_23 0 24 x_27) (fun (μ_29 : ZMem) => Φ μ_29)) (fun (J_28 : Int32 → Prop) => (r_25 = 0 → J_28 (nI p)) ∧ (¬ r_25 = 0 → J_28 (μ_23.1 0 24))))))))) (fun (J_20 : Int32 → Prop) => (a2 = 0 → J_20 v4_9) ∧ (¬ a2 = 0 → J_20 (-v4_9)))))) (fun (J_16 : Int32 → ZMem → Prop) => (¬ r_12 = 115 → J_16 0 μ_10) ∧ (r_12 = 115 → nm (zz_upI μ_10 0 23 ((μ_10.1 0 23) + 1)) (fun (μ_30 : ZMem) => w_X12_here μ_30 (fun (r_31 : Int32) => w_X12_in (Int32.toInt64 r_31) 49 54 (fun (r_33 : Int32) => (r_33 = 0 → J_16 1 μ_30) ∧ (¬ r_33 = 0 → w_X12_here μ_30 (fun (r_35 : Int32) => nm ((r_35 - 48)) (fun (v5_37 : Int32) => nm (zz_upI μ_30 0 23 ((μ_30.1 0 23) + 1)) (fun (μ_38 : ZMem) => J_16 v5_37 μ_38))))))))))) (fun (J_11 : Int32 → ZMem → Prop) => ∃ n, lpz3 (b_X12_term_47 J_11) n x_7 0 b)) (fun (J_8 : Int32 → Prop) => (r_5 = 0 → J_8 1) ∧ (¬ r_5 = 0 → J_8 0))) := by
    intro hgo
    have hne : ¬ (itmS L p).2.2 = p := fun z => by
      have := ip.mp z
      rcases hgo with g | g
      · exact this.1 g
      · exact this.2 g
    rw [if_neg hne] at h
    refine m_isDigit tb b6 (by omega) (fun hd => ?_) (fun hd => ?_)
    all_goals
      refine nm_k (fun x => x = if 48 ≤ (L p).toInt ∧ (L p).toInt ≤ 57 then 0 else 1) (fun J hJ => ?_) ?_
    · exact z1p (hJ _ (by rw [if_pos hd]))
    rotate_left
    · exact z0p (hJ _ (by rw [if_neg hd]))
    all_goals
      rintro x hx
      refine nm_k2 (fun v c => v = nI (if (numS L p).2 = p then 1 else (numS L p).1) ∧ upM b c (numS L p).2) (fun J hJ => m_number tb b6 (by omega) (fun c hc => hJ _ _ ⟨rfl, hc⟩) hx) ?_
      rintro v c ⟨rfl, hc⟩
      have nf := numS_f (p := p) t.1
      have tc := tapeM_P tb hc
      refine m_here tc hc.2.2 (by omega) ?_
      have vI : (if (numS L p).2 = p then 1 else (numS L p).1) = (itmS L p).1 := by
        unfold itmS
        by_cases q : L (numS L p).2 = 115
        · rw [if_pos q]
        · rw [if_neg q]
          dsimp only
          rw [if_neg]
          intro z
          rw [z] at q
          rcases hgo with g | g
          · exact (numS_p L p).mp z g
          · exact q g
      rw [vI]
      refine nm_k2 (fun y z => y = nI (itmS L p).2.1 ∧ upM b z (itmS L p).2.2) (fun J hJ => zifn (fun q => hJ _ _ ?_) (fun q => nm_b ?_)) ?_
      · unfold itmS
        rw [if_neg q]
        exact ⟨rfl, hc⟩
      · rw [hc.2.2, nI_1]
        have hc2 := upM_z hc
        have tc2 := tapeM_P tb hc2
        have ei : itmS L p = ((if (numS L p).2 = p then 1 else (numS L p).1), (powS L ((numS L p).2 + 1)).1, (powS L ((numS L p).2 + 1)).2) := by unfold itmS; rw [if_pos q]
        rw [ei] at hJ
        refine m_here tc2 hc2.2.2 (by omega) (m_in_k (fun q1 q2 => z1p (m_here tc2 hc2.2.2 (by omega) (nm_b (nm_b ?_)))) (fun q1 => z0p (hJ _ _ ?_)))
        · rw [il_toInt] at q1 q2
          have q1' : (49 : Int) ≤ (L ((numS L p).2 + 1)).toInt := q1
          have q2' : (L ((numS L p).2 + 1)).toInt ≤ (54 : Int) := q2
          have e : powS L ((numS L p).2 + 1) = (dv (L ((numS L p).2 + 1)), (numS L p).2 + 1 + 1) := by unfold powS; rw [if_pos ⟨q1', q2'⟩]
          rw [e] at hJ
          obtain ⟨k, k1, k2⟩ := nn_of (i := L ((numS L p).2 + 1)) (n := 57) (by omega) (by omega) (by omega)
          have ek : L ((numS L p).2 + 1) - 48 = nI (dv (L ((numS L p).2 + 1))) := by
            rw [k2] at q1' ⊢
            rw [nI_toInt (by omega)] at q1'
            unfold dv
            rw [nI_toInt (by omega), show (48 : Int32) = nI 48 from rfl, pk_sub (by omega)]
            congr 1; omega
          rw [ek, hc2.2.2, nI_1]
          exact hJ _ _ ⟨rfl, upM_z hc2⟩
        · rw [il_toInt] at q1
          have q1' : ¬ (49 ≤ (L ((numS L p).2 + 1)).toInt ∧ (L ((numS L p).2 + 1)).toInt ≤ 54) := q1
          have e : powS L ((numS L p).2 + 1) = (1, (numS L p).2 + 1) := by unfold powS; rw [if_neg q1']
          rw [e]
          exact ⟨rfl, hc2⟩
      rintro y z ⟨rfl, hz⟩
      have fz := frM_P b1 hz
      generalize itmS L p = I at *
      have hAo := hA (off + I.2.1) (by omega)
      have sg := sgI_toInt (neg := neg) (n := I.1) f.1
      have hsg : -99 ≤ (sgI neg I.1).toInt ∧ (sgI neg I.1).toInt ≤ 99 := by
        rw [sg]; split <;> omega
      have eoff : (7 : Int32) * a1 = nI off := by
        rcases hk with ⟨rfl, rfl⟩ | ⟨rfl, rfl⟩ <;> rfl
      have zo : z.1 14 (off + I.2.1) = A (off + I.2.1) := by
        rw [show z.1 14 = b.1 14 from funext fun s => hz.1 14 s (by omega)]
        exact b5 _ (by omega)
      have hv := vp_in_nI (n := off + I.2.1) (N := 14) (by omega) (by omega)
      refine nm_b ?_
      rw [eoff, nI_add, nn_clamp (by omega), zo]
      refine ⟨hv, ?_⟩
      refine nm_k (fun w => w = sgI neg I.1) (fun J hJ => ?_) ?_
      · subst ha
        cases neg
        · exact z0p (hJ _ rfl)
        · exact z1p (hJ _ rfl)
      rintro w rfl
      refine ⟨hv, nm_b (nm_b ?_)⟩
      generalize hW : A (off + I.2.1) + sgI neg I.1 = W at *
      have e25 : (zz_upI z 14 (off + I.2.1) W).1 0 25 = nI tm := by
        rw [mI1, if_neg (by omega), hz.1 0 25 (by omega)]; exact b2
      rw [e25, nI_1]
      have ew : (zz_upI (zz_upI z 14 (off + I.2.1) W) 0 25 (nI (tm + 1))).1 14 (off + I.2.1) = W := by
        rw [mI1, if_neg (by omega), mI1, if_pos rfl, upd_at, if_pos rfl]
      rw [ew]
      have e24 : (zz_upI (zz_upI z 14 (off + I.2.1) W) 0 25 (nI (tm + 1))).1 0 24 = -1 := by
        rw [mI1, if_pos rfl, upd_at, if_neg (by omega), mI1, if_neg (by omega), hz.1 0 24 (by omega)]; exact b3
      have e23 : ∀ v, (zz_upI (zz_upI (zz_upI z 14 (off + I.2.1) W) 0 25 (nI (tm + 1))) 0 24 v).1 0 23 = nI I.2.2 := fun v => by
        rw [mI1, if_pos rfl, upd_at, if_neg (by omega), mI1, if_pos rfl, upd_at, if_neg (by omega), mI1, if_neg (by omega)]; exact hz.2.2
      have fr2 : ∀ v, frM μ (zz_upI (zz_upI (zz_upI z 14 (off + I.2.1) W) 0 25 (nI (tm + 1))) 0 24 v) := fun v => by
        refine ⟨fun a h0 h14 => ?_, fun u h1 h2 h3 => ?_, fz.2.2⟩
        · rw [mI1, if_neg h0, mI1, if_neg h0, mI1, if_neg h14]; exact fz.1 a h0 h14
        · rw [mI1, if_pos rfl, upd_at, if_neg h2, mI1, if_pos rfl, upd_at, if_neg h3, mI1, if_neg (by omega)]; exact fz.2.1 u h1 h2 h3
      refine ⟨hv, m_in_k (fun q1 q2 => nm_b (z1p (nm_b ?_))) (fun q1 => nm_b (z0p (nm_b ?_)))⟩
      · rw [il_toInt] at q1 q2
        have q1' : (-99 : Int) ≤ W.toInt := q1
        have q2' : W.toInt ≤ (99 : Int) := q2
        rw [if_pos ((ab_in (n := 99)).mpr ⟨by omega, by omega⟩)] at h
        rw [e24]
        refine h _ ⟨fr2 _, ?_, rfl, e23 _, fun j hj => ?_⟩
        · rw [mI1, if_pos rfl, upd_at, if_neg (by omega), mI1, if_pos rfl, upd_at, if_pos rfl]
        · rw [mI1, if_neg (by omega), mI1, if_neg (by omega), mI1, if_pos rfl, upd_at]
          show _ = upd A (off + I.2.1) W j
          rw [upd_at]
          split
          · rfl
          · rw [show z.1 14 = b.1 14 from funext fun s => hz.1 14 s (by omega)]
            exact b5 j hj
      · rw [il_toInt] at q1
        rw [if_neg (fun z => q1 (by
          have := (ab_in (n := 99)).mp z
          exact ⟨by show (-99 : Int) ≤ _; omega, by show _ ≤ (99 : Int); omega⟩))] at h
        exact h _ ⟨fr2 _, rfl, I.2.2, by omega, e23 _⟩
  refine nm_b (m_isDigit tb b6 (by omega) (fun hd => nm_b (z1n (main (Or.inl hd)))) (fun hd => nm_b (z0n (m_here tb b6 (by omega) (zif (fun q => main (Or.inr q)) (fun q => nm_b ?_))))))
  rw [if_pos (ip.mpr ⟨hd, q⟩)] at h
  refine h _ ⟨⟨fun a h0 h14 => ?_, fun u h1 h2 h3 => ?_, b1.2.2⟩, rfl, p, by omega, b6⟩
  · rw [mI1, if_neg h0]; exact b1.1 a h0 h14
  · rw [mI1, if_pos rfl, upd_at, if_neg h2]; exact b1.2.1 u h1 h2 h3
