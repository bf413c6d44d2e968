/-! texts: the reference reads one -/
theorem m_isSign {n p : Nat} {L : Nat → Int32} {μ : ZMem} (t : tapeM n L μ) (h23 : μ.1 0 23 = nI p) (hp : p ≤ 1000) {Φ : Int32 → Prop} (h1 : sigL (L p) = true → Φ 1) (h0 : sigL (L p) = false → Φ 0) : w_X12_isSign μ Φ := by
  unfold w_X12_isSign
  unfold sigL at h1 h0
  refine m_here t h23 hp (zif (fun q => h1 (by rw [decide_eq_true q]; simp)) (fun q => m_here t h23 hp (zifn (fun q2 => h0 (by rw [decide_eq_false q, decide_eq_false q2]; rfl)) (fun q2 => h1 (by rw [decide_eq_true q2]; simp)))))
theorem flt_inl {μ b : ZMem} {e : Nat} (h : oTM μ (Sum.inl e) b) (he : e ≤ 1000) : (0 : Int32) ≤ b.1 0 24 := by
  rw [h.2.1, i_0le, nI_toInt (by omega)]; omega
theorem flt_inr {μ b : ZMem} {s : Nat × Nat × (Nat → Int32)} (h : sTM μ s b) : ¬ (0 : Int32) ≤ b.1 0 24 := by
  rw [h.2.2.1]; decide
theorem m_tLoop {n off : Nat} {outer : Bool} {a1 : Int32} {L : Nat → Int32} {μ : ZMem} (hk : (off = 0 ∧ a1 = 0 ∧ outer = true) ∨ (off = 7 ∧ a1 = 1 ∧ outer = false)) (t : tapeM n L μ) {Φ : ZMem → Prop} : ∀ f (o : Nat ⊕ (Nat × Nat × (Nat → Int32))) b, oTM μ o b → (∀ s, o = Sum.inr s → smA s.2.2 ∧ s.1 ≤ n ∧ s.2.1 ≤ s.1 ∧ n < s.1 + f) → (∀ e, o = Sum.inl e → e ≤ 100) → (∀ b', oTM μ (match o with | Sum.inl e => Sum.inl e | Sum.inr s => tLoop L outer off f s) b' → Φ b') → lpz1 (b_X12_terms_39 Φ a1) (f + 1) b := by
  have tn := t.1.1
  intro f
  induction f with
  | zero =>
    intro o b hb hs he h
    rw [lpz1]
    dsimp only
    unfold b_X12_terms_39
    cases o with
    | inl e => exact zif_t (flt_inl hb (by have := he e rfl; omega)) (h b hb)
    | inr s =>
      obtain ⟨s1, s2, s3, s4⟩ := hs s rfl
      omega
  | succ f ih =>
    intro o b hb hs he h
    rw [lpz1]
    dsimp only
    generalize hL : lpz1 (b_X12_terms_39 Φ a1) (f + 1) = K
    unfold b_X12_terms_39
    cases o with
    | inl e => exact zif_t (flt_inl hb (by have := he e rfl; omega)) (h b hb)
    | inr s =>
      obtain ⟨s1, s2, s3, s4⟩ := hs s rfl
      obtain ⟨p, tm, A⟩ := s
      have hb0 : sTM μ (p, tm, A) b := hb
      obtain ⟨b1, b2, b3, b4, b5⟩ := hb0
      have hb0 : sTM μ (p, tm, A) b := hb
      have b6 : b.1 0 23 = nI p := b4
      have tb := tapeM_f t b1
      have s2' : p ≤ n := s2
      have s3' : tm ≤ p := s3
      have s4' : n < p + (f + 1) := s4
      have hend : (¬ (sigL (L p) = true ∧ ¬ (outer = true ∧ L (p + 1) = 75))) → Φ b := fun q => by
        have e : tLoop L outer off (f + 1) (p, tm, A) = Sum.inr (p, tm, A) := by
          rw [tLoop, if_neg q]
        have h' := h b
        dsimp only at h'
        rw [e] at h'
        exact h' hb0
      refine zif_f (flt_inr hb0) (m_isSign tb b6 (by omega) (fun q => z1p ?_) (fun q => z0p (hend (fun z => by rw [q] at z; exact absurd z.1 (by decide)))))
      have go : (¬ (outer = true ∧ L (p + 1) = 75)) → w_X12_here b (fun (r_14 : Int32) => nm (fun (x_16 : Int32) => nm (zz_upI b 0 23 ((b.1 0 23) + 1)) (fun (μ_18 : ZMem) => w_X12_term a1 x_16 μ_18 (fun (μ_20 : ZMem) => K μ_20))) (fun (J_17 : Int32 → Prop) => (¬ r_14 = 45 → J_17 0) ∧ (r_14 = 45 → J_17 1))) := by
        intro q2
        have e : tLoop L outer off (f + 1) (p, tm, A) = match termS L off (negL (L p)) (p + 1) tm A with
          | Sum.inl e => Sum.inl e
          | Sum.inr s' => tLoop L outer off f s' := by
          rw [tLoop, if_pos ⟨q, q2⟩]
          rfl
        have h' := h
        dsimp only at h'
        rw [e] at h'
        refine m_here tb b6 (by omega) ?_
        refine nm_k (fun x => x = if negL (L p) then 1 else 0) (fun J hJ => zifn (fun z => hJ _ (by unfold negL; rw [decide_eq_false z]; rfl)) (fun z => hJ _ (by unfold negL; rw [decide_eq_true z]; rfl))) ?_
        rintro x rfl
        refine nm_b ?_
        rw [b6, nI_1]
        refine m_term (b := zz_upI b 0 23 (nI (p + 1))) (p := p + 1) (tm := tm) (A := A) (off := off) (neg := negL (L p)) (by rcases hk with ⟨h1, h2, _⟩ | ⟨h1, h2, _⟩; exact Or.inl ⟨h1, h2⟩; exact Or.inr ⟨h1, h2⟩) rfl t (by omega) (by omega) s1 ⟨⟨fun a h0 h14 => by rw [mI1, if_neg h0]; exact b1.1 a h0 h14, fun u u1 u2 u3 => by rw [mI1, if_pos rfl, upd_at, if_neg u1]; exact b1.2.1 u u1 u2 u3, b1.2.2⟩, b2, b3, rfl, b5⟩ (fun b' hb' => ?_)
        rw [← hL]
        refine ih (termS L off (negL (L p)) (p + 1) tm A) b' hb' (fun s hs' => ?_) (fun e he' => ?_) h'
        · obtain ⟨g1, g2, g3⟩ := termS_f t.1 hs'
          exact ⟨termS_sm t.1 (by omega) s1 hs', g2, by omega, by omega⟩
        · rw [termS_e (n := n) he']
          omega
      refine nm_b ?_
      rcases hk with ⟨h1, h2, h3⟩ | ⟨h1, h2, h3⟩
      · rw [h2] at go ⊢
        refine ⟨fun z => absurd rfl z, fun _ => ?_⟩
        rw [b6, nI_1, tb.2.1, n_le (by omega) (by omega)]
        refine zif (fun z => ?_) (fun z => ?_)
        · have := go (fun y => by
            have := t.1.2 (p + 1) (by omega)
            rw [this] at y
            exact absurd y.2 (by decide))
          rw [b6, nI_1] at this
          exact this
        · rw [nn_clamp (by omega), tb.2.2 (p + 1) (by omega)]
          refine ⟨vp_in_nI (by omega) (by omega), zif (fun y => hend (fun w => w.2 ⟨h3, y⟩)) (fun y => ?_)⟩
          have := go (fun w => y w.2)
          rw [b6, nI_1] at this
          exact this
      · rw [h2] at go ⊢
        exact ⟨fun _ => go (fun z => by rw [h3] at z; exact absurd z.1 (by decide)), fun z => absurd z (by decide)⟩
theorem m_terms {n off : Nat} {outer : Bool} {a1 : Int32} {L : Nat → Int32} {μ b : ZMem} {s : Nat × Nat × (Nat → Int32)} (hk : (off = 0 ∧ a1 = 0 ∧ outer = true) ∨ (off = 7 ∧ a1 = 1 ∧ outer = false)) (t : tapeM n L μ) (h1 : smA s.2.2) (h2 : s.1 ≤ 64) (h3 : s.2.1 ≤ s.1) (hb : sTM μ s b) {Φ : ZMem → Prop} (h : ∀ b', oTM μ (termsS L outer off s) b' → Φ b') : w_X12_terms a1 b Φ := by
  have tn := t.1.1
  obtain ⟨p, tm, A⟩ := s
  have hb0 := hb
  obtain ⟨b1, b2, b3, b4, b5⟩ := hb
  have b6 : b.1 0 23 = nI p := b4
  have tb := tapeM_f t b1
  have h2' : p ≤ 64 := h2
  have h3' : tm ≤ p := h3
  unfold w_X12_terms
  refine m_here tb b6 (by omega) ?_
  refine nm_k (fun x => x = if negL (L p) then 1 else 0) (fun J hJ => zifn (fun q => hJ _ (by unfold negL; rw [decide_eq_false q]; rfl)) (fun q => hJ _ (by unfold negL; rw [decide_eq_true q]; rfl))) ?_
  rintro x rfl
  refine nm_k (fun x => nI p + x = nI (if L p = 45 then p + 1 else p)) (fun J hJ => ?_) ?_
  · unfold negL
    by_cases q : L p = 45
    · rw [decide_eq_true q]
      exact z1p (hJ _ (by rw [if_pos q, nI_1]))
    · rw [decide_eq_false q]
      exact z0p (hJ _ (by rw [if_neg q]; exact Int32.add_zero _))
  rintro x hx
  refine nm_b ?_
  rw [b6, hx]
  have hpl : (if L p = 45 then p + 1 else p) ≤ 65 := by split <;> omega
  refine m_term (b := zz_upI b 0 23 (nI (if L p = 45 then p + 1 else p))) (off := off) (neg := negL (L p)) (by rcases hk with ⟨h1, h2, _⟩ | ⟨h1, h2, _⟩; exact Or.inl ⟨h1, h2⟩; exact Or.inr ⟨h1, h2⟩) rfl t (p := if L p = 45 then p + 1 else p) (tm := tm) (A := A) (by omega) (by omega) h1 ⟨⟨fun a h0 h14 => by rw [mI1, if_neg h0]; exact b1.1 a h0 h14, fun u u1 u2 u3 => by rw [mI1, if_pos rfl, upd_at, if_neg u1]; exact b1.2.1 u u1 u2 u3, b1.2.2⟩, b2, b3, rfl, b5⟩ (fun d hd => ⟨61 + 1, ?_⟩)
  refine m_tLoop hk t 61 _ d hd (fun s' hs' => ?_) (fun e he => ?_) h
  · obtain ⟨g1, g2, g3⟩ := termS_f t.1 hs'
    have g1' : p < s'.1 := by split at g1 <;> omega
    exact ⟨termS_sm t.1 (by omega) h1 hs', g2, by omega, by omega⟩
  · rw [termS_e (n := n) he]
    omega
theorem m_must {n p : Nat} {a1 : Int32} {tm : Nat} {A : Nat → Int32} {L : Nat → Int32} {μ b : ZMem} (t : tapeM n L μ) (hp : p ≤ 200) (hb : sTM μ (p, tm, A) b) {Φ : ZMem → Prop} (h : ∀ b', oTM μ (if L p = a1 then Sum.inr (p + 1, tm, A) else Sum.inl p) b' → Φ b') : w_X12_must a1 b Φ := by
  have hb0 := hb
  obtain ⟨b1, b2, b3, b4, b5⟩ := hb
  have b6 : b.1 0 23 = nI p := b4
  unfold w_X12_must
  refine zif_f (flt_inr hb0) (m_here (tapeM_f t b1) b6 (by omega) ?_)
  have fr2 : ∀ v w, frM μ (zz_upI (zz_upI b 0 24 v) 0 23 w) := fun v w => by
    refine ⟨fun a h0 h14 => ?_, fun u h1 h2 h3 => ?_, b1.2.2⟩
    · rw [mI1, if_neg h0, mI1, if_neg h0]; exact b1.1 a h0 h14
    · rw [mI1, if_pos rfl, upd_at, if_neg h1, mI1, if_pos rfl, upd_at, if_neg h2]; exact b1.2.1 u h1 h2 h3
  have e23 : ∀ v, (zz_upI b 0 24 v).1 0 23 = nI p := fun v => by
    rw [mI1, if_pos rfl, upd_at, if_neg (by omega)]; exact b6
  refine nm_k (fun x => x = if L p = a1 then -1 else nI p) (fun J hJ => zifn (fun q => hJ _ (by rw [if_neg q]; exact b6)) (fun q => hJ _ (by rw [if_pos q]; exact b3))) ?_
  rintro x rfl
  refine nm_b (nm_b ?_)
  rw [e23, nI_1]
  refine h _ ?_
  by_cases q : L p = a1
  · rw [if_pos q, if_pos q]
    exact ⟨fr2 _ _, b2, rfl, rfl, b5⟩
  · rw [if_neg q, if_neg q]
    exact ⟨fr2 _ _, rfl, p + 1, by omega, rfl⟩
theorem m_must0 {μ b : ZMem} {a1 : Int32} {e : Nat} (hb : oTM μ (Sum.inl e) b) (he : e ≤ 1000) {Φ : ZMem → Prop} (h : Φ b) : w_X12_must a1 b Φ := by
  unfold w_X12_must
  exact zif_t (flt_inl hb he) h
/-- what reading leaves in the reference -/
def endM (μ : ZMem) (A : Nat → Int32) (b : ZMem) : Prop := (∀ a, a ≠ 0 → a ≠ 1 → a ≠ 14 → b.1 a = μ.1 a) ∧ b.2 = μ.2 ∧ b.1 0 2 = μ.1 0 2 ∧ b.1 0 3 = μ.1 0 3 + 1 ∧ b.1 0 22 = 0 ∧ (∀ j, j < 14 → b.1 1 j = A j) ∧ ∀ j, 14 ≤ j → b.1 1 j = μ.1 1 j
def offM (μ b : ZMem) : Prop := (∀ a, a ≠ 0 → a ≠ 14 → b.1 a = μ.1 a) ∧ b.2 = μ.2 ∧ b.1 0 2 = μ.1 0 2 ∧ b.1 0 3 = μ.1 0 3 ∧ b.1 0 22 = 0
theorem neg_sm {a : Int32} : -a = -a := rfl
theorem m_read {n : Nat} {L : Nat → Int32} {μ : ZMem} (t : tapeM n L μ) {Φ : Int32 → ZMem → Prop} (hE : ∀ e, rdS n L = Sum.inl e → ∀ b, offM μ b → Φ (-100 - nI e) b) (hS : ∀ s, rdS n L = Sum.inr s → ∀ b, endM μ s.2.2 b → Φ (nI s.2.1) b) : w_X12_read μ Φ := by
  have tn := t.1.1
  unfold w_X12_read
  refine nm_b (nm_b (nm_b (nm_b ?_)))
  generalize hμ3 : zz_upI (zz_upI (zz_upI μ 0 23 0) 0 24 (-1)) 0 25 0 = μ3
  have m3 : frM μ μ3 := by
    rw [← hμ3]
    refine ⟨fun a h0 h14 => ?_, fun u h1 h2 h3 => ?_, rfl⟩
    · rw [mI1, if_neg h0, mI1, if_neg h0, mI1, if_neg h0]
    · rw [mI1, if_pos rfl, upd_at, if_neg h3, mI1, if_pos rfl, upd_at, if_neg h2, mI1, if_pos rfl, upd_at, if_neg h1]
  have v23 : μ3.1 0 23 = nI 0 := by rw [← hμ3]; rfl
  have v24 : μ3.1 0 24 = -1 := by rw [← hμ3]; rfl
  have v25 : μ3.1 0 25 = nI 0 := by rw [← hμ3]; rfl
  refine ⟨14 + 1, lp2_inv 14 (fun i b => frM μ b ∧ b.1 0 = μ3.1 0 ∧ ∀ j, j < i → b.1 14 j = 0) (fun i b K hi hI hK => ?_) (fun b K hI => ?_) 14 0 μ3 (by omega) ⟨m3, rfl, fun j hj => absurd hj (by omega)⟩⟩
  · obtain ⟨i1, i2, i3⟩ := hI
    unfold b_X12_read_17
    rw [show (14 : Int32) = nI 14 from rfl, n_le (by omega) (by omega), nI_1, nn_clamp (by omega)]
    refine zif_f (by omega) ⟨vp_in_nI (by omega) (by omega), nm_b (hK _ ⟨⟨fun a h0 h14 => by rw [mI1, if_neg h14]; exact i1.1 a h0 h14, fun u h1 h2 h3 => by rw [mI1, if_neg (by omega)]; exact i1.2.1 u h1 h2 h3, i1.2.2⟩, ?_, fun j hj => ?_⟩)⟩
    · rw [mI1, if_neg (by omega)]; exact i2
    · rw [mI1, if_pos rfl, upd_at]
      split
      · rfl
      · exact i3 j (by omega)
  · obtain ⟨i1, i2, i3⟩ := hI
    unfold b_X12_read_17
    refine zif_t (by decide) ?_
    have of := oneS_f t.1
    refine m_terms (b := b) (off := 0) (outer := true) (Or.inl ⟨rfl, rfl, rfl⟩) t (s := (0, 0, fun _ => 0)) z0_sm (by show (0 : Nat) ≤ 64; omega) (by show (0 : Nat) ≤ 0; omega) ⟨i1, by rw [i2]; exact v25, by rw [i2]; exact v24, by rw [i2]; exact v23, fun j hj => i3 j hj⟩ (fun c hc => ?_)
    have hc0 : oTM μ (oneS L) c := hc
    -- the last steps
    have last : ∀ (neg : Bool) (o : Nat ⊕ (Nat × Nat × (Nat → Int32))) (d : ZMem), (∀ s, o = Sum.inr s → s.1 ≤ 200 ∧ smA s.2.2) → (∀ e, o = Sum.inl e → e ≤ 200) → oTM μ o d → (∀ e, scS neg (endS n o) = Sum.inl e → ∀ b, offM μ b → Φ (-100 - nI e) b) → (∀ s, scS neg (endS n o) = Sum.inr s → ∀ b, endM μ s.2.2 b → Φ (nI s.2.1) b) → nm (fun (μ_14 : ZMem) => nm (zz_upI μ_14 0 22 0) (fun (μ_16 : ZMem) => ((μ_16.1 0 24) < 0 → nm (fun (μ_17 : ZMem) => nm (zz_upI μ_17 0 3 ((μ_17.1 0 3) + 1)) (fun (μ_19 : ZMem) => Φ (μ_19.1 0 25) μ_19)) (fun (J_18 : ZMem → Prop) => ∃ n, lpz2 (b_X12_read_152 J_18 (if neg then 1 else 0)) n 0 μ_16)) ∧ (¬ (μ_16.1 0 24) < 0 → Φ (-100 - (μ_16.1 0 24)) μ_16))) (fun (J_15 : ZMem → Prop) => (0 ≤ (d.1 0 24) → J_15 d) ∧ (¬ 0 ≤ (d.1 0 24) → ((d.1 0 22) ≤ (d.1 0 23) → J_15 d) ∧ (¬ (d.1 0 22) ≤ (d.1 0 23) → nm (zz_upI d 0 24 (d.1 0 23)) (fun (μ_31 : ZMem) => J_15 μ_31)))) := by
      intro neg o d ho he hd gE gS
      have off : ∀ x : ZMem, frM μ x → offM μ (zz_upI x 0 22 0) := fun x f => ⟨fun a h0 h14 => by rw [mI1, if_neg h0]; exact f.1 a h0 h14, f.2.2, by rw [mI1, if_pos rfl, upd_at, if_neg (by omega)]; exact f.2.1 2 (by omega) (by omega) (by omega), by rw [mI1, if_pos rfl, upd_at, if_neg (by omega)]; exact f.2.1 3 (by omega) (by omega) (by omega), rfl⟩
      have flt : ∀ (x : ZMem) (e : Nat), frM μ x → x.1 0 24 = nI e → e ≤ 1000 → scS neg (endS n o) = Sum.inl e → nm (zz_upI x 0 22 0) (fun (μ_16 : ZMem) => ((μ_16.1 0 24) < 0 → nm (fun (μ_17 : ZMem) => nm (zz_upI μ_17 0 3 ((μ_17.1 0 3) + 1)) (fun (μ_19 : ZMem) => Φ (μ_19.1 0 25) μ_19)) (fun (J_18 : ZMem → Prop) => ∃ n, lpz2 (b_X12_read_152 J_18 (if neg then 1 else 0)) n 0 μ_16)) ∧ (¬ (μ_16.1 0 24) < 0 → Φ (-100 - (μ_16.1 0 24)) μ_16)) := by
        intro x e f h24 he hr
        refine nm_b ?_
        have e24 : (zz_upI x 0 22 0).1 0 24 = nI e := by rw [mI1, if_pos rfl, upd_at, if_neg (by omega)]; exact h24
        rw [e24]
        exact zif_f (nI_nneg (by omega)) (gE e hr _ (off x f))
      cases o with
      | inl e =>
        have hd' : oTM μ (Sum.inl e) d := hd
        have le := he e rfl
        exact nm_b (zif_t (flt_inl hd' (by omega)) (flt d e hd'.1 hd'.2.1 (by omega) rfl))
      | inr s =>
        have hd' : sTM μ s d := hd
        have hd0 := hd'
        obtain ⟨d1, d2, d3, d4, d5⟩ := hd'
        obtain ⟨s2, sm⟩ := ho s rfl
        refine nm_b (zif_f (flt_inr hd0) ?_)
        have e22 : d.1 0 22 = nI n := by rw [d1.2.1 22 (by omega) (by omega) (by omega)]; exact t.2.1
        rw [e22, d4, n_le (by omega) (by omega)]
        have ee : endS n (Sum.inr s) = if s.1 < n then Sum.inl s.1 else Sum.inr s := rfl
        refine zif (fun q => nm_b ?_) (fun q => nm_b (flt _ s.1 ⟨fun a h0 h14 => by rw [mI1, if_neg h0]; exact d1.1 a h0 h14, fun u h1 h2 h3 => by rw [mI1, if_pos rfl, upd_at, if_neg h2]; exact d1.2.1 u h1 h2 h3, d1.2.2⟩ rfl (by omega) (by rw [ee, if_pos (by omega)]; rfl)))
        rw [ee, if_neg (by omega)] at gS
        have o2 := off d d1
        have e24 : (zz_upI d 0 22 0).1 0 24 = -1 := by rw [mI1, if_pos rfl, upd_at, if_neg (by omega)]; exact d3
        have e25 : (zz_upI d 0 22 0).1 0 25 = nI s.2.1 := by rw [mI1, if_pos rfl, upd_at, if_neg (by omega)]; exact d2
        have e14 : ∀ j, j < 14 → (zz_upI d 0 22 0).1 14 j = s.2.2 j := fun j hj => by rw [mI1, if_neg (by omega)]; exact d5 j hj
        rw [e24]
        generalize zz_upI d 0 22 0 = D at *
        refine zif_t (by decide) (nm_b ⟨7 + 1, lp2_inv 7 (fun i b => (∀ a, a ≠ 1 → b.1 a = D.1 a) ∧ b.2 = D.2 ∧ (∀ j, j < i → b.1 1 j = s.2.2 j ∧ b.1 1 (7 + j) = if neg then -s.2.2 (7 + j) else s.2.2 (7 + j)) ∧ ∀ j, 14 ≤ j → b.1 1 j = D.1 1 j) (fun i b K hi hI hK => ?_) (fun b K hI => ?_) 7 0 D (by omega) ⟨fun _ _ => rfl, rfl, fun j hj => absurd hj (by omega), fun _ _ => rfl⟩⟩)
        · obtain ⟨i1, i2, i3, i4⟩ := hI
          unfold b_X12_read_152
          have c14 : ∀ x, (x = b ∨ ∃ v, x = zz_upI b 1 i v) → ∀ j, j < 14 → x.1 14 j = s.2.2 j := by
            intro x hx j hj
            rcases hx with rfl | ⟨v, rfl⟩
            · rw [i1 14 (by omega)]; exact e14 j hj
            · rw [mI1, if_neg (by omega), i1 14 (by omega)]; exact e14 j hj
          rw [show (7 : Int32) = nI 7 from rfl, n_le (by omega) (by omega), nI_1, show (0 : Int32) + nI i = nI i from by rw [show (0 : Int32) = nI 0 from rfl, nI_add, Nat.zero_add], nI_add, nn_clamp (n := i) (by omega), nn_clamp (by omega), c14 b (Or.inl rfl) i (by omega)]
          refine zif_f (by omega) ⟨vp_in_nI (by omega) (by omega), vp_in_nI (by omega) (by omega), nm_b ?_⟩
          have hv := vp_in_nI (n := 7 + i) (N := 14) (by omega) (by omega)
          refine nm_k (fun x => x = if neg then -s.2.2 (7 + i) else s.2.2 (7 + i)) (fun J hJ => ?_) ?_
          · rw [c14 _ (Or.inr ⟨_, rfl⟩) (7 + i) (by omega)]
            cases neg
            · exact z0p ⟨hv, hJ _ rfl⟩
            · exact z1p ⟨hv, hJ _ rfl⟩
          rintro x hx
          refine ⟨vp_in_nI (by omega) (by omega), nm_b (hK _ ⟨fun a ha => ?_, i2, fun j hj => ?_, fun j hj => ?_⟩)⟩
          · rw [mI1, if_neg ha, mI1, if_neg ha]; exact i1 a ha
          · rw [mI1, if_pos rfl, upd_at, upd_at, mI1, if_pos rfl, upd_at, upd_at, if_neg (show ¬ j = 7 + i by omega)]
            by_cases e : j = i
            · rw [if_pos e, if_pos (show 7 + j = 7 + i by omega), e]
              exact ⟨rfl, hx⟩
            · rw [if_neg e, if_neg (show ¬ 7 + j = 7 + i by omega), if_neg (show ¬ 7 + j = i by omega)]
              exact i3 j (by omega)
          · rw [mI1, if_pos rfl, upd_at, if_neg (by omega), mI1, if_pos rfl, upd_at, if_neg (by omega)]; exact i4 j hj
        · obtain ⟨i1, i2, i3, i4⟩ := hI
          unfold b_X12_read_152
          refine zif_t (by decide) (nm_b ?_)
          have f25 : (zz_upI b 0 3 (b.1 0 3 + 1)).1 0 25 = nI s.2.1 := by
            rw [mI1, if_pos rfl, upd_at, if_neg (by omega), i1 0 (by omega)]; exact e25
          rw [f25]
          refine gS _ rfl _ ⟨fun a h0 h1 h14 => ?_, by rw [mI2, i2]; exact o2.2.1, ?_, ?_, ?_, fun j hj => ?_, fun j hj => ?_⟩
          · rw [mI1, if_neg h0, i1 a h1]; exact o2.1 a h0 h14
          · rw [mI1, if_pos rfl, upd_at, if_neg (by omega), i1 0 (by omega)]; exact o2.2.2.1
          · rw [mI1, if_pos rfl, upd_at, if_pos rfl, i1 0 (by omega), o2.2.2.2.1]
          · rw [mI1, if_pos rfl, upd_at, if_neg (by omega), i1 0 (by omega)]; exact o2.2.2.2.2
          · rw [mI1, if_neg (by omega)]
            show _ = scA neg s.2.2 j
            unfold scA
            by_cases e : j < 7
            · rw [if_neg (fun z => by omega)]; exact (i3 j e).1
            · have := (i3 (j - 7) (by omega)).2
              rw [show 7 + (j - 7) = j by omega] at this
              rw [this]
              cases neg
              · rw [if_neg (by decide), if_neg (fun z => absurd z.1 (by decide))]
              · rw [if_pos rfl, if_pos ⟨rfl, by omega⟩]
          · rw [mI1, if_neg (by omega), i4 j hj, o2.1 1 (by omega) (by omega)]
    unfold rdS at hE hS
    cases e : oneS L with
    | inl e' =>
      rw [e] at hc0 hE hS
      obtain ⟨f1, f2, q, q1, q2⟩ := hc0
      have le := of.2 e' e
      have hci : oTM μ (Sum.inl e') c := ⟨f1, f2, q, q1, q2⟩
      refine m_here (tapeM_f t f1) q2 (by omega) ?_
      refine nm_k (fun x => x = if negL (L q) then 1 else 0) (fun J hJ => zifn (fun z => hJ _ (by unfold negL; rw [decide_eq_false z]; rfl)) (fun z => hJ _ (by unfold negL; rw [decide_eq_true z]; rfl))) ?_
      rintro x rfl
      refine nm_b (zif_t (flt_inl hci (by omega)) ?_)
      exact last (negL (L q)) (Sum.inl e') c (fun s hs => by cases hs) (fun e hs => by rw [← Sum.inl.inj hs]; omega) hci hE (fun s hs => by cases hs)
    | inr s =>
      rw [e] at hc0 hE hS
      have hci : sTM μ s c := hc0
      obtain ⟨k1, k2, k3, k4⟩ := of.1 s e
      have c6 : c.1 0 23 = nI s.1 := hci.2.2.2.1
      have tc := tapeM_f t hci.1
      have gf := gnS_f t.1 (s := s) k1 k3 k4
      refine m_here tc c6 (by omega) ?_
      refine nm_k (fun x => x = if negL (L s.1) then 1 else 0) (fun J hJ => zifn (fun z => hJ _ (by unfold negL; rw [decide_eq_false z]; rfl)) (fun z => hJ _ (by unfold negL; rw [decide_eq_true z]; rfl))) ?_
      rintro x rfl
      have done : ∀ d, oTM μ (gnS L s) d → _ := fun d hd => last (negL (L s.1)) (gnS L s) d (fun s' hs => ⟨(gf.1 s' hs).2.1, (gf.1 s' hs).1⟩) gf.2 hd hE hS
      refine nm_b (zif_f (flt_inr hci) (m_isSign tc c6 (by omega) (fun q => z1p (nm_b ?_)) (fun q => z0p ?_)))
      · have eg : gnS L s = if L (s.1 + 2) = 40 then (match termsS L false 7 (s.1 + 3, s.2.1, s.2.2) with
          | Sum.inl e => Sum.inl e
          | Sum.inr s2 => if L s2.1 = 41 then Sum.inr (s2.1 + 1, s2.2.1, s2.2.2) else Sum.inl s2.1) else Sum.inl (s.1 + 2) := by
          unfold gnS
          rw [if_pos q]
          rfl
        rw [eg] at done gf
        rw [c6, show (2 : Int32) = nI 2 from rfl, nI_add]
        refine m_must (b := zz_upI c 0 23 (nI (s.1 + 2))) (p := s.1 + 2) (tm := s.2.1) (A := s.2.2) t (by omega) ⟨⟨fun a h0 h14 => by rw [mI1, if_neg h0]; exact hci.1.1 a h0 h14, fun u u1 u2 u3 => by rw [mI1, if_pos rfl, upd_at, if_neg u1]; exact hci.1.2.1 u u1 u2 u3, hci.1.2.2⟩, hci.2.1, hci.2.2.1, rfl, hci.2.2.2.2⟩ (fun d hd => ?_)
        by_cases q4 : L (s.1 + 2) = 40
        · rw [if_pos q4] at hd done gf
          have hd' : sTM μ (s.1 + 2 + 1, s.2.1, s.2.2) d := hd
          have tf := termsS_f (outer := false) t.1 (Or.inr rfl) (s.1 + 3, s.2.1, s.2.2) k1 (by show s.1 + 3 ≤ 64; omega) (by show s.2.1 ≤ s.1 + 3; omega)
          refine nm_b (zif_f (flt_inr hd') (m_terms (off := 7) (outer := false) (Or.inr ⟨rfl, rfl, rfl⟩) t (s := (s.1 + 3, s.2.1, s.2.2)) k1 (by show s.1 + 3 ≤ 64; omega) (by show s.2.1 ≤ s.1 + 3; omega) hd' (fun g hg => ?_)))
          cases e2 : termsS L false 7 (s.1 + 3, s.2.1, s.2.2) with
          | inl e3 =>
            rw [e2] at hg done gf
            have := tf.2 e3 e2
            exact m_must0 hg (by omega) (done g hg)
          | inr s2 =>
            rw [e2] at hg done gf
            obtain ⟨j1, j2, j3, j4⟩ := tf.1 s2 e2
            have hg' : sTM μ s2 g := hg
            exact m_must (p := s2.1) (tm := s2.2.1) (A := s2.2.2) t (by omega) hg' (fun w hw => done w hw)
        · rw [if_neg q4] at hd done gf
          refine nm_b (zif_t (flt_inl hd (by omega)) (m_must0 hd (by omega) (done d hd)))
      · have eg : gnS L s = Sum.inr s := by
          unfold gnS
          rw [if_neg (by rw [q]; decide)]
        rw [eg] at done
        exact done c hci
