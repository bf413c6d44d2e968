/-! texts: the class's terms -/
theorem nm_k3 {α β γ : Type} {R : α → β → γ → Prop} {G : (α → β → γ → Prop) → Prop} (S : α → β → γ → Prop) (h1 : ∀ J : α → β → γ → Prop, (∀ x y z, S x y z → J x y z) → G J) (h2 : ∀ x y z, S x y z → R x y z) : nm R G := h1 R h2
def frT (μ b : ZMem) : Prop := (∀ a, a ≠ 23 → b.1 a = μ.1 a) ∧ b.1 23 3 = μ.1 23 3 ∧ (∀ a, a ≠ 25 → a ≠ 26 → b.2 a = μ.2 a)
def sTX (μ : ZMem) (s : Nat × Nat × (Nat → Int32)) (b : ZMem) : Prop := frT μ b ∧ b.1 23 4 = nI s.2.1 ∧ b.1 23 5 = -1 ∧ b.1 23 6 = nI s.1 ∧ ∀ j, j < 7 → b.2 25 j = Int32.toInt64 (s.2.2 j) ∧ b.2 26 j = Int32.toInt64 (s.2.2 (7 + j))
def oTX (μ : ZMem) (o : Nat ⊕ (Nat × Nat × (Nat → Int32))) (b : ZMem) : Prop := match o with
  | Sum.inl e => frT μ b ∧ b.1 23 5 = nI e
  | Sum.inr s => sTX μ s b
def smA (A : Nat → Int32) : Prop := ∀ j, j < 14 → ab (A j) ≤ 99
theorem tape_T {n : Nat} {L : Nat → Int32} {μ b : ZMem} (t : tapeX n L μ) (h : frT μ b) : tapeX n L b := ⟨t.1, by rw [h.2.1]; exact t.2.1, fun i hi => by rw [h.1 24 (by omega)]; exact t.2.2 i hi⟩
theorem frT_P {μ b c : ZMem} {q : Nat} (h : frT μ b) (p : upP b c q) : frT μ c := ⟨fun a ha => funext fun s => by rw [p.1 a s (fun z => ha z.1), h.1 a ha], by rw [p.1 23 3 (by omega)]; exact h.2.1, fun a h1 h2 => by rw [p.2.1]; exact h.2.2 a h1 h2⟩
theorem sgI_mul (neg : Bool) (n : Nat) (a2 : Int32) (h : a2 = if neg then -1 else 1) : a2 * nI n = sgI neg n := by
  subst h
  cases neg
  · show (1 : Int32) * nI n = nI n
    exact Int32.one_mul _
  · show (-1 : Int32) * nI n = -nI n
    apply Int32.toInt_inj.mp
    rw [Int32.toInt_mul, show (-1 : Int32).toInt = -1 from by decide, Int.neg_one_mul, Int32.toInt_neg]
theorem sgI_toInt {neg : Bool} {n : Nat} (h : n ≤ 99) : (sgI neg n).toInt = if neg then -(n : Int) else n := by
  cases neg
  · exact nI_toInt (by omega)
  · show (-nI n).toInt = -(n : Int)
    rw [Int32.toInt_neg, nI_toInt (by omega)]
    exact Int.bmod_eq_of_le (by omega) (by omega)
theorem add_L {a b : Int32} (ha : ab a ≤ 99) (hb : -99 ≤ b.toInt ∧ b.toInt ≤ 99) : Int32.toInt64 a + Int32.toInt64 b = Int32.toInt64 (a + b) := by
  have h := ab_in.mp ha
  apply Int64.toInt_inj.mp
  rw [l_add, il_toInt, il_toInt, il_toInt, add_toI (by omega) (by omega) (by omega) (by omega)]
  exact Int.bmod_eq_of_le (by omega) (by omega)
theorem e_term {n p tm off k1 : Nat} {neg : Bool} {a2 : Int32} {A : Nat → Int32} {L : Nat → Int32} {μ b : ZMem} (hk : (off = 0 ∧ k1 = 25) ∨ (off = 7 ∧ k1 = 26)) (ha : a2 = if neg then -1 else 1) (t : tapeX n L μ) (hp : p ≤ 100) (htm : tm ≤ 1000) (hA : smA A) (hb : sTX μ (p, tm, A) b) {Φ : ZMem → Prop} (h : ∀ b', oTX μ (termS L off neg p tm A) b' → Φ b') : w_X9_takeTerm k1 7 a2 b Φ := by
  obtain ⟨b1, b2, b3, b4, b5⟩ := hb
  have tb := tape_T t b1
  have b6 : b.1 23 6 = nI p := b4
  unfold w_X9_takeTerm
  rw [b6]
  refine nm_b (e_number tb b6 hp (fun c hc => ?_))
  have tn := t.1.1
  have nf := numS_f (p := p) t.1
  have f := itmS_f (p := p) t.1
  have tc := tape_P tb hc
  rw [hc.2.2]
  refine e_letter tc (by omega) ?_
  refine nm_k3 (fun x y z => x = nI (itmS L p).1 ∧ y = nI (itmS L p).2.1 ∧ upP b z (itmS L p).2.2) (fun J hJ => ?_) ?_
  · refine zifn (fun q => hJ _ _ _ ?_) (fun q => ?_)
    · unfold itmS
      rw [if_neg q]
      exact ⟨rfl, rfl, hc⟩
    · refine nm_k (fun x => x = nI (if (numS L p).2 = p then 1 else (numS L p).1)) (fun J2 hJ2 => ?_) ?_
      · rw [nI_eq (by omega) (by omega)]
        exact zifn (fun z => hJ2 _ (by rw [if_neg z])) (fun z => hJ2 _ (by rw [if_pos z]; rfl))
      rintro x rfl
      rw [nI_1]
      have hc2 := upP_z hc
      refine nm_b (e_power (tape_P tb hc2) hc2.2.2 (by omega) (fun d hd => hJ _ _ _ ?_))
      unfold itmS
      rw [if_pos q]
      exact ⟨rfl, rfl, fun a s hs => by rw [hd.1 a s hs, hc2.1 a s hs], by rw [hd.2.1]; exact hc2.2.1, hd.2.2⟩
  rintro x y z ⟨rfl, rfl, hz⟩
  have fz := frT_P b1 hz
  rw [hz.2.2, nI_eq (by omega) (by omega)]
  have eT : termS L off neg p tm A = if (itmS L p).2.2 = p then Sum.inl p else if ab (A (off + (itmS L p).2.1) + sgI neg (itmS L p).1) ≤ 99 then Sum.inr ((itmS L p).2.2, tm + 1, upd A (off + (itmS L p).2.1) (A (off + (itmS L p).2.1) + sgI neg (itmS L p).1)) else Sum.inl p := rfl
  rw [eT] at h
  generalize itmS L p = I at *
  refine zifn (fun q => nm_b ?_) (fun q => nm_b (h _ ?_))
  · rw [if_neg q] at h
    have hv := vp_in_nI (n := I.2.1) (N := 7) (by omega) (by omega)
    have z4 : z.1 23 4 = nI tm := by rw [hz.1 23 4 (by omega)]; exact b2
    have hAo := hA (off + I.2.1) (by omega)
    have sg := sgI_toInt (neg := neg) (n := I.1) f.1
    have hsg : -99 ≤ (sgI neg I.1).toInt ∧ (sgI neg I.1).toInt ≤ 99 := by
      rw [sg]; split <;> omega
    have zk : z.2 k1 I.2.1 = Int32.toInt64 (A (off + I.2.1)) := by
      rw [hz.2.1]
      rcases hk with ⟨rfl, rfl⟩ | ⟨rfl, rfl⟩
      · rw [Nat.zero_add]; exact (b5 I.2.1 (by omega)).1
      · exact (b5 I.2.1 (by omega)).2
    have ek : ∀ s, (zz_upI z 23 4 (z.1 23 4 + 1)).2 s = z.2 s := fun _ => rfl
    rw [nn_clamp (by omega), ek, zk, sgI_mul neg I.1 a2 ha, add_L hAo hsg, z4, nI_1]
    refine ⟨hv, hv, nm_b ⟨hv, nm_b ?_⟩⟩
    generalize hW : A (off + I.2.1) + sgI neg I.1 = W at *
    have ew : (zz_upJ (zz_upI z 23 4 (nI (tm + 1))) k1 I.2.1 (Int32.toInt64 W)).2 k1 I.2.1 = Int32.toInt64 W := by
      rw [mJ2, if_pos rfl, updL_at, if_pos rfl]
    rw [ew, l_lt, l_le, il_toInt, show (-99 : Int64).toInt = -99 from rfl, show (99 : Int64).toInt = 99 from rfl]
    have fr2 : frT μ (zz_upJ (zz_upI z 23 4 (nI (tm + 1))) k1 I.2.1 (Int32.toInt64 W)) := by
      refine ⟨fun a ha => ?_, fz.2.1, fun a h1 h2 => ?_⟩
      · rw [mJ1, mI1, if_neg ha]; exact fz.1 a ha
      · rw [mJ2, if_neg (by omega)]; exact fz.2.2 a h1 h2
    have bad : ¬ ab W ≤ 99 → Φ (zz_upI (zz_upJ (zz_upI z 23 4 (nI (tm + 1))) k1 I.2.1 (Int32.toInt64 W)) 23 5 (nI p)) := fun q2 => by
      rw [if_neg q2] at h
      refine h _ ⟨⟨fun a ha => ?_, fr2.2.1, fr2.2.2⟩, rfl⟩
      rw [mI1, if_neg ha]; exact fr2.1 a ha
    refine zif (fun q2 => bad (fun z => by have := ab_in.mp z; omega)) (fun q2 => ⟨hv, zif (fun q3 => ?_) (fun q3 => bad (fun z => by have := ab_in.mp z; omega))⟩)
    rw [if_pos ((ab_in (n := 99)).mpr ⟨by omega, q3⟩)] at h
    refine h _ ⟨fr2, rfl, ?_, ?_, fun j hj => ?_⟩
    · show z.1 23 5 = -1
      rw [hz.1 23 5 (by omega)]; exact b3
    · exact hz.2.2
    · rw [mJ2, mJ2, mI2, hz.2.1]
      have bj := b5 j hj
      show _ = Int32.toInt64 (upd A (off + I.2.1) W j) ∧ _ = Int32.toInt64 (upd A (off + I.2.1) W (7 + j))
      rw [upd_at, upd_at]
      rcases hk with ⟨rfl, rfl⟩ | ⟨rfl, rfl⟩
      · rw [if_pos rfl, if_neg (show ¬ (26 : Nat) = 25 by omega), updL_at, if_neg (show ¬ 7 + j = 0 + I.2.1 by omega)]
        by_cases e : j = I.2.1
        · rw [if_pos e, if_pos (by omega)]; exact ⟨rfl, bj.2⟩
        · rw [if_neg e, if_neg (by omega)]; exact bj
      · rw [if_pos rfl, if_neg (show ¬ (25 : Nat) = 26 by omega), updL_at, if_neg (show ¬ j = 7 + I.2.1 by omega)]
        by_cases e : j = I.2.1
        · rw [if_pos e, if_pos (by omega)]; exact ⟨bj.1, rfl⟩
        · rw [if_neg e, if_neg (by omega)]; exact bj
  · rw [if_pos q]
    refine ⟨⟨fun a ha => ?_, fz.2.1, fz.2.2⟩, ?_⟩
    · rw [mI1, if_neg ha]; exact fz.1 a ha
    · show nI I.2.2 = nI p
      rw [q]
theorem e_signAt {n p : Nat} {L : Nat → Int32} {μ : ZMem} (t : tapeX n L μ) (hp : p ≤ 1000) {Φ : Int32 → Prop} (h1 : sigL (L p) = true → Φ (if negL (L p) then -1 else 1)) (h0 : sigL (L p) = false → Φ 0) : w_X9_signAt (nI p) μ Φ := by
  unfold w_X9_signAt
  refine e_letter t hp ?_
  unfold sigL negL at h1
  unfold sigL at h0
  refine zifn (fun q => zifn (fun q2 => h0 ?_) (fun q2 => ?_)) (fun q => ?_)
  · rw [decide_eq_false q, decide_eq_false q2]; rfl
  · have := h1 (by rw [decide_eq_true q2]; simp)
    rw [decide_eq_true q2] at this
    exact this
  · have := h1 (by rw [decide_eq_true q]; simp)
    rw [decide_eq_false (show ¬ L p = 45 by rw [q]; decide)] at this
    exact this
theorem termS_sm {n p off tm : Nat} {neg : Bool} {A : Nat → Int32} {L : Nat → Int32} (t : ended n L) (ho : off = 0 ∨ off = 7) (hA : smA A) {s : Nat × Nat × (Nat → Int32)} (e : termS L off neg p tm A = Sum.inr s) : smA s.2.2 := by
  unfold termS at e
  split at e
  · cases e
  · split at e
    · rename_i q
      rw [← Sum.inr.inj e]
      intro j hj
      show ab (upd _ _ _ j) ≤ 99
      rw [upd_at]
      split
      · exact q
      · exact hA j hj
    · cases e
/-- the class reads terms on -/
theorem e_tLoop {n off k1 : Nat} {outer : Bool} {a2 : Int32} {L : Nat → Int32} {μ : ZMem} (hk : (off = 0 ∧ k1 = 25) ∨ (off = 7 ∧ k1 = 26)) (ha : a2 = if outer then 1 else 0) (t : tapeX n L μ) {Φ : ZMem → Prop} : ∀ m i f (o : Nat ⊕ (Nat × Nat × (Nat → Int32))) b, i + m = 60 → oTX μ o b → (∀ s, o = Sum.inr s → smA s.2.2 ∧ i + 1 ≤ s.1 ∧ s.1 ≤ n ∧ s.2.1 ≤ s.1 ∧ n < s.1 + f) → (∀ e, o = Sum.inl e → e ≤ 100) → (∀ b', oTX μ (match o with | Sum.inl e => Sum.inl e | Sum.inr s => tLoop L outer off f s) b' → Φ b') → lpz2 (b_X9_takeTerms_36 Φ k1 7 a2) (m + 1) (nI i) b := by
  have tn := t.1.1
  intro m
  induction m with
  | zero =>
    intro i f o b hi hb hs he h
    rw [lpz2]
    dsimp only
    unfold b_X9_takeTerms_36
    refine zif_t (by rw [show (60 : Int32) = nI 60 from rfl, n_le (by omega) (by omega)]; omega) (h b ?_)
    cases o with
    | inl e => exact hb
    | inr s =>
      obtain ⟨s1, s2, s3, s4, s5⟩ := hs s rfl
      omega
  | succ m ih =>
    intro i f o b hi hb hs he h
    rw [lpz2]
    dsimp only
    generalize hL : lpz2 (b_X9_takeTerms_36 Φ k1 7 a2) (m + 1) = K
    unfold b_X9_takeTerms_36
    rw [show (60 : Int32) = nI 60 from rfl, n_le (by omega) (by omega)]
    refine zif_f (by omega) ?_
    cases o with
    | inl e =>
      have he' := he e rfl
      refine zifn_f (fun q => ?_) (h b hb)
      have h5 : b.1 23 5 = nI e := hb.2
      rw [h5] at q
      have := congrArg Int32.toInt q
      rw [nI_toInt (by omega), show (-1 : Int32).toInt = -1 from rfl] at this
      omega
    | inr s =>
      obtain ⟨s1, s2, s3, s4, s5⟩ := hs s rfl
      obtain ⟨f', rfl⟩ : ∃ f', f = f' + 1 := ⟨f - 1, by omega⟩
      obtain ⟨p, tm, A⟩ := s
      have hb0 := hb
      obtain ⟨b1, b2, b3, b4, b5⟩ := hb
      have b6 : b.1 23 6 = nI p := b4
      have tb := tape_T t b1
      have hend : (¬ (sigL (L p) = true ∧ ¬ (outer = true ∧ L (p + 1) = 75))) → Φ b := fun q => by
        have e : tLoop L outer off (f' + 1) (p, tm, A) = Sum.inr (p, tm, A) := by
          rw [tLoop, if_neg q]
        have h' := h b
        dsimp only at h'
        rw [e] at h'
        exact h' hb0
      refine zifn_t b3 ?_
      rw [b6]
      refine e_signAt tb (by have : p ≤ n := s3; omega) (fun q => ?_) (fun q => z0p (hend (fun z => by rw [q] at z; exact absurd z.1 (by decide))))
      refine zif_f (by split <;> decide) ?_
      have go : (¬ (outer = true ∧ L (p + 1) = 75)) → nm (zz_upI b 23 6 (nI p + 1)) (fun (μ_13 : ZMem) => w_X9_takeTerm k1 7 (if negL (L p) then -1 else 1) μ_13 (fun (μ_15 : ZMem) => K (nI i + 1) μ_15)) := by
        intro q2
        have e : tLoop L outer off (f' + 1) (p, tm, A) = match termS L off (negL (L p)) (p + 1) tm A with
          | Sum.inl e => Sum.inl e
          | Sum.inr s' => tLoop L outer off f' s' := by
          rw [tLoop, if_pos ⟨q, q2⟩]
          rfl
        have h' := h
        dsimp only at h'
        rw [e] at h'
        refine nm_b ?_
        rw [nI_1, nI_1]
        refine e_term (b := zz_upI b 23 6 (nI (p + 1))) (p := p + 1) (tm := tm) (A := A) hk rfl t (by have : p ≤ n := s3; omega) (by have : tm ≤ p := s4; have : p ≤ n := s3; omega) s1 ⟨⟨fun a ha => by rw [mI1, if_neg ha]; exact b1.1 a ha, b1.2.1, b1.2.2⟩, b2, b3, rfl, b5⟩ (fun b' hb' => ?_)
        rw [← hL]
        refine ih (i + 1) f' (termS L off (negL (L p)) (p + 1) tm A) b' (by omega) hb' (fun s hs' => ?_) (fun e he' => ?_) h'
        · obtain ⟨g1, g2, g3⟩ := termS_f t.1 hs'
          have s2' : i + 1 ≤ p := s2
          have s4' : tm ≤ p := s4
          have s5' : n < p + (f' + 1) := s5
          exact ⟨termS_sm t.1 (by omega) s1 hs', by omega, g2, by omega, by omega⟩
        · rw [termS_e (n := n) he']
          have : p ≤ n := s3
          omega
      refine nm_b ?_
      subst ha
      cases ho : outer with
      | false =>
        exact zif_t (by rfl) (go (fun z => by rw [ho] at z; exact absurd z.1 (by decide)))
      | true =>
        refine zif_f (by decide) ?_
        rw [nI_1]
        refine e_letter tb (by have : p ≤ n := s3; omega) (zifn (fun q2 => ?_) (fun q2 => hend (fun z => z.2 ⟨ho, q2⟩)))
        have g := go (fun z => q2 z.2)
        rw [nI_1] at g
        exact g
