/-! texts: the class reads one -/
theorem tLoop_f {n off : Nat} {outer : Bool} {L : Nat → Int32} (t : ended n L) (ho : off = 0 ∨ off = 7) : ∀ f s, smA s.2.2 → s.1 ≤ n → s.2.1 ≤ s.1 → (∀ s', tLoop L outer off f s = Sum.inr s' → smA s'.2.2 ∧ s.1 ≤ s'.1 ∧ s'.1 ≤ n ∧ s'.2.1 ≤ s'.1) ∧ (∀ e, tLoop L outer off f s = Sum.inl e → e ≤ n + 1) := by
  intro f
  induction f with
  | zero =>
    intro s h1 h2 h3
    refine ⟨fun s' h => ?_, fun e h => by cases h⟩
    rw [← Sum.inr.inj h]; exact ⟨h1, Nat.le_refl _, h2, h3⟩
  | succ f ih =>
    intro s h1 h2 h3
    rw [tLoop]
    split
    · cases e : termS L off (negL (L s.1)) (s.1 + 1) s.2.1 s.2.2 with
      | inl e' =>
        refine ⟨fun s' h => (by cases h), fun e'' h => ?_⟩
        have := termS_e (n := n) e
        have := Sum.inl.inj h
        omega
      | inr s' =>
        obtain ⟨g1, g2, g3⟩ := termS_f t e
        obtain ⟨i1, i2⟩ := ih s' (termS_sm t ho h1 e) g2 (by omega)
        refine ⟨fun s'' h => ?_, i2⟩
        obtain ⟨k1, k2, k3, k4⟩ := i1 s'' h
        exact ⟨k1, by omega, k3, k4⟩
    · refine ⟨fun s' h => ?_, fun e h => by cases h⟩
      rw [← Sum.inr.inj h]; exact ⟨h1, Nat.le_refl _, h2, h3⟩
theorem termsS_f {n off : Nat} {outer : Bool} {L : Nat → Int32} (t : ended n L) (ho : off = 0 ∨ off = 7) (s : Nat × Nat × (Nat → Int32)) (h1 : smA s.2.2) (h2 : s.1 ≤ 64) (h3 : s.2.1 ≤ s.1) : (∀ s', termsS L outer off s = Sum.inr s' → smA s'.2.2 ∧ s.1 < s'.1 ∧ s'.1 ≤ n ∧ s'.2.1 ≤ s'.1) ∧ (∀ e, termsS L outer off s = Sum.inl e → e ≤ 65) := by
  have tn := t.1
  unfold termsS
  cases e : termS L off (negL (L s.1)) (if L s.1 = 45 then s.1 + 1 else s.1) s.2.1 s.2.2 with
  | inl e' =>
    refine ⟨fun s' h => (by cases h), fun e'' h => ?_⟩
    have a := termS_e (n := n) e
    have b : e' = e'' := Sum.inl.inj h
    rw [← b, a]
    split <;> omega
  | inr s' =>
    obtain ⟨g1, g2, g3⟩ := termS_f t e
    have g1' : s.1 < s'.1 := by
      split at g1 <;> omega
    obtain ⟨i1, i2⟩ := tLoop_f (outer := outer) t ho 61 s' (termS_sm t ho h1 e) g2 (by omega)
    refine ⟨fun s'' h => ?_, fun e' h => ?_⟩
    · obtain ⟨k1, k2, k3, k4⟩ := i1 s'' h
      exact ⟨k1, by omega, k3, k4⟩
    · have := i2 e' h
      omega
theorem e_terms {n off k1 : Nat} {outer : Bool} {a2 : Int32} {L : Nat → Int32} {μ b : ZMem} {s : Nat × Nat × (Nat → Int32)} (hk : (off = 0 ∧ k1 = 25) ∨ (off = 7 ∧ k1 = 26)) (ha : a2 = if outer then 1 else 0) (t : tapeX n L μ) (h1 : smA s.2.2) (h2 : s.1 ≤ 64) (h3 : s.2.1 ≤ s.1) (hb : sTX μ s b) {Φ : ZMem → Prop} (h : ∀ b', oTX μ (termsS L outer off s) b' → Φ b') : w_X9_takeTerms k1 7 a2 b Φ := by
  have tn := t.1.1
  obtain ⟨p, tm, A⟩ := s
  have hb0 := hb
  obtain ⟨b1, b2, b3, b4, b5⟩ := hb
  have b6 : b.1 23 6 = nI p := b4
  have tb := tape_T t b1
  have h2' : p ≤ 64 := h2
  have h3' : tm ≤ p := h3
  unfold w_X9_takeTerms
  rw [b6]
  refine e_letter tb (by omega) ?_
  refine nm_k2 (fun x c => x = (if negL (L p) then -1 else 1) ∧ sTX μ ((if L p = 45 then p + 1 else p), tm, A) c) (fun J hJ => zifn (fun q => hJ _ _ ⟨?_, ?_⟩) (fun q => nm_b (hJ _ _ ⟨?_, ?_⟩))) ?_
  · unfold negL; rw [decide_eq_false q]; rfl
  · rw [if_neg q]; exact hb0
  · unfold negL; rw [decide_eq_true q]; rfl
  · rw [if_pos q, nI_1]
    exact ⟨⟨fun a ha => by rw [mI1, if_neg ha]; exact b1.1 a ha, b1.2.1, b1.2.2⟩, b2, b3, rfl, b5⟩
  rintro x c ⟨rfl, hc⟩
  have hpl : (if L p = 45 then p + 1 else p) ≤ 65 := by split <;> omega
  refine e_term hk rfl t (by omega) (by omega) h1 hc (fun d hd => ⟨60 + 1, ?_⟩)
  refine e_tLoop hk ha t 60 0 61 _ d (by omega) hd (fun s' hs' => ?_) (fun e he => ?_) h
  · obtain ⟨g1, g2, g3⟩ := termS_f t.1 hs'
    have g1' : p < s'.1 := by split at g1 <;> omega
    exact ⟨termS_sm t.1 (by omega) h1 hs', by omega, g2, by omega, by omega⟩
  · rw [termS_e (n := n) he]
    omega
def scA (neg : Bool) (A : Nat → Int32) : Nat → Int32 := fun j => if neg = true ∧ 7 ≤ j then -A j else A j
theorem scA_f (A : Nat → Int32) : scA false A = A := by
  funext j
  unfold scA
  rw [if_neg (fun z => absurd z.1 (by decide))]
/-- what stands between brackets -/
def gnS (L : Nat → Int32) (s : Nat × Nat × (Nat → Int32)) : Nat ⊕ (Nat × Nat × (Nat → Int32)) :=
  if sigL (L s.1) = true then (if L (s.1 + 2) = 40 then (match termsS L false 7 (s.1 + 3, s.2.1, s.2.2) with
    | Sum.inl e => Sum.inl e
    | Sum.inr s2 => if L s2.1 = 41 then Sum.inr (s2.1 + 1, s2.2.1, s2.2.2) else Sum.inl s2.1) else Sum.inl (s.1 + 2)) else Sum.inr s
def scS (neg : Bool) (o : Nat ⊕ (Nat × Nat × (Nat → Int32))) : Nat ⊕ (Nat × Nat × (Nat → Int32)) := match o with
  | Sum.inl e => Sum.inl e
  | Sum.inr s => Sum.inr (s.1, s.2.1, scA neg s.2.2)
def endS (n : Nat) (o : Nat ⊕ (Nat × Nat × (Nat → Int32))) : Nat ⊕ (Nat × Nat × (Nat → Int32)) := match o with
  | Sum.inl e => Sum.inl e
  | Sum.inr s => if s.1 < n then Sum.inl s.1 else Sum.inr s
def oneS (L : Nat → Int32) : Nat ⊕ (Nat × Nat × (Nat → Int32)) := termsS L true 0 (0, 0, fun _ => 0)
def rdS (n : Nat) (L : Nat → Int32) : Nat ⊕ (Nat × Nat × (Nat → Int32)) := match oneS L with
  | Sum.inl e => Sum.inl e
  | Sum.inr s => scS (negL (L s.1)) (endS n (gnS L s))
theorem ne_m1 {e : Nat} (h : e ≤ 1000) : ¬ nI e = -1 := fun q => by
  have := congrArg Int32.toInt q
  rw [nI_toInt (by omega), show (-1 : Int32).toInt = -1 from rfl] at this
  omega
theorem mul_sg {a : Int32} {neg : Bool} (ha : ab a ≤ 99) : Int32.toInt64 a * Int32.toInt64 (if neg then -1 else 1) = Int32.toInt64 (if neg then -a else a) := by
  cases neg
  · show Int32.toInt64 a * Int32.toInt64 1 = Int32.toInt64 a
    rw [Int64.mul_comm, one_L]
  · show Int32.toInt64 a * Int32.toInt64 (-1) = Int32.toInt64 (-a)
    have h := ab_in.mp ha
    rw [Int64.mul_comm, neg1_L]
    apply Int64.toInt_inj.mp
    rw [Int64.toInt_neg, il_toInt, il_toInt, Int32.toInt_neg, Int.bmod_eq_of_le (by omega) (by omega), Int.bmod_eq_of_le (by omega) (by omega)]
theorem z0_sm : smA (fun _ => 0) := fun j _ => by show (0 : Nat) ≤ 99; omega
theorem oneS_f {n : Nat} {L : Nat → Int32} (t : ended n L) : (∀ s', oneS L = Sum.inr s' → smA s'.2.2 ∧ 0 < s'.1 ∧ s'.1 ≤ n ∧ s'.2.1 ≤ s'.1) ∧ (∀ e, oneS L = Sum.inl e → e ≤ 65) := termsS_f t (Or.inl rfl) (0, 0, fun _ => 0) z0_sm (by show (0 : Nat) ≤ 64; omega) (by show (0 : Nat) ≤ 0; omega)
theorem gnS_f {n : Nat} {L : Nat → Int32} (t : ended n L) {s : Nat × Nat × (Nat → Int32)} (h1 : smA s.2.2) (h2 : s.1 ≤ n) (h3 : s.2.1 ≤ s.1) : (∀ s', gnS L s = Sum.inr s' → smA s'.2.2 ∧ s'.1 ≤ 200 ∧ s'.2.1 ≤ 200) ∧ (∀ e, gnS L s = Sum.inl e → e ≤ 200) := by
  have tn := t.1
  unfold gnS
  split
  · split
    · obtain ⟨i1, i2⟩ := termsS_f (outer := false) t (Or.inr rfl) (s.1 + 3, s.2.1, s.2.2) h1 (by show s.1 + 3 ≤ 64; omega) (by show s.2.1 ≤ s.1 + 3; omega)
      cases e : termsS L false 7 (s.1 + 3, s.2.1, s.2.2) with
      | inl e' =>
        refine ⟨fun s' h => (by cases h), fun e'' h => ?_⟩
        have := i2 e' e
        have := Sum.inl.inj h
        omega
      | inr s2 =>
        obtain ⟨k1, k2, k3, k4⟩ := i1 s2 e
        dsimp only
        split
        · refine ⟨fun s' h => ?_, fun e'' h => by cases h⟩
          rw [← Sum.inr.inj h]
          exact ⟨k1, by show s2.1 + 1 ≤ 200; omega, by show s2.2.1 ≤ 200; omega⟩
        · refine ⟨fun s' h => (by cases h), fun e'' h => ?_⟩
          have := Sum.inl.inj h
          omega
    · refine ⟨fun s' h => (by cases h), fun e'' h => ?_⟩
      have := Sum.inl.inj h
      omega
  · refine ⟨fun s' h => ?_, fun e'' h => by cases h⟩
    rw [← Sum.inr.inj h]
    exact ⟨h1, by omega, by omega⟩
theorem e_expect {n p : Nat} {a1 : Int32} {tm : Nat} {A : Nat → Int32} {L : Nat → Int32} {μ b : ZMem} (t : tapeX n L μ) (hp : p ≤ 1000) (hb : sTX μ (p, tm, A) b) {Φ : ZMem → Prop} (h : ∀ b', oTX μ (if L p = a1 then Sum.inr (p + 1, tm, A) else Sum.inl p) b' → Φ b') : w_X9_expect a1 b Φ := by
  obtain ⟨b1, b2, b3, b4, b5⟩ := hb
  have b6 : b.1 23 6 = nI p := b4
  unfold w_X9_expect
  rw [b6]
  refine e_letter (tape_T t b1) hp (zifn (fun q => nm_b ?_) (fun q => nm_b ?_))
  · rw [if_neg q] at h
    exact h _ ⟨⟨fun a ha => by rw [mI1, if_neg ha]; exact b1.1 a ha, b1.2.1, b1.2.2⟩, rfl⟩
  · rw [if_pos q] at h
    rw [nI_1]
    exact h _ ⟨⟨fun a ha => by rw [mI1, if_neg ha]; exact b1.1 a ha, b1.2.1, b1.2.2⟩, b2, b3, rfl, b5⟩
theorem e_scale {μ b : ZMem} {o : Nat ⊕ (Nat × Nat × (Nat → Int32))} {neg : Bool} (hs : ∀ s, o = Sum.inr s → smA s.2.2) (hb : oTX μ o b) {Φ : ZMem → Prop} (h : ∀ b', oTX μ (scS neg o) b' → Φ b') : ∃ n, lpz2 (b_X9_takeGained_58 Φ (if neg then -1 else 1)) n 0 b := by
  refine ⟨7 + 1, lp2_inv 7 (fun i c => c.1 = b.1 ∧ (∀ a, a ≠ 26 → c.2 a = b.2 a) ∧ ∀ j, j < 7 → c.2 26 j = if j < i then b.2 26 j * Int32.toInt64 (if neg then -1 else 1) else b.2 26 j) (fun i c K hi hI hK => ?_) (fun c K hI => ?_) 7 0 b (by omega) ⟨rfl, fun _ _ => rfl, fun j hj => by rw [if_neg (by omega)]⟩⟩
  · obtain ⟨i1, i2, i3⟩ := hI
    unfold b_X9_takeGained_58
    have hv := vp_in_nI (n := i) (N := 7) hi (by omega)
    rw [show (7 : Int32) = nI 7 from rfl, n_le (by omega) (by omega), nI_1, nn_clamp (by omega)]
    refine zif_f (by omega) ⟨hv, hv, nm_b (hK _ ⟨i1, fun a ha => ?_, fun j hj => ?_⟩)⟩
    · rw [mJ2, if_neg ha]; exact i2 a ha
    · rw [mJ2, if_pos rfl, updL_at, i3 i hi, if_neg (show ¬ i < i by omega)]
      by_cases e : j = i
      · rw [if_pos e, if_pos (show j < i + 1 by omega), e]
      · rw [if_neg e, i3 j hj]
        by_cases e2 : j < i
        · rw [if_pos e2, if_pos (show j < i + 1 by omega)]
        · rw [if_neg e2, if_neg (show ¬ j < i + 1 by omega)]
  · obtain ⟨i1, i2, i3⟩ := hI
    unfold b_X9_takeGained_58
    have fr : frT μ b → frT μ c := fun f => ⟨fun a ha => by rw [i1]; exact f.1 a ha, by rw [i1]; exact f.2.1, fun a h1 h2 => by rw [i2 a h2]; exact f.2.2 a h1 h2⟩
    refine zif_t (by decide) (h c ?_)
    cases o with
    | inl e => exact ⟨fr hb.1, by rw [i1]; exact hb.2⟩
    | inr s =>
      obtain ⟨b1, b2, b3, b4, b5⟩ := hb
      have sm := hs s rfl
      refine ⟨fr b1, by rw [i1]; exact b2, by rw [i1]; exact b3, by rw [i1]; exact b4, fun j hj => ⟨?_, ?_⟩⟩
      · rw [i2 25 (by omega), (b5 j hj).1]
        show _ = Int32.toInt64 (scA neg s.2.2 j)
        unfold scA
        rw [if_neg (fun z => by omega)]
      · rw [i3 j hj, if_pos hj, (b5 j hj).2, mul_sg (sm (7 + j) (by omega))]
        show _ = Int32.toInt64 (scA neg s.2.2 (7 + j))
        unfold scA
        cases neg
        · rw [if_neg (by decide), if_neg (fun z => absurd z.1 (by decide))]
        · rw [if_pos rfl, if_pos ⟨rfl, by omega⟩]
theorem e_gained {n : Nat} {L : Nat → Int32} {μ b : ZMem} {s : Nat × Nat × (Nat → Int32)} (t : tapeX n L μ) (h1 : smA s.2.2) (h2 : s.1 ≤ n) (h3 : s.2.1 ≤ s.1) (hsig : sigL (L s.1) = true) (hb : sTX μ s b) {Φ : ZMem → Prop} (h : ∀ b', oTX μ (scS (negL (L s.1)) (gnS L s)) b' → Φ b') : w_X9_takeGained b Φ := by
  have tn := t.1.1
  obtain ⟨p, tm, A⟩ := s
  have hb0 := hb
  obtain ⟨b1, b2, b3, b4, b5⟩ := hb
  have b6 : b.1 23 6 = nI p := b4
  have h2' : p ≤ n := h2
  have h3' : tm ≤ p := h3
  have hsig' : sigL (L p) = true := hsig
  have eg : gnS L (p, tm, A) = if L (p + 2) = 40 then (match termsS L false 7 (p + 3, tm, A) with
    | Sum.inl e => Sum.inl e
    | Sum.inr s2 => if L s2.1 = 41 then Sum.inr (s2.1 + 1, s2.2.1, s2.2.2) else Sum.inl s2.1) else Sum.inl (p + 2) := by
    unfold gnS
    rw [if_pos hsig]
  have gf := gnS_f t.1 (s := (p, tm, A)) h1 h2 h3
  rw [eg] at gf h
  unfold w_X9_takeGained
  rw [b6]
  refine e_signAt (tape_T t b1) (by omega) (fun _ => nm_b ?_) (fun q => by rw [hsig'] at q; cases q)
  rw [show (2 : Int32) = nI 2 from rfl, nI_add]
  refine e_expect (b := zz_upI b 23 6 (nI (p + 2))) (n := n) (p := p + 2) (tm := tm) (A := A) (L := L) t (by omega) ⟨⟨fun a ha => by rw [mI1, if_neg ha]; exact b1.1 a ha, b1.2.1, b1.2.2⟩, b2, b3, rfl, b5⟩ (fun c hc => ?_)
  have h' : ∀ b', oTX μ (scS (negL (L p)) (if L (p + 2) = 40 then (match termsS L false 7 (p + 3, tm, A) with
    | Sum.inl e => Sum.inl e
    | Sum.inr s2 => if L s2.1 = 41 then Sum.inr (s2.1 + 1, s2.2.1, s2.2.2) else Sum.inl s2.1) else Sum.inl (p + 2))) b' → Φ b' := h
  by_cases q : L (p + 2) = 40
  · rw [if_pos q] at hc h' gf
    have hc' : sTX μ (p + 2 + 1, tm, A) c := hc
    refine nm_b (zifn_t hc'.2.2.1 (e_terms (off := 7) (outer := false) (Or.inr ⟨rfl, rfl⟩) rfl t (s := (p + 3, tm, A)) h1 (by show p + 3 ≤ 64; omega) (by show tm ≤ p + 3; omega) hc' (fun d hd => ?_)))
    have tf := termsS_f (outer := false) t.1 (Or.inr rfl) (p + 3, tm, A) h1 (by show p + 3 ≤ 64; omega) (by show tm ≤ p + 3; omega)
    cases e : termsS L false 7 (p + 3, tm, A) with
    | inl e' =>
      rw [e] at hd h' gf
      have e5 : d.1 23 5 = nI e' := hd.2
      have := tf.2 e' e
      refine nm_b (zifn_f (by rw [e5]; exact ne_m1 (by omega)) ?_)
      exact e_scale (o := Sum.inl e') (fun s hs => by cases hs) hd h'
    | inr s2 =>
      rw [e] at hd h' gf
      obtain ⟨k1, k2, k3, k4⟩ := tf.1 s2 e
      have hd' : sTX μ s2 d := hd
      refine nm_b (zifn_t hd'.2.2.1 (e_expect (p := s2.1) (tm := s2.2.1) (A := s2.2.2) t (by omega) hd' (fun f hf => ?_)))
      exact e_scale (o := if L s2.1 = 41 then Sum.inr (s2.1 + 1, s2.2.1, s2.2.2) else Sum.inl s2.1) (fun s hs => (gf.1 s hs).1) hf h'
  · rw [if_neg q] at hc h' gf
    have e5 : c.1 23 5 = nI (p + 2) := hc.2
    refine nm_b (zifn_f (by rw [e5]; exact ne_m1 (by omega)) (nm_b (zifn_f (by rw [e5]; exact ne_m1 (by omega)) ?_)))
    exact e_scale (o := Sum.inl (p + 2)) (fun s hs => by cases hs) hc h'
theorem e_parse {n : Nat} {L : Nat → Int32} {μ : ZMem} (t : tapeX n L μ) {Φ : ZMem → Prop} (h : ∀ b', oTX μ (rdS n L) b' → Φ b') : w_X9_parse μ Φ := by
  have tn := t.1.1
  unfold w_X9_parse
  refine nm_b ⟨7 + 1, lp2_inv 7 (fun i b => b.1 = μ.1 ∧ (∀ a, a ≠ 25 → a ≠ 26 → b.2 a = μ.2 a) ∧ ∀ j, j < i → b.2 25 j = 0 ∧ b.2 26 j = 0) (fun i b K hi hI hK => ?_) (fun b K hI => ?_) 7 0 μ (by omega) ⟨rfl, fun _ _ _ => rfl, fun j hj => absurd hj (by omega)⟩⟩
  · obtain ⟨i1, i2, i3⟩ := hI
    unfold b_X9_parse_2
    have hv := vp_in_nI (n := i) (N := 7) hi (by omega)
    rw [show (7 : Int32) = nI 7 from rfl, n_le (by omega) (by omega), nI_1, nn_clamp (by omega)]
    refine zif_f (by omega) ⟨hv, nm_b ⟨hv, nm_b (hK _ ⟨i1, fun a h1 h2 => ?_, fun j hj => ?_⟩)⟩⟩
    · rw [mJ2, if_neg h2, mJ2, if_neg h1]; exact i2 a h1 h2
    · rw [mJ2, if_neg (show ¬ (25 : Nat) = 26 by omega), mJ2, if_pos rfl, mJ2, if_pos rfl, mJ2, if_neg (show ¬ (26 : Nat) = 25 by omega), updL_at, updL_at]
      by_cases e : j = i
      · rw [if_pos e, if_pos e]; exact ⟨rfl, rfl⟩
      · rw [if_neg e, if_neg e]; exact i3 j (by omega)
  · obtain ⟨i1, i2, i3⟩ := hI
    unfold b_X9_parse_2
    refine zif_t (by decide) (nm_b (nm_b (nm_b ?_)))
    have of := oneS_f t.1
    refine e_terms (b := zz_upI (zz_upI (zz_upI b 23 4 0) 23 5 (-1)) 23 6 0) (off := 0) (outer := true) (Or.inl ⟨rfl, rfl⟩) rfl t (s := (0, 0, fun _ => 0)) z0_sm (by show (0 : Nat) ≤ 64; omega) (by show (0 : Nat) ≤ 0; omega) ⟨⟨fun a ha => ?_, ?_, i2⟩, rfl, rfl, rfl, fun j hj => ?_⟩ (fun c hc => ?_)
    · rw [mI1, if_neg ha, mI1, if_neg ha, mI1, if_neg ha, i1]
    · show b.1 23 3 = _
      rw [i1]
    · exact i3 j hj
    · have hc0 : oTX μ (oneS L) c := hc
      unfold rdS at h
      have last : ∀ (neg : Bool) (o : Nat ⊕ (Nat × Nat × (Nat → Int32))) (d : ZMem), (∀ s, o = Sum.inr s → s.1 ≤ 200) → (∀ e, o = Sum.inl e → e ≤ 200) → oTX μ (scS neg o) d → (∀ b', oTX μ (scS neg (endS n o)) b' → Φ b') → ((¬ (d.1 23 5) = -1 → Φ d) ∧ ((d.1 23 5) = -1 → ((d.1 23 3) ≤ (d.1 23 6) → Φ d) ∧ (¬ (d.1 23 3) ≤ (d.1 23 6) → nm (zz_upI d 23 5 (d.1 23 6)) (fun (μ_10 : ZMem) => Φ μ_10)))) := by
        intro neg o d ho he hd hh
        cases o with
        | inl e =>
          have e5 : d.1 23 5 = nI e := hd.2
          exact zifn_f (by rw [e5]; exact ne_m1 (by have := he e rfl; omega)) (hh d hd)
        | inr s =>
          have hd' : sTX μ (s.1, s.2.1, scA neg s.2.2) d := hd
          obtain ⟨d1, d2, d3, d4, d5⟩ := hd'
          have d6 : d.1 23 6 = nI s.1 := d4
          have s2 := ho s rfl
          refine zifn_t d3 ?_
          rw [d6, d1.2.1, t.2.1, n_le (by omega) (by omega)]
          have ee : endS n (Sum.inr s) = if s.1 < n then Sum.inl s.1 else Sum.inr s := rfl
          rw [ee] at hh
          refine zif (fun q => ?_) (fun q => nm_b ?_)
          · rw [if_neg (by omega)] at hh
            exact hh d hd
          · rw [if_pos (by omega)] at hh
            exact hh _ ⟨⟨fun a ha => by rw [mI1, if_neg ha]; exact d1.1 a ha, d1.2.1, d1.2.2⟩, rfl⟩
      cases e : oneS L with
      | inl e' =>
        rw [e] at hc0 h
        have e5 : c.1 23 5 = nI e' := hc0.2
        have l := of.2 e' e
        refine nm_b (zifn_f (by rw [e5]; exact ne_m1 (by omega)) ?_)
        exact last false (Sum.inl e') c (fun s hs => by cases hs) (fun e hs => by rw [← Sum.inl.inj hs]; omega) hc0 h
      | inr s =>
        rw [e] at hc0 h
        obtain ⟨k1, k2, k3, k4⟩ := of.1 s e
        have hc' : sTX μ s c := hc0
        have c6 : c.1 23 6 = nI s.1 := hc'.2.2.2.1
        have gf := gnS_f t.1 (s := s) k1 k3 k4
        refine nm_b (zifn_t hc'.2.2.1 ?_)
        rw [c6]
        refine e_signAt (tape_T t hc'.1) (by omega) (fun q => ?_) (fun q => z0p ?_)
        · refine zif_f (by split <;> decide) (e_gained t k1 k3 k4 q hc' (fun d hd => ?_))
          exact last (negL (L s.1)) (gnS L s) d (fun s' hs => (gf.1 s' hs).2.1) gf.2 hd h
        · have hn : negL (L s.1) = false := by
            unfold sigL at q
            unfold negL
            simp at q
            simp [q.2]
          have eg : gnS L s = Sum.inr s := by
            unfold gnS
            rw [if_neg (by rw [q]; decide)]
          have h' : ∀ b', oTX μ (scS (negL (L s.1)) (endS n (gnS L s))) b' → Φ b' := h
          rw [eg] at h'
          have fin := last (negL (L s.1)) (Sum.inr s) c (fun s' hs => by rw [← Sum.inr.inj hs]; omega) (fun e hs => by cases hs) (by rw [hn]; show sTX μ (s.1, s.2.1, scA false s.2.2) c; rw [scA_f]; exact hc') h'
          exact fin
