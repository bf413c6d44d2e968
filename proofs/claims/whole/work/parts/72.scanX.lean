/-! texts: what is read, and the class's way -/
def dv (x : Int32) : Nat := (x.toInt - 48).toNat
def numS (L : Nat → Int32) (p : Nat) : Nat × Nat := if 48 ≤ (L p).toInt ∧ (L p).toInt ≤ 57 then (if 48 ≤ (L (p + 1)).toInt ∧ (L (p + 1)).toInt ≤ 57 then (10 * dv (L p) + dv (L (p + 1)), p + 2) else (dv (L p), p + 1)) else (0, p)
def powS (L : Nat → Int32) (p : Nat) : Nat × Nat := if 49 ≤ (L p).toInt ∧ (L p).toInt ≤ 54 then (dv (L p), p + 1) else (1, p)
/-- number, power, the place behind -/
def itmS (L : Nat → Int32) (p : Nat) : Nat × Nat × Nat := if L (numS L p).2 = 115 then ((if (numS L p).2 = p then 1 else (numS L p).1), (powS L ((numS L p).2 + 1)).1, (powS L ((numS L p).2 + 1)).2) else ((numS L p).1, 0, (numS L p).2)
def sgI (neg : Bool) (n : Nat) : Int32 := if neg then -nI n else nI n
/-- place, terms, coefficients; or a fault -/
def termS (L : Nat → Int32) (off : Nat) (neg : Bool) (p tm : Nat) (A : Nat → Int32) : Nat ⊕ (Nat × Nat × (Nat → Int32)) :=
  if (itmS L p).2.2 = p then Sum.inl p
  else if ab (A (off + (itmS L p).2.1) + sgI neg (itmS L p).1) ≤ 99 then Sum.inr ((itmS L p).2.2, tm + 1, upd A (off + (itmS L p).2.1) (A (off + (itmS L p).2.1) + sgI neg (itmS L p).1)) else Sum.inl p
def negL (x : Int32) : Bool := decide (x = 45)
def sigL (x : Int32) : Bool := decide (x = 43) || decide (x = 45)
def tLoop (L : Nat → Int32) (outer : Bool) (off : Nat) : Nat → (Nat × Nat × (Nat → Int32)) → Nat ⊕ (Nat × Nat × (Nat → Int32))
  | 0, s => Sum.inr s
  | f + 1, s => if sigL (L s.1) = true ∧ ¬ (outer = true ∧ L (s.1 + 1) = 75) then (match termS L off (negL (L s.1)) (s.1 + 1) s.2.1 s.2.2 with
    | Sum.inl e => Sum.inl e
    | Sum.inr s' => tLoop L outer off f s') else Sum.inr s
def termsS (L : Nat → Int32) (outer : Bool) (off : Nat) (s : Nat × Nat × (Nat → Int32)) : Nat ⊕ (Nat × Nat × (Nat → Int32)) :=
  match termS L off (negL (L s.1)) (if L s.1 = 45 then s.1 + 1 else s.1) s.2.1 s.2.2 with
  | Sum.inl e => Sum.inl e
  | Sum.inr s' => tLoop L outer off 61 s'
def ended (n : Nat) (L : Nat → Int32) : Prop := n ≤ 60 ∧ ∀ i, n ≤ i → L i = -1
theorem in_n {n i : Nat} {L : Nat → Int32} (h : ended n L) (hi : 0 ≤ (L i).toInt) : i < n := by
  apply Classical.byContradiction
  intro q
  rw [h.2 i (by omega)] at hi
  exact absurd hi (by decide)
theorem numS_f {n p : Nat} {L : Nat → Int32} (h : ended n L) : (numS L p).1 ≤ 99 ∧ p ≤ (numS L p).2 ∧ ((numS L p).2 = p ∨ (numS L p).2 ≤ n) ∧ (numS L p).2 ≤ p + 2 := by
  unfold numS dv
  split
  · have a := in_n (i := p) h (by omega)
    split
    · have b := in_n (i := p + 1) h (by omega)
      dsimp only; omega
    · dsimp only; omega
  · dsimp only; omega
theorem powS_f {n p : Nat} {L : Nat → Int32} (h : ended n L) : 1 ≤ (powS L p).1 ∧ (powS L p).1 ≤ 6 ∧ p ≤ (powS L p).2 ∧ ((powS L p).2 = p ∨ (powS L p).2 ≤ n) := by
  unfold powS dv
  split
  · have a := in_n (i := p) h (by omega)
    dsimp only; omega
  · dsimp only; omega
theorem itmS_f {n p : Nat} {L : Nat → Int32} (h : ended n L) : (itmS L p).1 ≤ 99 ∧ (itmS L p).2.1 ≤ 6 ∧ p ≤ (itmS L p).2.2 ∧ ((itmS L p).2.2 = p ∨ (itmS L p).2.2 ≤ n) := by
  have a := numS_f (p := p) h
  unfold itmS
  split
  · rename_i q
    have b := powS_f (p := (numS L p).2 + 1) h
    have c := in_n (i := (numS L p).2) h (by rw [q]; decide)
    dsimp only
    split <;> omega
  · dsimp only; omega
theorem termS_f {n p off tm : Nat} {neg : Bool} {A : Nat → Int32} {L : Nat → Int32} (h : ended n L) {s : Nat × Nat × (Nat → Int32)} (e : termS L off neg p tm A = Sum.inr s) : p < s.1 ∧ s.1 ≤ n ∧ s.2.1 = tm + 1 := by
  have a := itmS_f (p := p) h
  unfold termS at e
  split at e
  · cases e
  · rename_i q
    split at e
    · have := Sum.inr.inj e
      rw [← this]
      dsimp only
      omega
    · cases e
theorem termS_e {n p off tm : Nat} {neg : Bool} {A : Nat → Int32} {L : Nat → Int32} {e : Nat} (h : termS L off neg p tm A = Sum.inl e) : e = p := by
  unfold termS at h
  split at h
  · exact (Sum.inl.inj h).symm
  · split at h
    · cases h
    · exact (Sum.inl.inj h).symm
def tapeX (n : Nat) (L : Nat → Int32) (μ : ZMem) : Prop := ended n L ∧ μ.1 23 3 = nI n ∧ ∀ i, i < n → μ.1 24 i = L i
theorem e_letter {n p : Nat} {L : Nat → Int32} {μ : ZMem} (t : tapeX n L μ) (hp : p ≤ 1000) {Φ : Int32 → Prop} (h : Φ (L p)) : w_X9_letterAt (nI p) μ Φ := by
  obtain ⟨⟨t1, t2⟩, t3, t4⟩ := t
  unfold w_X9_letterAt
  rw [t3, n_le (by omega) (by omega), show (60 : Int32) = nI 60 from rfl, n_lt (by omega) (by omega), nn_clamp (by omega)]
  refine zif_f (nI_nneg (by omega)) (zif (fun q => ?_) (fun q => zif (fun q2 => ⟨vp_in_nI (by omega) (by omega), ?_⟩) (fun q2 => absurd (by omega) q2)))
  · rw [t2 p q] at h; exact h
  · rw [t4 p (by omega)]; exact h
/-- only the place has changed -/
def upP (μ b : ZMem) (q : Nat) : Prop := (∀ a s, ¬ (a = 23 ∧ s = 6) → b.1 a s = μ.1 a s) ∧ b.2 = μ.2 ∧ b.1 23 6 = nI q
theorem upP_rfl {μ : ZMem} {p : Nat} (h : μ.1 23 6 = nI p) : upP μ μ p := ⟨fun _ _ _ => rfl, rfl, h⟩
theorem upP_z {μ b : ZMem} {p : Nat} (h : upP μ b p) : upP μ (zz_upI b 23 6 (nI (p + 1))) (p + 1) := by
  refine ⟨fun a s hs => ?_, h.2.1, rfl⟩
  rw [mI1]
  by_cases e : a = 23
  · rw [if_pos e, upd_at, if_neg (fun z => hs ⟨e, z⟩)]
    rw [← e]; exact h.1 a s hs
  · rw [if_neg e]; exact h.1 a s hs
theorem tape_P {n q : Nat} {L : Nat → Int32} {μ b : ZMem} (t : tapeX n L μ) (h : upP μ b q) : tapeX n L b := ⟨t.1, by rw [h.1 23 3 (by omega)]; exact t.2.1, fun i hi => by rw [h.1 24 i (by omega)]; exact t.2.2 i hi⟩
theorem digI {a : Nat} (ha : a ≤ 9) {r : Int32} (h1 : 48 ≤ r.toInt) (h2 : r.toInt ≤ 57) : (10 : Int32) * nI a + r - 48 = nI (10 * a + dv r) := by
  obtain ⟨k, k1, k2⟩ := nn_of (i := r) (n := 57) (by omega) (by omega) (by omega)
  subst k2
  rw [nI_toInt (by omega)] at h1
  unfold dv
  rw [nI_toInt (by omega), show (10 : Int32) = nI 10 from rfl, show (48 : Int32) = nI 48 from rfl, pk_mul, nI_add, pk_sub (by omega)]
  congr 1
  omega
theorem e_number {n p : Nat} {L : Nat → Int32} {μ : ZMem} (t : tapeX n L μ) (h6 : μ.1 23 6 = nI p) (hp : p ≤ 100) {Φ : Int32 → ZMem → Prop} (h : ∀ b, upP μ b (numS L p).2 → Φ (nI (numS L p).1) b) : w_X9_takeNumber μ Φ := by
  unfold w_X9_takeNumber
  refine ⟨3, ?_⟩
  rw [lpz3]
  dsimp only
  generalize hL2 : lpz3 (b_X9_takeNumber_4 Φ) 2 = K2
  unfold b_X9_takeNumber_4
  rw [h6]
  refine zif_f (by decide) (e_letter t (by omega) ?_)
  rw [i_lt, i_le, show (48 : Int32).toInt = 48 from rfl, show (57 : Int32).toInt = 57 from rfl, nI_1]
  have no : ¬ (48 ≤ (L p).toInt ∧ (L p).toInt ≤ 57) → Φ 0 μ := fun q => by
    have e : numS L p = (0, p) := by unfold numS; rw [if_neg q]
    rw [e] at h
    exact h μ (upP_rfl h6)
  refine zif (fun q => no (by omega)) (fun q => zif (fun q2 => nm_b (nm_b ?_)) (fun q2 => no (by omega)))
  have hd : 48 ≤ (L p).toInt ∧ (L p).toInt ≤ 57 := ⟨by omega, q2⟩
  have e1 : (10 : Int32) * 0 + L p - 48 = nI (10 * 0 + dv (L p)) := digI (a := 0) (by omega) hd.1 hd.2
  rw [e1, ← hL2, lpz3]
  dsimp only
  generalize hL1 : lpz3 (b_X9_takeNumber_4 Φ) 1 = K1
  unfold b_X9_takeNumber_4
  have x1 := upP_z (upP_rfl h6)
  have e6 : (zz_upI μ 23 6 (nI (p + 1))).1 23 6 = nI (p + 1) := rfl
  rw [e6]
  refine zif_f (by decide) (e_letter (tape_P t x1) (by omega) ?_)
  rw [i_lt, i_le, show (48 : Int32).toInt = 48 from rfl, show (57 : Int32).toInt = 57 from rfl, nI_1]
  have no2 : ¬ (48 ≤ (L (p + 1)).toInt ∧ (L (p + 1)).toInt ≤ 57) → Φ (nI (10 * 0 + dv (L p))) (zz_upI μ 23 6 (nI (p + 1))) := fun q => by
    have e : numS L p = (dv (L p), p + 1) := by unfold numS; rw [if_pos hd, if_neg q]
    rw [e] at h
    rw [show 10 * 0 + dv (L p) = dv (L p) by omega]
    exact h _ x1
  refine zif (fun q => no2 (by omega)) (fun q => zif (fun q2 => nm_b (nm_b ?_)) (fun q2 => no2 (by omega)))
  have hd2 : 48 ≤ (L (p + 1)).toInt ∧ (L (p + 1)).toInt ≤ 57 := ⟨by omega, q2⟩
  have hdv : 10 * 0 + dv (L p) ≤ 9 := by unfold dv; omega
  rw [digI hdv hd2.1 hd2.2, ← hL1, lpz3]
  dsimp only
  unfold b_X9_takeNumber_4
  refine zif_t (by decide) ?_
  have e : numS L p = (10 * dv (L p) + dv (L (p + 1)), p + 2) := by unfold numS; rw [if_pos hd, if_pos hd2]
  rw [e] at h
  rw [show 10 * (10 * 0 + dv (L p)) + dv (L (p + 1)) = 10 * dv (L p) + dv (L (p + 1)) by omega]
  exact h _ (upP_z x1)
theorem e_power {n p : Nat} {L : Nat → Int32} {μ : ZMem} (t : tapeX n L μ) (h6 : μ.1 23 6 = nI p) (hp : p ≤ 200) {Φ : Int32 → ZMem → Prop} (h : ∀ b, upP μ b (powS L p).2 → Φ (nI (powS L p).1) b) : w_X9_takePower μ Φ := by
  unfold w_X9_takePower
  rw [h6]
  refine e_letter t (by omega) ?_
  rw [i_lt, i_le, show (49 : Int32).toInt = 49 from rfl, show (54 : Int32).toInt = 54 from rfl, nI_1]
  have no : ¬ (49 ≤ (L p).toInt ∧ (L p).toInt ≤ 54) → Φ 1 μ := fun q => by
    have e : powS L p = (1, p) := by unfold powS; rw [if_neg q]
    rw [e] at h
    exact h μ (upP_rfl h6)
  refine zif (fun q => no (by omega)) (fun q => zif (fun q2 => nm_b ?_) (fun q2 => no (by omega)))
  have e : powS L p = (dv (L p), p + 1) := by unfold powS; rw [if_pos ⟨by omega, q2⟩]
  rw [e] at h
  obtain ⟨k, k1, k2⟩ := nn_of (i := L p) (n := 57) (by omega) (by omega) (by omega)
  have ek : L p - 48 = nI (dv (L p)) := by
    rw [k2] at q ⊢
    rw [nI_toInt (by omega)] at q
    unfold dv
    rw [nI_toInt (by omega), show (48 : Int32) = nI 48 from rfl, pk_sub (by omega)]
    congr 1; omega
  rw [ek]
  exact h _ (upP_z (upP_rfl h6))
