/-! one polynomial by another: the class's way -/
def absL (b : Int64) : Int64 := if 0 < b then b else -b
def sgL (b p : Int64) : Int64 := if 0 ≤ b then p else -p
def midO (B : Nat → Int64) (r : Nat → Int64) (j : Nat) : Option Int64 := xt (r j) (absL (B (dg B - 1)))
def finO (B : Nat → Int64) (r : Nat → Int64) (j : Nat) : Option Int64 := (midO B r j).bind fun x => (xt (r (dg r - 1)) (B (j - (dg r - dg B)))).bind fun p => xs x (sgL (B (dg B - 1)) p)
def lowO (B : Nat → Int64) (r : Nat → Int64) (j : Nat) : Option Int64 := if dg r - dg B ≤ j ∧ j < dg r then finO B r j else midO B r j
def remN (B : Nat → Int64) : Nat → (Nat → Int64) → Option (Nat → Int64)
  | 0, r => some r
  | n + 1, r => if dg r < dg B then some r else (rowS 7 (lowO B r)).bind (remN B n)
theorem absL_ne {b : Int64} (h : ¬ b = MINL) : ¬ absL b = MINL := by
  have h1 := l_rng b
  have h2 : ¬ b.toInt = -9223372036854775808 := fun q => h (l_min.mpr q)
  unfold absL
  split
  · exact h
  · intro q
    have q2 : (-b).toInt = -9223372036854775808 := l_min.mp q
    rw [Int64.toInt_neg, Int.bmod_eq_of_le (by omega) (by omega)] at q2
    omega
theorem neg_toL {b : Int64} (h : ¬ b = MINL) : (-b).toInt = -b.toInt := by
  have h1 := l_rng b
  have h2 : ¬ b.toInt = -9223372036854775808 := fun q => h (l_min.mpr q)
  rw [Int64.toInt_neg, Int.bmod_eq_of_le (by omega) (by omega)]
theorem neg_neL {b : Int64} (h : ¬ b = MINL) : ¬ -b = MINL := by
  have h1 := l_rng b
  intro q
  have q2 : (-b).toInt = -9223372036854775808 := l_min.mp q
  rw [neg_toL h] at q2
  omega
theorem absL_toInt {b : Int64} (h : ¬ b = MINL) : (absL b).toInt = (b.toInt.natAbs : Int) := by
  unfold absL
  split
  · rename_i q
    rw [l_lt, show (0 : Int64).toInt = 0 from rfl] at q
    omega
  · rename_i q
    rw [l_lt, show (0 : Int64).toInt = 0 from rfl] at q
    rw [neg_toL h]; omega
theorem sgL_ne {b p : Int64} (h : ¬ p = MINL) : ¬ sgL b p = MINL := by
  unfold sgL
  split
  · exact h
  · exact neg_neL h
theorem sgL_min (b : Int64) : sgL b MINL = MINL := by unfold sgL; split <;> decide
theorem midO_ne {B r : Nat → Int64} {j : Nat} {v : Int64} (h : midO B r j = some v) : ¬ v = MINL := xt_ne h
theorem finO_ne {B r : Nat → Int64} {j : Nat} {v : Int64} (h : finO B r j = some v) : ¬ v = MINL := by
  unfold finO at h
  rw [Option.bind_eq_some_iff] at h
  obtain ⟨x, _, h⟩ := h
  rw [Option.bind_eq_some_iff] at h
  obtain ⟨p, _, h⟩ := h
  exact xs_ne h
theorem lowO_ne {B r : Nat → Int64} {j : Nat} {v : Int64} (h : lowO B r j = some v) : ¬ v = MINL := by
  unfold lowO at h
  split at h
  · exact finO_ne h
  · exact midO_ne h
theorem opt2_t {a b : Int64} (ha : ¬ a = MINL) (hb : ¬ b = MINL) (f : Int64 → Int64 → Option Int64) : opt2 f a b = f a b := by
  unfold opt2
  rw [if_neg (fun q => q.elim ha hb)]
/-- what the class puts into a place in the end -/
theorem fin_enc {B r : Nat → Int64} {j : Nat} (h1 : ¬ r (dg r - 1) = MINL) (h2 : ¬ B (j - (dg r - dg B)) = MINL) : encO (opt2 xs (encO (midO B r j)) (sgL (B (dg B - 1)) (encO (opt2 xt (r (dg r - 1)) (B (j - (dg r - dg B))))))) = encO (finO B r j) := by
  rw [opt2_t h1 h2]
  unfold finO
  cases hm : midO B r j with
  | none =>
    show encO (opt2 xs MINL _) = MINL
    unfold opt2
    rw [if_pos (Or.inl rfl)]; rfl
  | some x =>
    cases hp : xt (r (dg r - 1)) (B (j - (dg r - dg B))) with
    | none =>
      show encO (opt2 xs x (sgL _ MINL)) = MINL
      rw [sgL_min]
      unfold opt2
      rw [if_pos (Or.inr rfl)]; rfl
    | some p =>
      show encO (opt2 xs x (sgL (B (dg B - 1)) p)) = encO (xs x (sgL (B (dg B - 1)) p))
      rw [opt2_t (midO_ne hm) (sgL_ne (xt_ne hp))]
theorem e_lower {μ : ZMem} {k2 : Nat} {B r : Nat → Int64} (hk : k2 ≠ 49) (hB : ∀ j, j < 7 → μ.2 k2 j = B j ∧ ¬ B j = MINL) (hr : ∀ j, j < 7 → μ.2 49 j = r j ∧ ¬ r j = MINL) (h0 : 1 ≤ dg B) (hd : dg B ≤ dg r) {Φ : ZMem → Prop} (h : ∀ c, (∀ j, j < 7 → c j = encO (lowO B r j)) → Φ (stJ μ 49 c)) : w_X0_lower (hd7 r) k2 7 (hd7 B) μ Φ := by
  have dB := dg_le B
  have dr := dg_le r
  have eh : hd7 r = nI (dg r - 1) := hd_I (by omega)
  have el : hd7 B = nI (dg B - 1) := hd_I (by omega)
  unfold w_X0_lower
  rw [eh, el, nn_clamp (by omega)]
  refine ⟨vp_in_nI (by omega) (by omega), nm_b ?_⟩
  rw [(hr (dg r - 1) (by omega)).1]
  refine nm_b ⟨7 + 1, lp2_inv 7 (fun i b => ∃ c, b = stJ μ 49 c ∧ ∀ j, j < 7 → c j = if j < i then encO (midO B r j) else r j) (fun i b K hi hI hK => ?_) (fun b K hI => ?_) 7 0 μ (by omega) ⟨μ.2 49, (stJ_self μ 49).symm, fun j hj => by rw [if_neg (by omega)]; exact (hr j hj).1⟩⟩
  · obtain ⟨c, rfl, hc⟩ := hI
    unfold b_X0_lower_11
    have hv := vp_in_nI (n := i) (N := 7) hi (by omega)
    have eB : (stJ μ 49 c).2 k2 (dg B - 1) = B (dg B - 1) := by rw [stJ_ne hk]; exact (hB _ (by omega)).1
    rw [show (7 : Int32) = nI 7 from rfl, n_le (by omega) (by omega), nI_1, nn_clamp (by omega), nn_clamp (by omega), stJ_eq, eB]
    refine zif_f (by omega) ⟨hv, vp_in_nI (by omega) (by omega), (e_times _ _ _).mpr ⟨hv, nm_b (hK _ ⟨vp_updL c i (encO (midO B r i)), ?_, fun j hj => ?_⟩)⟩⟩
    · rw [upJ_st, stJ_stJ, stJ_eq]
      have : encO (opt2 xt (c i) (if 0 < B (dg B - 1) then B (dg B - 1) else -B (dg B - 1))) = encO (midO B r i) := by
        have eab : (if 0 < B (dg B - 1) then B (dg B - 1) else -B (dg B - 1)) = absL (B (dg B - 1)) := rfl
        rw [eab, hc i hi, if_neg (by omega), opt2_t (hr i hi).2 (absL_ne (hB _ (by omega)).2)]
        rfl
      rw [this]
    · rw [updL_at]
      by_cases e : j = i
      · rw [if_pos e, if_pos (by omega), e]
      · rw [if_neg e, hc j hj]
        by_cases e2 : j < i
        · rw [if_pos e2, if_pos (by omega)]
        · rw [if_neg e2, if_neg (by omega)]
  · obtain ⟨c, rfl, hc⟩ := hI
    unfold b_X0_lower_11
    refine zif_t (by decide) (nm_b ?_)
    rw [pk_sub (by omega)]
    refine ⟨dg B + 1, lp2_inv (dg B) (fun i b => ∃ c, b = stJ μ 49 c ∧ ∀ j, j < 7 → c j = if dg r - dg B ≤ j ∧ j < dg r - dg B + i then encO (finO B r j) else encO (midO B r j)) (fun i b K hi hI hK => ?_) (fun b K hI => ?_) (dg B) 0 _ (by omega) ⟨c, rfl, fun j hj => by rw [if_neg (by omega), hc j hj, if_pos hj]⟩⟩
    · obtain ⟨c, rfl, hc⟩ := hI
      unfold b_X0_lower_55
      have hv := vp_in_nI (n := i) (N := 7) (by omega) (by omega)
      have eB : ∀ s, (stJ μ 49 c).2 k2 s = μ.2 k2 s := fun s => by rw [stJ_ne hk]
      rw [n_lt (by omega) (by omega), nI_1, nI_add, nn_clamp (by omega), nn_clamp (by omega), nn_clamp (by omega), stJ_eq, eB, eB, (hB i (by omega)).1, (hB (dg B - 1) (by omega)).1]
      refine zif_f (by omega) ⟨hv, (e_times _ _ _).mpr ⟨vp_in_nI (by omega) (by omega), vp_in_nI (by omega) (by omega), ?_⟩⟩
      refine nm_k (fun x => x = sgL (B (dg B - 1)) (encO (opt2 xt (r (dg r - 1)) (B i)))) (fun J hJ => zif (fun q => hJ _ (by unfold sgL; rw [if_pos q])) (fun q => hJ _ (by unfold sgL; rw [if_neg q]))) ?_
      rintro x rfl
      refine (e_less _ _ _).mpr ⟨vp_in_nI (by omega) (by omega), nm_b (hK _ ⟨vp_updL c (i + (dg r - 1 - (dg B - 1))) (encO (finO B r (i + (dg r - 1 - (dg B - 1))))), ?_, fun j hj => ?_⟩)⟩
      · rw [upJ_st, stJ_stJ, stJ_eq, hc _ (by omega), if_neg (by omega)]
        have fe := fin_enc (B := B) (r := r) (j := i + (dg r - 1 - (dg B - 1))) (hr _ (by omega)).2 (hB _ (by omega)).2
        rw [show i + (dg r - 1 - (dg B - 1)) - (dg r - dg B) = i by omega] at fe
        rw [fe]
      · rw [updL_at]
        by_cases e : j = i + (dg r - 1 - (dg B - 1))
        · rw [if_pos e, if_pos (by omega), e]
        · rw [if_neg e, hc j hj]
          by_cases e2 : dg r - dg B ≤ j ∧ j < dg r - dg B + i
          · rw [if_pos e2, if_pos (by omega)]
          · rw [if_neg e2, if_neg (by omega)]
    · obtain ⟨c, rfl, hc⟩ := hI
      unfold b_X0_lower_55
      refine zif_t (by rw [n_lt (by omega) (by omega)]; omega) (h c (fun j hj => ?_))
      rw [hc j hj]
      unfold lowO
      by_cases e2 : dg r - dg B ≤ j ∧ j < dg r - dg B + dg B
      · rw [if_pos e2, if_pos (by omega)]
      · rw [if_neg e2, if_neg (by omega)]
theorem rowS_ok {f : Nat → Option Int64} {q : Nat → Int64} (h : rowS 7 f = some q) (j : Nat) (hj : j < 7) : f j = some (q j) := by
  rcases rowS_cases 7 f with ⟨i, hi, hn⟩ | ha
  · rw [rowS_no hi hn] at h; cases h
  · rw [rowS_all ha] at h
    obtain ⟨v, hv⟩ := ha j hj
    have := Option.some.inj h
    rw [← this, getR_at hj hv]; exact hv
theorem rowS_none {f : Nat → Option Int64} (h : rowS 7 f = none) : ∃ j, j < 7 ∧ f j = none := by
  rcases rowS_cases 7 f with q | ha
  · exact q
  · rw [rowS_all ha] at h; cases h
/-- a division under way in the class -/
def dvX (μ : ZMem) (o : Option (Nat → Int64)) (b : ZMem) : Prop := (∃ c, b.2 = (stJ μ 49 c).2 ∧ ∀ q, o = some q → ∀ j, j < 7 → c j = q j) ∧ (∀ a s, ¬ (a = 40 ∧ s = 3) → b.1 a s = μ.1 a s) ∧ ((∃ q, o = some q) → b.1 40 3 = 0) ∧ (o = none → b.1 40 3 = 1)
theorem hd_le {A B : Nat → Int64} : (hd7 B ≤ hd7 A) = (dg B ≤ dg A) := by
  apply propext
  unfold hd7
  rw [i_le, hd_toInt (dg_le A), hd_toInt (dg_le B)]; omega
theorem remN_ne {B : Nat → Int64} : ∀ n r q, (∀ j, j < 7 → ¬ r j = MINL) → remN B n r = some q → ∀ j, j < 7 → ¬ q j = MINL := by
  intro n
  induction n with
  | zero => intro r q hr h j hj; cases h; exact hr j hj
  | succ n ih =>
    intro r q hr h j hj
    rw [remN] at h
    split at h
    · cases h; exact hr j hj
    · rw [Option.bind_eq_some_iff] at h
      obtain ⟨x, h1, h2⟩ := h
      exact ih x q (fun j hj => lowO_ne (rowS_ok h1 j hj)) h2 j hj
theorem e_divLoop {μ : ZMem} {k2 : Nat} {B : Nat → Int64} (hk : k2 ≠ 49) (hB : ∀ j, j < 7 → μ.2 k2 j = B j ∧ ¬ B j = MINL) (h0 : 1 ≤ dg B) {Φ : ZMem → Prop} : ∀ n i (o : Option (Nat → Int64)) (b : ZMem), i + n = 7 → dvX μ o b → (∀ q, o = some q → ∀ j, j < 7 → ¬ q j = MINL) → (∀ b', dvX μ (o.bind (remN B n)) b' → Φ b') → lpz2 (b_X0_divide_20 Φ (hd7 B) k2 7) (n + 1) (nI i) b := by
  have hnB : ¬ hd7 B < 0 := by
    have := dg_le B
    unfold hd7
    rw [i_lt0, hd_toInt this]; omega
  intro n
  induction n with
  | zero =>
    intro i o b hi hb _ h
    rw [lpz2]
    dsimp only
    unfold b_X0_divide_20
    refine zif_t (by rw [show (7 : Int32) = nI 7 from rfl, n_le (by omega) (by omega)]; omega) (h b ?_)
    cases o with
    | none => exact hb
    | some r => exact hb
  | succ n ih =>
    intro i o b hi hb hne h
    rw [lpz2]
    dsimp only
    generalize hL : lpz2 (b_X0_divide_20 Φ (hd7 B) k2 7) (n + 1) = L
    unfold b_X0_divide_20
    rw [show (7 : Int32) = nI 7 from rfl, n_le (by omega) (by omega)]
    refine zif_f (by omega) ?_
    cases o with
    | none =>
      refine zifn_f (by rw [hb.2.2.2 rfl]; decide) (h b hb)
    | some r =>
      obtain ⟨⟨c, c1, c2⟩, f, g0, _⟩ := hb
      have hr := hne r rfl
      have cr := c2 r rfl
      refine zifn_t (g0 ⟨r, rfl⟩) (e_highest ?_)
      have e49 : b.2 49 = c := by rw [c1, stJ_eq]
      have ehr : hd7 (b.2 49) = hd7 r := by rw [e49]; unfold hd7; rw [dg_congr cr]
      rw [ehr]
      refine zif_f hnB ?_
      rw [hd_le]
      have hrem : (some r : Option (Nat → Int64)).bind (remN B (n + 1)) = if dg r < dg B then some r else (rowS 7 (lowO B r)).bind (remN B n) := rfl
      rw [hrem] at h
      refine zif (fun q => ?_) (fun q => ?_)
      · rw [if_neg (by omega)] at h
        have hB' : ∀ j, j < 7 → b.2 k2 j = B j ∧ ¬ B j = MINL := fun j hj => by
          rw [c1, stJ_ne hk]; exact hB j hj
        refine e_lower (B := B) (r := r) hk hB' (fun j hj => ⟨by rw [e49]; exact cr j hj, hr j hj⟩) h0 q (fun c' hc' => ?_)
        have f2 : ∀ (x : Int32), ∀ a s, ¬ (a = 40 ∧ s = 3) → (zz_upI (stJ b 49 c') 40 3 x).1 a s = μ.1 a s := fun x a s hs => by
          rw [mI1]
          by_cases e : a = 40
          · rw [if_pos e, upd_at, if_neg (fun z => hs ⟨e, z⟩)]
            rw [← e]; exact f a s hs
          · rw [if_neg e]; exact f a s hs
        have m2 : (stJ b 49 c').2 = (stJ μ 49 c').2 := by
          funext a
          show (if a = 49 then c' else b.2 a) = if a = 49 then c' else μ.2 a
          by_cases e : a = 49
          · rw [if_pos e, if_pos e]
          · rw [if_neg e, if_neg e, c1, stJ_ne e]
        refine e_isGreat (by omega) (fun hg => ⟨Or.inr rfl, nm_b ?_⟩) (fun hg => ⟨Or.inl rfl, nm_b ?_⟩)
        · rw [nI_1, ← hL]
          obtain ⟨j, j1, j2⟩ := hg
          rw [stJ_eq, hc' j j1] at j2
          have hn : lowO B r j = none := (encO_ne (fun v => lowO_ne)).mp j2
          rw [rowS_no j1 hn] at h
          refine ih (i + 1) none _ (by omega) ⟨⟨c', m2, fun q hq => by cases hq⟩, f2 1, fun z => ?_, fun _ => ?_⟩ (fun q hq => by cases hq) h
          · obtain ⟨q, hq⟩ := z; cases hq
          · rw [mI1, if_pos rfl, upd_at, if_pos rfl]
        · rw [nI_1, ← hL]
          cases hS : rowS 7 (lowO B r) with
          | none =>
            obtain ⟨j, j1, j2⟩ := rowS_none hS
            have := hg j j1
            rw [stJ_eq, hc' j j1, j2] at this
            exact absurd rfl this
          | some w =>
            rw [hS] at h
            refine ih (i + 1) (some w) _ (by omega) ⟨⟨c', m2, fun q hq => ?_⟩, f2 0, fun _ => ?_, fun z => by cases z⟩ (fun q hq => ?_) h
            · intro j hj
              rw [← Option.some.inj hq, hc' j hj, rowS_ok hS j hj]; rfl
            · rw [mI1, if_pos rfl, upd_at, if_pos rfl]
            · intro j hj
              rw [← Option.some.inj hq]
              exact lowO_ne (rowS_ok hS j hj)
      · rw [if_pos (by omega)] at h
        exact h b ⟨⟨c, c1, c2⟩, f, g0, fun z => by cases z⟩
theorem e_divide {μ : ZMem} {k1 k2 : Nat} {A B : Nat → Int64} (hk : k2 ≠ 49) (hA : ∀ j, j < 7 → μ.2 k1 j = A j ∧ ¬ A j = MINL) (hB : ∀ j, j < 7 → μ.2 k2 j = B j ∧ ¬ B j = MINL) (h0 : 1 ≤ dg B) (h3 : μ.1 40 3 = 0) {Φ : ZMem → Prop} (h : ∀ b', dvX μ (remN B 7 A) b' → Φ b') : w_X0_divide k1 7 k2 7 μ Φ := by
  unfold w_X0_divide
  refine ⟨⟨by decide, by decide, by decide, by omega, by omega⟩, nm_b (e_highest ?_)⟩
  have e2 : (zz_cpJ μ k1 49 0 0 7).2 k2 = μ.2 k2 := by rw [mcJ2, if_neg hk]
  have ed : hd7 ((zz_cpJ μ k1 49 0 0 7).2 k2) = hd7 B := by
    rw [e2]
    unfold hd7
    rw [dg_congr (fun j hj => (hB j hj).1)]
  rw [ed]
  refine ⟨7 + 1, e_divLoop (μ := μ) hk hB h0 7 0 (some A) _ (by omega) ⟨⟨va_cpy (μ.2 k1) (μ.2 49) 0 0 7, ?_, fun q hq j hj => ?_⟩, fun a s _ => rfl, fun _ => h3, fun z => by cases z⟩ (fun q hq j hj => ?_) h⟩
  · funext a
    show (if a = 49 then _ else μ.2 a) = if a = 49 then _ else μ.2 a
    rfl
  · rw [← Option.some.inj hq]
    unfold va_cpy
    rw [if_pos (by omega), show 0 + (j - 0) = j by omega]
    exact (hA j hj).1
  · rw [← Option.some.inj hq]
    exact (hA j hj).2
