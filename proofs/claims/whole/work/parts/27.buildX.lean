/-! the class's rows, all of them -/
theorem nm_k {α : Type} {R : α → Prop} {G : (α → Prop) → Prop} (S : α → Prop) (h1 : ∀ J : α → Prop, (∀ x, S x → J x) → G J) (h2 : ∀ x, S x → R x) : nm R G := h1 R h2
theorem nm_k2 {α β : Type} {R : α → β → Prop} {G : (α → β → Prop) → Prop} (S : α → β → Prop) (h1 : ∀ J : α → β → Prop, (∀ x y, S x y → J x y) → G J) (h2 : ∀ x y, S x y → R x y) : nm R G := h1 R h2
theorem n_le {a b : Nat} (ha : a < 2 ^ 31) (hb : b < 2 ^ 31) : nI a ≤ nI b ↔ a ≤ b := by rw [i_le, nI_toInt ha, nI_toInt hb]; omega
theorem n_lt {a b : Nat} (ha : a < 2 ^ 31) (hb : b < 2 ^ 31) : nI a < nI b ↔ a < b := by rw [i_lt, nI_toInt ha, nI_toInt hb]; omega
def preO (F : Nat → Int64) (m k : Nat) (A B : Nat → Int64) (j : Nat) : Option Int64 := if k < 2 then some (F (m - k - 2 * j)) else crossIt A B j
def stepR (F : Nat → Int64) (m k : Nat) (A B : Nat → Int64) : Option (Nat → Int64) := (preR F m k A B).bind fun r => (mendR m k B r).map (shr (wd m k))
def stepC (F : Nat → Int64) (m k : Nat) (A B : Nat → Int64) : Int32 := if k = 0 then 0 else match preR F m k A B with
  | none => 0
  | some r => csZ (wd m k) (fz r (wd m k))
theorem rowS_all {w : Nat} {f : Nat → Option Int64} (h : ∀ j, j < w → ∃ v, f j = some v) : rowS w f = some (getR w f) := by
  unfold rowS
  rw [if_pos]
  unfold allS
  rw [List.all_eq_true]
  intro j hj
  obtain ⟨v, hv⟩ := h j (List.mem_range.mp hj)
  rw [hv]; rfl
theorem rowS_no {w j : Nat} {f : Nat → Option Int64} (hj : j < w) (h : f j = none) : rowS w f = none := by
  unfold rowS
  rw [if_neg]
  unfold allS
  rw [List.all_eq_true]
  intro q
  have := q j (List.mem_range.mpr hj)
  rw [h] at this
  cases this
theorem rowS_cases (w : Nat) (f : Nat → Option Int64) : (∃ j, j < w ∧ f j = none) ∨ (∀ j, j < w → ∃ v, f j = some v) := by
  by_cases h : ∃ j, j < w ∧ f j = none
  · exact Or.inl h
  · refine Or.inr fun j hj => ?_
    cases e : f j with
    | none => exact absurd ⟨j, hj, e⟩ h
    | some v => exact ⟨v, rfl⟩
theorem getR_at {w j : Nat} {f : Nat → Option Int64} {v : Int64} (hj : j < w) (h : f j = some v) : getR w f j = v := by
  unfold getR cut
  rw [if_pos hj]
  show (f j).getD 0 = v
  rw [h]; rfl
theorem getR_ge {w j : Nat} {f : Nat → Option Int64} (hj : w ≤ j) : getR w f j = 0 := by
  unfold getR cut
  rw [if_neg (by omega)]
theorem preR_eq (F : Nat → Int64) (m k : Nat) (A B : Nat → Int64) : preR F m k A B = rowS (wd m k) (preO F m k A B) := by
  unfold preR
  split
  · rename_i h
    rw [rowS_all (f := preO F m k A B) (fun j _ => ⟨F (m - k - 2 * j), if_pos h⟩)]
    unfold getR preO
    simp only [if_pos h]
    rfl
  · rename_i h
    congr 1
    funext j
    unfold preO
    rw [if_neg h]
theorem crossIt_ne {A B : Nat → Int64} {j : Nat} {v : Int64} (h : crossIt A B j = some v) : ¬ v = MINL := by
  unfold crossIt at h
  rw [Option.bind_eq_some_iff] at h
  obtain ⟨x, _, h⟩ := h
  rw [Option.bind_eq_some_iff] at h
  obtain ⟨y, _, h⟩ := h
  rw [Option.map_eq_some_iff] at h
  obtain ⟨u, hu, h⟩ := h
  rw [← h]
  split
  · exact neg_ne (xs_ne hu)
  · exact xs_ne hu
theorem preO_ne {F : Nat → Int64} {m k : Nat} {A B : Nat → Int64} {j : Nat} {v : Int64} (hm : m ≤ 6) (hF : ∀ i, i < 7 → ¬ F i = MINL) (h : preO F m k A B j = some v) : ¬ v = MINL := by
  unfold preO at h
  split at h
  · cases h; exact hF _ (by omega)
  · exact crossIt_ne h
theorem mendIt_ne {m k w z : Nat} {A r : Nat → Int64} {j : Nat} {v : Int64} (hr : ¬ r j = MINL) (h : mendIt m k w z A r j = some v) : ¬ v = MINL := by
  unfold mendIt at h
  split at h
  · cases h; exact hr
  · split at h
    · exact xt_ne h
    · split at h
      · exact xp_ne h
      · cases h; exact hr
theorem l_div_ne {x : Int64} {n : Nat} (hx : ¬ x = MINL) : ¬ x / lN n = MINL := by
  intro q
  have h1 := congrArg Int64.toInt q
  have h2 : MINL.toInt = -9223372036854775808 := by decide
  have h3 : ¬ x.toInt = -9223372036854775808 := fun z => hx (l_min.mpr z)
  have h4 := l_rng x
  rw [Int64.toInt_div, h2] at h1
  have h5 : (x.toInt.tdiv (lN n).toInt).natAbs ≤ x.toInt.natAbs := by rw [Int.natAbs_tdiv]; exact Nat.div_le_self _ _
  rw [l_bm (by omega) (by omega)] at h1
  omega
theorem l_zdiv (x : Int64) : (0 : Int64) / x = 0 := by
  apply Int64.toInt_inj.mp
  rw [Int64.toInt_div]
  simp
theorem shr_ne {w : Nat} {r : Nat → Int64} (h : ∀ j, j < w → ¬ r j = MINL) (j : Nat) : ¬ shr w r j = MINL := by
  unfold shr cut
  split
  · exact l_div_ne (h j ‹_›)
  · decide
theorem gcdN_ext {f g : Nat → Int64} {w : Nat} (h1 : ∀ j, j < w → f j = g j) : ∀ d, (∀ j, w ≤ j → j < w + d → f j = 0) → gcdN f (w + d) = gcdN g w := by
  intro d
  induction d with
  | zero =>
    intro _
    have : ∀ n, n ≤ w → gcdN f n = gcdN g n := by
      intro n
      induction n with
      | zero => intro _; rfl
      | succ n ih => intro hn; rw [gcdN, gcdN, ih (by omega), h1 n (by omega)]
    exact this w (Nat.le_refl w)
  | succ d ih =>
    intro h2
    rw [show w + (d + 1) = (w + d) + 1 from rfl, gcdN, ih (fun j a b => h2 j a (by omega)), h2 (w + d) (by omega) (by omega)]
    show Nat.gcd _ ((0 : Int64).toInt.natAbs) = _
    rw [show ((0 : Int64).toInt.natAbs) = 0 from rfl, Nat.gcd_zero_right]
theorem stepR_ne {F : Nat → Int64} {m k : Nat} {A B r : Nat → Int64} (hm : m ≤ 6) (hF : ∀ i, i < 7 → ¬ F i = MINL) (h : stepR F m k A B = some r) (j : Nat) : ¬ r j = MINL := by
  unfold stepR at h
  rw [preR_eq] at h
  rcases rowS_cases (wd m k) (preO F m k A B) with ⟨i, hi, hn⟩ | ha
  · rw [rowS_no hi hn] at h; cases h
  · rw [rowS_all ha, Option.bind_some, Option.map_eq_some_iff] at h
    obtain ⟨q, hq, h⟩ := h
    rw [← h]
    have hp : ∀ i, i < wd m k → ¬ getR (wd m k) (preO F m k A B) i = MINL := by
      intro i hi
      obtain ⟨v, hv⟩ := ha i hi
      rw [getR_at hi hv]
      exact preO_ne hm hF hv
    refine shr_ne (fun i hi => ?_) j
    unfold mendR at hq
    split at hq
    · cases hq; exact hp i hi
    · rcases rowS_cases (wd m k) (mendIt m k (wd m k) (fz (getR (wd m k) (preO F m k A B)) (wd m k)) B (getR (wd m k) (preO F m k A B))) with ⟨i', hi', hn⟩ | hb
      · rw [rowS_no hi' hn] at hq; cases hq
      · rw [rowS_all hb] at hq
        cases hq
        obtain ⟨v, hv⟩ := hb i hi
        rw [getR_at hi hv]
        exact mendIt_ne (hp i hi) hv
theorem opt2_l {f : Int64 → Int64 → Option Int64} {b : Int64} : opt2 f MINL b = none := if_pos (Or.inl rfl)
/-- what step k of the building makes of the row -/
def stepX (F : Nat → Int64) (m k : Nat) (A B : Nat → Int64) : Nat → Int64 := cut (wd m k) fun j => encO (preO F m k A B j)
theorem stepX_no {F : Nat → Int64} {m k : Nat} {A B C old : Nat → Int64} (hm : m ≤ 6) (hk : k ≤ m) (hF : ∀ i, i < 7 → ¬ F i = MINL) {j : Nat} (hj : j < wd m k) (hn : preO F m k A B j = none) : mendX m k C (ovr 4 (stepX F m k A B) old) j = MINL := by
  have hw := wd_le hm hk
  have he : ∀ i, i < wd m k → ovr 4 (stepX F m k A B) old i = encO (preO F m k A B i) := by
    intro i hi
    rw [ovr_lt (by omega)]
    unfold stepX cut
    rw [if_pos hi]
  have hj2 : ovr 4 (stepX F m k A B) old j = MINL := by rw [he j hj, hn]; rfl
  generalize hr : ovr 4 (stepX F m k A B) old = r at hj2
  unfold mendX
  rw [if_pos hj]
  have hz : fz r (wd m k) ≤ j := by
    by_cases q : fz r (wd m k) ≤ j
    · exact q
    · have := fz_z (r := r) (w := wd m k) (j := j) (by omega)
      rw [hj2] at this
      exact absurd this (by decide)
  split
  · exact hj2
  · rw [if_neg (by omega)]
    split
    · rw [hj2, opt2_l]; rfl
    · exact hj2
theorem stepX_yes {F : Nat → Int64} {m k : Nat} {A B C old : Nat → Int64} (hm : m ≤ 6) (hk : k ≤ m) (hF : ∀ i, i < 7 → ¬ F i = MINL) (hC : ∀ j, j < 4 → C j = B j ∧ ¬ B j = MINL) (ha : ∀ j, j < wd m k → ∃ v, preO F m k A B j = some v) (j : Nat) (hj : j < 4) :
    mendX m k C (ovr 4 (stepX F m k A B) old) j = if j < wd m k then encO (mendIt m k (wd m k) (fz (getR (wd m k) (preO F m k A B)) (wd m k)) B (getR (wd m k) (preO F m k A B)) j) else 0 := by
  have hw := wd_le hm hk
  have he : ∀ i, i < wd m k → ovr 4 (stepX F m k A B) old i = getR (wd m k) (preO F m k A B) i := by
    intro i hi
    rw [ovr_lt (by omega)]
    obtain ⟨v, hv⟩ := ha i hi
    unfold stepX cut
    rw [if_pos hi, getR_at hi hv]
    show encO (preO F m k A B i) = v
    rw [hv]; rfl
  have hne : ∀ i, i < wd m k → ¬ getR (wd m k) (preO F m k A B) i = MINL := by
    intro i hi
    obtain ⟨v, hv⟩ := ha i hi
    rw [getR_at hi hv]
    exact preO_ne hm hF hv
  have hz : fz (ovr 4 (stepX F m k A B) old) (wd m k) = fz (getR (wd m k) (preO F m k A B)) (wd m k) := fz_congr he
  unfold mendX
  rw [hz]
  split
  · rename_i hjw
    rw [he j hjw]
    unfold mendIt
    split
    · rfl
    · split
      · rw [(hC j hj).1]
      · split
        · rename_i h3
          rw [he _ h3]
          rw [opt2_eq (hne j hjw)]
          split
          · exact neg_ne (hne _ h3)
          · exact hne _ h3
        · rfl
  · rename_i hjw
    rw [ovr_lt hj]
    unfold stepX cut
    rw [if_neg hjw]
/-- what step k of the building may change -/
def frS (t k : Nat) (μ μ' : ZMem) : Prop := (∀ a s, ¬ (a = t ∧ s = 6) → ¬ (a = t + 11 ∧ s = k) → μ'.1 a s = μ.1 a s) ∧ (∀ a, a ≠ t + 4 + k → μ'.2 a = μ.2 a)
theorem frS_of {t k : Nat} {μ : ZMem} {x y : Int32} {f : Nat → Int64} : frS t k μ (zz_upI (zz_upI (stJ μ (t + 4 + k) f) (t + 11) k x) t 6 y) := by
  refine ⟨fun a s h1 h2 => ?_, fun a h => ?_⟩
  · rw [mI1, mI1, mI1, stJ1]
    by_cases e : a = t
    · subst e
      rw [if_pos rfl, if_neg (by omega)]
      exact if_neg (fun q => h1 ⟨rfl, q⟩)
    · rw [if_neg e]
      by_cases e2 : a = t + 11
      · subst e2
        rw [if_pos rfl]
        exact if_neg (fun q => h2 ⟨rfl, q⟩)
      · rw [if_neg e2]
  · rw [mI2, mI2, stJ_ne h]
theorem frS_ofJ {t k : Nat} {μ μ' : ZMem} {f : Nat → Int64} (h : frS t k μ μ') : frS t k μ (stJ μ' (t + 4 + k) f) := ⟨h.1, fun a ha => by rw [stJ_ne ha]; exact h.2 a ha⟩

theorem e_stepX {μ : ZMem} {t m k : Nat} {F A B : Nat → Int64} (hm : m ≤ 6) (hk : k ≤ m) (ht : μ.1 t 4 = nI m) (h6 : μ.1 t 6 = 0) (hF : ∀ j, j < 7 → μ.2 (t + 1) j = F j ∧ ¬ F j = MINL) (hB : 1 ≤ k → ∀ j, j < 4 → μ.2 (t + 4 + (k - 1)) j = B j ∧ ¬ B j = MINL) (hA : 2 ≤ k → ∀ j, j < 4 → μ.2 (t + 4 + (k - 2)) j = A j ∧ ¬ A j = MINL) {Φ : ZMem → Prop} {K : Int32 → ZMem → Prop}
    (h : ∀ μ', frS t k μ μ' → (stepR F m k A B = none → μ'.1 t 6 = 1) → (∀ r, stepR F m k A B = some r → μ'.1 t 6 = 0 ∧ (∀ j, j < 4 → μ'.2 (t + 4 + k) j = r j) ∧ μ'.1 (t + 11) k = stepC F m k A B) → K (nI (k + 1)) μ') : b_X8_build_7 t Φ (nI k) μ K := by
  have hw := wd_le hm hk
  have hFn : ∀ j, j < 7 → ¬ F j = MINL := fun j hj => (hF j hj).2
  have hvk := vp_in_nI (n := k) (N := 7) (by omega) (by omega)
  unfold b_X8_build_7
  rw [ht]
  refine zif_f (by rw [n_lt (by omega) (by omega)]; omega) (zifn_t h6 ?_)
  generalize hE : ovr 4 (stepX F m k A B) (μ.2 (t + 4 + k)) = E
  refine nm_k (fun μ1 => μ1 = stJ μ (t + 4 + k) E) (fun J hJ => ?_) ?_
  · refine zif (fun h2 => ?_) (fun h2 => ?_)
    · have hk2 : 2 ≤ k := by rw [show (2 : Int32) = nI 2 from rfl, n_le (by omega) (by omega)] at h2; exact h2
      obtain ⟨c, rfl⟩ : ∃ c, k = c + 2 := ⟨k - 2, by omega⟩
      have hA' := hA (by omega)
      have hB' := hB (by omega)
      rw [show c + 2 - 2 = c from rfl] at hA'
      rw [show c + 2 - 1 = c + 1 from rfl] at hB'
      refine e_crossRow (m := m) hm hk ht (fun j hj => by rw [(hA' j hj).1]; exact (hA' j hj).2) (fun j hj => by rw [(hB' j hj).1]; exact (hB' j hj).2) (hJ _ ?_)
      rw [← hE]
      congr 1
      funext j
      unfold ovr
      split
      · unfold stepX cut
        split
        · have hw2 := wd_le2 (m := m) (k := c + 2) hm (by omega)
          show encO (crossIt _ _ j) = encO (preO F m (c + 2) A B j)
          unfold preO
          rw [if_neg (by omega)]
          unfold crossIt
          rw [(hA' 0 (by omega)).1, (hB' 0 (by omega)).1, (hA' (j + 1) (by omega)).1, (hB' (j + 1) (by omega)).1]
        · rfl
      · rfl
    · have hk2 : k < 2 := by rw [show (2 : Int32) = nI 2 from rfl, n_le (by omega) (by omega)] at h2; omega
      refine e_takeRow (m := m) hm hk ht (hJ _ ?_)
      rw [← hE]
      congr 1
      funext j
      unfold ovr
      split
      · unfold stepX cut
        split
        · show μ.2 (t + 1) (m - k - 2 * j) = encO (preO F m k A B j)
          unfold preO
          rw [if_pos hk2, (hF _ (by omega)).1]
          rfl
        · rfl
      · rfl
  rintro μ1 rfl
  generalize hR : (if k = 0 then E else mendX m k (μ.2 (t + 4 + (k - 1))) E) = R
  refine nm_k2 (fun x μ2 => x = (if k = 0 then 0 else csZ (wd m k) (fz E (wd m k))) ∧ μ2 = stJ μ (t + 4 + k) R) (fun J hJ => ?_) ?_
  · refine zifn (fun h0 => ?_) (fun h0 => ?_)
    · have hk0 : ¬ k = 0 := fun q => h0 (by rw [q]; rfl)
      obtain ⟨c, rfl⟩ : ∃ c, k = c + 1 := ⟨k - 1, by omega⟩
      have hB' := hB (by omega)
      rw [show c + 1 - 1 = c from rfl] at hB' hR
      refine e_mendRow (m := m) hm hk (by rw [stJ1]; exact ht) (fun j hj => by rw [stJ_ne (by omega), (hB' j hj).1]; exact (hB' j hj).2) (hJ _ _ ⟨?_, ?_⟩)
      · rw [if_neg hk0, stJ_eq]
      · rw [stJ_stJ, stJ_eq, stJ_ne (by omega), ← hR, if_neg hk0]
    · have hk0 : k = 0 := by rw [show (0 : Int32) = nI 0 from rfl, nI_eq (by omega) (by omega)] at h0; exact h0
      exact hJ _ _ ⟨by rw [if_pos hk0], by rw [← hR, if_pos hk0]⟩
  rintro x μ2 ⟨hx, rfl⟩
  rw [nn_clamp (n := k) (by omega)]
  refine ⟨hvk, ?_⟩
  show vp_in (nI k) 7 ∧ _
  refine ⟨hvk, ?_⟩
  have hcell : ∀ j, (zz_upI (stJ μ (t + 4 + k) R) (t + 11) k x).2 (t + 4 + k) j = R j := fun j => by rw [mI2, stJ_eq]
  -- what the row is
  have bad : stepR F m k A B = none → ∃ i, i < 4 ∧ R i = MINL := by
    intro hn
    unfold stepR at hn
    rw [preR_eq] at hn
    rcases rowS_cases (wd m k) (preO F m k A B) with ⟨i, hi, hno⟩ | ha
    · have hk0 : ¬ k = 0 := by
        intro q
        unfold preO at hno
        rw [if_pos (by omega)] at hno
        cases hno
      refine ⟨i, by omega, ?_⟩
      rw [← hR, if_neg hk0, ← hE]
      exact stepX_no hm hk hFn hi hno
    · rw [rowS_all ha, Option.bind_some, Option.map_eq_none_iff] at hn
      unfold mendR at hn
      split at hn
      · cases hn
      · rename_i hk0
        rcases rowS_cases (wd m k) (mendIt m k (wd m k) (fz (getR (wd m k) (preO F m k A B)) (wd m k)) B (getR (wd m k) (preO F m k A B))) with ⟨i, hi, hno⟩ | hb
        · refine ⟨i, by omega, ?_⟩
          rw [← hR, if_neg hk0, ← hE, stepX_yes hm hk hFn (hB (by omega)) ha i (by omega), if_pos hi, hno]
          rfl
        · rw [rowS_all hb] at hn; cases hn
  have good : ∀ r, stepR F m k A B = some r → (∀ j, j < 4 → ¬ R j = MINL) ∧ (∀ j, j < 4 → R j / lN (gcdN R 4) = r j) ∧ x = stepC F m k A B := by
    intro r hr
    unfold stepR at hr
    rw [preR_eq] at hr
    rcases rowS_cases (wd m k) (preO F m k A B) with ⟨i, hi, hno⟩ | ha
    · rw [rowS_no hi hno] at hr; cases hr
    · have hc : x = stepC F m k A B := by
        rw [hx]
        unfold stepC
        rw [preR_eq, rowS_all ha]
        split
        · rfl
        · show _ = csZ (wd m k) (fz (getR (wd m k) (preO F m k A B)) (wd m k))
          rw [← hE]
          congr 1
          refine fz_congr fun i hi => ?_
          rw [ovr_lt (by omega)]
          obtain ⟨v, hv⟩ := ha i hi
          unfold stepX cut
          rw [if_pos hi, getR_at hi hv]
          show encO (preO F m k A B i) = v
          rw [hv]; rfl
      rw [rowS_all ha, Option.bind_some, Option.map_eq_some_iff] at hr
      obtain ⟨q, hq, hr⟩ := hr
      have hp : ∀ i, i < wd m k → ¬ getR (wd m k) (preO F m k A B) i = MINL := by
        intro i hi
        obtain ⟨v, hv⟩ := ha i hi
        rw [getR_at hi hv]
        exact preO_ne hm hFn hv
      have hRq : (∀ j, j < wd m k → R j = q j ∧ ¬ q j = MINL) ∧ (∀ j, wd m k ≤ j → j < 4 → R j = 0) := by
        unfold mendR at hq
        split at hq
        · rename_i hk0
          cases hq
          rw [if_pos hk0] at hR
          rw [← hR, ← hE]
          refine ⟨fun j hj => ?_, fun j h1 h2 => ?_⟩
          · rw [ovr_lt (by omega)]
            refine ⟨?_, hp j hj⟩
            obtain ⟨v, hv⟩ := ha j hj
            unfold stepX cut
            rw [if_pos hj, getR_at hj hv]
            show encO (preO F m k A B j) = v
            rw [hv]; rfl
          · rw [ovr_lt h2]
            unfold stepX cut
            rw [if_neg (by omega)]
        · rename_i hk0
          rw [if_neg hk0] at hR
          rcases rowS_cases (wd m k) (mendIt m k (wd m k) (fz (getR (wd m k) (preO F m k A B)) (wd m k)) B (getR (wd m k) (preO F m k A B))) with ⟨i, hi, hno⟩ | hb
          · rw [rowS_no hi hno] at hq; cases hq
          · rw [rowS_all hb] at hq
            cases hq
            refine ⟨fun j hj => ?_, fun j h1 h2 => ?_⟩
            · obtain ⟨v, hv⟩ := hb j hj
              rw [← hR, ← hE, stepX_yes hm hk hFn (hB (by omega)) ha j (by omega), if_pos hj, getR_at hj hv, hv]
              exact ⟨rfl, mendIt_ne (hp j hj) hv⟩
            · rw [← hR, ← hE, stepX_yes hm hk hFn (hB (by omega)) ha j h2, if_neg (by omega)]
      refine ⟨fun j hj => ?_, fun j hj => ?_, hc⟩
      · by_cases hjw : j < wd m k
        · rw [(hRq.1 j hjw).1]; exact (hRq.1 j hjw).2
        · rw [hRq.2 j (by omega) hj]; decide
      · rw [← hr]
        have hg : gcdN R 4 = gcdN q (wd m k) := by
          have := gcdN_ext (f := R) (g := q) (w := wd m k) (fun j hj => (hRq.1 j hj).1) (4 - wd m k) (fun j a b => hRq.2 j a (by omega))
          rw [show wd m k + (4 - wd m k) = 4 by omega] at this
          exact this
        rw [hg]
        unfold shr cut
        split
        · rename_i hjw
          rw [(hRq.1 j hjw).1]; rfl
        · rename_i hjw
          rw [hRq.2 j (by omega) hj, l_zdiv]
  refine e_isGreat (n := 4) (by omega) (fun hb => ⟨Or.inr rfl, ?_⟩) (fun hb => ⟨Or.inl rfl, ?_⟩)
  · show (_ → _) ∧ (_ → _)
    have h61 : (zz_upI (zz_upI (stJ μ (t + 4 + k) R) (t + 11) k x) t 6 1).1 t 6 = 1 := by rw [mI1, if_pos rfl, upd_at, if_pos rfl]
    refine zifn_f (by rw [h61]; decide) ?_
    show K _ _
    rw [nI_1]
    refine h _ frS_of (fun _ => h61) (fun r hr => ?_)
    obtain ⟨i, hi, hbi⟩ := hb
    rw [hcell] at hbi
    exact absurd hbi ((good r hr).1 i hi)
  · show (_ → _) ∧ (_ → _)
    have h60 : (zz_upI (zz_upI (stJ μ (t + 4 + k) R) (t + 11) k x) t 6 0).1 t 6 = 0 := by rw [mI1, if_pos rfl, upd_at, if_pos rfl]
    have hcell2 : (zz_upI (zz_upI (stJ μ (t + 4 + k) R) (t + 11) k x) t 6 0).2 (t + 4 + k) = R := by rw [mI2, mI2, stJ_eq]
    refine zifn_t h60 ⟨hvk, e_shrink (n := 4) (by omega) (fun i hi => by rw [hcell2, ← hcell i]; exact hb i hi) ?_⟩
    show K _ _
    rw [nI_1, hcell2]
    refine h _ (frS_ofJ frS_of) (fun hn => ?_) (fun r hr => ⟨h60, fun j hj => ?_, ?_⟩)
    · obtain ⟨i, hi, hbi⟩ := bad hn
      exact absurd (by rw [hcell]; exact hbi) (hb i hi)
    · rw [stJ_eq, ovr_lt hj]
      exact (good r hr).2.1 j hj
    · rw [stJ1, mI1, if_neg (by omega), mI1, if_pos rfl, upd_at, if_pos rfl]
      exact (good r hr).2.2
