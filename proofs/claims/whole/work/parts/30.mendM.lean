/-! the reference's mending -/
def mendO (m k w z : Nat) (A r : Nat → Int64) (j : Nat) : Option Int64 := if k = 0 then some (r j) else mendIt m k w z A r j
theorem nm_b {α : Type} {e : α} {F : α → Prop} (h : F e) : nm e F := h
theorem xp_w (a b : Int64) : (zfit (a.toInt + b.toInt) = true ↔ xp a b ≠ none) ∧ ∀ v, xp a b = some v → a + b = v := by
  unfold xp
  by_cases e : zfit (a.toInt + b.toInt) = true
  · rw [if_pos e]; exact ⟨⟨fun _ => by simp, fun _ => e⟩, fun v hv => by cases hv; rfl⟩
  · rw [if_neg e]; exact ⟨⟨fun q => absurd q e, fun q => absurd rfl q⟩, fun v hv => by cases hv⟩
theorem xt_w (a b : Int64) : (zfit (a.toInt * b.toInt) = true ↔ xt a b ≠ none) ∧ ∀ v, xt a b = some v → a * b = v := by
  unfold xt
  by_cases e : zfit (a.toInt * b.toInt) = true
  · rw [if_pos e]; exact ⟨⟨fun _ => by simp, fun _ => e⟩, fun v hv => by cases hv; rfl⟩
  · rw [if_neg e]; exact ⟨⟨fun q => absurd q e, fun q => absurd rfl q⟩, fun v hv => by cases hv⟩
theorem mendR_yes {m k : Nat} {B r q : Nat → Int64} (h : mendR m k B r = some q) (j : Nat) (hj : j < wd m k) : mendO m k (wd m k) (fz r (wd m k)) B r j = some (q j) := by
  unfold mendR at h
  unfold mendO
  split at h
  · rename_i h0; cases h; rw [if_pos h0]
  · rename_i h0
    rw [if_neg h0]
    rcases rowS_cases (wd m k) (mendIt m k (wd m k) (fz r (wd m k)) B r) with ⟨i, hi, hn⟩ | hb
    · rw [rowS_no hi hn] at h; cases h
    · rw [rowS_all hb] at h
      cases h
      obtain ⟨v, hv⟩ := hb j hj
      rw [getR_at hj hv]; exact hv
theorem mendR_no {m k : Nat} {B r : Nat → Int64} (h : mendR m k B r = none) : ∃ j, j < wd m k ∧ mendO m k (wd m k) (fz r (wd m k)) B r j = none := by
  unfold mendR at h
  split at h
  · cases h
  · rename_i h0
    rcases rowS_cases (wd m k) (mendIt m k (wd m k) (fz r (wd m k)) B r) with ⟨i, hi, hn⟩ | hb
    · exact ⟨i, hi, by unfold mendO; rw [if_neg h0]; exact hn⟩
    · rw [rowS_all hb] at h; cases h
theorem mendO_ne {m k w z : Nat} {A r : Nat → Int64} {j : Nat} {v : Int64} (hr : ¬ r j = MINL) (h : mendO m k w z A r j = some v) : ¬ v = MINL := by
  unfold mendO at h
  split at h
  · cases h; exact hr
  · exact mendIt_ne hr h
theorem l_add0 (x : Int64) : x + 0 = x := by
  apply Int64.toInt_inj.mp
  rw [l_add, show (0 : Int64).toInt = 0 from rfl, Int.add_zero, l_bm (l_rng x).1 (l_rng x).2]
theorem zfit0 {x : Int64} (h : ¬ x = MINL) : zfit (x.toInt + (0 : Int64).toInt) = true := by
  rw [zfit_iff, show (0 : Int64).toInt = 0 from rfl]
  have h1 := l_rng x
  have h2 : ¬ x.toInt = -9223372036854775808 := fun q => h (l_min.mpr q)
  omega
theorem gcdN_pos {f : Nat → Int64} {n i : Nat} (hi : i < n) (h : f i ≠ 0) : gcdN f n ≠ 0 := by
  intro q
  have h1 := gcdN_dvd (f := f) n i hi
  rw [q, Nat.zero_dvd] at h1
  apply h
  apply Int64.toInt_inj.mp
  show (f i).toInt = 0
  omega
theorem m_mends {μ : ZMem} {m k : Nat} {A r : Nat → Int64} (hm : m ≤ 6) (hk : k ≤ m) (h9 : μ.1 0 9 = nI m) (h4 : μ.1 0 4 = 0) (hr : rowM μ k = r) (hz : ∀ j, wd m k ≤ j → r j = 0) (hrn : ∀ j, j < wd m k → ¬ r j = MINL) (hA : ∀ c, k = c + 1 → rowM μ c = A) (hq0 : ∀ q, mendR m k A r = some q → q 0 ≠ 0) {Φ : ZMem → Prop}
    (h : ∀ μ', frR k μ μ' → μ'.1 8 k = (if k = 0 then 0 else csZ (wd m k) (fz r (wd m k))) → (mendR m k A r = none → μ'.1 0 4 = 1) → (∀ q, mendR m k A r = some q → μ'.1 0 4 = 0 ∧ ∀ j, rowM μ' k j = shr (wd m k) q j) → Φ μ') : w_X12_mends (nI k) μ Φ := by
  have hw := wd_le hm hk
  have hvk := vp_in_nI (n := k) (N := 7) (by omega) (by omega)
  have hzl := fz_le r (wd m k)
  unfold w_X12_mends
  refine m_firstNot hm hk h9 (m_itemMany hm hk h9 ?_)
  rw [hr]
  generalize hzz : fz r (wd m k) = z at h hzl ⊢
  generalize hxx : (if k = 0 then 0 else csZ (wd m k) z) = x at h
  refine nm_k (fun y => y = x) (fun J hJ => ?_) ?_
  · show (nI k = 0 → J 0) ∧ _
    refine zif (fun h0 => hJ _ ?_) (fun h0 => zifn (fun h1 => zifn (fun h2 => hJ _ ?_) (fun h2 => hJ _ ?_)) (fun h1 => (show J 0 from hJ _ ?_)))
    · have : k = 0 := (nI_eq (by omega) (by omega)).mp h0
      rw [← hxx, if_pos this]
    · have e0 : ¬ k = 0 := fun q => h0 (by rw [q]; rfl)
      have e1 : ¬ z = 0 := fun q => h1 (by rw [q]; rfl)
      have e2 : ¬ z = wd m k := fun q => h2 (by rw [q])
      rw [← hxx, if_neg e0]; unfold csZ; rw [if_neg e1, if_neg e2]
    · have e0 : ¬ k = 0 := fun q => h0 (by rw [q]; rfl)
      have e1 : ¬ z = 0 := fun q => h1 (by rw [q]; rfl)
      have e2 : z = wd m k := (nI_eq (by omega) (by omega)).mp h2
      rw [← hxx, if_neg e0]; unfold csZ; rw [if_neg e1, if_pos e2]
    · have e0 : ¬ k = 0 := fun q => h0 (by rw [q]; rfl)
      have e1 : z = 0 := (nI_eq (by omega) (by omega)).mp h1
      rw [← hxx, if_neg e0]; unfold csZ; rw [if_pos e1]
  intro y hy
  have hy' := hy.symm
  subst hy'
  refine ⟨hvk, ?_⟩
  rw [nn_clamp (n := k) (by omega)]
  refine nm_b ?_
  -- the row as it was
  refine nm_k (fun b => frR k μ b ∧ b.1 0 4 = 0 ∧ b.1 8 k = x ∧ rowM b k = r ∧ ∀ j, j < 6 → b.2 7 j = r j) (fun J hJ => ⟨7, ?_⟩) ?_
  · refine lp2_inv 6 (fun i b => frR k μ b ∧ b.1 0 4 = 0 ∧ b.1 8 k = x ∧ rowM b k = r ∧ ∀ j, j < i → b.2 7 j = r j) (fun i b K hi hI hK => ?_) (fun b K hI => ?_) 6 0 _ (by omega) ⟨frR_8 (frR_rfl k μ), h4, by rw [mI1, if_pos rfl, upd_at, if_pos rfl], by rw [rowM_8]; exact hr, fun j hj => absurd hj (Nat.not_lt_zero j)⟩
    · obtain ⟨i1, i2, i3, i4, i5⟩ := hI
      unfold b_X12_mends_43
      refine zif_f (by rw [show (6 : Int32) = nI 6 from rfl, n_le (by omega) (by omega)]; omega) (m_item (by omega) (by omega) ⟨vp_in_nI (by omega) (by omega), ?_⟩)
      rw [nn_clamp (n := i) (by omega), nI_1]
      refine hK _ ⟨frR_7 i1, i2, i3, by rw [rowM_7]; exact i4, fun j hj => ?_⟩
      rw [mJ2, if_pos rfl, updL_at]
      by_cases e : j = i
      · rw [if_pos e, i4, e]
      · rw [if_neg e]; exact i5 j (by omega)
    · obtain ⟨i1, i2, i3, i4, i5⟩ := hI
      unfold b_X12_mends_43
      exact zif_t (by decide) (hJ b ⟨i1, i2, i3, i4, i5⟩)
  rintro μ9 ⟨n1, n2, n3, n4, n5⟩
  -- the mending itself
  refine nm_k (fun b => frR k μ b ∧ b.1 8 k = x ∧ FL b (∀ j, j < wd m k → mendO m k (wd m k) z A r j ≠ none) ∧ (∀ j, j < wd m k → ∀ v, mendO m k (wd m k) z A r j = some v → rowM b k j = v) ∧ (∀ j, wd m k ≤ j → rowM b k j = 0)) (fun J hJ => ?_) ?_
  · by_cases hx0 : x = 0
    · refine ⟨1, ?_⟩
      refine (show b_X12_mends_73 (nI (wd m k)) J (nI k) (nI z) (nI 0) μ9 (lpz2 (b_X12_mends_73 (nI (wd m k)) J (nI k) (nI z)) 0) from ?_)
      unfold b_X12_mends_73
      refine zif_f (by rw [n_le (by omega) (by omega)]; omega) ⟨hvk, zif_t ?_ (hJ _ ?_)⟩
      · rw [nn_clamp (n := k) (by omega), n3, hx0]; decide
      · have hs : ∀ j, mendO m k (wd m k) z A r j = some (r j) := by
          intro j
          unfold mendO
          split
          · rfl
          · rename_i e0
            rw [if_neg e0] at hxx
            unfold mendIt
            have : z = 0 := by
              unfold csZ at hxx
              split at hxx
              · assumption
              · rw [hx0] at hxx
                split at hxx
                · exact absurd hxx (by decide)
                · exact absurd hxx (by decide)
            rw [if_pos this]
        refine ⟨n1, n3, Or.inl ⟨n2, fun j _ => by rw [hs j]; simp⟩, fun j _ v hv => ?_, fun j hj => by rw [n4]; exact hz j hj⟩
        rw [hs j] at hv; cases hv; rw [n4]
    · have e0 : ¬ k = 0 := fun q => hx0 (by rw [← hxx, if_pos q])
      obtain ⟨c, rfl⟩ : ∃ c, k = c + 1 := ⟨k - 1, by omega⟩
      rw [if_neg e0] at hxx
      have hz0 : ¬ z = 0 := fun q => hx0 (by rw [← hxx]; unfold csZ; rw [if_pos q])
      have hmO : ∀ j, mendO m (c + 1) (wd m (c + 1)) z A r j = mendIt m (c + 1) (wd m (c + 1)) z A r j := fun j => if_neg e0
      refine ⟨wd m (c + 1) + 1, ?_⟩
      refine lp2_inv (wd m (c + 1)) (fun i b => frR (c + 1) μ b ∧ b.1 8 (c + 1) = x ∧ FL b (∀ j, j < i → mendO m (c + 1) (wd m (c + 1)) z A r j ≠ none) ∧ (∀ j, j < i → ∀ v, mendO m (c + 1) (wd m (c + 1)) z A r j = some v → rowM b (c + 1) j = v) ∧ (∀ j, i ≤ j → rowM b (c + 1) j = r j) ∧ (∀ j, j < 6 → b.2 7 j = r j)) (fun i b K hi hI hK => ?_) (fun b K hI => ?_) (wd m (c + 1)) 0 μ9 (by omega) ⟨n1, n3, Or.inl ⟨n2, fun j hj => absurd hj (Nat.not_lt_zero j)⟩, fun j hj => absurd hj (Nat.not_lt_zero j), fun j _ => by rw [n4], n5⟩
      · obtain ⟨i1, i2, i3, i4, i5, i6⟩ := hI
        have h9' : b.1 0 9 = nI m := by rw [i1.1 0 9 (by omega) (by omega)]; exact h9
        have hAb : rowM b c = A := by rw [rowM_fr i1 (by omega)]; exact hA c rfl
        unfold b_X12_mends_73
        rw [six_I, nn_clamp (n := c + 1) (by omega), nn_clamp (n := i) (by omega), nn_clamp (n := 6 * (c + 1) + i) (by omega), nI_1, nI_add, nn_clamp (n := i + z) (by omega), show nI (c + 1) - 1 = nI c from nI_sub1 c]
        have hxpos : ¬ b.1 8 (c + 1) ≤ 0 := by
          rw [i2, ← hxx]; unfold csZ; rw [if_neg hz0]; split <;> decide
        refine zif_f (by rw [n_le (by omega) (by omega)]; omega) ⟨hvk, zif_f hxpos ?_⟩
        -- what is added
        have fin : ∀ (y : Int64) (b4 : ZMem) (ok : Prop), frR (c + 1) μ b4 → b4.1 8 (c + 1) = x → FL b4 ((∀ j, j < i → mendO m (c + 1) (wd m (c + 1)) z A r j ≠ none) ∧ ok) → (ok ↔ mendO m (c + 1) (wd m (c + 1)) z A r i ≠ none) → rowM b4 (c + 1) = rowM b (c + 1) → b4.2 7 = b.2 7 → (∀ v, mendO m (c + 1) (wd m (c + 1)) z A r i = some v → y = v) → vp_in (nI (6 * (c + 1) + i)) 42 ∧ nm (zz_upJ b4 6 (6 * (c + 1) + i) y) (fun μ_38 => K (nI (i + 1)) μ_38) := by
          intro y b4 ok g1 g0 g2 g5 g3 g6 g4
          refine ⟨vp_in_nI (by omega) (by omega), ?_⟩
          refine hK _ ⟨frR_up (by omega) g1, g0, FL_same (FL_iff g2 ?_) rfl, fun j hj v hv => ?_, fun j hj => ?_, fun j hj => ?_⟩
          · constructor
            · rintro ⟨q1, q2⟩ j hj
              by_cases e : j = i
              · subst e; exact g5.mp q2
              · exact q1 j (by omega)
            · intro q
              exact ⟨fun j hj => q j (by omega), g5.mpr (q i (by omega))⟩
          · rw [rowM_up (by omega)]
            by_cases e : j = i
            · subst e; rw [if_pos rfl]; exact g4 v hv
            · rw [if_neg e, g3]; exact i4 j (by omega) v hv
          · rw [rowM_up (by omega), if_neg (by omega), g3]; exact i5 j (by omega)
          · rw [mJ2, if_neg (by decide), g6]; exact i6 j hj
        refine nm_k2 (fun u b3 => frR (c + 1) μ b3 ∧ b3.1 8 (c + 1) = x ∧ FL b3 (∀ j, j < i → mendO m (c + 1) (wd m (c + 1)) z A r j ≠ none) ∧ rowM b3 (c + 1) = rowM b (c + 1) ∧ b3.2 = b.2 ∧ (i + z < wd m (c + 1) → u = if z % 2 = 1 then -r (i + z) else r (i + z)) ∧ (¬ i + z < wd m (c + 1) → u = 0)) (fun J2 hJ2 => ?_) ?_
        · refine zif (fun h2 => hJ2 _ _ ⟨i1, i2, i3, rfl, rfl, fun q => ?_, fun _ => rfl⟩) (fun h2 => ?_)
          · rw [n_le (by omega) (by omega)] at h2; omega
          · rw [n_le (by omega) (by omega)] at h2
            refine zifn (fun h3 => ⟨vp_in_nI (by omega) (by omega), hJ2 _ _ ⟨i1, i2, i3, rfl, rfl, fun q => ?_, fun q => absurd (by omega) q⟩⟩) (fun h3 => ⟨vp_in_nI (by omega) (by omega), (m_turned _ _ _).mpr (hJ2 _ _ ⟨frR_flg i1, ?_, FL_iff (FL_flg i3) ⟨fun q => q.1, fun q => ⟨q, ?_⟩⟩, rfl, rfl, fun q => ?_, fun q => absurd (by omega) q⟩)⟩)
            · rw [nI_par z (by omega)] at h3
              rw [if_neg h3]; exact i6 _ (by omega)
            · rw [flg_1 _ _ _ _ (by omega)]; exact i2
            · rw [decide_eq_true_eq, i6 _ (by omega)]; exact hrn _ (by omega)
            · rw [nI_par z (by omega)] at h3
              rw [if_pos h3, i6 _ (by omega)]
        rintro u b3 ⟨c1, c2, c3, c4, c5, c6, c7⟩
        refine ⟨hvk, ?_⟩
        refine nm_k2 (fun y b4 => ∃ ok : Prop, frR (c + 1) μ b4 ∧ b4.1 8 (c + 1) = x ∧ FL b4 ((∀ j, j < i → mendO m (c + 1) (wd m (c + 1)) z A r j ≠ none) ∧ ok) ∧ (ok ↔ mendO m (c + 1) (wd m (c + 1)) z A r i ≠ none) ∧ rowM b4 (c + 1) = rowM b (c + 1) ∧ b4.2 7 = b.2 7 ∧ (∀ v, mendO m (c + 1) (wd m (c + 1)) z A r i = some v → y = v)) (fun J2 hJ2 => ?_) (fun y b4 q => by obtain ⟨ok, q1, q2, q3, q4, q5, q6, q7⟩ := q; exact fin y b4 ok q1 q2 q3 q4 q5 q6 q7)
        refine zifn (fun h2 => ⟨vp_in_nI (by omega) (by omega), (m_plus _ _ _ _).mpr (hJ2 _ _ ⟨zfit ((b3.2 7 i).toInt + u.toInt) = true, frR_flg c1, by rw [flg_1 _ _ _ _ (by omega)]; exact c2, FL_flg c3, ?_⟩)⟩) (fun h2 => m_item (by omega) (by omega) ((m_times _ _ _ _).mpr (hJ2 _ _ ⟨zfit ((rowM b3 c i).toInt * (Int32.toInt64 (b3.1 0 9 - nI (c + 1) + 1 - 2 * nI i)).toInt) = true, frR_flg c1, by rw [flg_1 _ _ _ _ (by omega)]; exact c2, FL_flg c3, ?_⟩)))
        · have hzw : ¬ z = wd m (c + 1) := by
            intro q
            rw [c2, ← hxx] at h2
            unfold csZ at h2
            rw [if_neg hz0, if_pos q] at h2
            exact h2 rfl
          rw [c5, i6 i (by omega), hmO]
          unfold mendIt
          rw [if_neg hz0, if_neg hzw]
          by_cases h3 : i + z < wd m (c + 1)
          · rw [if_pos h3, ← c6 h3]
            exact ⟨(xp_w _ _).1, c4, congrFun c5 7, (xp_w _ _).2⟩
          · rw [if_neg h3, c7 h3]
            refine ⟨⟨fun _ => by simp, fun _ => zfit0 (hrn i hi)⟩, c4, congrFun c5 7, fun v hv => ?_⟩
            cases hv
            exact l_add0 _
        · have hzw : z = wd m (c + 1) := by
            rw [c2, ← hxx] at h2
            unfold csZ at h2
            rw [if_neg hz0] at h2
            split at h2
            · assumption
            · exact absurd h2 (by decide)
          have hAb3 : rowM b3 c = A := by rw [← hAb]; unfold rowM; rw [c5]
          rw [hAb3, show b3.1 0 9 = nI m by rw [c1.1 0 9 (by omega) (by omega)]; exact h9, hmO]
          unfold mendIt
          rw [if_neg hz0, if_pos hzw]
          exact ⟨(xt_w _ _).1, c4, congrFun c5 7, (xt_w _ _).2⟩
      · obtain ⟨i1, i2, i3, i4, i5, i6⟩ := hI
        unfold b_X12_mends_73
        exact zif_t (Int32.le_refl _) (hJ b ⟨i1, i2, i3, i4, fun j hj => by rw [i5 j hj]; exact hz j hj⟩)
  rintro μ11 ⟨d1, d2, d3, d4, d5⟩
  -- the greatest common divisor
  refine nm_k (fun g => (∀ j, j < wd m k → mendO m k (wd m k) z A r j ≠ none) → g = lN (gcdN (rowM μ11 k) (wd m k))) (fun J hJ => ⟨wd m k + 1, ?_⟩) ?_
  · have hall : ∀ n i v, i + n = wd m k → ((∀ j, j < wd m k → mendO m k (wd m k) z A r j ≠ none) → v = lN (gcdN (rowM μ11 k) i)) → lpz2 (b_X12_mends_211 (nI (wd m k)) J (nI k) μ11) (n + 1) v (nI i) := by
      intro n
      induction n with
      | zero =>
        intro i v hi hv
        obtain rfl : i = wd m k := (by omega)
        exact zif_t (Int32.le_refl _) (hJ v hv)
      | succ n ih =>
        intro i v hi hv
        refine (show b_X12_mends_211 (nI (wd m k)) J (nI k) μ11 v (nI i) (lpz2 (b_X12_mends_211 (nI (wd m k)) J (nI k) μ11) (n + 1)) from ?_)
        have ih' := ih (i + 1)
        generalize lpz2 (b_X12_mends_211 (nI (wd m k)) J (nI k) μ11) (n + 1) = L at ih' ⊢
        unfold b_X12_mends_211
        refine zif_f (by rw [n_le (by omega) (by omega)]; omega) (m_item (by omega) (by omega) (e_common fun g hg => ?_))
        rw [nI_1]
        refine ih' g (by omega) (fun hok => ?_)
        have hne : ∀ j, j < wd m k → ¬ rowM μ11 k j = MINL := by
          intro j hj
          cases e : mendO m k (wd m k) z A r j with
          | none => exact absurd e (hok j hj)
          | some u => rw [d4 j hj u e]; exact mendO_ne (hrn j hj) e
        have hlt : gcdN (rowM μ11 k) i < 9223372036854775808 := gcdN_lt i (fun j hj => hne j (by omega))
        rw [hv hok] at hg
        rw [hg (hne i (by omega)) (lN_ne hlt), lN_abs hlt, gcdN, Nat.gcd_comm]
    exact hall (wd m k) 0 0 (by omega) (fun _ => rfl)
  intro g hg
  -- and the row over it
  refine ⟨wd m k + 1, ?_⟩
  rcases d3 with ⟨f0, fok⟩ | ⟨f1, fno⟩
  · have hg' := hg fok
    have hne : ∀ j, j < wd m k → ¬ rowM μ11 k j = MINL := by
      intro j hj
      cases e : mendO m k (wd m k) z A r j with
      | none => exact absurd e (fok j hj)
      | some u => rw [d4 j hj u e]; exact mendO_ne (hrn j hj) e
    have hlt : gcdN (rowM μ11 k) (wd m k) < 9223372036854775808 := gcdN_lt _ hne
    cases hq : mendR m k A r with
    | none =>
      obtain ⟨j, hj, e⟩ := mendR_no hq
      rw [hzz] at e
      exact absurd e (fok j hj)
    | some q =>
      have hrow : ∀ j, j < wd m k → rowM μ11 k j = q j := fun j hj => d4 j hj _ (by rw [← hzz]; exact mendR_yes hq j hj)
      have hgq : gcdN (rowM μ11 k) (wd m k) = gcdN q (wd m k) := gcdN_ext hrow 0 (fun j a b => absurd b (by omega))
      have hgne : ¬ g = 0 := by
        rw [hg']
        intro e
        rw [lN_zero hlt, hgq] at e
        exact gcdN_pos (f := q) (i := 0) (by omega) (hq0 q hq) e
      refine lp2_inv (wd m k) (fun i b => frR k μ b ∧ b.1 8 k = x ∧ b.1 0 4 = 0 ∧ (∀ j, j < i → rowM b k j = q j / g) ∧ (∀ j, i ≤ j → rowM b k j = rowM μ11 k j)) (fun i b K hi hI hK => ?_) (fun b K hI => ?_) (wd m k) 0 μ11 (by omega) ⟨d1, d2, f0, fun j hj => absurd hj (Nat.not_lt_zero j), fun j _ => rfl⟩
      · obtain ⟨i1, i2, i3, i4, i5⟩ := hI
        unfold b_X12_mends_240
        rw [six_I, nI_1, nn_clamp (n := 6 * k + i) (by omega)]
        have hv := vp_in_nI (n := 6 * k + i) (N := 42) (by omega) (by omega)
        refine zif_f (by rw [n_le (by omega) (by omega)]; omega) (zifn_t i3 ⟨hv, hgne, hv, hK _ ⟨frR_up (by omega) i1, i2, i3, fun j hj => ?_, fun j hj => ?_⟩⟩)
        · rw [rowM_up (by omega)]
          by_cases e : j = i
          · subst e
            rw [if_pos rfl]
            have h6 : b.2 6 (6 * k + j) = rowM b k j := by unfold rowM; rw [if_pos (by omega)]
            rw [h6, i5 j (Nat.le_refl j), hrow j hi]
          · rw [if_neg e]; exact i4 j (by omega)
        · rw [rowM_up (by omega), if_neg (by omega)]; exact i5 j (by omega)
      · obtain ⟨i1, i2, i3, i4, i5⟩ := hI
        unfold b_X12_mends_240
        refine zif_t (Int32.le_refl _) (h b i1 i2 (fun e => by rw [hq] at e; cases e) (fun q' hq' => ⟨i3, fun j => ?_⟩))
        rw [hq] at hq'
        cases hq'
        unfold shr cut
        split
        · rename_i hj
          rw [i4 j hj, hg', hgq]; rfl
        · rename_i hj
          rw [i5 j (by omega)]; exact d5 j (by omega)
  · refine (show b_X12_mends_240 (nI (wd m k)) Φ (nI k) g (nI 0) μ11 (lpz2 (b_X12_mends_240 (nI (wd m k)) Φ (nI k) g) (wd m k)) from ?_)
    unfold b_X12_mends_240
    refine zif_f (by rw [n_le (by omega) (by omega)]; omega) (zifn_f (by rw [f1]; decide) (h μ11 d1 d2 (fun _ => f1) (fun q hq => absurd (fun j hj => ?_) fno)))
    rw [← hzz, mendR_yes hq j hj]
    simp
