/-! the reference's rows, all of them -/
theorem l_negz {x : Int64} (h : -x = 0) : x = 0 := by
  have := congrArg (fun y => -y) h
  simpa using this
theorem l_div_nz {x : Int64} {g : Nat} (hx : x ≠ 0) (hm : ¬ x = MINL) (hg : g ∣ x.toInt.natAbs) (hl : g < 9223372036854775808) : x / lN g ≠ 0 := by
  intro q
  have h1 := congrArg Int64.toInt q
  have h4 := l_rng x
  have h3 : ¬ x.toInt = -9223372036854775808 := fun z => hm (l_min.mpr z)
  have h0 : x.toInt ≠ 0 := fun z => hx (Int64.toInt_inj.mp z)
  rw [Int64.toInt_div, lN_rng hl] at h1
  have h5 : (x.toInt.tdiv (g : Int)).natAbs ≤ x.toInt.natAbs := by rw [Int.natAbs_tdiv]; exact Nat.div_le_self _ _
  rw [l_bm (by omega) (by omega)] at h1
  have h6 : (x.toInt.tdiv (g : Int)).natAbs = 0 := by rw [h1]; rfl
  rw [Int.natAbs_tdiv, Int.natAbs_natCast] at h6
  obtain ⟨c, hc⟩ := hg
  have hg0 : 0 < g := by
    rcases Nat.eq_zero_or_pos g with e | e
    · rw [e, Nat.zero_mul] at hc; omega
    · exact e
  rw [hc] at h6
  change g * c / g = 0 at h6
  rw [Nat.mul_div_cancel_left c hg0] at h6
  rw [h6, Nat.mul_zero] at hc
  omega
theorem mendR_0 {m k : Nat} {B r q : Nat → Int64} (hm : m ≤ 6) (hk : k ≤ m) (hr0 : k = 0 → r 0 ≠ 0) (hB : k ≠ 0 → B 0 ≠ 0) (h : mendR m k B r = some q) : q 0 ≠ 0 := by
  have hw := wd_le hm hk
  have h1 := mendR_yes h 0 (by omega)
  unfold mendO at h1
  split at h1
  · rename_i h0; rw [← Option.some.inj h1]; exact hr0 h0
  · rename_i h0
    unfold mendIt at h1
    split at h1
    · rename_i hz
      rw [← Option.some.inj h1]
      have := fz_ne (r := r) (w := wd m k) (by omega)
      rw [hz] at this; exact this
    · rename_i hz
      split at h1
      · unfold xt at h1
        split at h1
        · rename_i hf
          have h2 := l_mulF hf
          have e : Int32.toInt64 (nI m - nI k + 1 - 2 * nI 0) = Int32.toInt64 (nI (m - k + 1)) := by
            rw [pk_sub hk, nI_1, show (2 : Int32) * nI 0 = nI 0 from rfl, pk_sub (by omega)]; rfl
          rw [show (0 : Nat) = 0 from rfl] at h2
          intro q0
          have h1' := Option.some.inj h1
          rw [h1', q0, e, Int32.toInt_toInt64, nI_toInt (by omega)] at h2
          have h3 : (B 0).toInt ≠ 0 := fun z => hB h0 (Int64.toInt_inj.mp z)
          have h4 : (0 : Int64).toInt = 0 := rfl
          rw [h4] at h2
          rcases Int.mul_eq_zero.mp h2.symm with e | e
          · exact h3 e
          · omega
        · cases h1
      · rename_i hz2
        have hzl := fz_le r (wd m k)
        rw [if_pos (by omega), fz_z (r := r) (w := wd m k) (j := 0) (by omega), Nat.zero_add] at h1
        have hne := fz_ne (r := r) (w := wd m k) (by omega)
        have key : ∀ y : Int64, y ≠ 0 → xp 0 y = some (q 0) → q 0 ≠ 0 := by
          intro y hy hx
          unfold xp at hx
          split at hx
          · rw [← Option.some.inj hx, Int64.zero_add]; exact hy
          · cases hx
        refine key _ ?_ h1
        split
        · exact fun q => hne (l_negz q)
        · exact hne
theorem rowK_0 {F : Nat → Int64} {m : Nat} (hm : m ≤ 6) (hF : ∀ i, i < 7 → ¬ F i = MINL) (hFm : F m ≠ 0) : ∀ {k : Nat}, k ≤ m → okK F m k → rowK F m k 0 ≠ 0 := by
  intro k
  induction k with
  | zero =>
    intro hk hok
    have hs := stepK (F := F) (m := m) (k := 0) (fun i hi => absurd hi (Nat.not_lt_zero i))
    cases e : stepR F m 0 (rowA F m 0) (rowB F m 0) with
    | none => exact absurd hok (hs.1 e)
    | some r =>
      rw [(hs.2.1 r e).2]
      have hn := stepR_ne hm hF e
      unfold stepR at e
      rw [Option.bind_eq_some_iff] at e
      obtain ⟨p, hp, e⟩ := e
      rw [Option.map_eq_some_iff] at e
      obtain ⟨u, hu, e⟩ := e
      unfold preR at hp
      rw [if_pos (by omega)] at hp
      unfold mendR at hu
      rw [if_pos rfl] at hu
      cases hu
      cases hp
      have hw := wd_le (m := m) (k := 0) hm hk
      have h0 : cut (wd m 0) (fun j => F (m - 0 - 2 * j)) 0 = F m := by unfold cut; rw [if_pos (by omega)]; rfl
      have hlt : gcdN (cut (wd m 0) (fun j => F (m - 0 - 2 * j))) (wd m 0) < 9223372036854775808 := gcdN_lt _ (fun i hi => by unfold cut; rw [if_pos hi]; exact hF _ (by omega))
      rw [← e]
      unfold shr
      rw [show cut (wd m 0) (fun j => cut (wd m 0) (fun j => F (m - 0 - 2 * j)) j / Int64.ofNat (gcdN (cut (wd m 0) fun j => F (m - 0 - 2 * j)) (wd m 0))) 0 = cut (wd m 0) (fun j => F (m - 0 - 2 * j)) 0 / lN (gcdN (cut (wd m 0) fun j => F (m - 0 - 2 * j)) (wd m 0)) from if_pos (by omega)]
      refine l_div_nz (by rw [h0]; exact hFm) (by rw [h0]; exact hF _ (by omega)) (gcdN_dvd _ 0 (by omega)) hlt
  | succ k ih =>
    intro hk hok
    have hs := stepK (F := F) (m := m) (k := k + 1) (fun i hi => okK_le hok (by omega))
    cases e : stepR F m (k + 1) (rowA F m (k + 1)) (rowB F m (k + 1)) with
    | none => exact absurd hok (hs.1 e)
    | some r =>
      rw [(hs.2.1 r e).2]
      have hw := wd_le (m := m) (k := k + 1) hm hk
      unfold stepR at e
      rw [preR_eq] at e
      rcases rowS_cases (wd m (k + 1)) (preO F m (k + 1) (rowA F m (k + 1)) (rowB F m (k + 1))) with ⟨i, hi, hno⟩ | ha
      · rw [rowS_no hi hno] at e; cases e
      rw [rowS_all ha, Option.bind_some, Option.map_eq_some_iff] at e
      obtain ⟨u, hu, e⟩ := e
      have hp : ∀ i, i < wd m (k + 1) → ¬ getR (wd m (k + 1)) (preO F m (k + 1) (rowA F m (k + 1)) (rowB F m (k + 1))) i = MINL := by
        intro i hi
        obtain ⟨v, hv⟩ := ha i hi
        rw [getR_at hi hv]
        exact preO_ne hm hF hv
      have hun : ∀ j, j < wd m (k + 1) → ¬ u j = MINL := fun j hj => mendO_ne (hp j hj) (mendR_yes hu j hj)
      have h0 := mendR_0 hm hk (fun q => by omega) (fun _ => ih (by omega) (okK_down hok)) hu
      rw [← e]
      show shr _ _ 0 ≠ 0
      unfold shr
      rw [show cut (wd m (k + 1)) (fun j => u j / Int64.ofNat (gcdN u (wd m (k + 1)))) 0 = u 0 / lN (gcdN u (wd m (k + 1))) from if_pos (by omega)]
      exact l_div_nz h0 (hun 0 (by omega)) (gcdN_dvd _ 0 (by omega)) (gcdN_lt _ hun)
/-- what laying the rows may change -/
def frL (μ μ' : ZMem) : Prop := (∀ a s, ¬ (a = 0 ∧ s = 4) → a ≠ 8 → μ'.1 a s = μ.1 a s) ∧ (∀ a, a ≠ 6 → a ≠ 7 → μ'.2 a = μ.2 a)
theorem frL_tr {a b c : ZMem} (h1 : frL a b) (h2 : frL b c) : frL a c := ⟨fun x s p q => (h2.1 x s p q).trans (h1.1 x s p q), fun x p q => (h2.2 x p q).trans (h1.2 x p q)⟩
theorem frL_R {k : Nat} {a b : ZMem} (h : frR k a b) : frL a b := ⟨fun x s p q => h.1 x s p (fun e => q e.1), h.2.1⟩
/-- one row -/
theorem m_stepM {μ : ZMem} {m k : Nat} {F : Nat → Int64} (hm : m ≤ 6) (hk : k ≤ m) (h9 : μ.1 0 9 = nI m) (h4 : μ.1 0 4 = 0) (hF : ∀ j, j < 7 → μ.2 4 j = F j ∧ ¬ F j = MINL) (hFm : F m ≠ 0) (hz : ∀ i, k ≤ i → i ≤ 6 → ∀ j, rowM μ i j = 0) (hrows : ∀ i, i < k → okK F m i ∧ rowM μ i = rowK F m i) {Φ : ZMem → Prop} {K : Int32 → ZMem → Prop}
    (h : ∀ μ', frR k μ μ' → (¬ okK F m k → μ'.1 0 4 = 1 ∧ k ≠ 0) → (okK F m k → μ'.1 0 4 = 0 ∧ rowM μ' k = rowK F m k ∧ μ'.1 8 k = cseK F m k) → K (nI (k + 1)) μ') : b_X12_laysRows_28 Φ (nI k) μ K := by
  have hw := wd_le hm hk
  have hFn : ∀ j, j < 7 → ¬ F j = MINL := fun j hj => (hF j hj).2
  have hs := stepK (F := F) (m := m) (k := k) (fun i hi => (hrows i hi).1)
  unfold b_X12_laysRows_28
  refine zif_f (by rw [h9, n_lt (by omega) (by omega)]; omega) (zifn_t h4 ?_)
  refine nm_k (fun b => frR k μ b ∧ b.1 0 4 = 0 ∧ (k < 2 → ∀ j, rowM b k j = cut (wd m k) (fun j => F (m - k - 2 * j)) j) ∧ (¬ k < 2 → ∀ j, rowM b k j = 0)) (fun J hJ => m_load (F := F) hm hk h9 (fun j hj => (hF j hj).1) (hz k (Nat.le_refl k) (by omega)) (fun b q1 q2 q3 q4 => hJ b ⟨q1, by rw [q2]; exact h4, q3, q4⟩)) ?_
  rintro b1 ⟨a1, a2, a3, a4⟩
  refine nm_k (fun b => frR k μ b ∧ FL b (∀ j, j < wd m k → preO F m k (rowA F m k) (rowB F m k) j ≠ none) ∧ (∀ j, j < wd m k → ∀ v, preO F m k (rowA F m k) (rowB F m k) j = some v → rowM b k j = v) ∧ (∀ j, wd m k ≤ j → rowM b k j = 0)) (fun J hJ => ?_) ?_
  · rw [show (1 : Int32) = nI 1 from rfl]
    refine zif (fun h1 => hJ _ ?_) (fun h1 => ?_)
    · rw [n_le (by omega) (by omega)] at h1
      have hp : ∀ j, preO F m k (rowA F m k) (rowB F m k) j = some (F (m - k - 2 * j)) := fun j => if_pos (by omega)
      refine ⟨a1, Or.inl ⟨a2, fun j _ => by rw [hp]; simp⟩, fun j hj v hv => ?_, fun j hj => ?_⟩
      · rw [hp] at hv; cases hv
        rw [a3 (by omega)]; unfold cut; rw [if_pos hj]
      · rw [a3 (by omega)]; unfold cut; rw [if_neg (by omega)]
    · rw [n_le (by omega) (by omega)] at h1
      obtain ⟨c, rfl⟩ : ∃ c, k = c + 2 := ⟨k - 2, by omega⟩
      have hA : rowM b1 c = rowA F m (c + 2) := by
        rw [rowM_fr a1 (by omega), (hrows c (by omega)).2]; unfold rowA; rw [if_neg (by omega)]; rfl
      have hB : rowM b1 (c + 1) = rowB F m (c + 2) := by
        rw [rowM_fr a1 (by omega), (hrows (c + 1) (by omega)).2]; unfold rowB; rw [if_neg (by omega)]; rfl
      have hp : ∀ j, preO F m (c + 2) (rowA F m (c + 2)) (rowB F m (c + 2)) j = crossIt (rowA F m (c + 2)) (rowB F m (c + 2)) j := fun j => if_neg (by omega)
      refine m_works hm hk (by rw [a1.1 0 9 (by omega) (by omega)]; exact h9) a2 (a4 (by omega)) (fun b2 g1 g2 g3 g4 => hJ _ ⟨frR_tr a1 g1, ?_, ?_, g4⟩)
      · rw [hA, hB] at g2
        exact FL_iff g2 ⟨fun q j hj => by rw [hp]; exact q j hj, fun q j hj => by rw [← hp]; exact q j hj⟩
      · intro j hj v hv
        rw [hp] at hv
        rw [hA, hB] at g3
        exact g3 j hj v hv
  rintro b2 ⟨c1, c2, c3, c4⟩
  show nm _ _
  refine nm_k (fun b => frR k μ b ∧ (¬ okK F m k → b.1 0 4 = 1 ∧ k ≠ 0) ∧ (okK F m k → b.1 0 4 = 0 ∧ rowM b k = rowK F m k ∧ b.1 8 k = cseK F m k)) (fun J hJ => ?_) ?_
  · rcases rowS_cases (wd m k) (preO F m k (rowA F m k) (rowB F m k)) with ⟨i, hi, hno⟩ | ha
    · have hbad : stepR F m k (rowA F m k) (rowB F m k) = none := by unfold stepR; rw [preR_eq, rowS_no hi hno]; rfl
      rcases c2 with ⟨_, q⟩ | ⟨f1, _⟩
      · exact absurd hno (q i hi)
      · refine zifn_f (by rw [f1]; decide) (hJ _ ⟨c1, fun _ => ⟨f1, fun q => ?_⟩, fun q => absurd q (hs.1 hbad)⟩)
        unfold preO at hno
        rw [if_pos (by omega)] at hno
        cases hno
    · have f0 : b2.1 0 4 = 0 := (FL_0 c2).mpr (fun j hj => by obtain ⟨v, hv⟩ := ha j hj; rw [hv]; simp)
      have hrow : getR (wd m k) (preO F m k (rowA F m k) (rowB F m k)) = rowM b2 k := by
        funext j
        by_cases hj : j < wd m k
        · obtain ⟨v, hv⟩ := ha j hj
          rw [getR_at hj hv, c3 j hj v hv]
        · rw [getR_ge (by omega), c4 j (by omega)]
      have hpre : preR F m k (rowA F m k) (rowB F m k) = some (rowM b2 k) := by rw [preR_eq, rowS_all ha, hrow]
      have hstep : stepR F m k (rowA F m k) (rowB F m k) = (mendR m k (rowB F m k) (rowM b2 k)).map (shr (wd m k)) := by unfold stepR; rw [hpre]; rfl
      refine zifn_t f0 (m_mends (A := rowB F m k) (r := rowM b2 k) hm hk (by rw [c1.1 0 9 (by omega) (by omega)]; exact h9) f0 rfl c4 (fun j hj => ?_) (fun c hc => ?_) (fun q hq => mendR_0 hm hk (fun e => ?_) (fun e => ?_) hq) (fun b3 g1 g2 g3 g4 => hJ _ ⟨frR_tr c1 g1, fun q => ?_, fun q => ?_⟩))
      · obtain ⟨v, hv⟩ := ha j hj
        rw [c3 j hj v hv]
        exact preO_ne hm hFn hv
      · subst hc
        rw [rowM_fr c1 (by omega), (hrows c (by omega)).2]; rfl
      · subst e
        have : preO F m 0 (rowA F m 0) (rowB F m 0) 0 = some (F m) := rfl
        rw [c3 0 (by omega) _ this]; exact hFm
      · unfold rowB
        rw [if_neg e]
        exact rowK_0 hm hFn hFm (by omega) (hrows (k - 1) (by omega)).1
      · cases hq : mendR m k (rowB F m k) (rowM b2 k) with
        | none =>
          refine ⟨g3 hq, fun e => ?_⟩
          subst e
          unfold mendR at hq
          rw [if_pos rfl] at hq; cases hq
        | some u =>
          rw [hq] at hstep
          exact absurd (hs.2.1 _ hstep).1 q
      · cases hq : mendR m k (rowB F m k) (rowM b2 k) with
        | none =>
          rw [hq] at hstep
          exact absurd q (hs.1 hstep)
        | some u =>
          rw [hq] at hstep
          obtain ⟨k1, k2⟩ := g4 u hq
          refine ⟨k1, ?_, ?_⟩
          · rw [(hs.2.1 _ hstep).2]; exact funext k2
          · rw [g2, hs.2.2]; unfold stepC; rw [hpre]
  rintro b3 ⟨d1, d2, d3⟩
  show K _ _
  rw [nI_1]
  exact h b3 d1 d2 d3
theorem m_clear {μ : ZMem} {J : ZMem → Prop} (h : ∀ μ', frL μ μ' → μ'.1 0 4 = μ.1 0 4 → (∀ s, s < 42 → μ'.2 6 s = 0) → J μ') : ∃ n, lpz2 (b_X12_laysRows_7 J) n (0 : Int32) μ := by
  refine ⟨43, ?_⟩
  refine lp2_inv 42 (fun i b => frL μ b ∧ b.1 0 4 = μ.1 0 4 ∧ ∀ s, s < i → b.2 6 s = 0) (fun i b K hi hI hK => ?_) (fun b K hI => ?_) 42 0 μ (by omega) ⟨⟨fun _ _ _ _ => rfl, fun _ _ _ => rfl⟩, rfl, fun s hs => absurd hs (Nat.not_lt_zero s)⟩
  · obtain ⟨i1, i2, i3⟩ := hI
    unfold b_X12_laysRows_7
    refine zif_f (by rw [show (42 : Int32) = nI 42 from rfl, n_le (by omega) (by omega)]; omega) ⟨vp_in_nI (by omega) (by omega), ?_⟩
    rw [nn_clamp (n := i) (by omega), nI_1]
    refine hK _ ⟨⟨i1.1, fun a p q => ?_⟩, i2, fun s hs => ?_⟩
    · rw [mJ2, if_neg p]; exact i1.2 a p q
    · rw [mJ2, if_pos rfl, updL_at]
      split
      · rfl
      · exact i3 s (by omega)
  · obtain ⟨i1, i2, i3⟩ := hI
    unfold b_X12_laysRows_7
    exact zif_t (by decide) (h b i1 i2 i3)
theorem m_laysRows {μ : ZMem} {m : Nat} {F : Nat → Int64} (hm : m ≤ 6) (h9 : μ.1 0 9 = nI m) (hF : ∀ j, j < 7 → μ.2 4 j = F j ∧ ¬ F j = MINL) (hFm : F m ≠ 0) {Φ : ZMem → Prop}
    (h : ∀ μ', frL μ μ' → (okK F m m → μ'.1 0 4 = 0 ∧ ∀ k, k ≤ m → rowM μ' k = rowK F m k ∧ μ'.1 8 k = cseK F m k) → (¬ okK F m m → μ'.1 0 4 = 1) → μ'.1 8 0 = 0 → Φ μ') : w_X12_laysRows μ Φ := by
  unfold w_X12_laysRows
  refine nm_b ?_
  have f0 : frL μ (zz_upI μ 0 4 0) := by
    refine ⟨fun a s p q => ?_, fun _ _ _ => rfl⟩
    rw [mI1]
    split
    · rename_i e; subst e; rw [upd_at, if_neg (fun e => p ⟨rfl, e⟩)]
    · rfl
  have f4 : (zz_upI μ 0 4 0).1 0 4 = 0 := by rw [mI1, if_pos rfl, upd_at, if_pos rfl]
  refine nm_k (fun b => frL μ b ∧ b.1 0 4 = 0 ∧ ∀ s, s < 42 → b.2 6 s = 0) (fun J hJ => m_clear (fun b q1 q2 q3 => hJ b ⟨frL_tr f0 q1, by rw [q2]; exact f4, q3⟩)) ?_
  rintro b0 ⟨g1, g2, g3⟩
  refine ⟨m + 2, ?_⟩
  have hFn : ∀ j, j < 7 → ¬ F j = MINL := fun j hj => (hF j hj).2
  have key : ∀ n k b, k + n = m + 1 → frL μ b → b.1 0 4 = 0 → (∀ i, k ≤ i → i ≤ 6 → ∀ j, rowM b i j = 0) → (∀ i, i < k → okK F m i ∧ rowM b i = rowK F m i ∧ b.1 8 i = cseK F m i) → lpz2 (b_X12_laysRows_28 Φ) (n + 1) (nI k) b := by
    intro n
    induction n with
    | zero =>
      intro k b hk hfr h4 hz hi
      obtain rfl : k = m + 1 := by omega
      refine (show b_X12_laysRows_28 Φ (nI (m + 1)) b (lpz2 (b_X12_laysRows_28 Φ) 0) from ?_)
      generalize lpz2 (b_X12_laysRows_28 Φ) 0 = L
      unfold b_X12_laysRows_28
      rw [hfr.1 0 9 (by omega) (by omega), h9]
      refine zif_t (by rw [n_lt (by omega) (by omega)]; omega) ?_
      refine h b hfr (fun _ => ⟨h4, fun k hk => (hi k (by omega)).2⟩) (fun q => absurd (hi m (by omega)).1 q) ?_
      exact (hi 0 (by omega)).2.2
    | succ n ih =>
      intro k b hk hfr h4 hz hi
      rw [lpz2]
      refine m_stepM (F := F) (m := m) hm (by omega) (by rw [hfr.1 0 9 (by omega) (by omega)]; exact h9) h4 (fun j hj => ⟨by rw [hfr.2 4 (by decide) (by decide)]; exact (hF j hj).1, hFn j hj⟩) hFm hz (fun i hik => ⟨(hi i hik).1, (hi i hik).2.1⟩) (fun b2 h2 hbad hgood => ?_)
      have hfr2 := frL_tr hfr (frL_R h2)
      by_cases hok : okK F m k
      · obtain ⟨e1, e2, e3⟩ := hgood hok
        refine ih (k + 1) b2 (by omega) hfr2 e1 (fun i a1 a2 j => by rw [rowM_fr h2 (by omega)]; exact hz i (by omega) a2 j) (fun i hik => ?_)
        by_cases hie : i = k
        · subst hie; exact ⟨hok, e2, e3⟩
        · have hio := hi i (by omega)
          refine ⟨hio.1, ?_, ?_⟩
          · rw [rowM_fr h2 hie]; exact hio.2.1
          · rw [h2.1 8 i (by omega) (by omega)]; exact hio.2.2
      · obtain ⟨f1, hk0⟩ := hbad hok
        have fin : Φ b2 := h b2 hfr2 (fun q => absurd (okK_le q (show k ≤ m by omega)) hok) (fun _ => f1) (by rw [h2.1 8 0 (by omega) (by omega)]; exact (hi 0 (by omega)).2.2)
        rw [lpz2]
        unfold b_X12_laysRows_28
        exact ⟨fun _ => fin, fun _ => zifn_f (by rw [f1]; decide) fin⟩
  refine key (m + 1) 0 b0 (by omega) g1 g2 (fun i _ hi j => ?_) (fun i hi => absurd hi (Nat.not_lt_zero i))
  unfold rowM
  split
  · exact g3 _ (by omega)
  · rfl
theorem m_laysRows_m {μ : ZMem} (h9 : μ.1 0 9 = -1) {Φ : ZMem → Prop} (h : ∀ μ', frL μ μ' → μ'.1 0 4 = 0 → Φ μ') : w_X12_laysRows μ Φ := by
  unfold w_X12_laysRows
  refine nm_b ?_
  have f0 : frL μ (zz_upI μ 0 4 0) := by
    refine ⟨fun a s p q => ?_, fun _ _ _ => rfl⟩
    rw [mI1]
    split
    · rename_i e; subst e; rw [upd_at, if_neg (fun e => p ⟨rfl, e⟩)]
    · rfl
  have f4 : (zz_upI μ 0 4 0).1 0 4 = 0 := by rw [mI1, if_pos rfl, upd_at, if_pos rfl]
  refine nm_k (fun b => frL μ b ∧ b.1 0 4 = 0) (fun J hJ => m_clear (fun b q1 q2 q3 => hJ b ⟨frL_tr f0 q1, by rw [q2]; exact f4⟩)) ?_
  rintro b0 ⟨g1, g2⟩
  refine ⟨1, ?_⟩
  refine (show b_X12_laysRows_28 Φ 0 b0 (lpz2 (b_X12_laysRows_28 Φ) 0) from ?_)
  generalize lpz2 (b_X12_laysRows_28 Φ) 0 = L
  unfold b_X12_laysRows_28
  rw [g1.1 0 9 (by omega) (by omega), h9]
  exact zif_t (by decide) (h b0 g1 g2)
