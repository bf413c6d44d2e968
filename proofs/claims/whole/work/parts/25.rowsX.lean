/-! the class's sign rows, one by one -/
theorem nI_sub2 (k : Nat) : nI (k + 2) - 2 = nI k := pk_sub (a := k + 2) (b := 2) (by omega)
theorem nI_sub1 (k : Nat) : nI (k + 1) - 1 = nI k := nI_pred k
theorem wd_le {m k : Nat} (hm : m ≤ 6) (hk : k ≤ m) : wd m k ≤ 4 ∧ 0 < wd m k := by unfold wd; omega
theorem wd_le2 {m k : Nat} (hm : m ≤ 6) (hk : 2 ≤ k) : wd m k ≤ 3 := by unfold wd; omega
theorem wd_I {m k : Nat} (hm : m ≤ 6) (hk : k ≤ m) : (nI m - nI k) / 2 + 1 = nI (wd m k) := by
  rw [pk_sub hk, show (2 : Int32) = nI 2 from rfl, pk_div (by omega) (by omega) (by omega), nI_1]
  rfl
theorem e_width {μ : ZMem} {t m k : Nat} (hm : m ≤ 6) (hk : k ≤ m) (ht : μ.1 t 4 = nI m) {Φ : Int32 → Prop} (h : Φ (nI (wd m k))) : w_X8_width t (nI k) μ Φ := by
  unfold w_X8_width
  rw [ht, wd_I hm hk]
  exact h
theorem e_takeRow {μ : ZMem} {t k m : Nat} (hm : m ≤ 6) (hk : k ≤ m) (ht : μ.1 t 4 = nI m) {Φ : ZMem → Prop} (h : Φ (stJ μ (t + 4 + k) (ovr 4 (cut (wd m k) fun j => μ.2 (t + 1) (m - k - 2 * j)) (μ.2 (t + 4 + k))))) : w_X8_takeRow t (nI k) μ Φ := by
  refine ⟨5, ?_⟩
  have hvk := vp_in_nI (n := k) (N := 7) (by omega) (by omega)
  have g := lp2_up (body := b_X8_takeRow_2 Φ t (nI k)) 4 (fun i => stJ μ (t + 4 + k) (ovr i (cut (wd m k) fun j => μ.2 (t + 1) (m - k - 2 * j)) (μ.2 (t + 4 + k)))) (fun i K hi hK => ?_) (fun K => ?_) 4 0 rfl
  · rw [stJ_0] at g; exact g
  · refine zif_f (nI_lt7 (n := 4) hi (by omega)) ?_
    show nm _ _
    have e3 : ((stJ μ (t + 4 + k) (ovr i (cut (wd m k) fun j => μ.2 (t + 1) (m - k - 2 * j)) (μ.2 (t + 4 + k)))).1 t 4 - nI k - 2 * nI i).toInt = (m : Int) - k - 2 * i := by
      rw [stJ1, ht, pk_sub hk, show (2 : Int32) = nI 2 from rfl, pk_mul, pk_sub_toInt (by omega) (by omega)]
      omega
    generalize hz : (stJ μ (t + 4 + k) (ovr i (cut (wd m k) fun j => μ.2 (t + 1) (m - k - 2 * j)) (μ.2 (t + 4 + k)))).1 t 4 - nI k - 2 * nI i = z at e3
    have fin : ∀ v : Int64, v = cut (wd m k) (fun j => μ.2 (t + 1) (m - k - 2 * j)) i → vp_in (nI i) 4 ∧ nm (zz_upJ (stJ μ (t + 4 + k) (ovr i (cut (wd m k) fun j => μ.2 (t + 1) (m - k - 2 * j)) (μ.2 (t + 4 + k)))) (t + 4 + Int32.toNatClampNeg (nI k)) (Int32.toNatClampNeg (nI i)) v) (fun μ_8 => K (nI i + 1) μ_8) := by
      intro v hv
      refine ⟨vp_in_nI hi (by omega), ?_⟩
      rw [nn_clamp (by omega), nn_clamp (by omega)]
      show K (nI i + 1) _
      rw [nI_1, upJ_ovr hv]
      exact hK
    refine ⟨hvk, zif (fun h0 => ?_) (fun h0 => ?_)⟩
    · have h1 : 0 ≤ z.toInt := Int32.le_iff_toInt_le.mp h0
      have hzn : z = nI (m - k - 2 * i) := by
        apply Int32.toInt_inj.mp
        rw [e3, nI_toInt (by omega)]
        omega
      refine ⟨by rw [hzn]; exact vp_in_nI (by omega) (by omega), fin _ ?_⟩
      rw [hzn, nn_clamp (by omega), stJ_ne (by omega)]
      unfold cut wd
      rw [if_pos (by omega)]
    · refine fin _ ?_
      have h1 : ¬ 0 ≤ z.toInt := fun q => h0 (Int32.le_iff_toInt_le.mpr q)
      unfold cut wd
      rw [if_neg (by omega)]
  · exact zif_t (by decide) h
theorem xt_ne {a b v : Int64} (h : xt a b = some v) : ¬ v = MINL := by
  unfold xt at h
  split at h
  · rename_i hf
    cases h
    intro q
    have h1 := l_mulF hf
    rw [q] at h1
    have h2 : MINL.toInt = -9223372036854775808 := by decide
    have h3 := (zfit_iff _).mp hf
    omega
  · cases h
theorem xp_ne {a b v : Int64} (h : xp a b = some v) : ¬ v = MINL := by
  unfold xp at h
  split at h
  · rename_i hf
    cases h
    intro q
    have h1 := l_addF hf
    rw [q] at h1
    have h2 : MINL.toInt = -9223372036854775808 := by decide
    have h3 := (zfit_iff _).mp hf
    omega
  · cases h
theorem xs_ne {a b v : Int64} (h : xs a b = some v) : ¬ v = MINL := by
  unfold xs at h
  split at h
  · rename_i hf
    cases h
    intro q
    have h1 := l_subF hf
    rw [q] at h1
    have h2 : MINL.toInt = -9223372036854775808 := by decide
    have h3 := (zfit_iff _).mp hf
    omega
  · cases h
theorem neg_ne {v : Int64} (h : ¬ v = MINL) : ¬ -v = MINL := by
  intro q
  apply h
  have h1 := congrArg Int64.toInt q
  have h2 := l_rng v
  have h3 : MINL.toInt = -9223372036854775808 := by decide
  have h4 : ¬ v.toInt = -9223372036854775808 := fun z => h (l_min.mpr z)
  rw [Int64.toInt_neg, l_bm (by omega) (by omega)] at h1
  omega
theorem encO_ne {o : Option Int64} (h : ∀ v, o = some v → ¬ v = MINL) : encO o = MINL ↔ o = none := by
  cases o with
  | none => exact ⟨fun _ => rfl, fun _ => rfl⟩
  | some v => exact ⟨fun q => absurd q (h v rfl), fun q => by cases q⟩
theorem opt2_eq {f : Int64 → Int64 → Option Int64} {a b : Int64} (ha : ¬ a = MINL) (hb : ¬ b = MINL) : opt2 f a b = f a b := by
  unfold opt2; rw [if_neg (fun q => q.elim ha hb)]
theorem cross_enc {A B : Nat → Int64} {j : Nat} (h1 : ¬ B 0 = MINL) (h2 : ¬ A 0 = MINL) (h3 : ¬ A (j + 1) = MINL) (h4 : ¬ B (j + 1) = MINL) : (if (0 : Int64) ≤ B 0 then encO (opt2 xs (encO (opt2 xt (B 0) (A (j + 1)))) (encO (opt2 xt (A 0) (B (j + 1))))) else -encO (opt2 xs (encO (opt2 xt (B 0) (A (j + 1)))) (encO (opt2 xt (A 0) (B (j + 1)))))) = encO (crossIt A B j) := by
  rw [opt2_eq h1 h3, opt2_eq h2 h4]
  unfold crossIt
  cases e1 : xt (B 0) (A (j + 1)) with
  | none =>
    have : encO (opt2 xs (encO none) (encO (xt (A 0) (B (j + 1))))) = MINL := by simp [opt2, encO]
    rw [this]
    split <;> rfl
  | some x =>
    cases e2 : xt (A 0) (B (j + 1)) with
    | none =>
      have : encO (opt2 xs (encO (some x)) (encO none)) = MINL := by simp [opt2, encO]
      rw [this]
      split <;> rfl
    | some y =>
      show (if (0 : Int64) ≤ B 0 then encO (opt2 xs x y) else -encO (opt2 xs x y)) = encO ((xs x y).map fun v => if B 0 < 0 then -v else v)
      rw [opt2_eq (xt_ne e1) (xt_ne e2)]
      cases e3 : xs x y with
      | none => split <;> rfl
      | some v =>
        show (if (0 : Int64) ≤ B 0 then v else -v) = (if B 0 < 0 then -v else v)
        by_cases h0 : B 0 < 0
        · rw [if_pos h0, if_neg (Int64.not_le.mpr h0)]
        · rw [if_neg h0, if_pos (Int64.not_lt.mp h0)]
/-- the item behind item j of a row, where there is one -/
theorem e_behind {μ : ZMem} {k n j : Nat} {R : Nat → Int64} (hR : μ.2 k = R) (hj : j + 1 < n) (hn : n < 100) {Φ : Int64 → Prop} (h : Φ (R (j + 1))) : w_X8_behind k n (nI j) μ Φ := by
  unfold w_X8_behind
  rw [nI_1, nn_clamp (n := j + 1) (by omega), hR]
  exact zif_f (nI_lt7 (n := n) hj (by omega)) ⟨vp_in_nI hj (by omega), h⟩
theorem e_crossRow {μ : ZMem} {t k m : Nat} (hm : m ≤ 6) (hk : k + 2 ≤ m) (ht : μ.1 t 4 = nI m) (hA : ∀ j, j < 4 → ¬ μ.2 (t + 4 + k) j = MINL) (hB : ∀ j, j < 4 → ¬ μ.2 (t + 4 + (k + 1)) j = MINL) {Φ : ZMem → Prop} (h : Φ (stJ μ (t + 4 + (k + 2)) (ovr 4 (cut (wd m (k + 2)) fun j => encO (crossIt (μ.2 (t + 4 + k)) (μ.2 (t + 4 + (k + 1))) j)) (μ.2 (t + 4 + (k + 2)))))) : w_X8_crossRow t (nI (k + 2)) μ Φ := by
  have hw := wd_le2 (m := m) (k := k + 2) hm (by omega)
  unfold w_X8_crossRow
  rw [nI_sub2, show nI (k + 2) - 1 = nI (k + 1) from nI_sub1 (k + 1)]
  refine ⟨vp_in_nI (by omega) (by omega), vp_in_nI (by omega) (by omega), 5, ?_⟩
  have hvk := vp_in_nI (n := k + 2) (N := 7) (by omega) (by omega)
  generalize hf : (cut (wd m (k + 2)) fun j => encO (crossIt (μ.2 (t + 4 + k)) (μ.2 (t + 4 + (k + 1))) j)) = f at h
  have g := lp2_up (body := b_X8_crossRow_21 Φ t (nI (k + 2))) 4 (fun i => stJ μ (t + 4 + (k + 2)) (ovr i f (μ.2 (t + 4 + (k + 2))))) (fun i K hi hK => ?_) (fun K => ?_) 4 0 rfl
  · rw [stJ_0] at g; exact g
  · refine zif_f (nI_lt7 (n := 4) hi (by omega)) ?_
    refine e_width (m := m) hm hk (by rw [stJ1]; exact ht) ?_
    rw [nI_sub2, show nI (k + 2) - 1 = nI (k + 1) from nI_sub1 (k + 1)]
    rw [nn_clamp (n := k) (by omega), nn_clamp (n := k + 1) (by omega), nn_clamp (n := k + 2) (by omega), nn_clamp (n := i) (by omega), nI_1]
    rw [stJ_ne (a := t + 4 + k) (by omega), stJ_ne (a := t + 4 + (k + 1)) (by omega)]
    have fin : ∀ v : Int64, (if (0 : Int64) ≤ μ.2 (t + 4 + (k + 1)) 0 then v else -v) = f i → vp_in (nI (k + 2)) 7 ∧ nm (fun x_10 : Int64 => vp_in (nI i) 4 ∧ nm (zz_upJ (stJ μ (t + 4 + (k + 2)) (ovr i f (μ.2 (t + 4 + (k + 2))))) (t + 4 + (k + 2)) i x_10) (fun μ_13 => K (nI (i + 1)) μ_13)) (fun J_11 : Int64 → Prop => ((0 : Int64) ≤ μ.2 (t + 4 + (k + 1)) 0 → J_11 v) ∧ (¬ (0 : Int64) ≤ μ.2 (t + 4 + (k + 1)) 0 → J_11 (-v))) := by
      intro v hv
      refine ⟨hvk, zif (fun h0 => ⟨vp_in_nI hi (by omega), ?_⟩) (fun h0 => ⟨vp_in_nI hi (by omega), ?_⟩)⟩
      · rw [if_pos h0] at hv
        show K _ _
        rw [upJ_ovr hv]; exact hK
      · rw [if_neg h0] at hv
        show K _ _
        rw [upJ_ovr hv]; exact hK
    refine zif (fun h0 => fin _ ?_) (fun h0 => ?_)
    · have h1 : ¬ i < wd m (k + 2) := by
        rw [i_le, nI_toInt (by omega), nI_toInt (by omega)] at h0
        omega
      rw [← hf]
      unfold cut
      rw [if_neg h1]
      split <;> rfl
    · have h1 : i < wd m (k + 2) := by
        rw [i_le, nI_toInt (by omega), nI_toInt (by omega)] at h0
        omega
      refine e_behind (stJ_ne (by omega)) (by omega) (by omega) ((e_times _ _ _).mpr (e_behind (stJ_ne (by omega)) (by omega) (by omega) ((e_times _ _ _).mpr ((e_less _ _ _).mpr (fin _ ?_)))))
      rw [← hf]
      unfold cut
      rw [if_pos h1]
      exact cross_enc (hB 0 (by omega)) (hA 0 (by omega)) (hA _ (by omega)) (hB _ (by omega))
  · exact zif_t (by decide) h
