/-! the class's mending of a row, and all its rows -/
def mendX (m k : Nat) (A r : Nat → Int64) : Nat → Int64 := fun j =>
  if j < wd m k then
    (if fz r (wd m k) = 0 then r j else if fz r (wd m k) = wd m k then encO (xt (A j) (Int32.toInt64 (nI m - nI k + 1 - 2 * nI j)))
      else if j + fz r (wd m k) < wd m k then encO (opt2 xp (r j) (if fz r (wd m k) % 2 = 1 then -r (j + fz r (wd m k)) else r (j + fz r (wd m k)))) else r j)
  else r j
theorem fzN_le (r : Nat → Int64) (w : Nat) : ∀ n, n ≤ w → w - n ≤ fzN r w n ∧ fzN r w n ≤ w := by
  intro n
  induction n with
  | zero => intro _; exact ⟨Nat.le_refl _, Nat.le_refl _⟩
  | succ n ih =>
    intro h
    rw [fzN]
    split
    · have := ih (by omega); omega
    · omega
theorem fz_le (r : Nat → Int64) (w : Nat) : fz r w ≤ w := (fzN_le r w w (Nat.le_refl w)).2
theorem fzN_ne (r : Nat → Int64) (w : Nat) : ∀ n, n ≤ w → fzN r w n < w → r (fzN r w n) ≠ 0 := by
  intro n
  induction n with
  | zero => intro _ h; exact absurd h (Nat.lt_irrefl _)
  | succ n ih =>
    intro h1 h2
    rw [fzN] at h2 ⊢
    split at h2
    · rename_i h0; rw [if_pos h0]; exact ih (by omega) h2
    · rename_i h0; rw [if_neg h0]; exact h0
theorem fz_ne {r : Nat → Int64} {w : Nat} (h : fz r w < w) : r (fz r w) ≠ 0 := fzN_ne r w w (Nat.le_refl w) h
theorem fzN_z (r : Nat → Int64) (w : Nat) : ∀ n, n ≤ w → ∀ j, w - n ≤ j → j < fzN r w n → r j = 0 := by
  intro n
  induction n with
  | zero => intro _ j h1 h2; have : j < w := h2; omega
  | succ n ih =>
    intro hn j h1 h2
    rw [fzN] at h2
    split at h2
    · rename_i h0
      by_cases e : j = w - (n + 1)
      · rw [e]; exact h0
      · exact ih (by omega) j (by omega) h2
    · omega
theorem fz_z {r : Nat → Int64} {w j : Nat} (h : j < fz r w) : r j = 0 := fzN_z r w w (Nat.le_refl w) j (by omega) h
theorem fzN_congr {r r' : Nat → Int64} {w : Nat} : ∀ n, n ≤ w → (∀ j, j < w → r j = r' j) → fzN r w n = fzN r' w n := by
  intro n
  induction n with
  | zero => intro _ _; rfl
  | succ n ih =>
    intro hn h
    rw [fzN, fzN, h _ (by omega), ih (by omega) h]
theorem fz_congr {r r' : Nat → Int64} {w : Nat} (h : ∀ j, j < w → r j = r' j) : fz r w = fz r' w := fzN_congr w (Nat.le_refl w) h
theorem nI_par (z : Nat) (hz : z < 100) : (nI z - nI z / 2 * 2 = 1) ↔ z % 2 = 1 := by
  have e := pk_rem (a := z) (d := 2) (by omega) (by omega) (by omega)
  have e2 : nI z - nI z / 2 * 2 = nI (z % 2) := e
  rw [e2, show (1 : Int32) = nI 1 from rfl, nI_eq (by omega) (by omega)]
theorem l_min_i (x : Int32) : ¬ Int32.toInt64 x = MINL := by
  intro q
  have h1 := congrArg Int64.toInt q
  rw [Int32.toInt_toInt64] at h1
  have h2 : MINL.toInt = -9223372036854775808 := by decide
  have h3 := Int32.le_toInt x
  omega
theorem e_mendRow {μ : ZMem} {t k m : Nat} (hm : m ≤ 6) (hk : k + 1 ≤ m) (ht : μ.1 t 4 = nI m) (hA : ∀ j, j < 4 → ¬ μ.2 (t + 4 + k) j = MINL) {Φ : Int32 → ZMem → Prop} (h : Φ (csZ (wd m (k + 1)) (fz (μ.2 (t + 4 + (k + 1))) (wd m (k + 1)))) (stJ μ (t + 4 + (k + 1)) (mendX m (k + 1) (μ.2 (t + 4 + k)) (μ.2 (t + 4 + (k + 1)))))) : w_X8_mendRow t (nI (k + 1)) μ Φ := by
  have hw := wd_le (m := m) (k := k + 1) hm hk
  have hvk := vp_in_nI (n := k + 1) (N := 7) (by omega) (by omega)
  have hzl := fz_le (μ.2 (t + 4 + (k + 1))) (wd m (k + 1))
  unfold w_X8_mendRow
  generalize hr : μ.2 (t + 4 + (k + 1)) = r at h hzl
  generalize hz : fz r (wd m (k + 1)) = z at h hzl
  -- behind the search
  have after : (¬ nI z = 0 → w_X8_width t (nI (k + 1)) μ (fun r_3 => (¬ nI z = r_3 → ∃ n, lpz2 (b_X8_mendRow_100 t (nI (k + 1)) (nI z) Φ) n (0 : Int32) μ) ∧ (nI z = r_3 → ∃ n, lpz2 (b_X8_mendRow_47 t (nI (k + 1)) Φ) n (0 : Int32) μ))) ∧ (nI z = 0 → Φ (0 : Int32) μ) := by
    refine zifn (fun h0 => ?_) (fun h0 => ?_)
    · have hz0 : ¬ z = 0 := fun q => h0 (by rw [q]; rfl)
      refine e_width (m := m) hm hk ht (zifn (fun h1 => ?_) (fun h1 => ?_))
      · have hzw : ¬ z = wd m (k + 1) := fun q => h1 (by rw [q])
        refine ⟨wd m (k + 1) - z + 1, ?_⟩
        generalize hf : (fun j => encO (opt2 xp (r j) (if z % 2 = 1 then -r (j + z) else r (j + z)))) = f
        have g := lp2_up (body := b_X8_mendRow_100 t (nI (k + 1)) (nI z) Φ) (wd m (k + 1) - z) (fun i => stJ μ (t + 4 + (k + 1)) (ovr i f r)) (fun i K hi hK => ?_) (fun K => ?_) (wd m (k + 1) - z) 0 (by omega)
        · rw [← hr, stJ_0] at g; exact g
        · refine e_width (m := m) hm hk (by rw [stJ1]; exact ht) (zif_f ?_ ⟨hvk, ?_⟩)
          · rw [nI_add]; exact nI_lt7 (by omega) (by omega)
          rw [nI_add, nn_clamp (n := i + z) (by omega), nn_clamp (n := k + 1) (by omega), nn_clamp (n := i) (by omega), stJ_eq, ovr_ge (n := i) (j := i + z) (by omega), ovr_ge (n := i) (j := i) (by omega)]
          have fin : ∀ x : Int64, x = (if z % 2 = 1 then -r (i + z) else r (i + z)) → w_X1_plus (r i) x (fun r_17 => vp_in (nI i) 4 ∧ nm (zz_upJ (stJ μ (t + 4 + (k + 1)) (ovr i f r)) (t + 4 + (k + 1)) i r_17) (fun μ_20 => K (nI i + 1) μ_20)) := by
            intro x hx
            refine (e_plus _ _ _).mpr ⟨vp_in_nI (by omega) (by omega), ?_⟩
            show K _ _
            rw [nI_1, upJ_ovr]
            · exact hK
            · rw [← hf, hx]
          refine ⟨vp_in_nI (by omega) (by omega), hvk, hvk, vp_in_nI (by omega) (by omega), zifn (fun h2 => fin _ ?_) (fun h2 => fin _ ?_)⟩
          · rw [nI_par z (by omega)] at h2
            rw [if_neg h2]
          · rw [nI_par z (by omega)] at h2
            rw [if_pos h2]
        · refine e_width (m := m) hm hk (by rw [stJ1]; exact ht) (zif_t ?_ ?_)
          · rw [nI_add, show wd m (k + 1) - z + z = wd m (k + 1) by omega]; exact Int32.le_refl _
          have e1 : csZ (wd m (k + 1)) z = 1 := by unfold csZ; rw [if_neg hz0, if_neg hzw]
          have e2 : mendX m (k + 1) (μ.2 (t + 4 + k)) r = ovr (wd m (k + 1) - z) f r := by
            funext j
            unfold mendX ovr
            rw [hz, ← hf, if_neg hz0, if_neg hzw]
            by_cases h3 : j + z < wd m (k + 1)
            · rw [if_pos (show j < wd m (k + 1) by omega), if_pos h3, if_pos (show j < wd m (k + 1) - z by omega)]
            · rw [if_neg (show ¬ j < wd m (k + 1) - z by omega)]
              split
              · first | rfl | (rw [if_neg h3])
              · first | rfl | (rw [if_neg h3])
          rw [e1, e2] at h
          exact h
      · have hzw : z = wd m (k + 1) := (nI_eq (by omega) (by omega)).mp h1
        refine ⟨wd m (k + 1) + 1, ?_⟩
        generalize hf : (fun j => encO (xt (μ.2 (t + 4 + k) j) (Int32.toInt64 (nI m - nI (k + 1) + 1 - 2 * nI j)))) = f
        have g := lp2_up (body := b_X8_mendRow_47 t (nI (k + 1)) Φ) (wd m (k + 1)) (fun i => stJ μ (t + 4 + (k + 1)) (ovr i f r)) (fun i K hi hK => ?_) (fun K => ?_) (wd m (k + 1)) 0 (by omega)
        · rw [← hr, stJ_0] at g; exact g
        · refine e_width (m := m) hm hk (by rw [stJ1]; exact ht) (zif_f (nI_lt7 hi (by omega)) ⟨hvk, ?_⟩)
          rw [show nI (k + 1) - 1 = nI k from nI_sub1 k, nn_clamp (n := k + 1) (by omega), nn_clamp (n := i) (by omega), nn_clamp (n := k) (by omega), stJ_ne (a := t + 4 + k) (by omega), stJ1, ht]
          refine ⟨vp_in_nI (by omega) (by omega), vp_in_nI (by omega) (by omega), (e_times _ _ _).mpr ⟨vp_in_nI (by omega) (by omega), ?_⟩⟩
          show K _ _
          rw [nI_1, upJ_ovr]
          · exact hK
          · rw [← hf, opt2_eq (hA i (by omega)) (l_min_i _)]
        · refine e_width (m := m) hm hk (by rw [stJ1]; exact ht) (zif_t (Int32.le_refl _) ?_)
          have e1 : csZ (wd m (k + 1)) z = 2 := by unfold csZ; rw [if_neg hz0, if_pos hzw]
          have e2 : mendX m (k + 1) (μ.2 (t + 4 + k)) r = ovr (wd m (k + 1)) f r := by
            funext j
            unfold mendX ovr
            rw [hz, ← hf, if_neg hz0, if_pos hzw]
          rw [e1, e2] at h
          exact h
    · have hz0 : z = 0 := (nI_eq (by omega) (by omega)).mp h0
      have e1 : csZ (wd m (k + 1)) z = 0 := by unfold csZ; rw [if_pos hz0]
      have e2 : mendX m (k + 1) (μ.2 (t + 4 + k)) r = r := by
        funext j
        unfold mendX
        rw [hz, if_pos hz0]
        split <;> rfl
      rw [e1, e2, ← hr, stJ_self] at h
      exact h
  refine ⟨wd m (k + 1) + 1, ?_⟩
  have key : ∀ n i, i + n = wd m (k + 1) → fzN r (wd m (k + 1)) n = z → lpz1 (b_X8_mendRow_2 t (nI (k + 1)) μ (fun v2_1 => (¬ v2_1 = 0 → w_X8_width t (nI (k + 1)) μ (fun r_3 => (¬ v2_1 = r_3 → ∃ n, lpz2 (b_X8_mendRow_100 t (nI (k + 1)) v2_1 Φ) n (0 : Int32) μ) ∧ (v2_1 = r_3 → ∃ n, lpz2 (b_X8_mendRow_47 t (nI (k + 1)) Φ) n (0 : Int32) μ))) ∧ (v2_1 = 0 → Φ (0 : Int32) μ))) (n + 1) (nI i) := by
    intro n
    induction n with
    | zero =>
      intro i hi hzz
      rw [lpz1]
      unfold b_X8_mendRow_2
      refine e_width (m := m) hm hk ht ?_
      refine zif_t (by rw [show i = wd m (k + 1) by omega]; exact Int32.le_refl _) ?_
      have e : i = z := by rw [← hzz]; show i = wd m (k + 1); omega
      rw [e]; exact after
    | succ n ih =>
      intro i hi hzz
      rw [lpz1]
      unfold b_X8_mendRow_2
      refine e_width (m := m) hm hk ht ?_
      refine zif_f (nI_lt7 (by omega) (by omega)) ⟨hvk, vp_in_nI (by omega) (by omega), ?_⟩
      have hc : μ.2 (t + 4 + Int32.toNatClampNeg (nI (k + 1))) (Int32.toNatClampNeg (nI i)) = r i := by rw [nn_clamp (n := k + 1) (by omega), nn_clamp (n := i) (by omega), hr]
      rw [fzN, show wd m (k + 1) - (n + 1) = i by omega] at hzz
      by_cases h0 : r i = 0
      · rw [if_pos h0] at hzz
        refine zifn_t (hc.trans h0) ?_
        rw [nI_1]
        exact ih (i + 1) (by omega) hzz
      · rw [if_neg h0] at hzz
        refine zifn_f (by rw [hc]; exact h0) ?_
        rw [hzz]; exact after
  exact key (wd m (k + 1)) 0 (by omega) hz
