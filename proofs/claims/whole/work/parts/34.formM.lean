/-! the reference's forms -/
theorem itM_s (a : Int64) : ∀ n f, itM a (n + 1) f = mulL a (itM a n f) := by
  intro n
  induction n with
  | zero => intro f; rfl
  | succ n ih => intro f; exact ih (mulL a f)
def mixM (μ : ZMem) (u v : Int32) : Nat → Int64 := fun j => Int32.toInt64 u * Int32.toInt64 (μ.1 1 j) + Int32.toInt64 v * Int32.toInt64 (μ.1 1 (7 + j))
theorem m_takes {μ : ZMem} {u v : Int32} {Φ : ZMem → Prop} (h : ∀ μ', (∀ a s, ¬ (a = 0 ∧ s = 8) → μ'.1 a s = μ.1 a s) → (∀ a, a ≠ 3 → μ'.2 a = μ.2 a) → (∀ j, j < 7 → μ'.2 3 j = mixM μ u v j) → μ'.1 0 8 = hd7 (mixM μ u v) → Φ μ') : w_X12_takes u v μ Φ := by
  unfold w_X12_takes
  refine nm_k (fun b => b.1 = μ.1 ∧ (∀ a, a ≠ 3 → b.2 a = μ.2 a) ∧ ∀ j, j < 7 → b.2 3 j = mixM μ u v j) (fun J hJ => ⟨8, ?_⟩) ?_
  · refine lp2_inv 7 (fun i b => b.1 = μ.1 ∧ (∀ a, a ≠ 3 → b.2 a = μ.2 a) ∧ ∀ j, j < i → b.2 3 j = mixM μ u v j) (fun i b K hi hI hK => ?_) (fun b K hI => ?_) 7 0 μ (by omega) ⟨rfl, fun _ _ => rfl, fun j hj => absurd hj (Nat.not_lt_zero j)⟩
    · obtain ⟨i1, i2, i3⟩ := hI
      unfold b_X12_takes_2
      rw [show (7 : Int32) + nI i = nI (7 + i) from nI_add 7 i, Int32.zero_add, nn_clamp (n := i) (by omega), nn_clamp (n := 7 + i) (by omega), nI_1]
      refine zif_f (by rw [show (7 : Int32) = nI 7 from rfl, n_le (by omega) (by omega)]; omega) ⟨vp_in_nI (by omega) (by omega), vp_in_nI (by omega) (by omega), vp_in_nI (by omega) (by omega), ?_⟩
      refine hK _ ⟨i1, fun a p => ?_, fun j hj => ?_⟩
      · rw [mJ2, if_neg p]; exact i2 a p
      · rw [mJ2, if_pos rfl, updL_at]
        by_cases e : j = i
        · rw [if_pos e, i1, e]; rfl
        · rw [if_neg e]; exact i3 j (by omega)
    · obtain ⟨i1, i2, i3⟩ := hI
      unfold b_X12_takes_2
      exact zif_t (by decide) (hJ b ⟨i1, i2, i3⟩)
  rintro b ⟨i1, i2, i3⟩
  refine m_degreeOf (nm_b ?_)
  have e : hd7 (b.2 3) = hd7 (mixM μ u v) := by unfold hd7; rw [dg_congr i3]
  rw [e]
  refine h _ (fun a s p => ?_) i2 i3 (by rw [mI1, if_pos rfl, upd_at, if_pos rfl])
  rw [mI1]
  split
  · rename_i e0; subst e0; rw [upd_at, if_neg (fun q => p ⟨rfl, q⟩), i1]
  · rw [i1]
/-- what making a form may change -/
def fr45 (μ μ' : ZMem) : Prop := μ'.1 = μ.1 ∧ ∀ a, a ≠ 4 → a ≠ 5 → μ'.2 a = μ.2 a
theorem fr45_4 {μ μ' : ZMem} {s : Nat} {v : Int64} (h : fr45 μ μ') : fr45 μ (zz_upJ μ' 4 s v) := ⟨h.1, fun a p q => by rw [mJ2, if_neg p]; exact h.2 a p q⟩
theorem fr45_5 {μ μ' : ZMem} {s : Nat} {v : Int64} (h : fr45 μ μ') : fr45 μ (zz_upJ μ' 5 s v) := ⟨h.1, fun a p q => by rw [mJ2, if_neg q]; exact h.2 a p q⟩
theorem fr45_5s {μ μ' : ZMem} {f : Nat → Int64} (h : fr45 μ μ') : fr45 μ (stJ μ' 5 f) := ⟨h.1, fun a p q => by rw [stJ_ne q]; exact h.2 a p q⟩
theorem m_wider {μ : ZMem} {a : Int32} {Φ : ZMem → Prop} (h : Φ (stJ μ 5 (ovr 7 (mulL (Int32.toInt64 a) (μ.2 5)) (μ.2 5)))) : w_X12_wider a μ Φ := by
  refine ⟨8, ?_⟩
  have g := lp2_dn (body := b_X12_wider_3 Φ a) (fun i => stJ μ 5 (ovrD i (mulL (Int32.toInt64 a) (μ.2 5)) (μ.2 5))) 7 (fun i K hi hK => ?_) (fun K => ?_) 7 (by omega)
  · have e : stJ μ 5 (ovrD 7 (mulL (Int32.toInt64 a) (μ.2 5)) (μ.2 5)) = μ := by rw [ovrD_7, stJ_self]
    have g' : lpz2 (b_X12_wider_3 Φ a) 8 (nI 7 - 1) (stJ μ 5 (ovrD 7 (mulL (Int32.toInt64 a) (μ.2 5)) (μ.2 5))) := g
    rw [e] at g'
    exact g'
  · have hv := vp_in_nI (n := i) (N := 7) (by omega) (by omega)
    unfold b_X12_wider_3
    rw [nn_clamp (n := i) (by omega), stJ_eq]
    refine zif_f (nI_nneg (by omega)) ?_
    refine nm_k (fun x => x = if i = 0 then 0 else μ.2 5 (i - 1)) (fun J hJ => ?_) ?_
    · refine zif (fun h0 => hJ _ ?_) (fun h0 => ?_)
      · rw [show (0 : Int32) = nI 0 from rfl, n_le (by omega) (by omega)] at h0
        rw [if_pos (by omega)]
      · rw [show (0 : Int32) = nI 0 from rfl, n_le (by omega) (by omega)] at h0
        obtain ⟨c, rfl⟩ : ∃ c, i = c + 1 := ⟨i - 1, by omega⟩
        rw [nI_pred]
        refine ⟨vp_in_nI (by omega) (by omega), hJ _ ?_⟩
        rw [nn_clamp (by omega), ovrD_lt (by omega), if_neg (by omega)]; rfl
    rintro x hx
    refine ⟨hv, hv, ?_⟩
    show K (nI i + -1) _
    rw [nI_pm, upJ_ovrD hi]
    · exact hK
    · rw [hx, ovrD_lt (by omega)]; rfl
  · exact zif_t (by decide) (by rw [ovrD_0]; exact h)
theorem m_shifts {μ : ZMem} {a : Int32} {C : Nat → Int64} (hC : ∀ j, j < 7 → μ.2 3 j = C j) (h8 : μ.1 0 8 = hd7 C) {Φ : ZMem → Prop} (h : ∀ μ', fr45 μ μ' → (∀ j, j < 7 → μ'.2 4 j = hor (Int32.toInt64 a) C (dg C) z0 j) → Φ μ') : w_X12_shifts a μ Φ := by
  have hd := dg_le C
  unfold w_X12_shifts
  refine nm_k (fun b => fr45 μ b ∧ ∀ j, j < 7 → b.2 5 j = 0) (fun J hJ => ⟨8, ?_⟩) ?_
  · refine lp2_inv 7 (fun i b => fr45 μ b ∧ ∀ j, j < i → b.2 5 j = 0) (fun i b K hi hI hK => ?_) (fun b K hI => ?_) 7 0 μ (by omega) ⟨⟨rfl, fun _ _ _ => rfl⟩, fun j hj => absurd hj (Nat.not_lt_zero j)⟩
    · obtain ⟨i1, i2⟩ := hI
      unfold b_X12_shifts_2
      rw [nn_clamp (n := i) (by omega), nI_1]
      refine zif_f (by rw [show (7 : Int32) = nI 7 from rfl, n_le (by omega) (by omega)]; omega) ⟨vp_in_nI (by omega) (by omega), hK _ ⟨fr45_5 i1, fun j hj => ?_⟩⟩
      rw [mJ2, if_pos rfl, updL_at]
      split
      · rfl
      · exact i2 j (by omega)
    · obtain ⟨i1, i2⟩ := hI
      unfold b_X12_shifts_2
      exact zif_t (by decide) (hJ b ⟨i1, i2⟩)
  rintro b0 ⟨f1, f2⟩
  rw [f1.1, h8]
  refine nm_b ?_
  refine nm_k (fun b => fr45 μ b ∧ ∀ j, j < 7 → b.2 5 j = hor (Int32.toInt64 a) C (dg C) z0 j) (fun J hJ => ⟨dg C + 1, ?_⟩) ?_
  · refine lp2_dni (dg C) (fun n b => fr45 μ b ∧ ∃ p, (∀ j, j < 7 → b.2 5 j = p j) ∧ hor (Int32.toInt64 a) C n p = hor (Int32.toInt64 a) C (dg C) z0) (fun i b K hi hI hK => ?_) (fun b K hI => ?_) (dg C) (Nat.le_refl _) b0 ⟨f1, z0, f2, rfl⟩
    · obtain ⟨i1, p, i2, i3⟩ := hI
      unfold b_X12_shifts_26
      refine zif_f (nI_nneg (by omega)) (m_wider ⟨vp_in_nI (by omega) (by omega), ?_⟩)
      rw [nn_clamp (n := i) (by omega)]
      show K (nI i + -1) _
      rw [nI_pm]
      refine hK _ ⟨fr45_5 (fr45_5s i1), _, fun j hj => ?_, i3⟩
      rw [mJ2, if_pos rfl, updL_at, stJ_eq, ovr_lt (by omega), ovr_lt hj, stJ_ne (by decide), i1.2 3 (by decide) (by decide), hC i (by omega), mulL_congr i2 0 (by omega), mulL_congr i2 j hj]
    · obtain ⟨i1, p, i2, i3⟩ := hI
      unfold b_X12_shifts_26
      exact zif_t (by decide) (hJ b ⟨i1, fun j hj => by rw [i2 j hj, ← i3]; rfl⟩)
  rintro b1 ⟨g1, g2⟩
  refine ⟨8, ?_⟩
  refine lp2_inv 7 (fun i b => fr45 μ b ∧ (∀ j, j < 7 → b.2 5 j = hor (Int32.toInt64 a) C (dg C) z0 j) ∧ ∀ j, j < i → b.2 4 j = hor (Int32.toInt64 a) C (dg C) z0 j) (fun i b K hi hI hK => ?_) (fun b K hI => ?_) 7 0 b1 (by omega) ⟨g1, g2, fun j hj => absurd hj (Nat.not_lt_zero j)⟩
  · obtain ⟨i1, i2, i3⟩ := hI
    have hv := vp_in_nI (n := i) (N := 7) (by omega) (by omega)
    unfold b_X12_shifts_58
    rw [nn_clamp (n := i) (by omega), nI_1]
    refine zif_f (by rw [show (7 : Int32) = nI 7 from rfl, n_le (by omega) (by omega)]; omega) ⟨hv, hv, hK _ ⟨fr45_4 i1, fun j hj => ?_, fun j hj => ?_⟩⟩
    · rw [mJ2, if_neg (by decide)]; exact i2 j hj
    · rw [mJ2, if_pos rfl, updL_at]
      by_cases e : j = i
      · rw [if_pos e, i2 i (by omega), e]
      · rw [if_neg e]; exact i3 j (by omega)
  · obtain ⟨i1, i2, i3⟩ := hI
    unfold b_X12_shifts_58
    exact zif_t (by decide) (h b i1 i3)
theorem m_circles {μ : ZMem} {C : Nat → Int64} (hC : ∀ j, j < 7 → μ.2 3 j = C j) (h8 : μ.1 0 8 = hd7 C) {Φ : ZMem → Prop} (h : ∀ μ', fr45 μ μ' → (∀ j, j < 7 → μ'.2 4 j = cirM C (dg C - 1) (dg C) j) → Φ μ') : w_X12_circles μ Φ := by
  have hd := dg_le C
  unfold w_X12_circles
  refine nm_k (fun b => fr45 μ b ∧ ∀ j, j < 7 → b.2 4 j = 0) (fun J hJ => ⟨8, ?_⟩) ?_
  · refine lp2_inv 7 (fun i b => fr45 μ b ∧ ∀ j, j < i → b.2 4 j = 0) (fun i b K hi hI hK => ?_) (fun b K hI => ?_) 7 0 μ (by omega) ⟨⟨rfl, fun _ _ _ => rfl⟩, fun j hj => absurd hj (Nat.not_lt_zero j)⟩
    · obtain ⟨i1, i2⟩ := hI
      unfold b_X12_circles_2
      rw [nn_clamp (n := i) (by omega), nI_1]
      refine zif_f (by rw [show (7 : Int32) = nI 7 from rfl, n_le (by omega) (by omega)]; omega) ⟨vp_in_nI (by omega) (by omega), hK _ ⟨fr45_4 i1, fun j hj => ?_⟩⟩
      rw [mJ2, if_pos rfl, updL_at]
      split
      · rfl
      · exact i2 j (by omega)
    · obtain ⟨i1, i2⟩ := hI
      unfold b_X12_circles_2
      exact zif_t (by decide) (hJ b ⟨i1, i2⟩)
  rintro b0 ⟨f1, f2⟩
  refine ⟨dg C + 1, ?_⟩
  refine lp2_inv (dg C) (fun i b => fr45 μ b ∧ ∀ j, j < 7 → b.2 4 j = cirM C (dg C - 1) i j) (fun i b K hi hI hK => ?_) (fun b K hI => ?_) (dg C) 0 b0 (by omega) ⟨f1, f2⟩
  · obtain ⟨i1, i2⟩ := hI
    have hv := vp_in_nI (n := i) (N := 7) (by omega) (by omega)
    unfold b_X12_circles_23
    rw [i1.1, h8]
    refine zif_f (by unfold hd7; rw [i_lt, hd_toInt hd, nI_toInt (by omega)]; omega) ?_
    refine nm_k (fun b2 => fr45 μ b2 ∧ b2.2 4 = b.2 4 ∧ ∀ j, j < 7 → b2.2 5 j = e0v (C i) j) (fun J hJ => ⟨8, ?_⟩) ?_
    · refine lp2_inv 7 (fun v b2 => fr45 μ b2 ∧ b2.2 4 = b.2 4 ∧ ∀ j, j < v → b2.2 5 j = e0v (C i) j) (fun v b2 K2 hv2 hI2 hK2 => ?_) (fun b2 K2 hI2 => ?_) 7 0 b (by omega) ⟨i1, rfl, fun j hj => absurd hj (Nat.not_lt_zero j)⟩
      · obtain ⟨j1, j2, j3⟩ := hI2
        unfold b_X12_circles_33
        rw [nn_clamp (n := v) (by omega), nn_clamp (n := i) (by omega), nI_1]
        refine zif_f (by rw [show (7 : Int32) = nI 7 from rfl, n_le (by omega) (by omega)]; omega) ?_
        refine nm_k (fun x => x = e0v (C i) v) (fun J2 hJ2 => ?_) ?_
        · refine zifn (fun h0 => hJ2 _ ?_) (fun h0 => ⟨hv, hJ2 _ ?_⟩)
          · unfold e0v; rw [if_neg (fun q => h0 (by rw [q]; rfl))]
          · have : v = 0 := by rw [show (0 : Int32) = nI 0 from rfl, nI_eq (by omega) (by omega)] at h0; exact h0
            unfold e0v; rw [if_pos this, j1.2 3 (by decide) (by decide), hC i (by omega)]
        rintro x hx
        refine ⟨vp_in_nI (by omega) (by omega), ?_⟩
        refine hK2 _ ⟨fr45_5 j1, ?_, fun j hj => ?_⟩
        · rw [mJ2, if_neg (by decide)]; exact j2
        · rw [mJ2, if_pos rfl, updL_at]
          by_cases e : j = v
          · rw [if_pos e, hx, e]
          · rw [if_neg e]; exact j3 j (by omega)
      · obtain ⟨j1, j2, j3⟩ := hI2
        unfold b_X12_circles_33
        exact zif_t (by decide) (hJ b2 ⟨j1, j2, j3⟩)
    rintro b2 ⟨c1, c2, c3⟩
    refine nm_k (fun b3 => fr45 μ b3 ∧ b3.2 4 = b.2 4 ∧ ∀ j, j < 7 → b3.2 5 j = itM (-1) (dg C - 1 - i) (itM 1 i (e0v (C i))) j) (fun J hJ => ⟨dg C - 1 + 1, ?_⟩) ?_
    · refine lp2_inv (dg C - 1) (fun v b3 => fr45 μ b3 ∧ b3.2 4 = b.2 4 ∧ ∀ j, j < 7 → b3.2 5 j = (if v ≤ i then itM 1 v (e0v (C i)) else itM (-1) (v - i) (itM 1 i (e0v (C i)))) j) (fun v b3 K2 hv2 hI2 hK2 => ?_) (fun b3 K2 hI2 => ?_) (dg C - 1) 0 b2 (by omega) ⟨c1, c2, fun j hj => by rw [if_pos (Nat.zero_le i)]; exact c3 j hj⟩
      · obtain ⟨j1, j2, j3⟩ := hI2
        unfold b_X12_circles_67
        rw [j1.1, h8, nI_1]
        refine zif_f (by unfold hd7; rw [i_le, hd_toInt hd, nI_toInt (by omega)]; omega) ?_
        refine nm_k (fun x => x = if i ≤ v then -1 else 1) (fun J2 hJ2 => ?_) ?_
        · refine zif (fun h0 => hJ2 _ ?_) (fun h0 => hJ2 _ ?_)
          · rw [n_le (by omega) (by omega)] at h0; rw [if_pos h0]
          · rw [n_le (by omega) (by omega)] at h0; rw [if_neg h0]
        rintro x hx
        refine m_wider (hK2 _ ⟨fr45_5s j1, ?_, fun j hj => ?_⟩)
        · rw [stJ_ne (by decide)]; exact j2
        · rw [stJ_eq, ovr_lt hj, mulL_congr j3 j hj, hx]
          by_cases e : i ≤ v
          · rw [if_pos e, if_neg (show ¬ v + 1 ≤ i by omega)]
            show mulL (-1) _ j = _
            rw [show v + 1 - i = (v - i) + 1 by omega, itM_s]
            by_cases e2 : v ≤ i
            · rw [if_pos e2, show v = i by omega, Nat.sub_self]; rfl
            · rw [if_neg e2]
          · rw [if_neg e, if_pos (show v + 1 ≤ i by omega), if_pos (show v ≤ i by omega), itM_s]; rfl
      · obtain ⟨j1, j2, j3⟩ := hI2
        unfold b_X12_circles_67
        rw [j1.1, h8]
        refine zif_t (by unfold hd7; rw [i_le, hd_toInt hd, nI_toInt (by omega)]; omega) (hJ b3 ⟨j1, j2, fun j hj => ?_⟩)
        rw [j3 j hj]
        by_cases e : dg C - 1 ≤ i
        · rw [if_pos e, show i = dg C - 1 by omega, Nat.sub_self]; rfl
        · rw [if_neg e]
    rintro b3 ⟨d1, d2, d3⟩
    refine nm_k (fun b4 => fr45 μ b4 ∧ ∀ j, j < 7 → b4.2 4 j = cirM C (dg C - 1) (i + 1) j) (fun J hJ => ⟨8, ?_⟩) ?_
    · refine lp2_inv 7 (fun v b4 => fr45 μ b4 ∧ (∀ j, j < 7 → b4.2 4 j = if j < v then cirM C (dg C - 1) (i + 1) j else cirM C (dg C - 1) i j) ∧ (∀ j, j < 7 → b4.2 5 j = itM (-1) (dg C - 1 - i) (itM 1 i (e0v (C i))) j)) (fun v b4 K2 hv2 hI2 hK2 => ?_) (fun b4 K2 hI2 => ?_) 7 0 b3 (by omega) ⟨d1, fun j hj => by rw [if_neg (by omega), d2]; exact i2 j hj, d3⟩
      · obtain ⟨j1, j2, j3⟩ := hI2
        have hvv := vp_in_nI (n := v) (N := 7) (by omega) (by omega)
        unfold b_X12_circles_97
        rw [nn_clamp (n := v) (by omega), nI_1]
        refine zif_f (by rw [show (7 : Int32) = nI 7 from rfl, n_le (by omega) (by omega)]; omega) ⟨hvv, hvv, hvv, ?_⟩
        refine hK2 _ ⟨fr45_4 j1, fun j hj => ?_, fun j hj => ?_⟩
        · rw [mJ2, if_pos rfl, updL_at]
          by_cases e : j = v
          · rw [if_pos e, if_pos (by omega), j2 v (by omega), j3 v (by omega), if_neg (by omega), e]; rfl
          · rw [if_neg e, j2 j hj]
            by_cases e2 : j < v
            · rw [if_pos e2, if_pos (by omega)]
            · rw [if_neg e2, if_neg (by omega)]
        · rw [mJ2, if_neg (by decide)]; exact j3 j hj
      · obtain ⟨j1, j2, j3⟩ := hI2
        unfold b_X12_circles_97
        exact zif_t (by decide) (hJ b4 ⟨j1, fun j hj => by rw [j2 j hj, if_pos hj]⟩)
    rintro b4 ⟨k1, k2⟩
    show K _ _
    rw [nI_1]
    exact hK b4 ⟨k1, k2⟩
  · obtain ⟨i1, i2⟩ := hI
    unfold b_X12_circles_23
    rw [i1.1, h8]
    exact zif_t (by unfold hd7; rw [i_lt, hd_toInt hd, nI_toInt (by omega)]; omega) (h b i1 i2)
