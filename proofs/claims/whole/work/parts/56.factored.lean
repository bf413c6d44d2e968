/-! factored -/
theorem dgN_lt {f : Nat → Int64} {n : Nat} : ∀ m, (∀ j, n ≤ j → j < m → f j = 0) → dgN f m ≤ n := by
  intro m
  induction m with
  | zero => intro _; exact Nat.zero_le _
  | succ m ih =>
    intro h
    rw [dgN]
    split
    · exact ih (fun j a b => h j a (by omega))
    · rename_i q
      by_cases e : n ≤ m
      · exact absurd (h m e (by omega)) q
      · omega
/-- one step of a division by s2 + a s + b, or by s + a -/
def dvS (sz : Nat) (a b : Int64) (i : Nat) (c : Nat → Int64) : Nat → Int64 :=
  if sz = 2 then vp_updL (vp_updL c (i - 1) (c (i - 1) - a * c i)) (i - 2) ((vp_updL c (i - 1) (c (i - 1) - a * c i)) (i - 2) - b * (vp_updL c (i - 1) (c (i - 1) - a * c i)) i) else vp_updL c (i - 1) (c (i - 1) - a * c i)
def dvD (sz : Nat) (a b : Int64) (C : Nat → Int64) : Nat → Nat → Int64
  | 0 => C
  | n + 1 => dvS sz a b (dg C - 1 - n) (dvD sz a b C n)
theorem dvS_congr {sz : Nat} {a b : Int64} {i : Nat} {c d : Nat → Int64} (hi : i < 7) (h : ∀ j, j < 7 → c j = d j) (j : Nat) (hj : j < 7) : dvS sz a b i c j = dvS sz a b i d j := by
  unfold dvS
  split
  · simp only [updL_at]
    rw [h j hj, h (i - 1) (by omega), h i hi, h (i - 2) (by omega)]
  · simp only [updL_at]
    rw [h j hj, h (i - 1) (by omega), h i hi]
theorem dvS_hi {sz : Nat} {a b : Int64} {i : Nat} {c : Nat → Int64} {j : Nat} (h : i ≤ j) (h1 : 1 ≤ i) : dvS sz a b i c j = c j := by
  unfold dvS
  split
  · rw [updL_at, if_neg (by omega), updL_at, if_neg (by omega)]
  · rw [updL_at, if_neg (by omega)]
theorem dvD_hi {sz : Nat} {a b : Int64} {C : Nat → Int64} : ∀ n, n < dg C → ∀ j, dg C - 1 ≤ j → dvD sz a b C n j = C j := by
  intro n
  induction n with
  | zero => intro _ j _; rfl
  | succ n ih =>
    intro hn j hj
    rw [dvD, dvS_hi (by omega) (by omega)]
    exact ih (by omega) j hj
theorem dvD_congr {sz : Nat} {a b : Int64} {C D : Nat → Int64} (h : ∀ j, j < 7 → C j = D j) : ∀ n j, j < 7 → dvD sz a b C n j = dvD sz a b D n j := by
  intro n
  induction n with
  | zero => intro j hj; exact h j hj
  | succ n ih =>
    intro j hj
    have hd := dg_le C
    rw [dvD, dvD, ← dg_congr h]
    exact dvS_congr (by omega) ih j hj
def quo (sz : Nat) (a b : Int64) (C : Nat → Int64) : Nat → Int64 := fun j => if j + sz < 7 then dvD sz a b C (dg C - sz) (j + sz) else 0
def okD (sz : Nat) (a b : Int64) (C : Nat → Int64) : Bool := decide (sz < dg C) && (decide (dvD sz a b C (dg C - sz) 0 = 0) && (decide (sz = 1) || decide (dvD sz a b C (dg C - sz) 1 = 0)))
theorem quo_dg {sz : Nat} {a b : Int64} {C : Nat → Int64} (h1 : 1 ≤ sz) (h : sz < dg C) : dg (quo sz a b C) ≤ dg C - sz := by
  refine dgN_lt 7 (fun j hj h7 => ?_)
  unfold quo
  split
  · rw [dvD_hi _ (by omega) _ (by omega)]
    exact dgN_z C 7 _ (by show dg C ≤ _; omega) (by omega)
  · rfl
def tmN (sz : Nat) (a b : Int64) : Nat → (Nat → Int64) → Nat
  | 0, _ => 0
  | f + 1, C => if okD sz a b C then tmN sz a b f (quo sz a b C) + 1 else 0
theorem okD_congr {sz : Nat} {a b : Int64} {C D : Nat → Int64} (h : ∀ j, j < 7 → C j = D j) : okD sz a b C = okD sz a b D := by
  unfold okD
  rw [dg_congr h, dvD_congr h _ 0 (by omega), dvD_congr h _ 1 (by omega)]
theorem quo_congr {sz : Nat} {a b : Int64} {C D : Nat → Int64} (h : ∀ j, j < 7 → C j = D j) (j : Nat) : quo sz a b C j = quo sz a b D j := by
  unfold quo
  rw [dg_congr h]
  split
  · exact dvD_congr h _ _ ‹_›
  · rfl
theorem hd_lt {C : Nat → Int64} {s : Nat} (hs : s < 100) : (hd7 C < nI s) = (dg C ≤ s) := by
  apply propext
  have := dg_le C
  unfold hd7
  rw [i_lt, hd_toInt this, nI_toInt (by omega)]
  omega
/-- the class divides once -/
theorem e_divides {μ : ZMem} {t k : Nat} {C : Nat → Int64} (hC : ∀ j, j < 7 → μ.2 k j = C j) (hd : fS (μ.1 t 0) < dg C) {Φ : Int32 → ZMem → Prop} (h : ∀ c, (okD (fS (μ.1 t 0)) (Int32.toInt64 (μ.1 t 1)) (Int32.toInt64 (μ.1 t 2)) C = true → ∀ j, j < 7 → c j = quo (fS (μ.1 t 0)) (Int32.toInt64 (μ.1 t 1)) (Int32.toInt64 (μ.1 t 2)) C j) → Φ (if okD (fS (μ.1 t 0)) (Int32.toInt64 (μ.1 t 1)) (Int32.toInt64 (μ.1 t 2)) C then 1 else 0) (stJ μ k c)) : w_X2_dividesOnce t k 7 μ Φ := by
  unfold w_X2_dividesOnce
  refine e_size (e_highest ?_)
  have hs := fS_cases (μ.1 t 0)
  have hdl := dg_le C
  have ehd : hd7 (μ.2 k) = nI (dg C) - 1 := by unfold hd7; rw [dg_congr hC]
  rw [ehd]
  generalize hsz : fS (μ.1 t 0) = sz at *
  generalize ha : Int32.toInt64 (μ.1 t 1) = a at *
  generalize hb : Int32.toInt64 (μ.1 t 2) = b at *
  refine nm_b ⟨dg C + 1, lp2_dni (dg C) (fun n q => ∃ c, q = stJ μ k c ∧ sz ≤ n ∧ ∀ j, j < 7 → c j = dvD sz a b C (dg C - n) j) (fun i q K hi hI hK => ?_) (fun q K hI => ?_) (dg C) (Nat.le_refl _) μ ⟨μ.2 k, (stJ_self μ k).symm, by omega, fun j hj => by rw [Nat.sub_self]; exact hC j hj⟩⟩
  · obtain ⟨c, rfl, c1, c2⟩ := hI
    unfold b_X2_dividesOnce_10
    rw [n_lt (by omega) (by omega)]
    refine zif (fun q => ?_) (fun q => ?_)
    · have ei : i + 1 = sz := by omega
      rw [ei] at c2
      refine ⟨vp_in_nI (n := 0) (by omega) (by omega), ?_⟩
      rw [stJ_eq, c2 0 (by omega), show (2 : Int32) = nI 2 from rfl, nI_eq (by omega) (by omega)]
      have e0 : ∀ x : Int64, (¬ x = (0 : Int64)) = ¬ (x = 0) := fun _ => rfl
      by_cases z0 : dvD sz a b C (dg C - sz) 0 = 0
      · refine zifn_t z0 (nm_b ?_)
        have good : (sz = 1 ∨ dvD sz a b C (dg C - sz) 1 = 0) → ∃ n, lpz2 (b_X2_dividesOnce_85 Φ 7 k (nI sz)) n 0 (stJ μ k c) := by
          intro z1
          have hok : okD sz a b C = true := by
            unfold okD
            simp only [Bool.and_eq_true, Bool.or_eq_true, decide_eq_true_eq]
            exact ⟨hd, z0, z1⟩
          rw [hok] at h
          refine ⟨7 + 1, lp2_inv 7 (fun m q => ∃ c', q = stJ μ k c' ∧ ∀ j, j < 7 → c' j = if j < m then quo sz a b C j else c j) (fun m q K hm hI hK => ?_) (fun q K hI => ?_) 7 0 _ (by omega) ⟨c, rfl, fun j hj => by rw [if_neg (by omega)]⟩⟩
          · obtain ⟨c', rfl, d1⟩ := hI
            unfold b_X2_dividesOnce_85
            rw [show (7 : Int32) = nI 7 from rfl, n_le (by omega) (by omega), nI_add, n_le (by omega) (by omega), nI_1, nn_clamp (by omega), nn_clamp (by omega), stJ_eq]
            refine zif_f (by omega) ?_
            refine nm_k (fun x => x = quo sz a b C m) (fun J hJ => zif (fun q => hJ _ ?_) (fun q => ⟨vp_in_nI (by omega) (by omega), hJ _ ?_⟩)) ?_
            · unfold quo; rw [if_neg (by omega)]
            · unfold quo; rw [if_pos (by omega), d1 _ (by omega), if_neg (by omega), c2 _ (by omega)]
            rintro x hx
            refine ⟨vp_in_nI (by omega) (by omega), nm_b (hK _ ⟨vp_updL c' m x, by rw [upJ_st, stJ_stJ, stJ_eq], fun j hj => ?_⟩)⟩
            rw [updL_at]
            by_cases e : j = m
            · rw [if_pos e, if_pos (by omega), e]; exact hx
            · rw [if_neg e, d1 j hj]
              by_cases e2 : j < m
              · rw [if_pos e2, if_pos (by omega)]
              · rw [if_neg e2, if_neg (by omega)]
          · obtain ⟨c', rfl, d1⟩ := hI
            unfold b_X2_dividesOnce_85
            refine zif_t (by decide) (h c' (fun _ j hj => ?_))
            rw [d1 j hj, if_pos hj]
        refine zifn (fun n2 => good (Or.inl (by omega))) (fun n2 => ⟨vp_in_nI (n := 1) (by omega) (by omega), ?_⟩)
        rw [c2 1 (by omega)]
        refine zif (fun z1 => good (Or.inr z1)) (fun z1 => ?_)
        have hok : okD sz a b C = false := by
          unfold okD
          rw [decide_eq_false (show ¬ sz = 1 by omega), decide_eq_false z1]
          simp
        rw [hok] at h
        exact h c (fun q => absurd q (by decide))
      · refine zifn_f z0 ?_
        have hok : okD sz a b C = false := by
          unfold okD
          rw [decide_eq_false z0]
          simp
        rw [hok] at h
        exact h c (fun q => absurd q (by decide))
    · obtain ⟨m, rfl⟩ : ∃ m, i = m + 1 := ⟨i - 1, by omega⟩
      have em : dg C - (m + 1) = dg C - (m + 1 + 1) + 1 := by omega
      have ed : dg C - 1 - (dg C - (m + 1 + 1)) = m + 1 := by omega
      have hcs := fun j hj => dvS_congr (sz := sz) (a := a) (b := b) (i := m + 1) (by omega) c2 j hj
      have e1 : (stJ μ k c).1 = μ.1 := rfl
      rw [nI_sub1, nn_clamp (by omega), nn_clamp (by omega), stJ_eq, e1, ha, nI_pm]
      refine ⟨vp_in_nI (by omega) (by omega), vp_in_nI (by omega) (by omega), vp_in_nI (by omega) (by omega), nm_b (nm_b ?_)⟩
      rw [upJ_st, stJ_stJ, stJ_eq, show (2 : Int32) = nI 2 from rfl, nI_eq (by omega) (by omega)]
      refine zifn (fun n2 => hK _ ⟨_, rfl, by omega, fun j hj => ?_⟩) (fun n2 => ?_)
      · rw [em, dvD, ed, ← hcs j hj]
        unfold dvS
        rw [if_neg n2]
        rfl
      · rw [pk_sub (by omega), nn_clamp (by omega), stJ_eq]
        refine ⟨vp_in_nI (by omega) (by omega), vp_in_nI (by omega) (by omega), vp_in_nI (by omega) (by omega), nm_b ?_⟩
        have e2 : ∀ d, (stJ μ k d).1 t 2 = μ.1 t 2 := fun _ => rfl
        rw [upJ_st, stJ_stJ, stJ_eq, e2, hb]
        refine hK _ ⟨_, rfl, by omega, fun j hj => ?_⟩
        rw [em, dvD, ed, ← hcs j hj]
        unfold dvS
        rw [if_pos n2]
        rfl
  · obtain ⟨c, rfl, c1, c2⟩ := hI
    omega
theorem e_timesF {μ : ZMem} {t k : Nat} : ∀ (f m : Nat) (C c : Nat → Int64), dg C ≤ f → m + f ≤ 7 → (∀ j, j < 7 → c j = C j) → ∀ {Φ : Int32 → ZMem → Prop}, (∀ c', Φ (nI (m + tmN (fS (μ.1 t 0)) (Int32.toInt64 (μ.1 t 1)) (Int32.toInt64 (μ.1 t 2)) f C)) (stJ μ k c')) → lpz2 (b_X2_timesWithin_2 Φ k 7 t) (f + 1) (nI m) (stJ μ k c) := by
  intro f
  induction f with
  | zero =>
    intro m C c h1 h2 hc Φ h
    rw [lpz2]
    dsimp only
    unfold b_X2_timesWithin_2
    rw [show (7 : Int32) = nI 7 from rfl, n_le (by omega) (by omega)]
    refine zif (fun _ => h c) (fun _ => e_highest (e_size ?_))
    have e0 : hd7 ((stJ μ k c).2 k) = hd7 C := by rw [stJ_eq]; unfold hd7; rw [dg_congr hc]
    have hs := fS_cases (μ.1 t 0)
    rw [e0, show (stJ μ k c).1 = μ.1 from rfl, hd_lt (by omega)]
    exact zif_t (by omega) (h c)
  | succ f ih =>
    intro m C c h1 h2 hc Φ h
    rw [lpz2]
    dsimp only
    generalize hL : lpz2 (b_X2_timesWithin_2 Φ k 7 t) (f + 1) = L
    unfold b_X2_timesWithin_2
    rw [show (7 : Int32) = nI 7 from rfl, n_le (by omega) (by omega)]
    refine zif_f (by omega) (e_highest (e_size ?_))
    have e0 : hd7 ((stJ μ k c).2 k) = hd7 C := by rw [stJ_eq]; unfold hd7; rw [dg_congr hc]
    have hs := fS_cases (μ.1 t 0)
    rw [e0, show (stJ μ k c).1 = μ.1 from rfl, hd_lt (by omega)]
    refine zif (fun q => ?_) (fun q => e_divides (C := C) (μ := stJ μ k c) (fun j hj => by rw [stJ_eq]; exact hc j hj) (by show fS (μ.1 t 0) < _; omega) (fun c' hc' => ?_))
    · have hok : okD (fS (μ.1 t 0)) (Int32.toInt64 (μ.1 t 1)) (Int32.toInt64 (μ.1 t 2)) C = false := by
        unfold okD
        rw [decide_eq_false (show ¬ fS (μ.1 t 0) < dg C by omega)]
        simp
      unfold tmN at h
      rw [hok] at h
      exact h c
    · rw [stJ_stJ]
      rw [show (stJ μ k c).1 = μ.1 from rfl] at hc' ⊢
      unfold tmN at h
      cases hok : okD (fS (μ.1 t 0)) (Int32.toInt64 (μ.1 t 1)) (Int32.toInt64 (μ.1 t 2)) C with
      | false =>
        rw [hok] at h
        exact z0p (h c')
      | true =>
        rw [hok] at h
        refine z1p ?_
        rw [nI_1, ← hL]
        refine ih (m + 1) _ c' ?_ (by omega) (hc' hok) (fun c'' => ?_)
        · have := quo_dg (sz := fS (μ.1 t 0)) (a := Int32.toInt64 (μ.1 t 1)) (b := Int32.toInt64 (μ.1 t 2)) (C := C) (by omega) (by omega)
          omega
        · have := h c''
          rw [if_pos rfl] at this
          rw [show m + 1 + tmN (fS (μ.1 t 0)) (Int32.toInt64 (μ.1 t 1)) (Int32.toInt64 (μ.1 t 2)) f (quo (fS (μ.1 t 0)) (Int32.toInt64 (μ.1 t 1)) (Int32.toInt64 (μ.1 t 2)) C) = m + (tmN (fS (μ.1 t 0)) (Int32.toInt64 (μ.1 t 1)) (Int32.toInt64 (μ.1 t 2)) f (quo (fS (μ.1 t 0)) (Int32.toInt64 (μ.1 t 1)) (Int32.toInt64 (μ.1 t 2)) C) + 1) by omega]
          exact this
theorem m_dvLoop {μ : ZMem} {i sz : Nat} {C : Nat → Int64} (hi : i < 6) (hs : sz = 1 ∨ sz = 2) {J : ZMem → Prop} (h : ∀ c, (∀ j, j < 7 → c j = dvD sz (Int32.toInt64 (μ.1 1 (39 + i))) (Int32.toInt64 (μ.1 1 (45 + i))) C (dg C - sz) j) → J (stJ μ 5 c)) {c : Nat → Int64} (hc : ∀ j, j < 7 → c j = C j) : ∃ n, lpz2 (b_X12_isDivided_47 (nI sz) J (nI i)) n (nI (dg C) - 1) (stJ μ 5 c) := by
  have hdl := dg_le C
  generalize ha : Int32.toInt64 (μ.1 1 (39 + i)) = a at *
  generalize hb : Int32.toInt64 (μ.1 1 (45 + i)) = b at *
  refine ⟨dg C + 1, lp2_dni (dg C) (fun n q => ∃ c, q = stJ μ 5 c ∧ (n = dg C ∨ sz ≤ n) ∧ n ≤ dg C ∧ ∀ j, j < 7 → c j = dvD sz a b C (dg C - n) j) (fun r q K hr hI hK => ?_) (fun q K hI => ?_) (dg C) (Nat.le_refl _) _ ⟨c, rfl, Or.inl rfl, Nat.le_refl _, fun j hj => by rw [Nat.sub_self]; exact hc j hj⟩⟩
  · obtain ⟨c, rfl, c1, c3, c2⟩ := hI
    unfold b_X12_isDivided_47
    rw [n_lt (by omega) (by omega)]
    refine zif (fun q => h c (fun j hj => ?_)) (fun q => ?_)
    · rw [c2 j hj]
      congr 1; omega
    · obtain ⟨m, rfl⟩ : ∃ m, r = m + 1 := ⟨r - 1, by omega⟩
      have em : dg C - (m + 1) = dg C - (m + 1 + 1) + 1 := by omega
      have ed : dg C - 1 - (dg C - (m + 1 + 1)) = m + 1 := by omega
      have hcs := fun j hj => dvS_congr (sz := sz) (a := a) (b := b) (i := m + 1) (by omega) c2 j hj
      have e1 : (stJ μ 5 c).1 = μ.1 := rfl
      rw [nI_sub1, nn_clamp (n := m) (by omega), nn_clamp (n := m + 1) (by omega), stJ_eq, e1, nI_pm, show (39 : Int32) = nI 39 from rfl, show (45 : Int32) = nI 45 from rfl, nI_add, nI_add, nn_clamp (n := 39 + i) (by omega), ha]
      refine ⟨vp_in_nI (by omega) (by omega), vp_in_nI (by omega) (by omega), vp_in_nI (by omega) (by omega), vp_in_nI (by omega) (by omega), nm_b (nm_b ?_)⟩
      rw [upJ_st, stJ_stJ, stJ_eq, show (2 : Int32) = nI 2 from rfl, nI_eq (by omega) (by omega)]
      refine zifn (fun n2 => hK _ ⟨_, rfl, by omega, by omega, fun j hj => ?_⟩) (fun n2 => ?_)
      · rw [em, dvD, ed, ← hcs j hj]
        unfold dvS
        rw [if_neg n2]
        rfl
      · rw [pk_sub (by omega), nn_clamp (n := m + 1 - 2) (by omega), nn_clamp (n := 45 + i) (by omega), stJ_eq]
        refine ⟨vp_in_nI (by omega) (by omega), vp_in_nI (by omega) (by omega), vp_in_nI (by omega) (by omega), vp_in_nI (by omega) (by omega), nm_b ?_⟩
        have e2 : ∀ d, (stJ μ 5 d).1 1 (45 + i) = μ.1 1 (45 + i) := fun _ => rfl
        rw [upJ_st, stJ_stJ, stJ_eq, e2, hb]
        refine hK _ ⟨_, rfl, by omega, by omega, fun j hj => ?_⟩
        rw [em, dvD, ed, ← hcs j hj]
        unfold dvS
        rw [if_pos n2]
        rfl
  · obtain ⟨c, rfl, c1, c3, c2⟩ := hI
    unfold b_X12_isDivided_47
    refine zif_t ?_ (h c (fun j hj => ?_))
    · rcases hs with rfl | rfl <;> decide
    · rw [c2 j hj]
      congr 1; omega
theorem m_divides {μ : ZMem} {i : Nat} (hi : i < 6) (h0 : 0 ≤ (μ.1 1 (33 + i)).toInt) (h3 : (μ.1 1 (33 + i)).toInt ≤ 3) {C : Nat → Int64} (hC : ∀ j, j < 7 → μ.2 3 j = C j) {Φ : Int32 → ZMem → Prop} (h : ∀ μ', μ'.1 = μ.1 → (∀ a, a ≠ 3 → a ≠ 5 → μ'.2 a = μ.2 a) → (okD (fS (μ.1 1 (33 + i))) (Int32.toInt64 (μ.1 1 (39 + i))) (Int32.toInt64 (μ.1 1 (45 + i))) C = true → ∀ j, j < 7 → μ'.2 3 j = quo (fS (μ.1 1 (33 + i))) (Int32.toInt64 (μ.1 1 (39 + i))) (Int32.toInt64 (μ.1 1 (45 + i))) C j) → Φ (if okD (fS (μ.1 1 (33 + i))) (Int32.toInt64 (μ.1 1 (39 + i))) (Int32.toInt64 (μ.1 1 (45 + i))) C then 1 else 0) μ') : w_X12_isDivided (nI i) μ Φ := by
  unfold w_X12_isDivided
  refine m_sizeOf hi h0 h3 (m_degreeOf ?_)
  have hs := fS_cases (μ.1 1 (33 + i))
  have hdl := dg_le C
  have ehd : hd7 (μ.2 3) = nI (dg C) - 1 := by unfold hd7; rw [dg_congr hC]
  have ehl : (hd7 (μ.2 3) < nI (fS (μ.1 1 (33 + i)))) = (dg C ≤ fS (μ.1 1 (33 + i))) := by rw [hd_lt (by omega), dg_congr hC]
  rw [ehl, ehd]
  generalize hsz : fS (μ.1 1 (33 + i)) = sz at *
  generalize ha : Int32.toInt64 (μ.1 1 (39 + i)) = a at *
  generalize hb : Int32.toInt64 (μ.1 1 (45 + i)) = b at *
  refine nm_b ⟨7 + 1, lp2_inv 7 (fun m q => ∃ c, q = stJ μ 5 c ∧ ∀ j, j < m → c j = C j) (fun m q K hm hI hK => ?_) (fun q K hI => ?_) 7 0 μ (by omega) ⟨μ.2 5, (stJ_self μ 5).symm, fun j hj => absurd hj (by omega)⟩⟩
  · obtain ⟨c, rfl, hc⟩ := hI
    unfold b_X12_isDivided_17
    have hv := vp_in_nI (n := m) (N := 7) hm (by omega)
    rw [show (7 : Int32) = nI 7 from rfl, n_le (by omega) (by omega), nI_1, nn_clamp (by omega)]
    refine zif_f (by omega) ⟨hv, hv, nm_b (hK _ ⟨vp_updL c m (C m), ?_, fun j hj => ?_⟩)⟩
    · rw [upJ_st, stJ_stJ, stJ_eq, ← hC m hm]; rfl
    · rw [updL_at]
      split
      · rename_i e; rw [e]
      · exact hc j (by omega)
  · obtain ⟨c, rfl, hc⟩ := hI
    unfold b_X12_isDivided_17
    refine zif_t (by decide) (nm_b ?_)
    rw [← ha, ← hb] at h
    refine m_dvLoop hi hs (fun c hc2 => ?_) hc
    rw [ha, hb] at h hc2
    have e1 : (stJ μ 5 c).2 5 = c := stJ_eq
    rw [e1]
    refine nm_k (fun x => x = if okD sz a b C then 1 else 0) (fun J hJ => nm_b ?_) ?_
    · have bad : okD sz a b C = false → J 0 := fun q => hJ _ (by rw [q]; rfl)
      have good : okD sz a b C = true → J 1 := fun q => hJ _ (by rw [q]; rfl)
      rw [hc2 0 (by omega), hc2 1 (by omega), show (1 : Int32) = nI 1 from rfl, nI_eq (by omega) (by omega)]
      refine zif (fun q => bad ?_) (fun q => zifn (fun z0 => bad ?_) (fun z0 => nm_b (zif (fun q1 => good ?_) (fun q1 => zifn (fun z1 => bad ?_) (fun z1 => good ?_)))))
      · unfold okD; rw [decide_eq_false (show ¬ sz < dg C by omega)]; simp
      · unfold okD; rw [decide_eq_false z0]; simp
      · unfold okD
        simp only [Bool.and_eq_true, Bool.or_eq_true, decide_eq_true_eq]
        exact ⟨by omega, z0, Or.inl q1⟩
      · unfold okD; rw [decide_eq_false z1, decide_eq_false q1]; simp
      · unfold okD
        simp only [Bool.and_eq_true, Bool.or_eq_true, decide_eq_true_eq]
        exact ⟨by omega, z0, Or.inr z1⟩
    rintro x hx
    cases hok : okD sz a b C with
    | false =>
      rw [hok] at hx h
      refine ⟨1, ?_⟩
      rw [lpz2]
      dsimp only
      unfold b_X12_isDivided_166
      rw [hx]
      refine zif_f (by decide) (zif_t rfl ⟨Or.inl rfl, h _ rfl (fun a' _ h5 => if_neg h5) (fun q => absurd q (by decide))⟩)
    | true =>
      rw [hok] at hx h
      rw [hx]
      refine ⟨7 + 1, lp2_inv 7 (fun m q => q.1 = μ.1 ∧ q.2 5 = c ∧ (∀ a, a ≠ 3 → a ≠ 5 → q.2 a = μ.2 a) ∧ ∀ j, j < m → q.2 3 j = quo sz a b C j) (fun m q K hm hI hK => ?_) (fun q K hI => ?_) 7 0 _ (by omega) ⟨rfl, stJ_eq, fun a' _ h5 => if_neg h5, fun j hj => absurd hj (by omega)⟩⟩
      · obtain ⟨d1, d2, d3, d4⟩ := hI
        unfold b_X12_isDivided_166
        rw [show (7 : Int32) = nI 7 from rfl, n_le (by omega) (by omega), nI_add, n_le (by omega) (by omega), nI_1, nn_clamp (by omega), nn_clamp (by omega), d2]
        refine zif_f (by omega) (zif_f (by decide) ?_)
        refine nm_k (fun x => x = quo sz a b C m) (fun J hJ => zif (fun q => hJ _ ?_) (fun q => ⟨vp_in_nI (by omega) (by omega), hJ _ ?_⟩)) ?_
        · unfold quo; rw [if_neg (by omega)]
        · unfold quo; rw [if_pos (by omega), hc2 _ (by omega)]
        rintro y hy
        refine ⟨vp_in_nI (by omega) (by omega), nm_b (hK _ ⟨d1, ?_, fun a' h3 h5 => ?_, fun j hj => ?_⟩)⟩
        · rw [mJ2, if_neg (by omega)]; exact d2
        · rw [mJ2, if_neg h3]; exact d3 a' h3 h5
        · rw [mJ2, if_pos rfl, updL_at]
          split
          · rename_i e; rw [e]; exact hy
          · exact d4 j (by omega)
      · obtain ⟨d1, d2, d3, d4⟩ := hI
        unfold b_X12_isDivided_166
        exact zif_t (by decide) ⟨Or.inr rfl, h q d1 d3 (fun _ j hj => d4 j hj)⟩
theorem m_timesF {i : Nat} (hi : i < 6) : ∀ (f m : Nat) (C : Nat → Int64) (μ : ZMem), dg C ≤ f → m + f ≤ 7 → 0 ≤ (μ.1 1 (33 + i)).toInt → (μ.1 1 (33 + i)).toInt ≤ 3 → (∀ j, j < 7 → μ.2 3 j = C j) → ∀ {J : Int32 → ZMem → Prop}, (∀ μ', μ'.1 = μ.1 → (∀ a, a ≠ 3 → a ≠ 5 → μ'.2 a = μ.2 a) → J (nI (m + tmN (fS (μ.1 1 (33 + i))) (Int32.toInt64 (μ.1 1 (39 + i))) (Int32.toInt64 (μ.1 1 (45 + i))) f C)) μ') → lpz2 (b_X12_factored_36 7 J (nI i)) (f + 1) (nI m) μ := by
  intro f
  induction f with
  | zero =>
    intro m C μ h1 h2 h0 h3 hC J h
    rw [lpz2]
    dsimp only
    unfold b_X12_factored_36
    refine zifn_t rfl (m_divides hi h0 h3 hC (fun μ' q1 q2 q3 => ?_))
    have hok : okD (fS (μ.1 1 (33 + i))) (Int32.toInt64 (μ.1 1 (39 + i))) (Int32.toInt64 (μ.1 1 (45 + i))) C = false := by
      unfold okD
      rw [decide_eq_false (show ¬ fS (μ.1 1 (33 + i)) < dg C by omega)]
      simp
    rw [hok]
    exact z0p (h μ' q1 q2)
  | succ f ih =>
    intro m C μ h1 h2 h0 h3 hC J h
    rw [lpz2]
    dsimp only
    generalize hL : lpz2 (b_X12_factored_36 7 J (nI i)) (f + 1) = L
    unfold b_X12_factored_36
    refine zifn_t rfl (m_divides hi h0 h3 hC (fun μ' q1 q2 q3 => ?_))
    have hs := fS_cases (μ.1 1 (33 + i))
    unfold tmN at h
    cases hok : okD (fS (μ.1 1 (33 + i))) (Int32.toInt64 (μ.1 1 (39 + i))) (Int32.toInt64 (μ.1 1 (45 + i))) C with
    | false =>
      rw [hok] at h
      exact z0p (h μ' q1 q2)
    | true =>
      rw [hok] at h
      refine z1p ?_
      rw [nI_1, ← hL]
      have hd : fS (μ.1 1 (33 + i)) < dg C := by
        unfold okD at hok
        simp only [Bool.and_eq_true, decide_eq_true_eq] at hok
        exact hok.1
      refine ih (m + 1) _ μ' ?_ (by omega) (by rw [q1]; exact h0) (by rw [q1]; exact h3) (q3 hok) (fun μ2 r1 r2 => ?_)
      · have := quo_dg (sz := fS (μ.1 1 (33 + i))) (a := Int32.toInt64 (μ.1 1 (39 + i))) (b := Int32.toInt64 (μ.1 1 (45 + i))) (C := C) (by omega) hd
        omega
      · have := h μ2 (by rw [r1, q1]) (fun a h3 h5 => by rw [r2 a h3 h5, q2 a h3 h5])
        rw [if_pos rfl] at this
        rw [q1]
        rw [show ∀ x, m + 1 + x = m + (x + 1) from fun x => by omega]
        exact this
theorem q_factored {μX μM : ZMem} (hR : rNow μX μM) (a1 a2 : Int32) : w_X11_factored a1 a2 μX (fun r μX1 => w_X12_factored a1 a2 μM (fun r2 μM1 => qS μX μM r r2 μX1 μM1)) := by
  obtain ⟨n, hB⟩ := fB_of hR
  obtain ⟨b1, b2, b3, b4⟩ := hB
  have no : ¬ (0 ≤ a1.toInt ∧ a1.toInt < n ∧ 0 ≤ a2.toInt ∧ a2.toInt ≤ 7) → w_X12_factored a1 a2 μM (fun r2 μM1 => qS μX μM (-1) r2 μX μM1) := by
    intro hn
    unfold w_X12_factored
    by_cases q : 0 ≤ a1.toInt ∧ a1.toInt < n
    · unfold w_X12_isFactor
      refine m_in_k (fun _ _ => ⟨Or.inr rfl, z1p (m_in_k (fun q1 q2 => absurd ⟨q.1, q.2, ?_, ?_⟩ hn) (fun _ => z0n (qS_0 μX μM _)))⟩) (fun _ => ⟨Or.inl rfl, z0p (qS_0 μX μM _)⟩)
      · rw [il_toInt] at q1; exact q1
      · rw [il_toInt] at q2; exact q2
    · exact m_noFactor b3 b2 q (z0p (qS_0 μX μM _))
  unfold w_X11_factored
  rw [b1, i_lt0, i_le, i_lt0, i_le, nI_toInt (by omega), show (7 : Int32).toInt = 7 from rfl]
  refine zif (fun q => no (by omega)) (fun q => zif (fun q2 => no (by omega)) (fun q2 => zif (fun q3 => no (by omega)) (fun q3 => zif (fun q4 => ?_) (fun q4 => no (by omega)))))
  obtain ⟨i, i1, i2⟩ := nn_of (i := a1) (n := 6) (by omega) (by omega) (by omega)
  subst i2
  rw [nI_toInt (by omega)] at q2
  rw [nn_clamp (by omega)]
  obtain ⟨f1, f2, f3, f4, f5, f6, f7⟩ := b4 i (by omega)
  rw [f1, f2, f3]
  rw [f1] at f4 f5
  have hs := fS_cases (μM.1 1 (33 + i))
  -- the reference, up to its answer
  have front : ∀ (w : Nat) (Φ : Int32 → ZMem → Prop), w < 8 → (∀ μ1, MS μM μ1 → μ1.1 1 = μM.1 1 → (∀ j, j < 7 → μ1.2 3 j = cNow μM j) → (w ≠ 7 → (w = 0 → Φ (μM.1 1 (33 + i)) μ1) → True) ∧ (w = 0 → Φ (μM.1 1 (33 + i)) μ1) ∧ (w = 1 → Φ (μM.1 1 (39 + i) + 100) μ1) ∧ (w = 2 → (fS (μM.1 1 (33 + i)) = 2 → Φ (μM.1 1 (45 + i) + 100) μ1) ∧ (fS (μM.1 1 (33 + i)) = 1 → Φ (-1) μ1)) ∧ (w = 3 → Φ (nI (fS (μM.1 1 (33 + i)))) μ1) ∧ (∀ v, v < 3 → w = 4 + v → Φ (nI (fK v (μM.1 1 (33 + i)) (μM.1 1 (39 + i)) (μM.1 1 (45 + i)))) μ1) ∧ (w = 7 → ∀ μ2, MS μM μ2 → Φ (nI (tmN (fS (μM.1 1 (33 + i))) (Int32.toInt64 (μM.1 1 (39 + i))) (Int32.toInt64 (μM.1 1 (45 + i))) 7 (cNow μM))) μ2)) → w_X12_factored (nI i) (nI w) μM Φ := by
    intro w Φ hw hΦ
    unfold w_X12_factored w_X12_isFactor
    refine m_in_k (fun _ _ => ⟨Or.inr rfl, z1p (m_in_k (fun _ _ => z1n (m_takes (fun μ1 t1 t2 t3 t4 => ?_))) (fun q => absurd ?_ q))⟩) (fun q => absurd ?_ q)
    · have sM : MS μM μ1 := ⟨fun x a1 a2 => funext fun s => t1 x s (fun q => a1 q.1), fun s a1 a2 a3 a4 => t1 0 s (fun q => a2 q.2), fun x a1 => t2 x (by omega)⟩
      have g1 : μ1.1 1 = μM.1 1 := sM.1 1 (by omega) (by omega)
      obtain ⟨_, H0, H1, H2, H3, H4, H7⟩ := hΦ μ1 sM g1 t3
      have hv : ∀ k, k < 51 → vp_in (nI k) 51 := fun k hk => vp_in_nI hk (by omega)
      have s0 : 0 ≤ (μ1.1 1 (33 + i)).toInt := by rw [g1]; exact f4
      have s3 : (μ1.1 1 (33 + i)).toInt ≤ 3 := by rw [g1]; exact f5
      by_cases h7 : w = 7
      · subst h7
        refine nm_b ⟨7 + 1, m_timesF (by omega) 7 0 (cNow μM) μ1 (dg_le _) (by omega) s0 s3 t3 (fun μ2 r1 r2 => ?_)⟩
        have : (fun x : Int32 => x) = fun x => x := rfl
        refine ⟨fun q => absurd q (by decide), fun q => absurd q (by decide), fun q => absurd q (by decide), fun q => absurd q (by decide), fun q => absurd q (by decide), fun q => absurd q (by decide), fun q => absurd q (by decide), fun _ => ?_, fun _ _ _ _ _ _ _ q => absurd rfl q⟩
        rw [g1, Nat.zero_add]
        exact H7 rfl μ2 ⟨fun x a1 a2 => by rw [r1]; exact sM.1 x a1 a2, fun s a1 a2 a3 a4 => by rw [r1]; exact sM.2.1 s a1 a2 a3 a4, fun x a1 => by rw [r2 x (by omega) (by omega)]; exact sM.2.2 x a1⟩
      · refine nm_b ⟨1, ?_⟩
        rw [lpz2]
        dsimp only
        unfold b_X12_factored_36
        have ne : ∀ k, k < 8 → k ≠ w → ¬ nI w = nI k := fun k hk hkw q => hkw ((nI_eq (by omega) (by omega)).mp q).symm
        refine zifn_f (ne 7 (by omega) (by omega)) ?_
        rw [show (33 : Int32) = nI 33 from rfl, show (39 : Int32) = nI 39 from rfl, show (45 : Int32) = nI 45 from rfl, nI_add, nI_add, nI_add, nn_clamp (by omega), nn_clamp (by omega), nn_clamp (by omega)]
        dsimp only
        rw [g1]
        have fo : ∀ v, v < 3 → w = 4 + v → w_X12_knownOf (nI i) (nI w - 4) μ1 (fun (r_17 : Int32) => Φ r_17 μ1) := by
          intro v hv3 hwv
          rw [show (4 : Int32) = nI 4 from rfl, pk_sub (by omega), show w - 4 = v by omega]
          refine m_knownOf (by omega) hv3 s0 s3 ?_
          rw [g1]; exact H4 v hv3 hwv
        have key : ∀ k, k < 8 → nI w = nI k → w = k := fun k hk q => (nI_eq (by omega) (by omega)).mp q
        refine ⟨fun q => ⟨hv _ (by omega), H0 (key 0 (by omega) q)⟩, fun q => ⟨hv _ (by omega), H1 (key 1 (by omega) q)⟩, fun q => m_sizeOf (by omega) s0 s3 ?_, fun q => m_sizeOf (by omega) s0 s3 ?_, fun q => fo 0 (by omega) (key 4 (by omega) q), fun q => fo 1 (by omega) (key 5 (by omega) q), fun q => fo 2 (by omega) (key 6 (by omega) q), fun q => absurd (key 7 (by omega) q) h7, fun n0 n1 n2 n3 n4 n5 n6 n7 => ?_⟩
        · rw [g1, show (2 : Int32) = nI 2 from rfl, nI_eq (by omega) (by omega)]
          have h2 := H2 (key 2 (by omega) q)
          exact zifn (fun z => h2.2 (by omega)) (fun z => ⟨hv _ (by omega), h2.1 z⟩)
        · rw [g1]; exact H3 (key 3 (by omega) q)
        · exfalso
          have : w = 0 ∨ w = 1 ∨ w = 2 ∨ w = 3 ∨ w = 4 ∨ w = 5 ∨ w = 6 := by omega
          rcases this with e | e | e | e | e | e | e
          · exact n0 (by rw [e]; rfl)
          · exact n1 (by rw [e]; rfl)
          · exact n2 (by rw [e]; rfl)
          · exact n3 (by rw [e]; rfl)
          · exact n4 (by rw [e]; rfl)
          · exact n5 (by rw [e]; rfl)
          · exact n6 (by rw [e]; rfl)
    · rw [il_toInt, nI_toInt (by omega)]; exact ⟨by show (0 : Int) ≤ _; omega, by show _ ≤ (7 : Int); omega⟩
    · rw [il_toInt, il_toInt, b2, nI_toInt (by omega), hd_toInt (by omega)]; exact ⟨by show (0 : Int) ≤ _; omega, by omega⟩
  have one : ∀ (w : Nat) (r : Int32) (μX1 : ZMem), w < 8 → XS 28 μX μX1 → (w = 0 → r = μM.1 1 (33 + i)) → (w = 1 → r = μM.1 1 (39 + i) + 100) → (w = 2 → (fS (μM.1 1 (33 + i)) = 2 → r = μM.1 1 (45 + i) + 100) ∧ (fS (μM.1 1 (33 + i)) = 1 → r = -1)) → (w = 3 → r = nI (fS (μM.1 1 (33 + i)))) → (∀ v, v < 3 → w = 4 + v → r = nI (fK v (μM.1 1 (33 + i)) (μM.1 1 (39 + i)) (μM.1 1 (45 + i)))) → (w = 7 → r = nI (tmN (fS (μM.1 1 (33 + i))) (Int32.toInt64 (μM.1 1 (39 + i))) (Int32.toInt64 (μM.1 1 (45 + i))) 7 (cNow μM))) → w_X12_factored (nI i) (nI w) μM (fun r2 μM1 => qS μX μM r r2 μX1 μM1) := by
    intro w r μX1 hw sX r0 r1 r2 r3 r4 r7
    refine front w _ hw (fun μ1 sM _ _ => ⟨fun _ _ => trivial, fun q => ⟨r0 q, sX, sM⟩, fun q => ⟨r1 q, sX, sM⟩, fun q => ⟨fun z => ⟨(r2 q).1 z, sX, sM⟩, fun z => ⟨(r2 q).2 z, sX, sM⟩⟩, fun q => ⟨r3 q, sX, sM⟩, fun v hv q => ⟨r4 v hv q, sX, sM⟩, fun q μ2 s2 => ⟨r7 q, sX, s2⟩⟩)
  have hv6 := vp_in_nI (n := i) (N := 6) (by omega) (by omega)
  have s0 := XS_rfl 28 μX
  refine ⟨hv6, ?_, ?_, ?_, ?_, ?_, ?_, ?_, ?_⟩
  · rintro rfl
    exact one 0 _ μX (by omega) s0 (fun _ => rfl) (fun q => absurd q (by omega)) (fun q => absurd q (by omega)) (fun q => absurd q (by omega)) (fun v _ q => absurd q (by omega)) (fun q => absurd q (by omega))
  · rintro rfl
    exact one 1 _ μX (by omega) s0 (fun q => absurd q (by omega)) (fun _ => rfl) (fun q => absurd q (by omega)) (fun q => absurd q (by omega)) (fun v _ q => absurd q (by omega)) (fun q => absurd q (by omega))
  · rintro rfl
    refine e_size ?_
    rw [f1, show (1 : Int32) = nI 1 from rfl, nI_eq (by omega) (by omega)]
    exact zifn (fun z => one 2 _ μX (by omega) s0 (fun q => absurd q (by omega)) (fun q => absurd q (by omega)) (fun _ => ⟨fun _ => rfl, fun y => absurd y z⟩) (fun q => absurd q (by omega)) (fun v _ q => absurd q (by omega)) (fun q => absurd q (by omega))) (fun z => one 2 _ μX (by omega) s0 (fun q => absurd q (by omega)) (fun q => absurd q (by omega)) (fun _ => ⟨fun y => absurd y (by omega), fun _ => rfl⟩) (fun q => absurd q (by omega)) (fun v _ q => absurd q (by omega)) (fun q => absurd q (by omega)))
  · rintro rfl
    refine e_size ?_
    rw [f1]
    exact one 3 _ μX (by omega) s0 (fun q => absurd q (by omega)) (fun q => absurd q (by omega)) (fun q => absurd q (by omega)) (fun _ => rfl) (fun v _ q => absurd q (by omega)) (fun q => absurd q (by omega))
  · rintro rfl
    refine e_fRight ?_
    rw [f1, f2, f3]
    exact one 4 _ μX (by omega) s0 (fun q => absurd q (by omega)) (fun q => absurd q (by omega)) (fun q => absurd q (by omega)) (fun q => absurd q (by omega)) (fun v _ q => by rw [show v = 0 by omega]) (fun q => absurd q (by omega))
  · rintro rfl
    refine e_fAxis ?_
    rw [f1, f2, f3]
    exact one 5 _ μX (by omega) s0 (fun q => absurd q (by omega)) (fun q => absurd q (by omega)) (fun q => absurd q (by omega)) (fun q => absurd q (by omega)) (fun v _ q => by rw [show v = 1 by omega]) (fun q => absurd q (by omega))
  · rintro rfl
    refine e_fLeft ?_
    rw [f1, f2, f3]
    exact one 6 _ μX (by omega) s0 (fun q => absurd q (by omega)) (fun q => absurd q (by omega)) (fun q => absurd q (by omega)) (fun q => absurd q (by omega)) (fun v _ q => by rw [show v = 2 by omega]) (fun q => absurd q (by omega))
  · intro n0 n1 n2 n3 n4 n5 n6
    obtain ⟨w, w1, w2⟩ := nn_of (i := a2) (n := 7) (by omega) (by omega) (by omega)
    subst w2
    have w7 : w = 7 := by
      have : w = 0 ∨ w = 1 ∨ w = 2 ∨ w = 3 ∨ w = 4 ∨ w = 5 ∨ w = 6 ∨ w = 7 := by omega
      rcases this with e | e | e | e | e | e | e | e
      · exact absurd (by rw [e]; rfl) n0
      · exact absurd (by rw [e]; rfl) n1
      · exact absurd (by rw [e]; rfl) n2
      · exact absurd (by rw [e]; rfl) n3
      · exact absurd (by rw [e]; rfl) n4
      · exact absurd (by rw [e]; rfl) n5
      · exact absurd (by rw [e]; rfl) n6
      · exact e
    subst w7
    refine e_currentC (rNow_mix hR) (fun μ1 p1 p2 p3 => ⟨rfl, ?_⟩)
    unfold w_X2_timesWithin
    refine ⟨7 + 1, ?_⟩
    have := e_timesF (μ := μ1) (t := 6 + i) (k := 85) 7 0 (cNow μM) (μ1.2 85) (dg_le _) (by omega) p3 (Φ := fun (r_14 : Int32) (μ_15 : ZMem) => w_X12_factored (nI i) (nI 7) μM (fun r2 μM1 => qS μX μM r_14 r2 μ_15 μM1)) (fun c' => ?_)
    · rw [stJ_self] at this
      exact this
    · rw [p1, f1, f2, f3, Nat.zero_add]
      refine one 7 _ _ (by omega) ⟨fun x _ _ => by show μ1.1 x = _; rw [p1], fun x a1 _ => ?_⟩ (fun q => absurd q (by omega)) (fun q => absurd q (by omega)) (fun q => absurd q (by omega)) (fun q => absurd q (by omega)) (fun v _ q => absurd q (by omega)) (fun _ => rfl)
      show (if x = 85 then _ else μ1.2 x) = _
      rw [if_neg a1]; exact p2 x a1
