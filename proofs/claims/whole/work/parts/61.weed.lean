/-! weed -/
def cnt (wb : Nat → Bool) : Nat → Nat
  | 0 => 0
  | m + 1 => if wb m then cnt wb m else cnt wb m + 1
theorem cnt_le (wb : Nat → Bool) : ∀ m, cnt wb m ≤ m := by
  intro m
  induction m with
  | zero => exact Nat.le_refl _
  | succ m ih => rw [cnt]; split <;> omega
theorem cnt_mono (wb : Nat → Bool) {i : Nat} : ∀ {m : Nat}, i ≤ m → cnt wb i ≤ cnt wb m := by
  intro m
  induction m with
  | zero => intro h; rw [show i = 0 by omega]; exact Nat.le_refl _
  | succ m ih =>
    intro h
    by_cases e : i = m + 1
    · rw [e]; exact Nat.le_refl _
    · have := ih (by omega)
      rw [cnt.eq_2]; split <;> omega
theorem cnt_keep {wb : Nat → Bool} {j m : Nat} (h : wb j = false) (hj : j < m) : cnt wb j < cnt wb m := by
  have := cnt_mono wb (i := j + 1) (m := m) hj
  rw [cnt, h] at this
  simp at this
  omega
theorem cnt_sub (wb : Nat → Bool) {n : Nat} : ∀ {m : Nat}, n ≤ m → cnt wb m - cnt wb n ≤ m - n := by
  intro m
  induction m with
  | zero => intro h; simp [cnt]
  | succ m ih =>
    intro h
    by_cases e : n = m + 1
    · rw [e]; omega
    · have := ih (by omega)
      rw [cnt.eq_2]; split <;> omega
theorem cnt_surj (wb : Nat → Bool) : ∀ m t, t < cnt wb m → ∃ j, j < m ∧ wb j = false ∧ cnt wb j = t := by
  intro m
  induction m with
  | zero => intro t h; exact absurd h (Nat.not_lt_zero t)
  | succ m ih =>
    intro t h
    rw [cnt] at h
    cases hw : wb m with
    | true =>
      rw [hw] at h
      obtain ⟨j, j1, j2, j3⟩ := ih t (by simpa using h)
      exact ⟨j, by omega, j2, j3⟩
    | false =>
      rw [hw] at h
      simp at h
      by_cases e : t = cnt wb m
      · exact ⟨m, by omega, hw, e.symm⟩
      · obtain ⟨j, j1, j2, j3⟩ := ih t (by omega)
        exact ⟨j, by omega, j2, j3⟩
/-- what is weeded out of a line -/
def wdP (P Q : Nat → Int64) (kind how : Int32) (f : Nat → Int32) (i : Nat) : Prop := if how = 2 then ∃ j, j < i ∧ f j = f i else (stP P Q kind 1 (f i) ↔ how = 1)
theorem e_ahead {μ : ZMem} {k : Int32} {s : Nat} (hs : s ≤ 16) {Φ : Int32 → Prop} (h1 : (∃ t, t < s ∧ μ.1 4 t = k) → Φ 1) (h0 : (¬ ∃ t, t < s ∧ μ.1 4 t = k) → Φ 0) : w_X3_waitsAhead k (nI s) μ Φ := by
  unfold w_X3_waitsAhead
  obtain ⟨o, o1, o2, o3⟩ := first_bad (fun t => ¬ μ.1 4 t = k) s
  refine ⟨o + 1, lp1_up o (fun i K hi hK => ?_) (fun K => ?_) o 0 (by omega)⟩
  · unfold b_X3_waitsAhead_2
    rw [n_le (by omega) (by omega), nn_clamp (by omega), nI_1]
    exact zif_f (by omega) ⟨vp_in_nI (by omega) (by omega), zifn_f (o2 i hi) hK⟩
  · unfold b_X3_waitsAhead_2
    rw [n_le (by omega) (by omega), nn_clamp (by omega)]
    refine zif (fun q => h0 (fun z => ?_)) (fun q => ⟨vp_in_nI (by omega) (by omega), zifn_t (Classical.not_not.mp (o3 (by omega))) (h1 ⟨o, by omega, Classical.not_not.mp (o3 (by omega))⟩)⟩)
    obtain ⟨t, t1, t2⟩ := z
    exact o2 t (by omega) t2
theorem m_twice {μ : ZMem} {a : Nat} (ha : a < 16) {Φ : Int32 → Prop} (h1 : (∃ t, t < a ∧ lin (μ.1 1) t = lin (μ.1 1) a) → Φ 1) (h0 : (¬ ∃ t, t < a ∧ lin (μ.1 1) t = lin (μ.1 1) a) → Φ 0) : w_X12_isTwice (nI a) μ Φ := by
  unfold w_X12_isTwice
  obtain ⟨o, o1, o2, o3⟩ := first_bad (fun t => ¬ lin (μ.1 1) t = lin (μ.1 1) a) a
  have s0 : (0 : Int32) = (fun i => if i ≤ o then (0 : Int32) else 1) 0 := by
    show (0 : Int32) = if 0 ≤ o then 0 else 1
    rw [if_pos (by omega)]
  refine ⟨a + 1, ?_⟩
  have key : lpz2 (b_X12_isTwice_4 (nI a) Φ μ) (a + 1) ((fun i => if i ≤ o then (0 : Int32) else 1) 0) (nI 0) := by
    refine lp2_sec a (fun i => if i ≤ o then 0 else 1) (fun i K hi hK => ?_) (fun K => ?_) a 0 (by omega)
    · unfold b_X12_isTwice_4
      rw [n_le (by omega) (by omega), show (16 : Int32) = nI 16 from rfl, nI_add, nI_add, nn_clamp (by omega), nn_clamp (by omega), nI_1]
      refine zif_f (by omega) ?_
      refine nm_k (fun x => x = if i + 1 ≤ o then 0 else 1) (fun J hJ => nm_b ?_) ?_
      · by_cases e : i ≤ o
        · rw [if_pos e]
          refine zifn_t rfl ⟨vp_in_nI (by omega) (by omega), vp_in_nI (by omega) (by omega), zifn (fun q => hJ _ ?_) (fun q => hJ _ ?_)⟩
          · by_cases e2 : i = o
            · subst e2
              exact absurd q (o3 hi)
            · rw [if_pos (by omega)]
          · by_cases e2 : i = o
            · rw [if_neg (by omega)]
            · exact absurd q (o2 i (by omega))
        · rw [if_neg e]
          exact zifn_f (by decide) (hJ _ (by rw [if_neg (by omega)]))
      rintro x rfl
      exact hK
    · unfold b_X12_isTwice_4
      refine zif_t (by rw [n_le (by omega) (by omega)]; omega) ?_
      by_cases e : a ≤ o
      · rw [if_pos e]
        refine ⟨Or.inl rfl, h0 (fun z => ?_)⟩
        obtain ⟨t, t1, t2⟩ := z
        exact o2 t (by omega) t2
      · rw [if_neg e]
        exact ⟨Or.inr rfl, h1 ⟨o, by omega, Classical.not_not.mp (o3 (by omega))⟩⟩
  rw [← s0] at key
  exact key
theorem ab100 {x : Int32} (h : ab x ≤ 100) : ab x ≤ 1600 := by omega
theorem e_weed {μ : ZMem} {kind how : Int32} {w : Nat} (hh : how = 0 ∨ how = 1 ∨ how = 2) (hw : w ≤ 16) (h4 : μ.1 1 4 = nI w) (hb : ∀ t, t < w → ab (μ.1 4 t) ≤ 100) (hs : smallPQ (μ.2 2) (μ.2 3)) {wb : Nat → Bool} (hwb : ∀ i, i < w → (wb i = true ↔ wdP (μ.2 2) (μ.2 3) kind how (μ.1 4) i)) {J : Int32 → ZMem → Prop} (h : ∀ μ', (∀ a, a ≠ 4 → a ≠ 52 → a ≠ 63 → μ'.1 a = μ.1 a) → (∀ a, a ≠ 85 → (a < 51 ∨ 62 < a) → μ'.2 a = μ.2 a) → (∀ j, j < w → wb j = false → μ'.1 4 (cnt wb j) = μ.1 4 j) → J (nI (cnt wb w)) μ') : ∃ n, lpz3 (b_X11_weed_33 (nI w) J how kind) n 0 0 μ := by
  refine ⟨w + 1, lp3_inv w nI (fun i v b => v = nI (cnt wb i) ∧ (∀ a, a ≠ 4 → a ≠ 52 → a ≠ 63 → b.1 a = μ.1 a) ∧ (∀ a, a ≠ 85 → (a < 51 ∨ 62 < a) → b.2 a = μ.2 a) ∧ (∀ j, j < i → wb j = false → b.1 4 (cnt wb j) = μ.1 4 j) ∧ ∀ t, i ≤ t → b.1 4 t = μ.1 4 t) (fun i v b K hi hI hK => ?_) (fun v b K hI => ?_) w 0 0 μ (by omega) ⟨rfl, fun _ _ _ _ => rfl, fun _ _ _ => rfl, fun j hj => absurd hj (by omega), fun _ _ => rfl⟩⟩
  · obtain ⟨rfl, i2, i3, i4, i5⟩ := hI
    unfold b_X11_weed_33
    have cl := cnt_le wb i
    have e5 : b.1 4 i = μ.1 4 i := i5 i (Nat.le_refl _)
    rw [n_le (by omega) (by omega), nn_clamp (by omega), nn_clamp (by omega), nI_1, nI_1, e5]
    refine zif_f (by omega) ⟨vp_in_nI (by omega) (by omega), nm_b ?_⟩
    refine nm_k2 (fun x b' => x = (if wb i then 1 else 0) ∧ XH b b') (fun J' hJ' => ?_) ?_
    · have eP := i3 2 (by omega) (by omega)
      have eQ := i3 3 (by omega) (by omega)
      have hwi := hwb i hi
      unfold wdP at hwi
      refine zifn (fun n2 => ?_) (fun n2 => ?_)
      · rw [if_neg n2] at hwi
        refine e_holds (by rw [eP, eQ]; exact hs) (by decide) (ab100 (hb i hi)) (fun z b' x => ?_) (fun z b' x => ?_)
        · rw [eP, eQ] at z
          refine nm_k (fun y => y = if how = 1 then 1 else 0) (fun J2 hJ2 => zifn (fun q => hJ2 _ (by rw [if_neg q])) (fun q => hJ2 _ (by rw [if_pos q]))) ?_
          rintro y rfl
          by_cases q : how = 1
          · rw [if_pos q]
            exact zifn_t rfl (hJ' _ _ ⟨by rw [hwi.mpr ⟨fun _ => q, fun _ => z⟩]; rfl, x⟩)
          · rw [if_neg q]
            refine zifn_f (by decide) (hJ' _ _ ⟨?_, x⟩)
            cases hwc : wb i with
            | false => rfl
            | true => exact absurd ((hwi.mp hwc).mp z) q
        · rw [eP, eQ] at z
          refine nm_k (fun y => y = if how = 1 then 1 else 0) (fun J2 hJ2 => zifn (fun q => hJ2 _ (by rw [if_neg q])) (fun q => hJ2 _ (by rw [if_pos q]))) ?_
          rintro y rfl
          by_cases q : how = 1
          · rw [if_pos q]
            refine zifn_f (by decide) (hJ' _ _ ⟨?_, x⟩)
            cases hwc : wb i with
            | false => rfl
            | true => exact absurd ((hwi.mp hwc).mpr q) z
          · rw [if_neg q]
            exact zifn_t rfl (hJ' _ _ ⟨by rw [hwi.mpr ⟨fun z' => absurd z' z, fun z' => absurd z' q⟩]; rfl, x⟩)
      · rw [if_pos n2] at hwi
        have hex : (∃ t, t < cnt wb i ∧ b.1 4 t = μ.1 4 i) ↔ ∃ j, j < i ∧ μ.1 4 j = μ.1 4 i := by
          constructor
          · rintro ⟨t, t1, t2⟩
            obtain ⟨j, j1, j2, j3⟩ := cnt_surj wb i t t1
            refine ⟨j, j1, ?_⟩
            rw [← i4 j j1 j2, j3]; exact t2
          · rintro ⟨j, j1, j2⟩
            obtain ⟨o, o1, o2, o3⟩ := first_bad (fun t => ¬ μ.1 4 t = μ.1 4 i) (j + 1)
            have ho : o < j + 1 := by
              apply Classical.byContradiction
              intro z
              exact o2 j (by omega) j2
            have o4 := Classical.not_not.mp (o3 ho)
            have hk : wb o = false := by
              cases hwo : wb o with
              | false => rfl
              | true =>
                have hwo' := (hwb o (by omega)).mp hwo
                unfold wdP at hwo'
                rw [if_pos n2] at hwo'
                obtain ⟨p, p1, p2⟩ := hwo'
                exact absurd (p2.trans o4) (o2 p p1)
            exact ⟨cnt wb o, cnt_keep hk (by omega), by rw [i4 o (by omega) hk]; exact o4⟩
        refine e_ahead (by omega) (fun z => hJ' _ _ ⟨?_, XH_rfl b⟩) (fun z => hJ' _ _ ⟨?_, XH_rfl b⟩)
        · rw [hwi.mpr (hex.mp z)]; rfl
        · cases hwc : wb i with
          | false => rfl
          | true => exact absurd (hex.mpr (hwi.mp hwc)) z
    rintro x b' ⟨rfl, xb⟩
    have f1 : ∀ a, a ≠ 4 → a ≠ 52 → a ≠ 63 → b'.1 a = μ.1 a := fun a h1 h2 h3 => by rw [xb.1 a h2 h3]; exact i2 a h1 h2 h3
    have f2 : ∀ a, a ≠ 85 → (a < 51 ∨ 62 < a) → b'.2 a = μ.2 a := fun a h1 h2 => by rw [xb.2 a h1 h2]; exact i3 a h1 h2
    have f4 : b'.1 4 = b.1 4 := xb.1 4 (by omega) (by omega)
    refine nm_k2 (fun y c => y = nI (cnt wb (i + 1)) ∧ (∀ a, a ≠ 4 → a ≠ 52 → a ≠ 63 → c.1 a = μ.1 a) ∧ (∀ a, a ≠ 85 → (a < 51 ∨ 62 < a) → c.2 a = μ.2 a) ∧ (∀ j, j < i + 1 → wb j = false → c.1 4 (cnt wb j) = μ.1 4 j) ∧ ∀ t, i + 1 ≤ t → c.1 4 t = μ.1 4 t) (fun J' hJ' => ?_) ?_
    · cases hwc : wb i with
      | true =>
        refine zifn_f (by decide) (hJ' _ _ ⟨by rw [cnt, hwc]; rfl, f1, f2, fun j hj hk => ?_, fun t ht => ?_⟩)
        · rw [f4]
          refine i4 j ?_ hk
          apply Classical.byContradiction
          intro z
          rw [show j = i by omega, hwc] at hk
          exact absurd hk (by decide)
        · rw [f4]; exact i5 t (by omega)
      | false =>
        refine zifn_t rfl ⟨vp_in_nI (by omega) (by omega), nm_b (hJ' _ _ ⟨by rw [cnt, hwc]; rfl, fun a h1 h2 h3 => ?_, fun a h1 h2 => f2 a h1 h2, fun j hj hk => ?_, fun t ht => ?_⟩)⟩
        · rw [mI1, if_neg h1]; exact f1 a h1 h2 h3
        · rw [mI1, if_pos rfl, upd_at, f4]
          by_cases e : j = i
          · rw [e, if_pos rfl]
          · have := cnt_keep hk (show j < i by omega)
            rw [if_neg (by omega)]
            exact i4 j (by omega) hk
        · rw [mI1, if_pos rfl, upd_at, if_neg (by omega), f4]; exact i5 t (by omega)
    rintro y c ⟨c1, c2, c3, c4, c5⟩
    exact hK _ _ ⟨c1, c2, c3, c4, c5⟩
  · obtain ⟨rfl, i2, i3, i4, i5⟩ := hI
    unfold b_X11_weed_33
    exact zif_t (by rw [n_le (by omega) (by omega)]; omega) (h b i2 i3 i4)
/-- what a weeding changes in the reference -/
def MW (μ μ' : ZMem) : Prop := (∀ a, a ≠ 0 → a ≠ 1 → a ≠ 8 → μ'.1 a = μ.1 a) ∧ (∀ s, s ≠ 4 → s ≠ 8 → s ≠ 9 → s ≠ 10 → μ'.1 0 s = μ.1 0 s) ∧ (∀ a, (a < 3 ∨ 7 < a) → μ'.2 a = μ.2 a) ∧ (∀ s, s < 15 ∨ 32 ≤ s → μ'.1 1 s = μ.1 1 s)
theorem m_weed {μ : ZMem} {kind how : Int32} {w : Nat} (hh : how = 0 ∨ how = 1 ∨ how = 2) (hw : w ≤ 16) (h15 : μ.1 1 15 = nI w) (hb : ∀ t, t < w → ab (lin (μ.1 1) t) ≤ 100) (hs : smallPQ (pF μ) (qF μ)) {wb : Nat → Bool} (hwb : ∀ i, i < w → (wb i = true ↔ wdP (pF μ) (qF μ) kind how (lin (μ.1 1)) i)) {Φ : Int32 → ZMem → Prop} (h : ∀ μ', MW μ μ' → μ'.1 1 15 = nI (cnt wb w) → (∀ j, j < w → wb j = false → lin (μ'.1 1) (cnt wb j) = lin (μ.1 1) j) → Φ (nI w - nI (cnt wb w)) μ') : ∃ n, lpz2 (b_X12_weed_35 Φ (nI w) how kind) n (nI w - 1) μ := by
  refine ⟨w + 1, lp2_dni w (fun n b => n ≤ w ∧ MW μ b ∧ b.1 1 15 = nI (n + (cnt wb w - cnt wb n)) ∧ (∀ t, t < n → lin (b.1 1) t = lin (μ.1 1) t) ∧ ∀ j, n ≤ j → j < w → wb j = false → lin (b.1 1) (n + (cnt wb j - cnt wb n)) = lin (μ.1 1) j) (fun i b K hi hI hK => ?_) (fun b K hI => ?_) w (Nat.le_refl _) μ ⟨Nat.le_refl _, ⟨fun _ _ _ _ => rfl, fun _ _ _ _ _ => rfl, fun _ _ => rfl, fun _ _ => rfl⟩, by rw [h15]; congr 1; omega, fun _ _ => rfl, fun j h1 h2 => absurd h1 (by omega)⟩⟩
  · obtain ⟨_, m1, m2, m3, m4⟩ := hI
    unfold b_X12_weed_35
    rw [show (16 : Int32) = nI 16 from rfl, nI_add, nn_clamp (by omega), nI_pm]
    refine zif_f (nI_nneg (by omega)) ?_
    have eP : ∀ j, j < 7 → pF b j = pF μ j := fun j hj => by unfold pF; rw [m1.2.2.2 j (by omega)]
    have eQ : ∀ j, j < 7 → qF b j = qF μ j := fun j hj => by unfold qF; rw [m1.2.2.2 (7 + j) (by omega)]
    have sb : smallPQ (pF b) (qF b) := fun j hj => by rw [eP j hj, eQ j hj]; exact hs j hj
    have est := fun k => stP_congr eP eQ kind 1 k
    have ei : b.1 1 (16 + i) = lin (μ.1 1) i := m3 i (by omega)
    have hwi := hwb i hi
    unfold wdP at hwi
    refine nm_k2 (fun x b' => x = (if wb i then 1 else 0) ∧ MS b b') (fun J hJ => ?_) ?_
    · refine zifn (fun n2 => ⟨vp_in_nI (by omega) (by omega), ?_⟩) (fun n2 => ?_)
      · rw [if_neg n2] at hwi
        rw [ei]
        refine m_isSteady sb (by decide) (ab100 (hb i hi)) (fun z b' x => ?_) (fun z b' x => ?_)
        · rw [est] at z
          refine nm_k (fun y => y = if how = 1 then 1 else 0) (fun J2 hJ2 => zifn (fun q => hJ2 _ (by rw [if_neg q])) (fun q => hJ2 _ (by rw [if_pos q]))) ?_
          rintro y rfl
          by_cases q : how = 1
          · rw [if_pos q]
            exact zifn_t rfl (hJ _ _ ⟨by rw [hwi.mpr ⟨fun _ => q, fun _ => z⟩]; rfl, x⟩)
          · rw [if_neg q]
            refine zifn_f (by decide) (hJ _ _ ⟨?_, x⟩)
            cases hwc : wb i with
            | false => rfl
            | true => exact absurd ((hwi.mp hwc).mp z) q
        · rw [est] at z
          refine nm_k (fun y => y = if how = 1 then 1 else 0) (fun J2 hJ2 => zifn (fun q => hJ2 _ (by rw [if_neg q])) (fun q => hJ2 _ (by rw [if_pos q]))) ?_
          rintro y rfl
          by_cases q : how = 1
          · rw [if_pos q]
            refine zifn_f (by decide) (hJ _ _ ⟨?_, x⟩)
            cases hwc : wb i with
            | false => rfl
            | true => exact absurd ((hwi.mp hwc).mpr q) z
          · rw [if_neg q]
            exact zifn_t rfl (hJ _ _ ⟨by rw [hwi.mpr ⟨fun z' => absurd z' z, fun z' => absurd z' q⟩]; rfl, x⟩)
      · rw [if_pos n2] at hwi
        have hex : (∃ t, t < i ∧ lin (b.1 1) t = lin (b.1 1) i) ↔ ∃ j, j < i ∧ lin (μ.1 1) j = lin (μ.1 1) i := by
          constructor
          · rintro ⟨t, t1, t2⟩
            exact ⟨t, t1, by rw [← m3 t (by omega), ← m3 i (by omega)]; exact t2⟩
          · rintro ⟨t, t1, t2⟩
            exact ⟨t, t1, by rw [m3 t (by omega), m3 i (by omega)]; exact t2⟩
        refine m_twice (by omega) (fun z => hJ _ _ ⟨?_, MS_rfl b⟩) (fun z => hJ _ _ ⟨?_, MS_rfl b⟩)
        · rw [hwi.mpr (hex.mp z)]; rfl
        · cases hwc : wb i with
          | false => rfl
          | true => exact absurd (hex.mpr (hwi.mp hwc)) z
    rintro x b' ⟨rfl, xb⟩
    have b1 : b'.1 1 = b.1 1 := xb.1 1 (by omega) (by omega)
    have f1 : MW μ b' := ⟨fun a h0 h1 h8 => by rw [xb.1 a h0 h8]; exact m1.1 a h0 h1 h8, fun s h4 h8 h9 h10 => by rw [xb.2.1 s h4 h8 h9 h10]; exact m1.2.1 s h4 h8 h9 h10, fun a ha => by rw [xb.2.2 a ha]; exact m1.2.2.1 a ha, fun s hs => by rw [b1]; exact m1.2.2.2 s hs⟩
    have cw := cnt_mono wb (i := i + 1) (m := w) hi
    have ci := cnt_mono wb (i := i) (m := i + 1) (by omega)
    have cl := cnt_sub wb (n := i + 1) (m := w) hi
    refine nm_k (fun c => MW μ c ∧ c.1 1 15 = nI (i + (cnt wb w - cnt wb i)) ∧ (∀ t, t < i → lin (c.1 1) t = lin (μ.1 1) t) ∧ ∀ j, i ≤ j → j < w → wb j = false → lin (c.1 1) (i + (cnt wb j - cnt wb i)) = lin (μ.1 1) j) (fun J hJ => ?_) ?_
    · cases hwc : wb i with
      | false =>
        have cs : cnt wb (i + 1) = cnt wb i + 1 := by rw [cnt, hwc]; rfl
        refine zif_t rfl (hJ _ ⟨f1, ?_, fun t ht => ?_, fun j h1 h2 h3 => ?_⟩)
        · rw [b1, m2]; congr 1; omega
        · rw [b1]; exact m3 t (by omega)
        · rw [b1]
          by_cases e : j = i
          · rw [e, Nat.sub_self]; exact m3 i (by omega)
          · have ck := cnt_mono wb (i := i + 1) (m := j) (by omega)
            rw [show i + (cnt wb j - cnt wb i) = i + 1 + (cnt wb j - cnt wb (i + 1)) by omega]
            exact m4 j (by omega) h2 h3
      | true =>
        have cs : cnt wb (i + 1) = cnt wb i := by rw [cnt, hwc]; rfl
        have hsz : b'.1 1 15 = nI (i + 1 + (cnt wb w - cnt wb (i + 1))) := by rw [b1]; exact m2
        refine zif_f (by decide) (m_leaves (w := i + 1 + (cnt wb w - cnt wb (i + 1))) (by omega) (by omega) hsz (fun g g1 g2 g3 => hJ _ ⟨⟨fun a h0 h1 h8 => ?_, fun s h4 h8 h9 h10 => f1.2.1 s h4 h8 h9 h10, fun a ha => f1.2.2.1 a ha, fun s hs => ?_⟩, ?_, fun t ht => ?_, fun j h1 h2 h3 => ?_⟩))
        · show (if a = 1 then _ else b'.1 a) = _
          rw [if_neg h1]; exact f1.1 a h0 h1 h8
        · show g s = _
          rw [g2 s hs]; exact f1.2.2.2 s hs
        · show g 15 = _
          rw [g1]; congr 1; omega
        · show lin g t = _
          rw [g3 t (by omega), if_pos ht, b1]; exact m3 t (by omega)
        · have hne : j ≠ i := fun e => by rw [e, hwc] at h3; exact absurd h3 (by decide)
          have ck := cnt_mono wb (i := i + 1) (m := j) (by omega)
          have ck2 := cnt_keep h3 h2
          show lin g _ = _
          rw [g3 _ (by omega), if_neg (by omega), b1, show i + (cnt wb j - cnt wb i) + 1 = i + 1 + (cnt wb j - cnt wb (i + 1)) by omega]
          exact m4 j (by omega) h2 h3
    rintro c ⟨c1, c2, c3, c4⟩
    exact nm_b (hK c ⟨by omega, c1, c2, c3, c4⟩)
  · obtain ⟨_, m1, m2, m3, m4⟩ := hI
    unfold b_X12_weed_35
    have e0 : 0 + (cnt wb w - cnt wb 0) = cnt wb w := by show 0 + (cnt wb w - 0) = _; omega
    rw [e0] at m2
    refine zif_t (by decide) ?_
    rw [m2]
    refine h b m1 m2 (fun j hj hk => ?_)
    have := m4 j (by omega) hj hk
    rw [show 0 + (cnt wb j - cnt wb 0) = cnt wb j by show 0 + (cnt wb j - 0) = _; omega] at this
    exact this
theorem z_weed {μX μM : ZMem} (h : Rel μX μM) (a1 a2 : Int32) : w_X11_weed a1 a2 μX (fun r μX1 => w_X12_weed a1 a2 μM (fun r2 μM1 => r = r2 ∧ Rel μX1 μM1)) := by
  have no : ¬ ((a1 = 0 ∨ a1 = 1) ∧ 0 ≤ a2.toInt ∧ a2.toInt ≤ 2) → w_X12_weed a1 a2 μM (fun r2 μM1 => (-2 : Int32) = r2 ∧ Rel μX μM1) := by
    intro hn
    unfold w_X12_weed
    refine m_isKind (fun k => z1p (m_in_k (fun q1 q2 => absurd ⟨k, ?_, ?_⟩ hn) (fun _ => z0n ⟨rfl, h⟩))) (fun _ => z0p ⟨rfl, h⟩)
    · rw [il_toInt] at q1; exact q1
    · rw [il_toInt] at q2; exact q2
  obtain ⟨w, b1, b2, b3, b4⟩ := h.1.1.2.2.2.2.2.1
  obtain ⟨hP, hQ, sM, sX⟩ := rNow_P h.1.1
  unfold w_X11_weed
  rw [i_lt0 a2, i_le a2, show (2 : Int32).toInt = 2 from rfl]
  refine e_isKind (fun k => z1p (zif (fun q => no (by omega)) (fun q => zif (fun q2 => ?_) (fun q2 => no (by omega))))) (fun k => z0p (no (fun z => k z.1)))
  have hh : a2 = 0 ∨ a2 = 1 ∨ a2 = 2 := by
    obtain ⟨i, i1, i2⟩ := nn_of (i := a2) (n := 2) (by omega) (by omega) (by omega)
    have : i = 0 ∨ i = 1 ∨ i = 2 := by omega
    rcases this with rfl | rfl | rfl
    · exact Or.inl i2
    · exact Or.inr (Or.inl i2)
    · exact Or.inr (Or.inr i2)
  obtain ⟨wb, hwb⟩ := ex_b (wdP (μX.2 2) (μX.2 3) a1 a2 (μX.1 4))
  have hwb2 : ∀ i, i < w → (wb i = true ↔ wdP (pF μM) (qF μM) a1 a2 (lin (μM.1 1)) i) := by
    intro i hi
    rw [hwb i]
    have ei : μX.1 4 i = lin (μM.1 1) i := (b4 i hi).1
    unfold wdP
    by_cases q3 : a2 = 2
    · rw [if_pos q3, if_pos q3]
      constructor
      · rintro ⟨j, j1, j2⟩
        have ej : μX.1 4 j = lin (μM.1 1) j := (b4 j (by omega)).1
        exact ⟨j, j1, by rw [← ej, ← ei]; exact j2⟩
      · rintro ⟨j, j1, j2⟩
        have ej : μX.1 4 j = lin (μM.1 1) j := (b4 j (by omega)).1
        exact ⟨j, j1, by rw [ej, ei]; exact j2⟩
    · rw [if_neg q3, if_neg q3, stP_congr hP hQ, ei]
  rw [b2]
  have hcl := cnt_le wb w
  refine nm_b (nm_b (e_weed hh b1 b2 (fun t ht => (b4 t ht).2) sX (fun i _ => hwb i) (fun μ' x1 x2 x3 => nm_b ?_)))
  unfold w_X12_weed
  refine m_isKind (fun _ => z1p (m_in_k (fun _ _ => z1n ?_) (fun q3 => absurd ?_ q3))) (fun q3 => absurd k q3)
  · rw [b3]
    refine nm_b (nm_b (m_weed hh b1 b3 (fun t ht => ?_) sM hwb2 (fun μ2 m1 m2 m3 => ⟨rfl, ?_⟩)))
    · have := b4 t ht
      show ab (μM.1 1 (16 + t)) ≤ 100
      rw [← this.1]; exact this.2
    · have hx : ∀ a, a ≠ 1 → a ≠ 4 → a ≠ 52 → a ≠ 63 → (zz_upI μ' 1 4 (nI (cnt wb w))).1 a = μX.1 a := fun a h1 h4 h5 h6 => by
        rw [mI1, if_neg h1]; exact x1 a h4 h5 h6
      have hx1 : ∀ s, s ≠ 4 → (zz_upI μ' 1 4 (nI (cnt wb w))).1 1 s = μX.1 1 s := fun s hs => by
        rw [mI1, if_pos rfl, upd_at, if_neg hs, x1 1 (by omega) (by omega) (by omega)]
      have hx2 : ∀ a, a ≠ 85 → (a < 51 ∨ 62 < a) → (zz_upI μ' 1 4 (nI (cnt wb w))).2 a = μX.2 a := fun a h1 h2 => x2 a h1 h2
      have hC : rC μX (zz_upI μ' 1 4 (nI (cnt wb w))) := Or.inl ⟨fun a q1 q2 => ⟨hx a (by omega) (by omega) (by omega) (by omega), hx2 a (by omega) (by omega)⟩, hx2 2 (by omega) (by omega), hx2 3 (by omega) (by omega)⟩
      refine ⟨⟨?_, kept_fr h.1.2.1 (fun a q1 q2 => ⟨hx a (by omega) (by omega) (by omega) (by omega), hx2 a (by omega) (by omega)⟩) (m1.1 2 (by omega) (by omega) (by omega)), ?_, tape_fr h.1.2.2.2.1 (by rw [hx 23 (by omega) (by omega) (by omega) (by omega)]) (hx 24 (by omega) (by omega) (by omega) (by omega)) (m1.2.1 22 (by omega) (by omega) (by omega) (by omega)) (m1.1 13 (by omega) (by omega) (by omega)), trays_fr h.1.2.2.2.2 (fun a q1 q2 => ⟨hx a (by omega) (by omega) (by omega) (by omega), hx2 a (by omega) (by omega)⟩) (m1.1 15 (by omega) (by omega) (by omega)) (m1.1 16 (by omega) (by omega) (by omega)) (m1.2.2.1 17 (by omega))⟩, rSv_C h.2 hC⟩
      · unfold rNow
        rw [hx2 2 (by omega) (by omega), hx2 3 (by omega) (by omega), hx1 2 (by omega), hx1 6 (by omega)]
        have e4 : (zz_upI μ' 1 4 (nI (cnt wb w))).1 1 4 = nI (cnt wb w) := rfl
        rw [e4]
        refine rSt_fac (rSt_line h.1.1 (by omega) (fun j hj => m1.2.2.2 j (by omega)) ?_ h.1.1.2.2.2.2.1 m2 (fun t ht => ?_)) (fun i hi => hx (6 + i) (by omega) (by omega) (by omega) (by omega))
        · rw [m1.2.2.2 14 (by omega)]; exact h.1.1.2.2.2.1
        · obtain ⟨j, j1, j2, j3⟩ := cnt_surj wb w t ht
          have y1 := x3 j j1 j2
          have y2 := m3 j j1 j2
          rw [j3] at y1 y2
          have bj := b4 j j1
          show μ'.1 4 t = _ ∧ ab (μ'.1 4 t) ≤ 100
          rw [y1, y2]
          exact bj
      · unfold rFlags
        rw [hx 0 (by omega) (by omega) (by omega) (by omega), m1.2.1 2 (by omega) (by omega) (by omega) (by omega), m1.2.1 3 (by omega) (by omega) (by omega) (by omega)]
        exact h.1.2.2.1
  · rw [il_toInt]; exact ⟨by show (0 : Int) ≤ _; omega, by show _ ≤ (2 : Int); omega⟩
