/-! what is counted in the rows -/
def chN (r : Nat → Int64) (lo : Nat) : Nat → Nat
  | 0 => 0
  | n + 1 => chN r lo n + (if ((0 : Int64) ≤ r (lo + n + 1)) ↔ ((0 : Int64) ≤ r (lo + n)) then 0 else 1)
theorem chN_le (r : Nat → Int64) (lo : Nat) : ∀ n, chN r lo n ≤ n := by
  intro n
  induction n with
  | zero => exact Nat.le_refl 0
  | succ n ih => rw [chN]; split <;> omega
theorem chN_congr {r r' : Nat → Int64} {lo : Nat} : ∀ n, (∀ k, k ≤ lo + n → r k = r' k) → chN r lo n = chN r' lo n := by
  intro n
  induction n with
  | zero => intro _; rfl
  | succ n ih => intro h; rw [chN, chN, ih (fun k hk => h k (by omega)), h (lo + n + 1) (by omega), h (lo + n) (by omega)]
theorem e_signChanges {μ : ZMem} {t lo n : Nat} {a2 : Int32} (hlo : lo + n < 7) (hA : ∀ i, i < n → ¬ a2 < nI (lo + 1 + i)) (hB : a2 < nI (lo + 1 + n)) {Φ : Int32 → Prop} (h : Φ (nI (chN (fun k => μ.2 (t + 4 + k) 0) lo n))) : w_X8_signChanges t (nI lo) a2 μ Φ := by
  unfold w_X8_signChanges
  rw [nI_1]
  refine nm_b ⟨n + 1, ?_⟩
  have key : ∀ m i, i + m = n → lpz2 (b_X8_signChanges_7 a2 Φ μ t) (m + 1) (nI (chN (fun k => μ.2 (t + 4 + k) 0) lo i)) (nI (lo + 1 + i)) := by
    intro m
    induction m with
    | zero =>
      intro i hi
      obtain rfl : i = n := by omega
      exact zif_t hB h
    | succ m ih =>
      intro i hi
      have ih' := ih (i + 1) (by omega)
      refine (show b_X8_signChanges_7 a2 Φ μ t (nI (chN (fun k => μ.2 (t + 4 + k) 0) lo i)) (nI (lo + 1 + i)) (lpz2 (b_X8_signChanges_7 a2 Φ μ t) (m + 1)) from ?_)
      generalize lpz2 (b_X8_signChanges_7 a2 Φ μ t) (m + 1) = L at ih' ⊢
      unfold b_X8_signChanges_7
      refine zif_f (hA i (by omega)) ⟨vp_in_nI (by omega) (by omega), ?_⟩
      rw [show nI (lo + 1 + i) - 1 = nI (lo + i) by rw [show lo + 1 + i = (lo + i) + 1 by omega]; exact nI_sub1 _, nn_clamp (n := lo + 1 + i) (by omega), nn_clamp (n := lo + i) (by omega), nI_1]
      rw [chN, show lo + i + 1 = lo + 1 + i by omega] at ih'
      have hle := chN_le (fun k => μ.2 (t + 4 + k) 0) lo i
      refine nm_k (fun x => x = if (0 : Int64) ≤ μ.2 (t + 4 + (lo + 1 + i)) 0 then 0 else 1) (fun J hJ => zif (fun q => hJ _ (by rw [if_pos q])) (fun q => hJ _ (by rw [if_neg q]))) ?_
      rintro x hx
      refine ⟨vp_in_nI (by omega) (by omega), ?_⟩
      refine nm_k (fun y => y = if (0 : Int64) ≤ μ.2 (t + 4 + (lo + i)) 0 then 0 else 1) (fun J hJ => zif (fun q => hJ _ (by rw [if_pos q])) (fun q => hJ _ (by rw [if_neg q]))) ?_
      rintro y hy
      have hxy : x = y ↔ (((0 : Int64) ≤ μ.2 (t + 4 + (lo + 1 + i)) 0) ↔ ((0 : Int64) ≤ μ.2 (t + 4 + (lo + i)) 0)) := by
        rw [hx, hy]
        by_cases q1 : (0 : Int64) ≤ μ.2 (t + 4 + (lo + 1 + i)) 0 <;> by_cases q2 : (0 : Int64) ≤ μ.2 (t + 4 + (lo + i)) 0 <;> simp [q1, q2]
      show (x = y → L _ _) ∧ _
      rw [show lo + 1 + (i + 1) = lo + 1 + i + 1 by omega] at ih'
      refine zif (fun q => ?_) (fun q => ?_)
      · rw [if_pos (hxy.mp q)] at ih'; exact ih'
      · rw [if_neg (fun z => q (hxy.mpr z))] at ih'; rw [nI_1]; exact ih'
  exact key n 0 (by omega)
theorem m_changesIn {μ : ZMem} {lo n : Nat} {a2 : Int32} (hlo : lo + n < 7) (hA : ∀ i, i < n → ¬ a2 < nI (lo + 1 + i)) (hB : a2 < nI (lo + 1 + n)) {Φ : Int32 → Prop} (h : Φ (nI (chN (fun k => rowM μ k 0) lo n))) : w_X12_changesIn (nI lo) a2 μ Φ := by
  unfold w_X12_changesIn
  rw [nI_1]
  refine nm_b ⟨n + 1, ?_⟩
  have key : ∀ m i, i + m = n → lpz2 (b_X12_changesIn_7 a2 Φ μ) (m + 1) (nI (chN (fun k => rowM μ k 0) lo i)) (nI (lo + 1 + i)) := by
    intro m
    induction m with
    | zero =>
      intro i hi
      obtain rfl : i = n := by omega
      exact zif_t hB h
    | succ m ih =>
      intro i hi
      have ih' := ih (i + 1) (by omega)
      refine (show b_X12_changesIn_7 a2 Φ μ (nI (chN (fun k => rowM μ k 0) lo i)) (nI (lo + 1 + i)) (lpz2 (b_X12_changesIn_7 a2 Φ μ) (m + 1)) from ?_)
      generalize lpz2 (b_X12_changesIn_7 a2 Φ μ) (m + 1) = L at ih' ⊢
      unfold b_X12_changesIn_7
      rw [show nI (lo + 1 + i) - 1 = nI (lo + i) by rw [show lo + 1 + i = (lo + i) + 1 by omega]; exact nI_sub1 _, nI_1]
      rw [chN, show lo + i + 1 = lo + 1 + i by omega] at ih'
      have hle := chN_le (fun k => rowM μ k 0) lo i
      refine zif_f (hA i (by omega)) (m_item (j := 0) (by omega) (by omega) ?_)
      refine nm_k (fun x => x = if (0 : Int64) ≤ rowM μ (lo + 1 + i) 0 then 0 else 1) (fun J hJ => zif (fun q => hJ _ (by rw [if_pos q])) (fun q => hJ _ (by rw [if_neg q]))) ?_
      rintro x hx
      refine m_item (j := 0) (by omega) (by omega) ?_
      refine nm_k (fun y => y = if (0 : Int64) ≤ rowM μ (lo + i) 0 then 0 else 1) (fun J hJ => zif (fun q => hJ _ (by rw [if_pos q])) (fun q => hJ _ (by rw [if_neg q]))) ?_
      rintro y hy
      have hxy : x = y ↔ (((0 : Int64) ≤ rowM μ (lo + 1 + i) 0) ↔ ((0 : Int64) ≤ rowM μ (lo + i) 0)) := by
        rw [hx, hy]
        by_cases q1 : (0 : Int64) ≤ rowM μ (lo + 1 + i) 0 <;> by_cases q2 : (0 : Int64) ≤ rowM μ (lo + i) 0 <;> simp [q1, q2]
      rw [show lo + 1 + (i + 1) = lo + 1 + i + 1 by omega] at ih'
      show (¬ x = y → L _ _) ∧ _
      refine zifn (fun q => ?_) (fun q => ?_)
      · rw [if_neg (fun z => q (hxy.mpr z))] at ih'; rw [nI_1]; exact ih'
      · rw [if_pos (hxy.mp q), Nat.add_zero] at ih'
        show L (_ + 0) _
        rw [Int32.add_zero]; exact ih'
  exact key n 0 (by omega)
/-- the first row of case 2 -/
def frN (cs : Nat → Int32) (d : Nat) : Nat → Option Nat
  | 0 => none
  | n + 1 => if cs (d - (n + 1)) = 2 then some (d - (n + 1)) else frN cs d n
theorem frN_lt {cs : Nat → Int32} {d k : Nat} : ∀ n, n ≤ d → frN cs d n = some k → k < d ∧ cs k = 2 := by
  intro n
  induction n with
  | zero => intro _ h; cases h
  | succ n ih =>
    intro hn h
    rw [frN] at h
    split at h
    · rename_i e
      rw [← Option.some.inj h]
      exact ⟨by omega, e⟩
    · exact ih (by omega) h
theorem frN_congr {cs cs' : Nat → Int32} {d : Nat} (h : ∀ k, k < d → cs k = cs' k) : ∀ n, n ≤ d → frN cs d n = frN cs' d n := by
  intro n
  induction n with
  | zero => intro _; rfl
  | succ n ih => intro hn; rw [frN, frN, h _ (by omega), ih (by omega)]
def frI (cs : Nat → Int32) (d : Nat) : Int32 := match frN cs d d with
  | none => -1
  | some k => nI k
theorem e_firstNothing {μ : ZMem} {t d : Nat} (hd : d ≤ 7) (ht : μ.1 t 4 = nI d - 1) {Φ : Int32 → Prop} (h : Φ (frI (μ.1 (t + 11)) d)) : w_X8_firstNothing t μ Φ := by
  refine ⟨d + 1, ?_⟩
  have key : ∀ n i, i + n = d → frN (μ.1 (t + 11)) d n = frN (μ.1 (t + 11)) d d → lpz1 (b_X8_firstNothing_2 μ t Φ) (n + 1) (nI i) := by
    intro n
    induction n with
    | zero =>
      intro i hi hq
      refine (show b_X8_firstNothing_2 μ t Φ (nI i) (lpz1 (b_X8_firstNothing_2 μ t Φ) 0) from ?_)
      unfold b_X8_firstNothing_2
      rw [ht]
      refine zif_t (by rw [i_lt, hd_toInt hd, nI_toInt (by omega)]; omega) ?_
      unfold frI at h
      rw [← hq] at h; exact h
    | succ n ih =>
      intro i hi hq
      have ih' := ih (i + 1) (by omega)
      refine (show b_X8_firstNothing_2 μ t Φ (nI i) (lpz1 (b_X8_firstNothing_2 μ t Φ) (n + 1)) from ?_)
      generalize lpz1 (b_X8_firstNothing_2 μ t Φ) (n + 1) = L at ih' ⊢
      unfold b_X8_firstNothing_2
      rw [ht, nI_1, nn_clamp (n := i) (by omega)]
      rw [frN, show d - (n + 1) = i by omega] at hq
      refine zif_f (by rw [i_lt, hd_toInt hd, nI_toInt (by omega)]; omega) ⟨vp_in_nI (by omega) (by omega), ?_⟩
      refine zifn (fun q => ?_) (fun q => ?_)
      · rw [if_neg q] at hq; exact ih' hq
      · rw [if_pos q] at hq
        unfold frI at h
        rw [← hq] at h; exact h
  exact key d 0 (by omega) rfl
theorem m_firstCase {μ : ZMem} {d : Nat} (hd : d ≤ 7) (ht : μ.1 0 9 = nI d - 1) {Φ : Int32 → Prop} (h : Φ (frI (μ.1 8) d)) : w_X12_firstCase μ Φ := by
  refine ⟨d + 1, ?_⟩
  have key : ∀ n i, i + n = d → frN (μ.1 8) d n = frN (μ.1 8) d d → lpz1 (b_X12_firstCase_2 μ Φ) (n + 1) (nI i) := by
    intro n
    induction n with
    | zero =>
      intro i hi hq
      refine (show b_X12_firstCase_2 μ Φ (nI i) (lpz1 (b_X12_firstCase_2 μ Φ) 0) from ?_)
      unfold b_X12_firstCase_2
      rw [ht]
      refine zif_t (by rw [i_lt, hd_toInt hd, nI_toInt (by omega)]; omega) ?_
      unfold frI at h
      rw [← hq] at h; exact h
    | succ n ih =>
      intro i hi hq
      have ih' := ih (i + 1) (by omega)
      refine (show b_X12_firstCase_2 μ Φ (nI i) (lpz1 (b_X12_firstCase_2 μ Φ) (n + 1)) from ?_)
      generalize lpz1 (b_X12_firstCase_2 μ Φ) (n + 1) = L at ih' ⊢
      unfold b_X12_firstCase_2
      rw [ht, nI_1, nn_clamp (n := i) (by omega)]
      rw [frN, show d - (n + 1) = i by omega] at hq
      refine zif_f (by rw [i_lt, hd_toInt hd, nI_toInt (by omega)]; omega) ⟨vp_in_nI (by omega) (by omega), ?_⟩
      refine zifn (fun q => ?_) (fun q => ?_)
      · rw [if_neg q] at hq; exact ih' hq
      · rw [if_pos q] at hq
        unfold frI at h
        rw [← hq] at h; exact h
  exact key d 0 (by omega) rfl
def rgI (r : Nat → Int64) (d : Nat) : Int32 := nI (chN r 0 (d - 1))
def axI (r : Nat → Int64) (cs : Nat → Int32) (d : Nat) : Int32 := match frN cs d d with
  | none => 0
  | some k => nI d - 1 - nI k + 1 - 2 * nI (chN r (k - 1) (d - k))
def lfI (r : Nat → Int64) (cs : Nat → Int32) (d : Nat) : Int32 := if d = 0 then 0 else nI d - 1 - rgI r d - axI r cs d
theorem rgI_congr {r r' : Nat → Int64} {d : Nat} (h : ∀ k, k < d → r k = r' k) : rgI r d = rgI r' d := by
  unfold rgI
  by_cases e : d ≤ 1
  · rw [show d - 1 = 0 by omega]; rfl
  · rw [chN_congr (r' := r') _ (fun k hk => h k (by omega))]
theorem axI_congr {r r' : Nat → Int64} {cs cs' : Nat → Int32} {d : Nat} (h : ∀ k, k < d → r k = r' k) (hc : ∀ k, k < d → cs k = cs' k) (h0 : d ≠ 0 → cs 0 ≠ 2) : axI r cs d = axI r' cs' d := by
  unfold axI
  rw [← frN_congr hc d (Nat.le_refl d)]
  cases e : frN cs d d with
  | none => rfl
  | some k =>
    obtain ⟨e1, e2⟩ := frN_lt d (Nat.le_refl d) e
    have hk0 : k ≠ 0 := fun q => h0 (by omega) (by rw [← q]; exact e2)
    dsimp only
    rw [chN_congr (r' := r') _ (fun k hk => h k (by omega))]
theorem lfI_congr {r r' : Nat → Int64} {cs cs' : Nat → Int32} {d : Nat} (h : ∀ k, k < d → r k = r' k) (hc : ∀ k, k < d → cs k = cs' k) (h0 : d ≠ 0 → cs 0 ≠ 2) : lfI r cs d = lfI r' cs' d := by
  unfold lfI
  rw [rgI_congr h, axI_congr h hc h0]
theorem frI_congr {cs cs' : Nat → Int32} {d : Nat} (hc : ∀ k, k < d → cs k = cs' k) : frI cs d = frI cs' d := by
  unfold frI
  rw [frN_congr hc d (Nat.le_refl d)]
theorem rg_A {d : Nat} (hd : d ≤ 7) : (∀ i, i < d - 1 → ¬ nI d - 1 < nI (0 + 1 + i)) ∧ nI d - 1 < nI (0 + 1 + (d - 1)) := by
  refine ⟨fun i hi => ?_, ?_⟩
  · rw [i_lt, hd_toInt hd, nI_toInt (by omega)]; omega
  · rw [i_lt, hd_toInt hd, nI_toInt (by omega)]; omega
theorem ax_A {d k : Nat} (hd : d ≤ 7) (hk : k ≠ 0) (hkd : k < d) : (∀ i, i < d - k → ¬ nI d - 1 < nI (k - 1 + 1 + i)) ∧ nI d - 1 < nI (k - 1 + 1 + (d - k)) := by
  refine ⟨fun i hi => ?_, ?_⟩
  · rw [i_lt, hd_toInt hd, nI_toInt (by omega)]; omega
  · rw [i_lt, hd_toInt hd, nI_toInt (by omega)]; omega
theorem e_rightCount {μ : ZMem} {t d : Nat} (hd : d ≤ 7) (ht : μ.1 t 4 = nI d - 1) {Φ : Int32 → Prop} (h : Φ (rgI (fun k => μ.2 (t + 4 + k) 0) d)) : w_X8_rightCount t μ Φ := by
  unfold w_X8_rightCount
  rw [ht]
  exact e_signChanges (lo := 0) (n := d - 1) (by omega) (rg_A hd).1 (rg_A hd).2 h
theorem m_right {μ : ZMem} {d : Nat} (hd : d ≤ 7) (ht : μ.1 0 9 = nI d - 1) {Φ : Int32 → Prop} (h : Φ (rgI (fun k => rowM μ k 0) d)) : w_X12_right μ Φ := by
  unfold w_X12_right
  rw [ht]
  exact m_changesIn (lo := 0) (n := d - 1) (by omega) (rg_A hd).1 (rg_A hd).2 h
theorem e_axisCount {μ : ZMem} {t d : Nat} (hd : d ≤ 7) (ht : μ.1 t 4 = nI d - 1) (h0 : d ≠ 0 → μ.1 (t + 11) 0 ≠ 2) {Φ : Int32 → Prop} (h : Φ (axI (fun k => μ.2 (t + 4 + k) 0) (μ.1 (t + 11)) d)) : w_X8_axisCount t μ Φ := by
  refine e_firstNothing hd ht ?_
  unfold axI at h
  unfold frI
  cases e : frN (μ.1 (t + 11)) d d with
  | none =>
    rw [e] at h
    exact zif_f (by decide) h
  | some k =>
    rw [e] at h
    obtain ⟨e1, e2⟩ := frN_lt d (Nat.le_refl d) e
    have hk0 : k ≠ 0 := fun q => h0 (by omega) (by rw [← q]; exact e2)
    obtain ⟨c, rfl⟩ : ∃ c, k = c + 1 := ⟨k - 1, by omega⟩
    refine zif_t (by rw [show (1 : Int32) = nI 1 from rfl, n_le (by omega) (by omega)]; omega) ?_
    dsimp only
    rw [nI_sub1, ht]
    exact e_signChanges (lo := c) (n := d - (c + 1)) (by omega) (ax_A hd hk0 e1).1 (ax_A hd hk0 e1).2 h
theorem m_axis {μ : ZMem} {d : Nat} (hd : d ≤ 7) (ht : μ.1 0 9 = nI d - 1) (h0 : d ≠ 0 → μ.1 8 0 ≠ 2) {Φ : Int32 → Prop} (h : Φ (axI (fun k => rowM μ k 0) (μ.1 8) d)) : w_X12_axis μ Φ := by
  unfold w_X12_axis
  refine m_firstCase hd ht ?_
  unfold axI at h
  unfold frI
  cases e : frN (μ.1 8) d d with
  | none =>
    rw [e] at h
    exact zif_f (by decide) h
  | some k =>
    rw [e] at h
    obtain ⟨e1, e2⟩ := frN_lt d (Nat.le_refl d) e
    have hk0 : k ≠ 0 := fun q => h0 (by omega) (by rw [← q]; exact e2)
    obtain ⟨c, rfl⟩ : ∃ c, k = c + 1 := ⟨k - 1, by omega⟩
    refine zif_t (by rw [show (0 : Int32) = nI 0 from rfl, n_le (by omega) (by omega)]; omega) ?_
    dsimp only
    rw [nI_sub1, ht]
    exact m_changesIn (lo := c) (n := d - (c + 1)) (by omega) (ax_A hd hk0 e1).1 (ax_A hd hk0 e1).2 h
theorem ax_1 {r : Nat → Int64} {cs : Nat → Int32} (h0 : cs 0 ≠ 2) : axI r cs 1 = 0 := by
  unfold axI
  have : frN cs 1 1 = none := by
    show (if cs 0 = 2 then some 0 else none) = none
    exact if_neg h0
  rw [this]
theorem e_leftCount {μ : ZMem} {t d : Nat} (hd : d ≤ 7) (ht : μ.1 t 4 = nI d - 1) (h0 : d ≠ 0 → μ.1 (t + 11) 0 ≠ 2) {Φ : Int32 → Prop} (h : Φ (lfI (fun k => μ.2 (t + 4 + k) 0) (μ.1 (t + 11)) d)) : w_X8_leftCount t μ Φ := by
  unfold w_X8_leftCount
  unfold lfI at h
  rw [ht]
  refine zif (fun h1 => e_rightCount hd ht (e_axisCount hd ht h0 ?_)) (fun h1 => ?_)
  · rw [i_le, hd_toInt hd, show (1 : Int32).toInt = 1 from rfl] at h1
    rw [if_neg (by omega)] at h; exact h
  · rw [i_le, hd_toInt hd, show (1 : Int32).toInt = 1 from rfl] at h1
    by_cases e : d = 0
    · rw [if_pos e] at h; exact h
    · rw [if_neg e] at h
      obtain rfl : d = 1 := by omega
      rw [ax_1 (h0 e)] at h
      have e3 : nI 1 - 1 - rgI (fun k => μ.2 (t + 4 + k) 0) 1 - 0 = 0 := (show nI 1 - 1 - nI 0 - 0 = 0 by decide)
      rw [e3] at h
      exact h
theorem m_left {μ : ZMem} {d : Nat} (hd : d ≤ 7) (ht : μ.1 0 9 = nI d - 1) (h0 : d ≠ 0 → μ.1 8 0 ≠ 2) {Φ : Int32 → Prop} (h : Φ (lfI (fun k => rowM μ k 0) (μ.1 8) d)) : w_X12_left μ Φ := by
  unfold w_X12_left
  unfold lfI at h
  rw [ht]
  refine zif (fun h1 => m_right hd ht (m_axis hd ht h0 ?_)) (fun h1 => ?_)
  · rw [i_le, hd_toInt hd, show (0 : Int32).toInt = 0 from rfl] at h1
    rw [if_neg (by omega)] at h; exact h
  · rw [i_le, hd_toInt hd, show (0 : Int32).toInt = 0 from rfl] at h1
    rw [if_pos (by omega)] at h; exact h
