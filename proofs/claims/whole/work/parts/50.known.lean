/-! what is known of factors -/
def fS (kd : Int32) : Nat := if kd = 0 ∨ kd = 2 then 1 else 2
/-- 0: on the right, 1: on the axis, 2: on the left, 3: all -/
def fK (w : Nat) (kd a b : Int32) : Nat :=
  if w = 3 then fS kd else
  if fS kd = 1 then (if (if a.toInt < 0 then 0 else if a.toInt = 0 then 1 else 2) = w then 1 else 0)
  else if b.toInt < 0 then (if w = 1 then 0 else 1)
  else if b.toInt = 0 then (if (if a.toInt < 0 then 0 else if a.toInt = 0 then 1 else 2) = w then 1 else 0) + (if w = 1 then 1 else 0)
  else 2 * (if (if a.toInt < 0 then 0 else if a.toInt = 0 then 1 else 2) = w then 1 else 0)
theorem fS_cases (kd : Int32) : fS kd = 1 ∨ fS kd = 2 := by unfold fS; split <;> simp
theorem fK_le (w : Nat) (kd a b : Int32) : fK w kd a b ≤ 2 := by
  have := fS_cases kd
  unfold fK
  repeat' split
  all_goals omega
theorem fK_sum (kd a b : Int32) : fK 0 kd a b + fK 1 kd a b + fK 2 kd a b = fK 3 kd a b := by
  have hs := fS_cases kd
  unfold fK
  simp only [show ¬ (0 = 3) by decide, show ¬ (1 = 3) by decide, show ¬ (2 = 3) by decide, if_false, if_true]
  rcases hs with hs | hs
  · simp only [hs, if_true]
    by_cases h1 : a.toInt < 0
    · simp [h1]
    · by_cases h2 : a.toInt = 0
      · simp [h2]
      · simp [h1, h2]
  · simp only [hs, show ¬ (2 = 1) by decide, if_false]
    by_cases h3 : b.toInt < 0
    · simp [h3]
    · by_cases h4 : b.toInt = 0
      · simp only [h4]
        by_cases h1 : a.toInt < 0
        · simp [h1]
        · by_cases h2 : a.toInt = 0
          · simp [h2]
          · simp [h1, h2]
      · simp only [h3, h4, if_false]
        by_cases h1 : a.toInt < 0
        · simp [h1]
        · by_cases h2 : a.toInt = 0
          · simp [h2]
          · simp [h1, h2]
theorem i_eq0 (a : Int32) : (a = 0) = (a.toInt = 0) := by rw [i_eq]; rfl
theorem i_lt0 (a : Int32) : (a < 0) = (a.toInt < 0) := by rw [i_lt]; rfl
theorem i_0le (a : Int32) : ((0 : Int32) ≤ a) = (0 ≤ a.toInt) := by rw [i_le]; rfl
theorem i_le0 (a : Int32) : (a ≤ (0 : Int32)) = (a.toInt ≤ 0) := by rw [i_le]; rfl
theorem e_size {μ : ZMem} {t : Nat} {Φ : Int32 → Prop} (h : Φ (nI (fS (μ.1 t 0)))) : w_X2_size t μ Φ := by
  unfold w_X2_size
  refine zif (fun q => ?_) (fun q => zifn (fun q2 => ?_) (fun q2 => ?_))
  · rw [show fS (μ.1 t 0) = 1 by unfold fS; rw [if_pos (Or.inl q)]] at h; exact h
  · rw [show fS (μ.1 t 0) = 2 by unfold fS; rw [if_neg (by rintro (z | z); exact q z; exact q2 z)]] at h; exact h
  · rw [show fS (μ.1 t 0) = 1 by unfold fS; rw [if_pos (Or.inr q2)]] at h; exact h
theorem e_fRight {μ : ZMem} {t : Nat} {Φ : Int32 → Prop} (h : Φ (nI (fK 0 (μ.1 t 0) (μ.1 t 1) (μ.1 t 2)))) : w_X2_rightCount t μ Φ := by
  unfold w_X2_rightCount
  generalize hb : μ.1 t 2 = b at *
  generalize ha : μ.1 t 1 = a at *
  refine e_size ?_
  rw [i_0le, i_lt0]
  unfold fK at h
  rw [if_neg (by decide)] at h
  have n2 : ∀ n : Nat, n = 1 ∨ n = 2 → (nI n = 2 ↔ n = 2) := fun n hn => by rw [show (2 : Int32) = nI 2 from rfl, nI_eq (by omega) (by omega)]
  have e2 := n2 _ (fS_cases (μ.1 t 0))
  have rest : (¬ fS (μ.1 t 0) = 1 → ¬ b.toInt < 0) → (a.toInt < 0 → w_X2_size t μ (fun (r_4) => (¬ r_4 = 2 → Φ 1) ∧ (r_4 = 2 → (b ≤ 0 → Φ 1) ∧ (¬ b ≤ 0 → Φ 2)))) ∧ (¬ a.toInt < 0 → Φ 0) := by
    intro hh
    refine zif (fun q => e_size (zifn (fun q2 => ?_) (fun q2 => ?_))) (fun q => ?_)
    · have s1 : fS (μ.1 t 0) = 1 := by rcases fS_cases (μ.1 t 0) with s | s; exact s; exact absurd (e2.mpr s) q2
      rw [if_pos s1, if_pos q, if_pos rfl] at h; exact h
    · have s1 := e2.mp q2
      have hb0 := hh (by omega)
      rw [if_neg (by omega), if_neg hb0] at h
      rw [i_le0]
      refine zif (fun q3 => ?_) (fun q3 => ?_)
      · rw [if_pos (by omega), if_pos q, if_pos rfl] at h; exact h
      · rw [if_neg (by omega), if_pos q, if_pos rfl] at h; exact h
    · have hz : (if a.toInt < 0 then 0 else if a.toInt = 0 then 1 else 2) ≠ 0 := by rw [if_neg q]; split <;> decide
      rw [if_neg hz] at h
      split at h
      · exact h
      · rw [if_neg (hh ‹_›)] at h
        split at h
        · exact h
        · exact h
  refine nm_b (zifn (fun q2 => rest (fun z => absurd ?_ z)) (fun q2 => zif (fun q3 => rest (fun _ => by omega)) (fun q3 => ?_)))
  · rcases fS_cases (μ.1 t 0) with s | s
    · exact s
    · exact absurd (e2.mpr s) q2
  · have s1 := e2.mp q2
    rw [if_neg (by omega), if_pos (by omega), if_neg (by decide)] at h; exact h
theorem e_fAxis {μ : ZMem} {t : Nat} {Φ : Int32 → Prop} (h : Φ (nI (fK 1 (μ.1 t 0) (μ.1 t 1) (μ.1 t 2)))) : w_X2_axisCount t μ Φ := by
  unfold w_X2_axisCount
  generalize hb : μ.1 t 2 = b at *
  generalize ha : μ.1 t 1 = a at *
  refine e_size ?_
  rw [i_0le, i_eq0, i_eq0]
  unfold fK at h
  rw [if_neg (by decide)] at h
  rw [show (1 : Int32) = nI 1 from rfl, nI_eq (by have := fS_cases (μ.1 t 0); omega) (by omega)]
  have z1 : (if (if a.toInt < 0 then 0 else if a.toInt = 0 then 1 else 2) = 1 then 1 else 0) = if a.toInt = 0 then 1 else 0 := by
    by_cases h1 : a.toInt < 0
    · rw [if_pos h1, if_neg (by decide), if_neg (by omega)]
    · rw [if_neg h1]
      by_cases h2 : a.toInt = 0
      · rw [if_pos h2, if_pos rfl]; rw [if_pos h2]
      · rw [if_neg h2, if_neg (by decide)]; rw [if_neg h2]
  rw [z1] at h
  refine zifn (fun q => ?_) (fun q => ?_)
  · rw [if_neg q] at h
    refine zif (fun q2 => zifn (fun q3 => zifn (fun q4 => ?_) (fun q4 => ?_)) (fun q3 => zifn (fun q4 => ?_) (fun q4 => ?_))) (fun q2 => ?_)
    · rw [if_neg (by omega), if_neg q3, if_neg q4] at h; exact h
    · rw [if_neg (by omega), if_neg q3, if_pos q4] at h; exact h
    · rw [if_neg (by omega), if_pos q3, if_neg q4, if_pos rfl] at h; exact h
    · rw [if_neg (by omega), if_pos q3, if_pos q4, if_pos rfl] at h; exact h
    · rw [if_pos (by omega), if_pos rfl] at h; exact h
  · rw [if_pos q] at h
    refine zifn (fun q4 => ?_) (fun q4 => ?_)
    · rw [if_neg q4] at h; exact h
    · rw [if_pos q4] at h; exact h
theorem e_fLeft {μ : ZMem} {t : Nat} {Φ : Int32 → Prop} (h : Φ (nI (fK 2 (μ.1 t 0) (μ.1 t 1) (μ.1 t 2)))) : w_X2_leftCount t μ Φ := by
  unfold w_X2_leftCount
  refine e_size (e_fRight (e_fAxis ?_))
  have hs := fK_sum (μ.1 t 0) (μ.1 t 1) (μ.1 t 2)
  have e3 : fK 3 (μ.1 t 0) (μ.1 t 1) (μ.1 t 2) = fS (μ.1 t 0) := by unfold fK; rw [if_pos rfl]
  rw [pk_sub (by omega), pk_sub (by omega), show fS (μ.1 t 0) - fK 0 (μ.1 t 0) (μ.1 t 1) (μ.1 t 2) - fK 1 (μ.1 t 0) (μ.1 t 1) (μ.1 t 2) = fK 2 (μ.1 t 0) (μ.1 t 1) (μ.1 t 2) by omega]
  exact h
/-- the state's factors, as functions -/
def fB (μX μM : ZMem) (n : Nat) : Prop := μX.1 1 6 = nI n ∧ μM.1 1 32 = nI n ∧ n ≤ 6 ∧ ∀ i, i < n → μX.1 (6 + i) 0 = μM.1 1 (33 + i) ∧ μX.1 (6 + i) 1 = μM.1 1 (39 + i) ∧ μX.1 (6 + i) 2 = μM.1 1 (45 + i) ∧ 0 ≤ (μX.1 (6 + i) 0).toInt ∧ (μX.1 (6 + i) 0).toInt ≤ 3 ∧ ab (μX.1 (6 + i) 1) ≤ 20 ∧ ab (μX.1 (6 + i) 2) ≤ 20
theorem fB_of {μX μM : ZMem} (h : rNow μX μM) : ∃ n, fB μX μM n := by
  obtain ⟨n, a, b, c, d⟩ := h.2.2.2.2.2.2
  exact ⟨n, b, c, a, d⟩
theorem sz4 : ∀ c : Nat, c < 4 → (1 : Int32) + (nI c - nI c / 2 * 2) = nI (fS (nI c)) := by decide +kernel
theorem m_sizeOf {μ : ZMem} {i : Nat} (hi : i < 6) (h0 : 0 ≤ (μ.1 1 (33 + i)).toInt) (h3 : (μ.1 1 (33 + i)).toInt ≤ 3) {Φ : Int32 → Prop} (h : Φ (nI (fS (μ.1 1 (33 + i))))) : w_X12_sizeOf (nI i) μ Φ := by
  unfold w_X12_sizeOf
  rw [show (33 : Int32) = nI 33 from rfl, nI_add, nn_clamp (by omega)]
  refine ⟨vp_in_nI (by omega) (by omega), ?_⟩
  obtain ⟨c, c1, c2⟩ := nn_of (i := μ.1 1 (33 + i)) (n := 3) h0 (by omega) (by omega)
  rw [c2, sz4 c (by omega), ← c2]
  exact h
theorem m_knownOf {μ : ZMem} {i w : Nat} (hi : i < 6) (hw : w < 3) (h0 : 0 ≤ (μ.1 1 (33 + i)).toInt) (h3 : (μ.1 1 (33 + i)).toInt ≤ 3) {Φ : Int32 → Prop} (h : Φ (nI (fK w (μ.1 1 (33 + i)) (μ.1 1 (39 + i)) (μ.1 1 (45 + i))))) : w_X12_knownOf (nI i) (nI w) μ Φ := by
  unfold w_X12_knownOf
  rw [show (39 : Int32) = nI 39 from rfl, show (45 : Int32) = nI 45 from rfl, nI_add, nI_add, nn_clamp (by omega), nn_clamp (by omega)]
  refine ⟨vp_in_nI (by omega) (by omega), nm_b ⟨vp_in_nI (by omega) (by omega), nm_b ?_⟩⟩
  unfold fK at h
  rw [if_neg (by omega)] at h
  generalize μ.1 1 (39 + i) = a at *
  generalize μ.1 1 (45 + i) = b at *
  generalize hz : (if a.toInt < 0 then 0 else if a.toInt = 0 then 1 else 2) = z at *
  have hz3 : z < 3 := by rw [← hz]; split; omega; split <;> omega
  refine nm_k (fun x => x = nI z) (fun J hJ => ?_) ?_
  · rw [i_0le, i_eq0]
    refine zif (fun q => zifn (fun q2 => hJ _ ?_) (fun q2 => hJ _ ?_)) (fun q => hJ _ ?_)
    · rw [← hz, if_neg (by omega), if_neg q2]; rfl
    · rw [← hz, if_neg (by omega), if_pos q2]; rfl
    · rw [← hz, if_pos (by omega)]; rfl
  rintro x5 hx5
  refine nm_k (fun x => x = nI (if z = w then 1 else 0)) (fun J hJ => ?_) ?_
  · rw [hx5, nI_eq (by omega) (by omega)]
    refine zifn (fun q => hJ _ ?_) (fun q => hJ _ ?_)
    · rw [if_neg q]; rfl
    · rw [if_pos q]; rfl
  rintro x7 hx7
  have h1 : (if z = w then 1 else 0) ≤ 1 := by split <;> omega
  generalize (if z = w then 1 else 0) = y at *
  refine m_sizeOf hi h0 h3 ?_
  rw [show (1 : Int32) = nI 1 from rfl, nI_eq (by have := fS_cases (μ.1 1 (33 + i)); omega) (by omega), nI_eq (by omega) (by omega), i_0le, i_eq0, hx7]
  refine zifn (fun q => ?_) (fun q => ?_)
  · rw [if_neg q] at h
    refine zif (fun q2 => zifn (fun q3 => ?_) (fun q3 => zifn (fun q4 => ?_) (fun q4 => ?_))) (fun q2 => zifn (fun q4 => ?_) (fun q4 => ?_))
    · rw [if_neg (by omega), if_neg q3] at h
      rw [show (2 : Int32) = nI 2 from rfl, pk_mul]; exact h
    · rw [if_neg (by omega), if_pos q3, if_neg q4] at h
      rw [show (0 : Int32) = nI 0 from rfl, nI_add]; exact h
    · rw [if_neg (by omega), if_pos q3, if_pos q4] at h
      rw [nI_add]; exact h
    · rw [if_pos (by omega), if_neg q4] at h; exact h
    · rw [if_pos (by omega), if_pos q4] at h; exact h
  · rw [if_pos q] at h; exact h
def smN (F : Nat → Nat) : Nat → Nat
  | 0 => 0
  | n + 1 => smN F n + F n
theorem smN_le {F : Nat → Nat} (hF : ∀ i, F i ≤ 2) : ∀ n, smN F n ≤ 2 * n := by
  intro n
  induction n with
  | zero => exact Nat.le_refl _
  | succ n ih => have := hF n; unfold smN; omega
theorem smN_congr {F G : Nat → Nat} : ∀ {n}, (∀ i, i < n → F i = G i) → smN F n = smN G n := by
  intro n
  induction n with
  | zero => intro _; rfl
  | succ n ih => intro h; unfold smN; rw [ih (fun i hi => h i (by omega)), h n (by omega)]
theorem smN_add {F G : Nat → Nat} : ∀ n, smN (fun i => F i + G i) n = smN F n + smN G n := by
  intro n
  induction n with
  | zero => rfl
  | succ n ih => unfold smN; rw [ih]; omega
def fX (μ : ZMem) (w i : Nat) : Nat := fK w (μ.1 (6 + i) 0) (μ.1 (6 + i) 1) (μ.1 (6 + i) 2)
def fM (μ : ZMem) (w i : Nat) : Nat := fK w (μ.1 1 (33 + i)) (μ.1 1 (39 + i)) (μ.1 1 (45 + i))
theorem fX_M {μX μM : ZMem} {n : Nat} (h : fB μX μM n) {w i : Nat} (hi : i < n) : fX μX w i = fM μM w i := by
  obtain ⟨_, _, _, h4⟩ := h
  obtain ⟨a, b, c, _⟩ := h4 i hi
  unfold fX fM
  rw [a, b, c]
theorem lp2_sum {body : Int32 → Int32 → (Int32 → Int32 → Prop) → Prop} (N : Nat) (F : Nat → Nat) (hs : ∀ i K, i < N → K (nI (smN F i) + nI (F i)) (nI (i + 1)) → body (nI (smN F i)) (nI i) K) (hx : ∀ K, body (nI (smN F N)) (nI N) K) : ∀ m i, i + m = N → lpz2 body (m + 1) (nI (smN F i)) (nI i) := by
  intro m
  induction m with
  | zero => intro i hi; rw [show i = N by omega]; exact hx _
  | succ m ih =>
    intro i hi
    refine (show body (nI (smN F i)) (nI i) (lpz2 body (m + 1)) from hs i _ (by omega) ?_)
    rw [nI_add]
    exact ih (i + 1) (by omega)
theorem e_sumR {μ : ZMem} {n : Nat} (hn : n ≤ 6) (h6 : μ.1 1 6 = nI n) {Φ : Int32 → Prop} (h : Φ (nI (smN (fX μ 0) n))) : w_X3_factorsRight μ Φ := by
  unfold w_X3_factorsRight
  refine ⟨n + 1, lp2_sum n (fX μ 0) (fun i K hi hK => ?_) (fun K => ?_) n 0 (by omega)⟩
  · unfold b_X3_factorsRight_4
    rw [h6, n_le (by omega) (by omega), nn_clamp (by omega), nI_1]
    exact zif_f (by omega) ⟨vp_in_nI (by omega) (by omega), e_fRight (nm_b hK)⟩
  · unfold b_X3_factorsRight_4
    rw [h6]
    exact zif_t (by rw [n_le (by omega) (by omega)]; omega) h
theorem e_sumA {μ : ZMem} {n : Nat} (hn : n ≤ 6) (h6 : μ.1 1 6 = nI n) {Φ : Int32 → Prop} (h : Φ (nI (smN (fX μ 1) n))) : w_X3_factorsAxis μ Φ := by
  unfold w_X3_factorsAxis
  refine ⟨n + 1, lp2_sum n (fX μ 1) (fun i K hi hK => ?_) (fun K => ?_) n 0 (by omega)⟩
  · unfold b_X3_factorsAxis_4
    rw [h6, n_le (by omega) (by omega), nn_clamp (by omega), nI_1]
    exact zif_f (by omega) ⟨vp_in_nI (by omega) (by omega), e_fAxis (nm_b hK)⟩
  · unfold b_X3_factorsAxis_4
    rw [h6]
    exact zif_t (by rw [n_le (by omega) (by omega)]; omega) h
theorem fK_3 (kd a b : Int32) : fK 3 kd a b = fS kd := by unfold fK; rw [if_pos rfl]
theorem e_sumS {μ : ZMem} {n : Nat} (hn : n ≤ 6) (h6 : μ.1 1 6 = nI n) {Φ : Int32 → Prop} (h : Φ (nI (smN (fX μ 3) n))) : w_X3_factorsSize μ Φ := by
  unfold w_X3_factorsSize
  refine ⟨n + 1, lp2_sum n (fX μ 3) (fun i K hi hK => ?_) (fun K => ?_) n 0 (by omega)⟩
  · unfold b_X3_factorsSize_4
    rw [h6, n_le (by omega) (by omega), nn_clamp (by omega), nI_1]
    refine zif_f (by omega) ⟨vp_in_nI (by omega) (by omega), e_size (nm_b ?_)⟩
    unfold fX at hK
    rw [fK_3] at hK
    exact hK
  · unfold b_X3_factorsSize_4
    rw [h6]
    exact zif_t (by rw [n_le (by omega) (by omega)]; omega) h
theorem m_knownAll {μX μM : ZMem} {n : Nat} (hB : fB μX μM n) {w : Nat} (hw : w < 4) {Φ : Int32 → Prop} (h : Φ (nI (smN (fM μM w) n))) : w_X12_knownAll (nI w) μM Φ := by
  obtain ⟨b1, b2, b3, b4⟩ := hB
  have hk : ∀ i, i < n → 0 ≤ (μM.1 1 (33 + i)).toInt ∧ (μM.1 1 (33 + i)).toInt ≤ 3 := fun i hi => by
    obtain ⟨a, _, _, c, d, _⟩ := b4 i hi
    rw [← a]; exact ⟨c, d⟩
  unfold w_X12_knownAll
  refine ⟨n + 1, lp2_sum n (fM μM w) (fun i K hi hK => ?_) (fun K => ?_) n 0 (by omega)⟩
  · unfold b_X12_knownAll_4
    rw [b2, n_le (by omega) (by omega)]
    refine zif_f (by omega) ?_
    refine nm_k (fun x => x = nI (fM μM w i)) (fun J hJ => ?_) ?_
    · rw [show (3 : Int32) = nI 3 from rfl, nI_eq (by omega) (by omega)]
      refine zifn (fun q => m_knownOf (by omega) (by omega) (hk i hi).1 (hk i hi).2 (hJ _ rfl)) (fun q => m_sizeOf (by omega) (hk i hi).1 (hk i hi).2 (hJ _ ?_))
      subst q
      unfold fM
      rw [fK_3]
    rintro x hx
    refine nm_b ?_
    rw [hx, nI_1]
    exact hK
  · unfold b_X12_knownAll_4
    rw [b2]
    exact zif_t (by rw [n_le (by omega) (by omega)]; omega) h
theorem o_known {μX μM : ZMem} (h : Rel0 μX μM) (a1 : Int32) : w_X11_known a1 μX (fun r => w_X12_known a1 μM (fun r2 => oS μX μM r r2 μX μM)) := by
  obtain ⟨n, hB⟩ := fB_of h.1
  have yes : ∀ w, w < 4 → ∀ r : Int32, r = nI (smN (fM μM w) n) → w_X12_known (nI w) μM (fun r2 => oS μX μM r r2 μX μM) := by
    intro w hw r hr
    unfold w_X12_known
    refine m_in_k (fun _ _ => z1p (m_knownAll hB hw ?_)) (fun q => absurd ?_ q)
    · rw [hr]; exact oS_0 h _
    · rw [il_toInt, nI_toInt (by omega)]; exact ⟨by show (0 : Int) ≤ _; omega, by show _ ≤ (3 : Int); omega⟩
  have ef : ∀ w, smN (fX μX w) n = smN (fM μM w) n := fun w => smN_congr (fun i hi => fX_M hB hi)
  have b1 := hB.1
  have b3 := hB.2.2.1
  unfold w_X11_known
  refine ⟨?_, ?_, ?_, ?_, ?_⟩
  · rintro rfl
    exact e_sumR b3 b1 (yes 0 (by omega) _ (by rw [ef]))
  · rintro rfl
    exact e_sumA b3 b1 (yes 1 (by omega) _ (by rw [ef]))
  · rintro rfl
    unfold w_X3_factorsLeft
    refine e_sumS b3 b1 (e_sumR b3 b1 (e_sumA b3 b1 (yes 2 (by omega) _ ?_)))
    have hs : smN (fX μX 0) n + smN (fX μX 1) n + smN (fX μX 2) n = smN (fX μX 3) n := by
      rw [← smN_add, ← smN_add]
      exact smN_congr (fun i _ => fK_sum _ _ _)
    rw [pk_sub (by omega), pk_sub (by omega), ← ef, show smN (fX μX 3) n - smN (fX μX 0) n - smN (fX μX 1) n = smN (fX μX 2) n by omega]
  · rintro rfl
    exact e_sumS b3 b1 (yes 3 (by omega) _ (by rw [ef]))
  · intro n0 n1 n2 n3
    unfold w_X12_known
    refine m_in_k (fun q1 q2 => ?_) (fun _ => z0p (oS_0 h _))
    rw [il_toInt] at q1 q2
    have q1' : (0 : Int) ≤ a1.toInt := q1
    have q2' : a1.toInt ≤ (3 : Int) := q2
    obtain ⟨i, i1, i2⟩ := nn_of (i := a1) (n := 3) (by omega) (by omega) (by omega)
    have : i = 0 ∨ i = 1 ∨ i = 2 ∨ i = 3 := by omega
    rcases this with rfl | rfl | rfl | rfl
    · exact absurd i2 n0
    · exact absurd i2 n1
    · exact absurd i2 n2
    · exact absurd i2 n3
