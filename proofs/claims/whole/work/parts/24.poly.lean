/-! loops by a counter; what is done with whole rows -/
theorem lp1_up {body : Int32 → (Int32 → Prop) → Prop} (N : Nat) (hs : ∀ i K, i < N → K (nI (i + 1)) → body (nI i) K) (hx : ∀ K, body (nI N) K) : ∀ m i, i + m = N → lpz1 body (m + 1) (nI i) := by
  intro m
  induction m with
  | zero => intro i h; rw [show i = N by omega]; exact hx _
  | succ m ih => intro i h; exact hs i _ (by omega) (ih (i + 1) (by omega))
theorem lp2_up {B : Type} {body : Int32 → B → (Int32 → B → Prop) → Prop} (N : Nat) (st : Nat → B) (hs : ∀ i K, i < N → K (nI (i + 1)) (st (i + 1)) → body (nI i) (st i) K) (hx : ∀ K, body (nI N) (st N) K) : ∀ m i, i + m = N → lpz2 body (m + 1) (nI i) (st i) := by
  intro m
  induction m with
  | zero => intro i h; rw [show i = N by omega]; exact hx _
  | succ m ih => intro i h; exact hs i _ (by omega) (ih (i + 1) (by omega))
theorem lp2_dn {B : Type} {body : Int32 → B → (Int32 → B → Prop) → Prop} (st : Nat → B) (N : Nat) (hs : ∀ i K, i < N → K (nI i - 1) (st i) → body (nI i) (st (i + 1)) K) (hx : ∀ K, body (-1) (st 0) K) : ∀ j, j ≤ N → lpz2 body (j + 1) (nI j - 1) (st j) := by
  intro j
  induction j with
  | zero => intro _; exact hx _
  | succ j ih => intro h; rw [nI_pred]; exact hs j _ (by omega) (ih (by omega))
theorem nI_pm (j : Nat) : nI j + (-1) = nI j - 1 := by
  rw [Int32.sub_eq_add_neg]
theorem nI_m1 : nI 0 - 1 = -1 := by decide
theorem nI_lt7 {i n : Nat} (hi : i < n) (hn : n < 2 ^ 31) : ¬ nI n ≤ nI i := by
  rw [i_le, nI_toInt (by omega), nI_toInt (by omega)]; omega
theorem nI_nneg {i : Nat} (hn : i < 2 ^ 31) : ¬ nI i < 0 := by
  rw [i_lt, nI_toInt (by omega)]
  show ¬ (i : Int) < 0
  omega
theorem hi_loop {μ : ZMem} {k : Nat} {Φ : Int32 → Prop} : ∀ j, j ≤ 7 → Φ (nI (dgN (μ.2 k) j) - 1) → lpz1 (b_X4_highest_5 Φ 7 μ k) (j + 1) (nI j - 1) := by
  intro j
  induction j with
  | zero => intro _ h; exact zif_t (by decide) h
  | succ j ih =>
    intro hj h
    rw [nI_pred]
    refine zif_f (nI_nneg (by omega)) ⟨vp_in_nI (by omega) (by omega), ?_⟩
    rw [nn_clamp (by omega)]
    rw [dgN] at h
    by_cases h0 : μ.2 k j = 0
    · rw [if_pos h0] at h
      refine zif_t h0 ?_
      rw [nI_pm]
      exact ih (by omega) h
    · rw [if_neg h0, nI_pred] at h
      exact zif_f h0 h
theorem e_highest {μ : ZMem} {k : Nat} {Φ : Int32 → Prop} (h : Φ (hd7 (μ.2 k))) : w_X4_highest k 7 μ Φ := ⟨8, hi_loop 7 (Nat.le_refl 7) h⟩
theorem dg_loop {μ : ZMem} {k : Nat} {Φ : Int32 → Prop} : ∀ j, j ≤ 7 → Φ (nI (dgN (μ.2 k) j) - 1) → lpz1 (b_X12_degreeOf_3 Φ 7 μ k) (j + 1) (nI j - 1) := by
  intro j
  induction j with
  | zero => intro _ h; exact zif_t (by decide) h
  | succ j ih =>
    intro hj h
    rw [nI_pred]
    refine zif_f (nI_nneg (by omega)) ⟨vp_in_nI (by omega) (by omega), ?_⟩
    rw [nn_clamp (by omega)]
    rw [dgN] at h
    by_cases h0 : μ.2 k j = 0
    · rw [if_pos h0] at h
      refine zifn_t h0 ?_
      rw [nI_pm]
      exact ih (by omega) h
    · rw [if_neg h0, nI_pred] at h
      exact zifn_f h0 h
theorem m_degreeOf {μ : ZMem} {k : Nat} {Φ : Int32 → Prop} (h : Φ (hd7 (μ.2 k))) : w_X12_degreeOf k 7 μ Φ := ⟨8, dg_loop 7 (Nat.le_refl 7) h⟩
theorem dgN_le (f : Nat → Int64) : ∀ n, dgN f n ≤ n := by
  intro n
  induction n with
  | zero => exact Nat.le_refl 0
  | succ n ih => rw [dgN]; split <;> omega
theorem dgN_ne (f : Nat → Int64) : ∀ n m, dgN f n = m + 1 → f m ≠ 0 := by
  intro n
  induction n with
  | zero => intro m h; cases h
  | succ n ih =>
    intro m h
    rw [dgN] at h
    split at h
    · exact ih m h
    · rename_i h0
      rw [show m = n by omega]; exact h0
theorem dgN_z (f : Nat → Int64) : ∀ n m, dgN f n ≤ m → m < n → f m = 0 := by
  intro n
  induction n with
  | zero => intro m _ h; omega
  | succ n ih =>
    intro m h hm
    rw [dgN] at h
    split at h
    · rename_i h0
      by_cases e : m = n
      · rw [e]; exact h0
      · exact ih m h (by omega)
    · omega
theorem dgN_congr {f g : Nat → Int64} : ∀ n, (∀ i, i < n → f i = g i) → dgN f n = dgN g n := by
  intro n
  induction n with
  | zero => intro _; rfl
  | succ n ih =>
    intro h
    rw [dgN, dgN, h n (by omega), ih (fun i hi => h i (by omega))]
theorem dg_le (f : Nat → Int64) : dg f ≤ 7 := dgN_le f 7
theorem dg_congr {f g : Nat → Int64} (h : ∀ i, i < 7 → f i = g i) : dg f = dg g := dgN_congr 7 h
/-- f below n, what stood from n on -/
def ovr (n : Nat) (f g : Nat → Int64) : Nat → Int64 := fun j => if j < n then f j else g j
theorem ovr_0 (f g : Nat → Int64) : ovr 0 f g = g := by funext j; simp [ovr]
theorem ovr_s {n : Nat} {f g : Nat → Int64} {v : Int64} (h : v = f n) : vp_updL (ovr n f g) n v = ovr (n + 1) f g := by
  funext j
  simp only [vp_updL, ovr]
  by_cases e : j = n
  · subst e; simp [h]
  · by_cases h1 : j < n
    · simp [e, h1, show j < n + 1 by omega]
    · simp [e, h1, show ¬ j < n + 1 by omega]
theorem ovr_lt {n j : Nat} {f g : Nat → Int64} (h : j < n) : ovr n f g j = f j := if_pos h
theorem ovr_ge {n j : Nat} {f g : Nat → Int64} (h : n ≤ j) : ovr n f g j = g j := if_neg (by omega)
theorem stJ_0 (μ : ZMem) (k : Nat) (f : Nat → Int64) : stJ μ k (ovr 0 f (μ.2 k)) = μ := by rw [ovr_0, stJ_self]
theorem upJ_ovr {μ : ZMem} {k n : Nat} {f g : Nat → Int64} {v : Int64} (h : v = f n) : zz_upJ (stJ μ k (ovr n f g)) k n v = stJ μ k (ovr (n + 1) f g) := by
  rw [upJ_st, stJ2, if_pos rfl, stJ_stJ, ovr_s h]
theorem stJ_ne {μ : ZMem} {k a : Nat} {f : Nat → Int64} (h : a ≠ k) : (stJ μ k f).2 a = μ.2 a := if_neg h
theorem stJ_eq {μ : ZMem} {k : Nat} {f : Nat → Int64} : (stJ μ k f).2 k = f := if_pos rfl
/-- u times P and v times Q -/
def mixF (u v : Int32) (P Q : Nat → Int64) : Nat → Int64 := fun i => Int32.toInt64 u * P i + Int32.toInt64 v * Q i
theorem e_mix {μ : ZMem} {k0 k2 k4 : Nat} {u v : Int32} {Φ : ZMem → Prop} (h0 : k0 ≠ k4) (h2 : k2 ≠ k4) (h : Φ (stJ μ k4 (ovr 7 (mixF u v (μ.2 k0) (μ.2 k2)) (μ.2 k4)))) : w_X4_mix k0 7 u k2 7 v k4 7 μ Φ := by
  refine ⟨8, ?_⟩
  have g := lp2_up (body := b_X4_mix_3 Φ 7 7 7 k4 u k0 v k2) 7 (fun i => stJ μ k4 (ovr i (mixF u v (μ.2 k0) (μ.2 k2)) (μ.2 k4))) (fun i K hi hK => ?_) (fun K => ?_) 7 0 rfl
  · have e : stJ μ k4 (ovr 0 (mixF u v (μ.2 k0) (μ.2 k2)) (μ.2 k4)) = μ := stJ_0 _ _ _
    have g' : lpz2 (b_X4_mix_3 Φ 7 7 7 k4 u k0 v k2) 8 (nI 0) (stJ μ k4 (ovr 0 (mixF u v (μ.2 k0) (μ.2 k2)) (μ.2 k4))) := g
    rw [e] at g'
    exact g'
  · have hv := vp_in_nI (n := i) (N := 7) hi (by omega)
    refine zif_f (nI_lt7 (n := 7) hi (by omega)) ⟨hv, hv, hv, ?_⟩
    rw [nn_clamp (by omega)]
    show K (nI i + 1) (zz_upJ (stJ μ k4 (ovr i (mixF u v (μ.2 k0) (μ.2 k2)) (μ.2 k4))) k4 i _)
    rw [nI_1, upJ_ovr]
    · exact hK
    · rw [stJ_ne h0, stJ_ne h2]; rfl
  · exact zif_t (by decide) h
theorem e_isGreat {μ : ZMem} {k n : Nat} {Φ : Int32 → Prop} (hn : n < 100) (h1 : (∃ i, i < n ∧ μ.2 k i = MINL) → Φ 1) (h0 : (∀ i, i < n → μ.2 k i ≠ MINL) → Φ 0) : w_X4_isGreat k n μ Φ := by
  have key : ∀ m i, i + m = n → (∀ j, j < i → μ.2 k j ≠ MINL) → lpz1 (b_X4_isGreat_2 n Φ μ k) (m + 1) (nI i) := by
    intro m
    induction m with
    | zero =>
      intro i hi hj
      refine zif_t ?_ (h0 (fun j hj2 => hj j (by omega)))
      rw [show i = n by omega]; exact Int32.le_refl _
    | succ m ih =>
      intro i hi hj
      refine zif_f (nI_lt7 (n := n) (by omega) (by omega)) ⟨vp_in_nI (by omega) (by omega), ?_⟩
      rw [nn_clamp (by omega)]
      by_cases hm : μ.2 k i = MINL
      · exact zifn_t hm (h1 ⟨i, by omega, hm⟩)
      · refine zifn_f hm ?_
        rw [nI_1]
        exact ih (i + 1) (by omega) (fun j hj2 => by
          by_cases e : j = i
          · rw [e]; exact hm
          · exact hj j (by omega))
  exact ⟨_, key n 0 (by omega) (fun j hj => by omega)⟩
theorem gcdN_lt {f : Nat → Int64} : ∀ n, (∀ i, i < n → ¬ f i = MINL) → gcdN f n < 9223372036854775808 := by
  intro n
  induction n with
  | zero => intro _; show 0 < 9223372036854775808; omega
  | succ n ih =>
    intro h
    rw [gcdN]
    have h1 := ih (fun i hi => h i (by omega))
    have h2 := absN_lt (h n (by omega))
    by_cases h3 : gcdN f n = 0
    · rw [h3, Nat.gcd_zero_left]; exact h2
    · exact Nat.lt_of_le_of_lt (Nat.gcd_le_left _ (by omega)) h1
theorem lN_ne {n : Nat} (h : n < 9223372036854775808) : ¬ lN n = MINL := by
  intro q
  have h1 := lN_rng h
  rw [q] at h1
  have h2 : MINL.toInt = -9223372036854775808 := by decide
  omega
theorem lN_abs {n : Nat} (h : n < 9223372036854775808) : (lN n).toInt.natAbs = n := by rw [lN_rng h]; omega
theorem l_div1 (x : Int64) : x / 1 = x := by
  apply Int64.toInt_inj.mp
  have h := l_rng x
  have e : (1 : Int64).toInt = 1 := by decide
  rw [Int64.toInt_div, e, Int.tdiv_one, l_bm h.1 h.2]
theorem gcdN_dvd {f : Nat → Int64} : ∀ n i, i < n → gcdN f n ∣ (f i).toInt.natAbs := by
  intro n
  induction n with
  | zero => intro i h; omega
  | succ n ih =>
    intro i h
    rw [gcdN]
    by_cases e : i = n
    · rw [e]; exact Nat.gcd_dvd_right _ _
    · exact Nat.dvd_trans (Nat.gcd_dvd_left _ _) (ih i (by omega))
theorem e_shrink {μ : ZMem} {k n : Nat} {Φ : ZMem → Prop} (hn : n < 100) (hm : ∀ i, i < n → ¬ μ.2 k i = MINL) (h : Φ (stJ μ k (ovr n (fun j => μ.2 k j / lN (gcdN (μ.2 k) n)) (μ.2 k)))) : w_X4_shrink k n μ Φ := by
  have hg := gcdN_lt n hm
  refine ⟨n + 1, ?_⟩
  have key : ∀ m i, i + m = n → lpz2 (b_X4_shrink_4 n (fun v1_1 => ((2 : Int64) ≤ v1_1 → ∃ n', lpz2 (b_X4_shrink_35 n Φ v1_1 k) n' (0 : Int32) μ) ∧ (¬ (2 : Int64) ≤ v1_1 → Φ μ)) μ k) (m + 1) (lN (gcdN (μ.2 k) i)) (nI i) := by
    intro m
    induction m with
    | zero =>
      intro i hi
      rw [show i = n by omega]
      refine zif_t (Int32.le_refl _) (zif (fun h2 => ?_) (fun h2 => ?_))
      · have hg2 : ¬ lN (gcdN (μ.2 k) n) = 0 := by
          intro q
          rw [q] at h2
          exact absurd h2 (by decide)
        refine ⟨n + 1, ?_⟩
        have g := lp2_up (body := b_X4_shrink_35 n Φ (lN (gcdN (μ.2 k) n)) k) n (fun i => stJ μ k (ovr i (fun j => μ.2 k j / lN (gcdN (μ.2 k) n)) (μ.2 k))) (fun i K hi hK => ?_) (fun K => ?_) n 0 (by omega)
        · rw [stJ_0] at g
          exact g
        · have hv := vp_in_nI (n := i) (N := n) hi (by omega)
          refine zif_f (nI_lt7 hi (by omega)) ⟨hv, hg2, hv, ?_⟩
          rw [nn_clamp (by omega)]
          show K (nI i + 1) (zz_upJ (stJ μ k (ovr i (fun j => μ.2 k j / lN (gcdN (μ.2 k) n)) (μ.2 k))) k i _)
          rw [nI_1, upJ_ovr]
          · exact hK
          · rw [stJ_eq, ovr_ge (Nat.le_refl i)]
        · exact zif_t (Int32.le_refl _) h
      · have hgs : gcdN (μ.2 k) n < 2 := by
          have h3 : ¬ (2 : Int64).toInt ≤ (lN (gcdN (μ.2 k) n)).toInt := fun q => h2 (Int64.le_iff_toInt_le.mpr q)
          rw [lN_rng hg] at h3
          have e : (2 : Int64).toInt = 2 := by decide
          omega
        have e : ovr n (fun j => μ.2 k j / lN (gcdN (μ.2 k) n)) (μ.2 k) = μ.2 k := by
          funext j
          unfold ovr
          by_cases hj : j < n
          · rw [if_pos hj]
            by_cases h1 : gcdN (μ.2 k) n = 1
            · rw [h1]; exact l_div1 _
            · have h0 : gcdN (μ.2 k) n = 0 := by omega
              have h5 := gcdN_dvd (f := μ.2 k) n j hj
              rw [h0] at h5
              have h6 : (μ.2 k j).toInt.natAbs = 0 := Nat.eq_zero_of_zero_dvd h5
              have h7 : μ.2 k j = 0 := Int64.toInt_inj.mp (by show (μ.2 k j).toInt = 0; omega)
              show μ.2 k j / lN (gcdN (μ.2 k) n) = μ.2 k j
              rw [h0, h7]; decide
          · rw [if_neg hj]
        rw [e, stJ_self] at h
        exact h
    | succ m ih =>
      intro i hi
      refine zif_f (nI_lt7 (n := n) (by omega) (by omega)) ⟨vp_in_nI (by omega) (by omega), ?_⟩
      rw [nn_clamp (by omega)]
      have hgi := gcdN_lt i (fun j hj => hm j (by omega))
      refine e_divisor (lN_ne hgi) (hm i (by omega)) ?_
      rw [lN_abs hgi, nI_1]
      exact ih (i + 1) (by omega)
  exact key n 0 (by omega)
/-- times s and a, below 7 -/
def mulL (a : Int64) (f : Nat → Int64) : Nat → Int64 := fun i => (if i = 0 then 0 else f (i - 1)) + a * f i
def ovrD (n : Nat) (f g : Nat → Int64) : Nat → Int64 := fun j => if n ≤ j ∧ j < 7 then f j else g j
theorem ovrD_s {n : Nat} {f g : Nat → Int64} {v : Int64} (hn : n < 7) (h : v = f n) : vp_updL (ovrD (n + 1) f g) n v = ovrD n f g := by
  funext j
  simp only [vp_updL, ovrD]
  by_cases e : j = n
  · subst e; simp [h, hn]
  · by_cases h1 : n + 1 ≤ j
    · simp [e, h1, show n ≤ j by omega]
    · simp [e, h1, show ¬ n ≤ j by omega]
theorem ovrD_7 (f g : Nat → Int64) : ovrD 7 f g = g := by
  funext j
  simp only [ovrD]
  rw [if_neg (by omega)]
theorem ovrD_lt {n j : Nat} {f g : Nat → Int64} (h : j < n) : ovrD n f g j = g j := if_neg (by omega)
theorem ovrD_0 (f g : Nat → Int64) : ovrD 0 f g = ovr 7 f g := by
  funext j
  simp [ovrD, ovr]
theorem upJ_ovrD {μ : ZMem} {k n : Nat} {f g : Nat → Int64} {v : Int64} (hn : n < 7) (h : v = f n) : zz_upJ (stJ μ k (ovrD (n + 1) f g)) k n v = stJ μ k (ovrD n f g) := by
  rw [upJ_st, stJ2, if_pos rfl, stJ_stJ, ovrD_s hn h]
theorem e_stretch {μ : ZMem} {k : Nat} {a : Int32} {Φ : ZMem → Prop} (h : Φ (stJ μ k (ovr 7 (mulL (Int32.toInt64 a) (μ.2 k)) (μ.2 k)))) : w_X4_stretch k 7 a μ Φ := by
  have hv0 : vp_in (0 : Int32) 7 := vp_in_nI (n := 0) (by omega) (by omega)
  have key : ∀ j, j ≤ 6 → lpz2 (b_X4_stretch_3 (fun μ_1 => vp_in (0 : Int32) 7 ∧ (vp_in (0 : Int32) 7 ∧ (nm (zz_upJ μ_1 k 0 ((μ_1.2 k 0) * (Int32.toInt64 a))) (fun (μ_5 : ZMem) => Φ μ_5)))) 7 k a) (j + 1) (nI j) (stJ μ k (ovrD (j + 1) (mulL (Int32.toInt64 a) (μ.2 k)) (μ.2 k))) := by
    intro j
    induction j with
    | zero =>
      intro _
      refine zif_t (by decide) ⟨hv0, hv0, ?_⟩
      show Φ (zz_upJ _ _ _ _)
      rw [upJ_ovrD (by omega), ovrD_0]
      · exact h
      · rw [stJ_eq, ovrD_lt (by omega)]
        simp only [mulL, if_true, Int64.zero_add]
        exact Int64.mul_comm _ _
    | succ j ih =>
      intro hj
      have hp : ¬ nI (j + 1) ≤ 0 := by
        rw [i_le, nI_toInt (by omega)]
        show ¬ ((j + 1 : Nat) : Int) ≤ 0
        omega
      have hv := vp_in_nI (n := j + 1) (N := 7) (by omega) (by omega)
      refine zif_f hp ⟨by rw [nI_pred]; exact vp_in_nI (by omega) (by omega), hv, hv, ?_⟩
      rw [nI_pred, nn_clamp (by omega), nn_clamp (by omega)]
      show lpz2 _ _ (nI (j + 1) + -1) (zz_upJ _ _ _ _)
      rw [pk_m1, upJ_ovrD (by omega)]
      · exact ih (by omega)
      · rw [stJ_eq, ovrD_lt (by omega), ovrD_lt (by omega)]
        simp [mulL]
  have g := key 6 (by omega)
  rw [ovrD_7, stJ_self] at g
  exact ⟨7, g⟩
