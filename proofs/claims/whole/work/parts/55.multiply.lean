/-! multiply -/
def mul2 (a b : Int64) (f : Nat → Int64) (i : Nat) : Int64 := (if i < 2 then 0 else f (i - 2)) + a * (if i < 1 then 0 else f (i - 1)) + b * f i
def strF (kd a b : Int32) (f : Nat → Int64) : Nat → Int64 := if fS kd = 1 then mulL (Int32.toInt64 a) f else mul2 (Int32.toInt64 a) (Int32.toInt64 b) f
theorem strF_congr {kd a b : Int32} {f g : Nat → Int64} (h : ∀ j, j < 7 → f j = g j) (j : Nat) (hj : j < 7) : strF kd a b f j = strF kd a b g j := by
  unfold strF
  split
  · exact mulL_congr h j hj
  · unfold mul2
    rw [h j hj, h (j - 1) (by omega), h (j - 2) (by omega)]
def oneF : Nat → Int64 := fun i => if i = 0 then 1 else 0
def prN (st : Nat → (Nat → Int64) → Nat → Int64) : Nat → Nat → Int64
  | 0 => oneF
  | n + 1 => st n (prN st n)
def stX (μ : ZMem) (i : Nat) : (Nat → Int64) → Nat → Int64 := strF (μ.1 (6 + i) 0) (μ.1 (6 + i) 1) (μ.1 (6 + i) 2)
def stM (μ : ZMem) (i : Nat) : (Nat → Int64) → Nat → Int64 := strF (μ.1 1 (33 + i)) (μ.1 1 (39 + i)) (μ.1 1 (45 + i))
theorem prN_congr {s1 s2 : Nat → (Nat → Int64) → Nat → Int64} : ∀ {n}, (∀ i, i < n → s1 i = s2 i) → prN s1 n = prN s2 n := by
  intro n
  induction n with
  | zero => intro _; rfl
  | succ n ih => intro h; unfold prN; rw [ih (fun i hi => h i (by omega)), h n (by omega)]
theorem e_fstretch {μ : ZMem} {t k : Nat} {Φ : ZMem → Prop} (h : ∀ c, (∀ j, j < 7 → c j = strF (μ.1 t 0) (μ.1 t 1) (μ.1 t 2) (μ.2 k) j) → Φ (stJ μ k c)) : w_X2_stretch t k 7 μ Φ := by
  unfold w_X2_stretch
  refine e_size ?_
  rw [show (1 : Int32) = nI 1 from rfl, nI_eq (by have := fS_cases (μ.1 t 0); omega) (by omega)]
  refine zifn (fun q => ?_) (fun q => e_stretch (h _ (fun j hj => ?_)))
  · refine ⟨7 + 1, ?_⟩
    rw [show (6 : Int32) = nI 7 - 1 from by decide]
    refine lp2_dni 7 (fun n b => ∃ c, b = stJ μ k c ∧ ∀ j, j < 7 → c j = if n ≤ j then mul2 (Int32.toInt64 (μ.1 t 1)) (Int32.toInt64 (μ.1 t 2)) (μ.2 k) j else μ.2 k j) (fun i b K hi hI hK => ?_) (fun b K hI => ?_) 7 (Nat.le_refl _) μ ⟨μ.2 k, (stJ_self μ k).symm, fun j hj => by rw [if_neg (by omega)]⟩
    · obtain ⟨c, rfl, hc⟩ := hI
      unfold b_X2_stretch_20
      have hv := vp_in_nI (n := i) (N := 7) hi (by omega)
      refine zif_f (nI_nneg (by omega)) ?_
      refine nm_k (fun x => x = if i < 2 then 0 else μ.2 k (i - 2)) (fun J hJ => ?_) ?_
      · rw [show (2 : Int32) = nI 2 from rfl, n_le (by omega) (by omega)]
        refine zif (fun q2 => ?_) (fun q2 => hJ _ (by rw [if_pos (by omega)]))
        rw [pk_sub (by omega), nn_clamp (by omega), stJ_eq]
        refine ⟨vp_in_nI (by omega) (by omega), hJ _ ?_⟩
        rw [if_neg (by omega), hc _ (by omega), if_neg (by omega)]
      rintro x5 hx5
      refine nm_k (fun x => x = if i < 1 then 0 else μ.2 k (i - 1)) (fun J hJ => ?_) ?_
      · rw [show (1 : Int32) = nI 1 from rfl, n_le (by omega) (by omega)]
        refine zif (fun q2 => ?_) (fun q2 => hJ _ (by rw [if_pos (by omega)]))
        rw [pk_sub (by omega), nn_clamp (by omega), stJ_eq]
        refine ⟨vp_in_nI (by omega) (by omega), hJ _ ?_⟩
        rw [if_neg (by omega), hc _ (by omega), if_neg (by omega)]
      rintro x7 hx7
      rw [nn_clamp (by omega), nI_pm]
      refine ⟨hv, hv, nm_b (hK _ ⟨vp_updL c i (mul2 (Int32.toInt64 (μ.1 t 1)) (Int32.toInt64 (μ.1 t 2)) (μ.2 k) i), ?_, fun j hj => ?_⟩)⟩
      · rw [upJ_st, stJ_stJ, stJ_eq, hc i hi, if_neg (by omega), hx5, hx7]
        rfl
      · rw [updL_at]
        by_cases e : j = i
        · rw [if_pos e, if_pos (by omega), e]
        · rw [if_neg e, hc j hj]
          by_cases e2 : i + 1 ≤ j
          · rw [if_pos e2, if_pos (by omega)]
          · rw [if_neg e2, if_neg (by omega)]
    · obtain ⟨c, rfl, hc⟩ := hI
      unfold b_X2_stretch_20
      refine zif_t (by decide) (h c (fun j hj => ?_))
      rw [hc j hj, if_pos (by omega)]
      unfold strF
      rw [if_neg q]
  · unfold strF
    rw [if_pos q]
    unfold ovr
    rw [if_pos hj]
theorem e_product {μ : ZMem} {n : Nat} (hn : n ≤ 6) (h6 : μ.1 1 6 = nI n) {Φ : ZMem → Prop} (h : ∀ c, (∀ j, j < 7 → c j = prN (stX μ) n j) → Φ (stJ μ 85 c)) : w_X3_productInto 85 7 μ Φ := by
  unfold w_X3_productInto
  refine nm_b ⟨7 + 1, lp2_inv 7 (fun i b => ∃ c, b = stJ μ 85 c ∧ ∀ j, j < i → c j = oneF j) (fun i b K hi hI hK => ?_) (fun b K hI => ?_) 7 0 μ (by omega) ⟨μ.2 85, (stJ_self μ 85).symm, fun j hj => absurd hj (by omega)⟩⟩
  · obtain ⟨c, rfl, hc⟩ := hI
    unfold b_X3_productInto_2
    rw [show (7 : Int32) = nI 7 from rfl, n_le (by omega) (by omega), nI_1, nn_clamp (by omega)]
    refine zif_f (by omega) ?_
    refine nm_k (fun x => x = oneF i) (fun J hJ => ?_) ?_
    · rw [show (0 : Int32) = nI 0 from rfl, nI_eq (by omega) (by omega)]
      exact zifn (fun q => hJ _ (by unfold oneF; rw [if_neg q])) (fun q => hJ _ (by unfold oneF; rw [if_pos q]))
    rintro x hx
    refine ⟨vp_in_nI (by omega) (by omega), nm_b (hK _ ⟨vp_updL c i x, by rw [upJ_st, stJ_stJ, stJ_eq], fun j hj => ?_⟩)⟩
    rw [updL_at]
    split
    · rename_i e; rw [e]; exact hx
    · exact hc j (by omega)
  · obtain ⟨c, rfl, hc⟩ := hI
    unfold b_X3_productInto_2
    refine zif_t (by decide) ⟨n + 1, lp2_inv n (fun i b => ∃ c, b = stJ μ 85 c ∧ ∀ j, j < 7 → c j = prN (stX μ) i j) (fun i b K hi hI hK => ?_) (fun b K hI => ?_) n 0 _ (by omega) ⟨c, rfl, fun j hj => hc j hj⟩⟩
    · obtain ⟨c, rfl, hc⟩ := hI
      unfold b_X3_productInto_28
      have e6 : (stJ μ 85 c).1 1 6 = nI n := h6
      rw [e6, n_le (by omega) (by omega), nI_1, nn_clamp (by omega)]
      refine zif_f (by omega) ⟨vp_in_nI (by omega) (by omega), e_fstretch (fun c' hc' => ?_)⟩
      rw [stJ_stJ]
      refine hK _ ⟨c', rfl, fun j hj => ?_⟩
      rw [hc' j hj, stJ_eq]
      exact strF_congr hc j hj
    · obtain ⟨c, rfl, hc⟩ := hI
      unfold b_X3_productInto_28
      have e6 : (stJ μ 85 c).1 1 6 = nI n := h6
      rw [e6]
      exact zif_t (by rw [n_le (by omega) (by omega)]; omega) (h c hc)
theorem lp2_sec {body : Int32 → Int32 → (Int32 → Int32 → Prop) → Prop} (N : Nat) (st : Nat → Int32) (hs : ∀ i K, i < N → K (st (i + 1)) (nI (i + 1)) → body (st i) (nI i) K) (hx : ∀ K, body (st N) (nI N) K) : ∀ m i, i + m = N → lpz2 body (m + 1) (st i) (nI i) := by
  intro m
  induction m with
  | zero => intro i hi; rw [show i = N by omega]; exact hx _
  | succ m ih =>
    intro i hi
    exact hs i _ (by omega) (ih (i + 1) (by omega))
/-- the reference's product, one factor further -/
theorem m_fstretch {μ : ZMem} {i : Nat} (hi : i < 6) (h0 : 0 ≤ (μ.1 1 (33 + i)).toInt) (h3 : (μ.1 1 (33 + i)).toInt ≤ 3) {J : ZMem → Prop} (h : ∀ c, (∀ j, j < 7 → c j = stM μ i (μ.2 5) j) → J (stJ μ 5 c)) : ∃ n, lpz2 (b_X12_multiply_60 J (nI i)) n 6 μ := by
  refine ⟨7 + 1, ?_⟩
  rw [show (6 : Int32) = nI 7 - 1 from by decide]
  refine lp2_dni 7 (fun n b => ∃ c, b = stJ μ 5 c ∧ ∀ j, j < 7 → c j = if n ≤ j then stM μ i (μ.2 5) j else μ.2 5 j) (fun r b K hr hI hK => ?_) (fun b K hI => ?_) 7 (Nat.le_refl _) μ ⟨μ.2 5, (stJ_self μ 5).symm, fun j hj => by rw [if_neg (by omega)]⟩
  · obtain ⟨c, rfl, hc⟩ := hI
    unfold b_X12_multiply_60
    have hv := vp_in_nI (n := r) (N := 7) hr (by omega)
    refine zif_f (nI_nneg (by omega)) ?_
    refine nm_k (fun x => x = if r < 1 then 0 else μ.2 5 (r - 1)) (fun J hJ => ?_) ?_
    · rw [show (0 : Int32) = nI 0 from rfl, n_le (by omega) (by omega)]
      refine zif (fun q2 => hJ _ (by rw [if_pos (by omega)])) (fun q2 => ?_)
      rw [show (1 : Int32) = nI 1 from rfl, pk_sub (by omega), nn_clamp (by omega), stJ_eq]
      refine ⟨vp_in_nI (by omega) (by omega), hJ _ ?_⟩
      rw [if_neg (by omega), hc _ (by omega), if_neg (by omega)]
    rintro x30 hx30
    refine nm_k (fun x => x = if r < 2 then 0 else μ.2 5 (r - 2)) (fun J hJ => ?_) ?_
    · rw [show (1 : Int32) = nI 1 from rfl, n_le (by omega) (by omega)]
      refine zif (fun q2 => hJ _ (by rw [if_pos (by omega)])) (fun q2 => ?_)
      rw [show (2 : Int32) = nI 2 from rfl, pk_sub (by omega), nn_clamp (by omega), stJ_eq]
      refine ⟨vp_in_nI (by omega) (by omega), hJ _ ?_⟩
      rw [if_neg (by omega), hc _ (by omega), if_neg (by omega)]
    rintro x32 hx32
    rw [show (39 : Int32) = nI 39 from rfl, show (45 : Int32) = nI 45 from rfl, nI_add, nI_add, nn_clamp (by omega), nn_clamp (by omega)]
    refine ⟨vp_in_nI (by omega) (by omega), nm_b ⟨vp_in_nI (by omega) (by omega), nm_b (m_sizeOf (μ := stJ μ 5 c) hi h0 h3 ?_)⟩⟩
    rw [nn_clamp (by omega), show (1 : Int32) = nI 1 from rfl, nI_eq (by have := fS_cases ((stJ μ 5 c).1 1 (33 + i)); omega) (by omega)]
    have ecr : c r = μ.2 5 r := by rw [hc r hr, if_neg (by omega)]
    refine nm_k (fun x => x = stM μ i (μ.2 5) r) (fun J hJ => ?_) ?_
    · refine zifn (fun q => ⟨hv, hJ _ ?_⟩) (fun q => ⟨hv, hJ _ ?_⟩)
      · have q' : ¬ fS (μ.1 1 (33 + i)) = 1 := q
        unfold stM strF mul2
        rw [if_neg q', stJ_eq, ecr, hx30, hx32]
        rfl
      · have q' : fS (μ.1 1 (33 + i)) = 1 := q
        unfold stM strF mulL
        rw [if_pos q', stJ_eq, ecr, hx30]
        by_cases e : r = 0
        · rw [if_pos (show r < 1 by omega), if_pos e]; rfl
        · rw [if_neg (show ¬ r < 1 by omega), if_neg e]; rfl
    rintro x hx
    rw [show nI 1 = (1 : Int32) from rfl, nI_pm]
    refine ⟨hv, nm_b (hK _ ⟨vp_updL c r x, by rw [upJ_st, stJ_stJ, stJ_eq], fun j hj => ?_⟩)⟩
    rw [updL_at]
    by_cases e : j = r
    · rw [if_pos e, if_pos (by omega), e]; exact hx
    · rw [if_neg e, hc j hj]
      by_cases e2 : r + 1 ≤ j
      · rw [if_pos e2, if_pos (by omega)]
      · rw [if_neg e2, if_neg (by omega)]
  · obtain ⟨c, rfl, hc⟩ := hI
    unfold b_X12_multiply_60
    refine zif_t (by decide) (h c (fun j hj => ?_))
    rw [hc j hj, if_pos (by omega)]
theorem m_multiply {μX μ : ZMem} {n : Nat} (hB : fB μX μ n) {Φ : Int32 → ZMem → Prop} (hS : ¬ smN (fM μ 3) n < 7 → Φ (-3) μ) (hG : ∀ c : Nat → Int64, smN (fM μ 3) n < 7 → (∀ j, j < 7 → c j = prN (stM μ) n j) → ¬ (∀ j, j < 7 → -99 ≤ (c j).toInt ∧ (c j).toInt ≤ 99) → Φ (-7) (stJ μ 5 c)) (hY : ∀ c g, smN (fM μ 3) n < 7 → (∀ j, j < 7 → c j = prN (stM μ) n j) → (∀ j, j < 7 → -99 ≤ (c j).toInt ∧ (c j).toInt ≤ 99) → (∀ j, j < 7 → g j = Int64.toInt32 (c j)) → (∀ j, 7 ≤ j → g j = μ.1 1 j) → Φ (nI (smN (fM μ 3) n)) (stI (stJ μ 5 c) 1 g)) : w_X12_multiply μ Φ := by
  have hsm : smN (fM μ 3) n ≤ 2 * n := smN_le (fun i => fK_le _ _ _ _) n
  have hn := hB.2.2.1
  have h32 := hB.2.1
  have hk : ∀ i, i < n → 0 ≤ (μ.1 1 (33 + i)).toInt ∧ (μ.1 1 (33 + i)).toInt ≤ 3 := fun i hi => by
    obtain ⟨a, _, _, c, d, _⟩ := hB.2.2.2 i hi
    rw [← a]; exact ⟨c, d⟩
  unfold w_X12_multiply
  refine m_knownAll hB (w := 3) (by omega) ?_
  rw [show (6 : Int32) = nI 6 from rfl, n_le (by omega) (by omega)]
  refine zif (fun q => nm_b ?_) (fun q => hS (by omega))
  refine ⟨7 + 1, lp2_inv 7 (fun i b => ∃ c, b = stJ μ 5 c ∧ ∀ j, j < i → c j = oneF j) (fun i b K hi hI hK => ?_) (fun b K hI => ?_) 7 0 μ (by omega) ⟨μ.2 5, (stJ_self μ 5).symm, fun j hj => absurd hj (by omega)⟩⟩
  · obtain ⟨c, rfl, hc⟩ := hI
    unfold b_X12_multiply_17
    rw [show (7 : Int32) = nI 7 from rfl, n_le (by omega) (by omega), nI_1, nn_clamp (by omega)]
    refine zif_f (by omega) ?_
    refine nm_k (fun x => x = oneF i) (fun J hJ => ?_) ?_
    · rw [show (0 : Int32) = nI 0 from rfl, nI_eq (by omega) (by omega)]
      exact zifn (fun q => hJ _ (by unfold oneF; rw [if_neg q])) (fun q => hJ _ (by unfold oneF; rw [if_pos q]))
    rintro x hx
    refine ⟨vp_in_nI (by omega) (by omega), nm_b (hK _ ⟨vp_updL c i x, by rw [upJ_st, stJ_stJ, stJ_eq], fun j hj => ?_⟩)⟩
    rw [updL_at]
    split
    · rename_i e; rw [e]; exact hx
    · exact hc j (by omega)
  · obtain ⟨c, rfl, hc⟩ := hI
    unfold b_X12_multiply_17
    refine zif_t (by decide) (nm_b ⟨n + 1, lp2_inv n (fun i b => ∃ c, b = stJ μ 5 c ∧ ∀ j, j < 7 → c j = prN (stM μ) i j) (fun i b K hi hI hK => ?_) (fun b K hI => ?_) n 0 _ (by omega) ⟨c, rfl, fun j hj => hc j hj⟩⟩)
    · obtain ⟨c, rfl, hc⟩ := hI
      unfold b_X12_multiply_46
      have e32 : (stJ μ 5 c).1 1 32 = nI n := h32
      rw [e32, n_le (by omega) (by omega), nI_1]
      refine zif_f (by omega) (nm_b (m_fstretch (μ := stJ μ 5 c) (by omega) (hk i hi).1 (hk i hi).2 (fun c' hc' => ?_)))
      rw [stJ_stJ]
      refine hK _ ⟨c', rfl, fun j hj => ?_⟩
      rw [hc' j hj, stJ_eq]
      exact strF_congr hc j hj
    · obtain ⟨c, rfl, hc⟩ := hI
      unfold b_X12_multiply_46
      have e32 : (stJ μ 5 c).1 1 32 = nI n := h32
      rw [e32]
      refine zif_t (by rw [n_le (by omega) (by omega)]; omega) (nm_b ?_)
      obtain ⟨o, o1, o2, o3⟩ := first_bad (fun j => -99 ≤ (c j).toInt ∧ (c j).toInt ≤ 99) 7
      have s0 : (1 : Int32) = (if 0 ≤ o then 1 else 0) := by rw [if_pos (by omega)]
      rw [s0]
      refine ⟨7 + 1, lp2_sec 7 (fun i => if i ≤ o then 1 else 0) (fun i K hi hK => ?_) (fun K => ?_) 7 0 (by omega)⟩
      · unfold b_X12_multiply_189
        rw [show (7 : Int32) = nI 7 from rfl, n_le (by omega) (by omega), nI_1, nn_clamp (by omega), stJ_eq]
        refine zif_f (by omega) ?_
        refine nm_k (fun x => x = if i + 1 ≤ o then 1 else 0) (fun J hJ => nm_b ?_) ?_
        · by_cases e : i ≤ o
          · rw [if_pos e]
            refine z1p ⟨vp_in_nI (by omega) (by omega), ?_⟩
            refine m_in_k (fun q1 q2 => z1p (hJ _ ?_)) (fun q1 => z0p (hJ _ ?_))
            · by_cases e2 : i = o
              · subst e2
                exact absurd ⟨q1, q2⟩ (o3 hi)
              · rw [if_pos (by omega)]
            · by_cases e2 : i = o
              · rw [if_neg (by omega)]
              · exact absurd (o2 i (by omega)) q1
          · rw [if_neg e]
            exact z0p (hJ _ (by rw [if_neg (by omega)]))
        rintro x rfl
        exact hK
      · unfold b_X12_multiply_189
        refine zif_t (by decide) (nm_b ?_)
        by_cases e : 7 ≤ o
        · rw [if_pos e]
          have all : ∀ j, j < 7 → -99 ≤ (c j).toInt ∧ (c j).toInt ≤ 99 := fun j hj => o2 j (by omega)
          refine ⟨7 + 1, lp2_inv 7 (fun i b => ∃ g, b = stI (stJ μ 5 c) 1 g ∧ (∀ j, j < i → g j = Int64.toInt32 (c j)) ∧ (∀ j, 7 ≤ j → g j = μ.1 1 j)) (fun i b K hi hI hK => ?_) (fun b K hI => ?_) 7 0 _ (by omega) ⟨μ.1 1, (stI_self (stJ μ 5 c) 1).symm, fun j hj => absurd hj (by omega), fun _ _ => rfl⟩⟩
          · obtain ⟨g, rfl, g1, g2⟩ := hI
            unfold b_X12_multiply_231
            have e5 : (stI (stJ μ 5 c) 1 g).2 5 = c := by
              show (stJ μ 5 c).2 5 = c
              rw [stJ_eq]
            rw [show (7 : Int32) = nI 7 from rfl, n_le (by omega) (by omega), nI_1, show (0 : Int32) + nI i = nI i from by rw [show (0 : Int32) = nI 0 from rfl, nI_add, Nat.zero_add], nn_clamp (by omega), e5]
            refine zif_f (by omega) (z1p ⟨vp_in_nI (by omega) (by omega), vp_in_nI (by omega) (by omega), nm_b (hK _ ⟨upd g i (Int64.toInt32 (c i)), by rw [upI_st, stI_stI, stI1, if_pos rfl], fun j hj => ?_, fun j hj => ?_⟩)⟩)
            · rw [upd_at]
              split
              · rename_i e; rw [e]
              · exact g1 j (by omega)
            · rw [upd_at, if_neg (by omega)]; exact g2 j hj
          · obtain ⟨g, rfl, g1, g2⟩ := hI
            unfold b_X12_multiply_231
            exact zif_t (by decide) (nm_b (z1p (hY c g (by omega) hc all g1 g2)))
        · rw [if_neg e]
          refine ⟨1, ?_⟩
          rw [lpz2]
          dsimp only
          unfold b_X12_multiply_231
          refine zif_f (by decide) (z0p (nm_b (z0p (hG c (by omega) hc (fun all => o3 (by omega) (all o (by omega)))))))
theorem l_i32 {x : Int64} (h : -99 ≤ x.toInt ∧ x.toInt ≤ 99) : (Int64.toInt32 x).toInt = x.toInt := by
  rw [Int64.toInt_toInt32]
  exact Int.bmod_eq_of_le (by omega) (by omega)
theorem o_multiply {μX μM : ZMem} (h : Rel0 μX μM) : w_X11_multiply μX (fun r μX1 => w_X12_multiply μM (fun r2 μM1 => oS μX μM r r2 μX1 μM1)) := by
  obtain ⟨n, hB⟩ := fB_of h.1
  have b1 := hB.1
  have b3 := hB.2.2.1
  have hsm : smN (fM μM 3) n ≤ 2 * n := smN_le (fun i => fK_le _ _ _ _) n
  have ef : smN (fX μX 3) n = smN (fM μM 3) n := smN_congr (fun i hi => fX_M hB hi)
  have est : prN (stX μX) n = prN (stM μM) n := prN_congr (fun i hi => by
    obtain ⟨a, b, c, _⟩ := hB.2.2.2 i hi
    unfold stX stM
    rw [a, b, c])
  unfold w_X11_multiply
  refine e_sumS b3 b1 ?_
  rw [ef, show (7 : Int32) = nI 7 from rfl, n_lt (by omega) (by omega)]
  refine zif (fun q => e_product b3 b1 (fun c hc => nm_b ?_)) (fun q => m_multiply hB (fun _ => oS_0 h _) (fun _ z => absurd z q) (fun _ _ z => absurd z q))
  rw [est] at hc
  have x85 : ∀ a, a ≠ 85 → (stJ μX 85 c).2 a = μX.2 a := fun a ha => if_neg ha
  obtain ⟨o, o1, o2, o3⟩ := first_bad (fun j => -99 ≤ (c j).toInt ∧ (c j).toInt ≤ 99) 7
  have bad : o < 7 → w_X12_multiply μM (fun r2 μM1 => oS μX μM (-7) r2 (stJ μX 85 c) μM1) := by
    intro ho
    have nb := o3 ho
    refine m_multiply hB (fun z => absurd q z) (fun c' _ hc' _ => ?_) (fun c' g _ hc' all => absurd (all o ho) (by rw [hc' o ho, ← hc o ho]; exact nb))
    refine ⟨rfl, ⟨now_fr h.1 (fun a q1 q2 => ⟨rfl, x85 a (by omega)⟩) rfl, kept_fr h.2.1 (fun a q1 q2 => ⟨rfl, x85 a (by omega)⟩) rfl, h.2.2.1, tape_fr h.2.2.2.1 rfl rfl rfl rfl, trays_fr h.2.2.2.2 (fun a q1 q2 => ⟨rfl, x85 a (by omega)⟩) rfl rfl rfl⟩, Or.inl ⟨fun a q1 q2 => ⟨rfl, x85 a (by omega)⟩, x85 2 (by omega), x85 3 (by omega)⟩⟩
  refine ⟨o + 1, lp1_up o (fun i K hi hK => ?_) (fun K => ?_) o 0 (by omega)⟩
  · unfold b_X11_multiply_30
    obtain ⟨p1, p2⟩ := o2 i hi
    rw [show (7 : Int32) = nI 7 from rfl, n_le (by omega) (by omega), nI_1, nn_clamp (by omega), stJ_eq, l_lt, l_le]
    have hv := vp_in_nI (n := i) (N := 7) (by omega) (by omega)
    refine zif_f (by omega) ⟨hv, zif_f (show ¬ (c i).toInt < (-99 : Int) by omega) ⟨hv, zif_t (show (c i).toInt ≤ (99 : Int) by omega) hK⟩⟩
  · unfold b_X11_multiply_30
    rw [show (7 : Int32) = nI 7 from rfl, n_le (by omega) (by omega), nn_clamp (by omega), stJ_eq, l_lt, l_le]
    by_cases e : 7 ≤ o
    · refine zif_t e (nm_b ?_)
      have all : ∀ j, j < 7 → -99 ≤ (c j).toInt ∧ (c j).toInt ≤ 99 := fun j hj => o2 j (by omega)
      unfold w_X11_forgetSurveys
      refine nm_b (nm_b (nm_b ?_))
      refine m_multiply hB (fun z => absurd q z) (fun c' _ hc' nall => absurd (fun j hj => by rw [hc' j hj, ← hc j hj]; exact all j hj) nall) (fun c' g _ hc' _ g1 g2 => ?_)
      have hxx : ∀ a, a ≠ 64 → a ≠ 67 → a ≠ 70 → a ≠ 2 → a ≠ 85 → (zz_upI (zz_upI (zz_upI (zz_cpJ (stJ μX 85 c) 85 2 0 0 7) 64 4 0) 67 4 0) 70 3 0).1 a = μX.1 a ∧ (zz_upI (zz_upI (zz_upI (zz_cpJ (stJ μX 85 c) 85 2 0 0 7) 64 4 0) 67 4 0) 70 3 0).2 a = μX.2 a := by
        intro a h1 h2 h3 h4 h5
        refine ⟨?_, ?_⟩
        · rw [mI1, if_neg h3, mI1, if_neg h2, mI1, if_neg h1]; rfl
        · rw [mI2, mI2, mI2, mcJ2, if_neg h4, x85 a h5]
      have hc' : ∀ j, j < 7 → c' j = c j := fun j hj => by rw [hc' j hj, hc j hj]
      refine ⟨rfl, ⟨?_, kept_fr h.2.1 (fun a q1 q2 => hxx a (by omega) (by omega) (by omega) (by omega) (by omega)) rfl, h.2.2.1, tape_fr h.2.2.2.1 rfl rfl rfl rfl, trays_fr h.2.2.2.2 (fun a q1 q2 => hxx a (by omega) (by omega) (by omega) (by omega) (by omega)) rfl rfl rfl⟩, Or.inr ⟨rfl, rfl, rfl, rfl, rfl⟩⟩
      refine rSt_fac (rSt_pq h.1 ?_ ?_ ?_ ?_) (fun i hi => (hxx (6 + i) (by omega) (by omega) (by omega) (by omega) (by omega)).1)
      · intro j hj
        show va_cpy ((stJ μX 85 c).2 85) ((stJ μX 85 c).2 2) 0 0 7 j = Int32.toInt64 (g j)
        unfold va_cpy
        rw [if_pos (by omega), stJ_eq, show 0 + (j - 0) = j by omega, g1 j hj, hc' j hj]
        apply Int64.toInt_inj.mp
        rw [il_toInt, l_i32 (all j hj)]
      · intro j hj
        show μX.2 3 j = Int32.toInt64 (g (7 + j))
        rw [g2 _ (by omega)]; exact h.1.2.1 j hj
      · intro j hj
        show ab (g j) ≤ 99
        by_cases e7 : j < 7
        · rw [g1 j e7, hc' j e7]
          have := all j e7
          rw [ab_in, l_i32 this]; exact this
        · rw [g2 j (by omega)]; exact h.1.2.2.1 j hj
      · intro j hj
        exact g2 j (by omega)
    · have hv := vp_in_nI (n := o) (N := 7) (by omega) (by omega)
      have nb := o3 (by omega)
      refine zif_f e ⟨hv, zif (fun _ => bad (by omega)) (fun q2 => ⟨hv, zif (fun q3 => absurd ⟨?_, ?_⟩ nb) (fun _ => bad (by omega))⟩)⟩
      · have : ¬ (c o).toInt < (-99 : Int) := q2
        omega
      · exact q3
