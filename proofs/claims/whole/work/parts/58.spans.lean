/-! spans -/
def kI (m : Nat) : Int32 := nI m - 100
theorem kI_toInt {m : Nat} (h : m ≤ 1000) : (kI m).toInt = (m : Int) - 100 := by
  unfold kI
  rw [show (100 : Int32) = nI 100 from rfl, pk_sub_toInt (by omega) (by omega)]; rfl
theorem kI_s (m : Nat) : kI m + 1 = kI (m + 1) := by
  unfold kI
  rw [← nI_1, Int32.sub_eq_add_neg, Int32.sub_eq_add_neg, Int32.add_assoc, Int32.add_assoc, Int32.add_comm (-100) 1]
theorem kI_lt {m : Nat} (h : m ≤ 1000) : ((100 : Int32) < kI m) = (201 ≤ m) := by
  apply propext
  rw [i_lt, kI_toInt h, show (100 : Int32).toInt = 100 from rfl]; omega
theorem kI_ab {m : Nat} (h : m < 201) : ab (kI m) ≤ 100 := by
  rw [ab_in, kI_toInt (by omega)]; omega
def insB (b : Nat → Bool) : Nat → Bool
  | 0 => false
  | m + 1 => b m
def spN (b : Nat → Bool) : Nat → Nat
  | 0 => 0
  | m + 1 => if b m && !insB b m then spN b m + 1 else spN b m
def fsN (b : Nat → Bool) : Nat → Nat → Int32
  | 0 => fun _ => 0
  | m + 1 => if b m && !insB b m then upd (fsN b m) (spN b m) (kI m) else fsN b m
def lsN (b : Nat → Bool) : Nat → Nat → Int32
  | 0 => fun _ => 0
  | m + 1 => if b m then upd (lsN b m) (spN b (m + 1) - 1) (kI m) else lsN b m
theorem spN_le (b : Nat → Bool) : ∀ m, 2 * spN b m ≤ m + (if insB b m then 1 else 0) := by
  intro m
  induction m with
  | zero => exact Nat.zero_le _
  | succ m ih =>
    unfold spN
    show _ ≤ m + 1 + (if b m then 1 else 0)
    cases h1 : b m <;> cases h2 : insB b m <;> rw [h2] at ih <;> simp at ih ⊢ <;> omega
theorem spN_pos (b : Nat → Bool) : ∀ m, insB b m = true → 1 ≤ spN b m := by
  intro m
  induction m with
  | zero => intro h; exact absurd (show (false = true) from h) (by decide)
  | succ m ih =>
    intro h
    have h' : b m = true := h
    unfold spN
    cases h2 : insB b m
    · rw [h']; simp
    · rw [h']; have := ih h2; simp; omega
theorem spN_mono (b : Nat → Bool) (m : Nat) : spN b m ≤ spN b (m + 1) := by
  rw [spN]; split <;> omega
theorem sp_congr {b c : Nat → Bool} : ∀ m, (∀ i, i < m → b i = c i) → insB b m = insB c m ∧ spN b m = spN c m ∧ fsN b m = fsN c m ∧ lsN b m = lsN c m := by
  intro m
  induction m with
  | zero => intro _; exact ⟨rfl, rfl, rfl, rfl⟩
  | succ m ih =>
    intro h
    obtain ⟨h1, h2, h3, h4⟩ := ih (fun i hi => h i (by omega))
    have hm := h m (by omega)
    have e2 : spN b (m + 1) = spN c (m + 1) := by rw [spN, spN, hm, h1, h2]
    exact ⟨hm, e2, by rw [fsN, fsN, hm, h1, h2, h3], by rw [lsN, lsN, hm, e2, h4]⟩
theorem fs_bd (b : Nat → Bool) : ∀ m, m ≤ 201 → ∀ j, j < spN b m → (∃ i, i < 201 ∧ fsN b m j = kI i) ∧ (∃ i, i < 201 ∧ lsN b m j = kI i) := by
  intro m
  induction m with
  | zero => intro _ j hj; exact absurd hj (Nat.not_lt_zero j)
  | succ m ih =>
    intro hm j hj
    have hj' := hj
    rw [spN] at hj
    have ih' := ih (by omega)
    constructor
    · rw [fsN]
      split
      · rename_i q
        rw [if_pos q] at hj
        rw [upd_at]
        split
        · exact ⟨m, by omega, rfl⟩
        · exact (ih' j (by omega)).1
      · rename_i q
        rw [if_neg q] at hj
        exact (ih' j hj).1
    · rw [lsN]
      split
      · rw [upd_at]
        split
        · exact ⟨m, by omega, rfl⟩
        · rename_i q1 q2
          by_cases q : (b m && !insB b m) = true
          · rw [if_pos q] at hj
            rw [spN, if_pos q] at q2
            exact (ih' j (by omega)).2
          · rw [if_neg q] at hj
            exact (ih' j hj).2
      · rename_i q1
        rw [if_neg (by simp [q1])] at hj
        exact (ih' j hj).2
theorem lp3_inv {A B : Type} {body : A → Int32 → B → (A → Int32 → B → Prop) → Prop} (N : Nat) (x : Nat → Int32) (I : Nat → A → B → Prop) (hs : ∀ i a b K, i < N → I i a b → (∀ a' b', I (i + 1) a' b' → K a' (x (i + 1)) b') → body a (x i) b K) (hx : ∀ a b K, I N a b → body a (x N) b K) : ∀ m i a b, i + m = N → I i a b → lpz3 body (m + 1) a (x i) b := by
  intro m
  induction m with
  | zero => intro i a b hi hI; (obtain rfl : i = N := (by omega)); exact hx a b _ hI
  | succ m ih => intro i a b hi hI; exact hs i a b _ (by omega) hI (fun a' b' h' => ih (i + 1) a' b' (by omega) h')
theorem ex_b (p : Nat → Prop) : ∃ b : Nat → Bool, ∀ i, b i = true ↔ p i := by
  refine ⟨fun i => @decide (p i) (Classical.propDecidable _), fun i => ?_⟩
  exact @decide_eq_true_iff (p i) (Classical.propDecidable _)
/-- what a survey of spans changes in the class -/
def XP (t : Nat) (μ μ' : ZMem) : Prop := (∀ a, a ≠ 52 → a ≠ 63 → a ≠ t → a ≠ t + 1 → a ≠ t + 2 → μ'.1 a = μ.1 a) ∧ (∀ a, a ≠ 85 → (a < 51 ∨ 62 < a) → μ'.2 a = μ.2 a) ∧ μ'.1 t 0 = μ.1 t 0
theorem XP_rfl (t : Nat) (μ : ZMem) : XP t μ μ := ⟨fun _ _ _ _ _ _ => rfl, fun _ _ _ => rfl, rfl⟩
theorem XP_H {t : Nat} (ht : t = 64 ∨ t = 67) {a b c : ZMem} (h1 : XP t a b) (h2 : XH b c) : XP t a c := ⟨fun x p q r s u => (h2.1 x p q).trans (h1.1 x p q r s u), fun x p q => (h2.2 x p q).trans (h1.2.1 x p q), by rw [h2.1 t (by omega) (by omega)]; exact h1.2.2⟩
def spc (t : Nat) (μ : ZMem) : Prop := ∃ b : Nat → Bool, (∀ i, i < 201 → (b i = true ↔ stP (μ.2 2) (μ.2 3) (μ.1 t 0) 1 (kI i))) ∧ μ.1 t 3 = nI (spN b 201) ∧ ∀ j, j < spN b 201 → μ.1 (t + 1) j = fsN b 201 j ∧ μ.1 (t + 2) j = lsN b 201 j
theorem e_survey {μ : ZMem} {t : Nat} (ht : t = 64 ∨ t = 67) (hs : smallPQ (μ.2 2) (μ.2 3)) (hc : μ.1 t 4 = 0 ∨ spc t μ) {Φ : ZMem → Prop} (h : ∀ μ', XP t μ μ' → spc t μ' → Φ μ') : w_X6_survey t μ Φ := by
  unfold w_X6_survey
  refine zif (fun q4 => nm_b (nm_b ?_)) (fun q4 => h μ (XP_rfl t μ) (hc.resolve_left q4))
  obtain ⟨b, hb⟩ := ex_b (fun i => stP (μ.2 2) (μ.2 3) (μ.1 t 0) 1 (kI i))
  refine ⟨201 + 1, lp3_inv 201 kI (fun m v q => v = (if insB b m then 1 else 0) ∧ XP t μ q ∧ q.1 t 3 = nI (spN b m) ∧ ∀ j, j < spN b m → q.1 (t + 1) j = fsN b m j ∧ q.1 (t + 2) j = lsN b m j) (fun m v q K hm hI hK => ?_) (fun v q K hI => ?_) 201 0 0 _ (by omega) ⟨rfl, ⟨fun a _ _ h3 _ _ => if_neg h3, fun _ _ _ => rfl, ?_⟩, ?_, fun j hj => absurd hj (Nat.not_lt_zero j)⟩⟩
  · obtain ⟨i1, i2, i3, i4⟩ := hI
    unfold b_X6_survey_19
    rw [kI_lt (by omega), i2.2.2]
    refine zif_f (by omega) ?_
    have eP := i2.2.1 2 (by omega) (by omega)
    have eQ := i2.2.1 3 (by omega) (by omega)
    have hb' := hb m
    have sl := spN_le b m
    have step : ∀ (r : Int32) (q9 : ZMem), r = (if b m then 1 else 0) → XH q q9 → nm (fun (μ_10 : ZMem) => nm (fun (μ_12 : ZMem) => K r (kI m + 1) μ_12) (fun (J_13 : ZMem → Prop) => (r = 0 → J_13 μ_10) ∧ (¬ r = 0 → ((μ_10.1 t 3) ≤ 0 → J_13 μ_10) ∧ (¬ (μ_10.1 t 3) ≤ 0 → vp_in ((μ_10.1 t 3) - 1) 101 ∧ (nm (zz_upI μ_10 (t + 2) (Int32.toNatClampNeg ((μ_10.1 t 3) - 1)) (kI m)) (fun (μ_15 : ZMem) => J_13 μ_15)))))) (fun (J_11 : ZMem → Prop) => (r = 0 → J_11 q9) ∧ (¬ r = 0 → (¬ v = 0 → J_11 q9) ∧ (v = 0 → ((101 : Int32) ≤ (q9.1 t 3) → J_11 q9) ∧ (¬ (101 : Int32) ≤ (q9.1 t 3) → vp_in (q9.1 t 3) 101 ∧ (nm (zz_upI q9 (t + 1) (Int32.toNatClampNeg (q9.1 t 3)) (kI m)) (fun (μ_17 : ZMem) => nm (zz_upI μ_17 t 3 ((μ_17.1 t 3) + 1)) (fun (μ_18 : ZMem) => J_11 μ_18))))))) := by
      intro r q9 hr x9
      have x1 := XP_H ht i2 x9
      have c3 : q9.1 t 3 = nI (spN b m) := by rw [x9.1 t (by omega) (by omega)]; exact i3
      have c4 : ∀ j, j < spN b m → q9.1 (t + 1) j = fsN b m j ∧ q9.1 (t + 2) j = lsN b m j := fun j hj => by
        rw [x9.1 (t + 1) (by omega) (by omega), x9.1 (t + 2) (by omega) (by omega)]; exact i4 j hj
      refine nm_k (fun c => XP t μ c ∧ c.1 t 3 = nI (spN b (m + 1)) ∧ (∀ j, j < spN b (m + 1) → c.1 (t + 1) j = fsN b (m + 1) j) ∧ (∀ j, j < spN b m → c.1 (t + 2) j = lsN b m j)) (fun J hJ => ?_) ?_
      · have stay : (b m && !insB b m) = false → J q9 := fun z => hJ _ ⟨x1, by rw [spN, z]; exact c3, fun j hj => by
          rw [spN, z] at hj; rw [fsN, z]; exact (c4 j hj).1, fun j hj => (c4 j hj).2⟩
        cases hbm : b m with
        | false =>
          rw [hbm] at hr
          refine zif_t hr (stay (by rw [hbm]; rfl))
        | true =>
          rw [hbm] at hr
          refine zif_f (by rw [hr]; decide) ?_
          cases hin : insB b m with
          | true =>
            rw [hin] at i1
            exact zifn_f (by rw [i1]; decide) (stay (by rw [hbm, hin]; rfl))
          | false =>
            rw [hin] at i1 sl
            have sl' : 2 * spN b m ≤ m := sl
            have hsp : spN b (m + 1) = spN b m + 1 := by rw [spN, hbm, hin]; rfl
            have hfs : fsN b (m + 1) = upd (fsN b m) (spN b m) (kI m) := by rw [fsN, hbm, hin]; rfl
            refine zifn_t i1 ?_
            rw [c3, show (101 : Int32) = nI 101 from rfl, n_le (by omega) (by omega), nn_clamp (by omega)]
            refine zif_f (by omega) ⟨vp_in_nI (by omega) (by omega), nm_b (nm_b (hJ _ ⟨⟨fun a h1 h2 h3 h4 h5 => ?_, fun a h1 h2 => x1.2.1 a h1 h2, ?_⟩, ?_, fun j hj => ?_, fun j hj => ?_⟩))⟩
            · rw [mI1, if_neg h3, mI1, if_neg h4]; exact x1.1 a h1 h2 h3 h4 h5
            · rw [mI1, if_pos rfl, upd_at, if_neg (by omega), mI1, if_neg (by omega)]; exact x1.2.2
            · rw [mI1, if_pos rfl, upd_at, if_pos rfl, mI1, if_neg (by omega), c3, nI_1, hsp]
            · rw [mI1, if_neg (by omega), mI1, if_pos rfl, hfs, upd_at, upd_at]
              split
              · rfl
              · exact (c4 j (by omega)).1
            · rw [mI1, if_neg (by omega), mI1, if_neg (by omega)]; exact (c4 j hj).2
      rintro c ⟨d1, d2, d3, d4⟩
      refine nm_k (fun e => XP t μ e ∧ e.1 t 3 = nI (spN b (m + 1)) ∧ ∀ j, j < spN b (m + 1) → e.1 (t + 1) j = fsN b (m + 1) j ∧ e.1 (t + 2) j = lsN b (m + 1) j) (fun J hJ => ?_) ?_
      · cases hbm : b m with
        | false =>
          rw [hbm] at hr
          have hsp : spN b (m + 1) = spN b m := by rw [spN, hbm]; rfl
          have hls : lsN b (m + 1) = lsN b m := by rw [lsN, hbm]; rfl
          exact zif_t hr (hJ _ ⟨d1, d2, fun j hj => ⟨d3 j hj, by rw [hls]; exact d4 j (by omega)⟩⟩)
        | true =>
          rw [hbm] at hr
          have hls : lsN b (m + 1) = upd (lsN b m) (spN b (m + 1) - 1) (kI m) := by rw [lsN, hbm]; rfl
          have hp := spN_pos b (m + 1) hbm
          have sl2 := spN_le b (m + 1)
          have sl3 : 2 * spN b (m + 1) ≤ m + 2 := Nat.le_trans sl2 (by split <;> omega)
          have sm : spN b (m + 1) ≤ spN b m + 1 := by rw [spN]; split <;> omega
          refine zif_f (by rw [hr]; decide) ?_
          rw [d2, show (0 : Int32) = nI 0 from rfl, n_le (by omega) (by omega), show (1 : Int32) = nI 1 from rfl, pk_sub (by omega), nn_clamp (by omega)]
          refine zif_f (by omega) ⟨vp_in_nI (by omega) (by omega), nm_b (hJ _ ⟨⟨fun a h1 h2 h3 h4 h5 => ?_, fun a h1 h2 => d1.2.1 a h1 h2, ?_⟩, ?_, fun j hj => ⟨?_, ?_⟩⟩)⟩
          · rw [mI1, if_neg h5]; exact d1.1 a h1 h2 h3 h4 h5
          · rw [mI1, if_neg (by omega)]; exact d1.2.2
          · rw [mI1, if_neg (by omega)]; exact d2
          · rw [mI1, if_neg (by omega)]; exact d3 j hj
          · rw [mI1, if_pos rfl, hls, upd_at, upd_at]
            split
            · rfl
            · exact d4 j (by omega)
      rintro e ⟨f1, f2, f3⟩
      refine nm_b ?_
      rw [kI_s]
      exact hK r e ⟨hr, f1, f2, f3⟩
    refine e_holds (by rw [eP, eQ]; exact hs) (by decide) (Nat.le_trans (kI_ab hm) (by decide)) (fun z q9 x9 => step 1 q9 ?_ x9) (fun z q9 x9 => step 0 q9 ?_ x9)
    · rw [eP, eQ] at z
      rw [hb'.mpr z]; rfl
    · rw [eP, eQ] at z
      cases hbm : b m with
      | false => rfl
      | true => exact absurd (hb'.mp hbm) z
  · obtain ⟨i1, i2, i3, i4⟩ := hI
    unfold b_X6_survey_19
    refine zif_t (by rw [kI_lt (by omega)]; omega) (nm_b (h _ ⟨fun a h1 h2 h3 h4 h5 => ?_, fun a h1 h2 => i2.2.1 a h1 h2, ?_⟩ ⟨b, fun i hi => ?_, ?_, fun j hj => ?_⟩))
    · rw [mI1, if_neg h3]; exact i2.1 a h1 h2 h3 h4 h5
    · rw [mI1, if_pos rfl, upd_at, if_neg (by omega)]; exact i2.2.2
    · rw [mI2, i2.2.1 2 (by omega) (by omega), i2.2.1 3 (by omega) (by omega), mI1, if_pos rfl, upd_at, if_neg (by omega), i2.2.2]
      exact hb i
    · rw [mI1, if_pos rfl, upd_at, if_neg (by omega)]; exact i3
    · rw [mI1, if_neg (by omega), mI1, if_neg (by omega)]; exact i4 j hj
  · rw [mI1, if_pos rfl, upd_at, if_neg (by omega)]
  · rw [mI1, if_pos rfl, upd_at, if_pos rfl]; rfl
/-- what a survey of spans changes in the reference -/
def MP (μ μ' : ZMem) : Prop := (∀ a, a ≠ 0 → a ≠ 8 → a ≠ 9 → a ≠ 10 → μ'.1 a = μ.1 a) ∧ (∀ s, s ≠ 4 → s ≠ 8 → s ≠ 9 → s ≠ 10 → s ≠ 16 → μ'.1 0 s = μ.1 0 s) ∧ (∀ a, (a < 3 ∨ 7 < a) → μ'.2 a = μ.2 a)
theorem MP_rfl (μ : ZMem) : MP μ μ := ⟨fun _ _ _ _ _ => rfl, fun _ _ _ _ _ _ => rfl, fun _ _ => rfl⟩
theorem MP_S {a b c : ZMem} (h1 : MP a b) (h2 : MS b c) : MP a c := ⟨fun x p q r s => (h2.1 x p q).trans (h1.1 x p q r s), fun x p q r s u => (h2.2.1 x p q r s).trans (h1.2.1 x p q r s u), fun x p => (h2.2.2 x p).trans (h1.2.2 x p)⟩
theorem MP_tr {a b c : ZMem} (h1 : MP a b) (h2 : MP b c) : MP a c := ⟨fun x p q r s => (h2.1 x p q r s).trans (h1.1 x p q r s), fun x p q r s u => (h2.2.1 x p q r s u).trans (h1.2.1 x p q r s u), fun x p => (h2.2.2 x p).trans (h1.2.2 x p)⟩
def msp (kind : Int32) (μ0 μ : ZMem) : Prop := ∃ b : Nat → Bool, (∀ i, i < 201 → (b i = true ↔ stP (pF μ0) (qF μ0) kind 1 (kI i))) ∧ μ.1 0 16 = nI (spN b 201) ∧ ∀ j, j < spN b 201 → μ.1 9 j = fsN b 201 j ∧ μ.1 10 j = lsN b 201 j
theorem pF_P {μ μ' : ZMem} (h : MP μ μ') : pF μ' = pF μ ∧ qF μ' = qF μ := by
  unfold pF qF
  rw [h.1 1 (by omega) (by omega) (by omega) (by omega)]
  exact ⟨rfl, rfl⟩
theorem m_laysSpans {μ : ZMem} {kind : Int32} (hs : smallPQ (pF μ) (qF μ)) {Φ : ZMem → Prop} (h : ∀ μ', MP μ μ' → msp kind μ μ' → Φ μ') : w_X12_laysSpans kind μ Φ := by
  unfold w_X12_laysSpans
  refine nm_b ?_
  obtain ⟨b, hb⟩ := ex_b (fun i => stP (pF μ) (qF μ) kind 1 (kI i))
  refine ⟨201 + 1, lp3_inv 201 kI (fun m v q => v = (if insB b m then 1 else 0) ∧ MP μ q ∧ q.1 0 16 = nI (spN b m) ∧ ∀ j, j < spN b m → q.1 9 j = fsN b m j ∧ q.1 10 j = lsN b m j) (fun m v q K hm hI hK => ?_) (fun v q K hI => ?_) 201 0 0 _ (by omega) ⟨rfl, ⟨fun a h1 _ _ _ => if_neg h1, fun s _ _ _ _ h5 => ?_, fun _ _ => rfl⟩, ?_, fun j hj => absurd hj (Nat.not_lt_zero j)⟩⟩
  · obtain ⟨i1, i2, i3, i4⟩ := hI
    unfold b_X12_laysSpans_10
    rw [kI_lt (by omega)]
    refine zif_f (by omega) ?_
    obtain ⟨eP, eQ⟩ := pF_P i2
    have hb' := hb m
    have sl := spN_le b m
    have step : ∀ (r : Int32) (q9 : ZMem), r = (if b m then 1 else 0) → MS q q9 → nm (fun (μ_7 : ZMem) => nm (fun (μ_9 : ZMem) => K r (kI m + 1) μ_9) (fun (J_10 : ZMem → Prop) => (r = 0 → J_10 μ_7) ∧ (¬ r = 0 → vp_in ((μ_7.1 0 16) - 1) 101 ∧ (nm (zz_upI μ_7 10 (Int32.toNatClampNeg ((μ_7.1 0 16) - 1)) (kI m)) (fun (μ_12 : ZMem) => J_10 μ_12))))) (fun (J_8 : ZMem → Prop) => (r = 0 → J_8 q9) ∧ (¬ r = 0 → (¬ v = 0 → J_8 q9) ∧ (v = 0 → vp_in (q9.1 0 16) 101 ∧ (nm (zz_upI q9 9 (Int32.toNatClampNeg (q9.1 0 16)) (kI m)) (fun (μ_14 : ZMem) => nm (zz_upI μ_14 0 16 ((μ_14.1 0 16) + 1)) (fun (μ_15 : ZMem) => J_8 μ_15)))))) := by
      intro r q9 hr x9
      have x1 := MP_S i2 x9
      have c3 : q9.1 0 16 = nI (spN b m) := by rw [x9.2.1 16 (by omega) (by omega) (by omega) (by omega)]; exact i3
      have c4 : ∀ j, j < spN b m → q9.1 9 j = fsN b m j ∧ q9.1 10 j = lsN b m j := fun j hj => by
        rw [x9.1 9 (by omega) (by omega), x9.1 10 (by omega) (by omega)]; exact i4 j hj
      refine nm_k (fun c => MP μ c ∧ c.1 0 16 = nI (spN b (m + 1)) ∧ (∀ j, j < spN b (m + 1) → c.1 9 j = fsN b (m + 1) j) ∧ (∀ j, j < spN b m → c.1 10 j = lsN b m j)) (fun J hJ => ?_) ?_
      · have stay : (b m && !insB b m) = false → J q9 := fun z => hJ _ ⟨x1, by rw [spN, z]; exact c3, fun j hj => by
          rw [spN, z] at hj; rw [fsN, z]; exact (c4 j hj).1, fun j hj => (c4 j hj).2⟩
        cases hbm : b m with
        | false =>
          rw [hbm] at hr
          refine zif_t hr (stay (by rw [hbm]; rfl))
        | true =>
          rw [hbm] at hr
          refine zif_f (by rw [hr]; decide) ?_
          cases hin : insB b m with
          | true =>
            rw [hin] at i1
            exact zifn_f (by rw [i1]; decide) (stay (by rw [hbm, hin]; rfl))
          | false =>
            rw [hin] at i1 sl
            have sl' : 2 * spN b m ≤ m := sl
            have hsp : spN b (m + 1) = spN b m + 1 := by rw [spN, hbm, hin]; rfl
            have hfs : fsN b (m + 1) = upd (fsN b m) (spN b m) (kI m) := by rw [fsN, hbm, hin]; rfl
            refine zifn_t i1 ?_
            rw [c3, nn_clamp (by omega)]
            refine ⟨vp_in_nI (by omega) (by omega), nm_b (nm_b (hJ _ ⟨⟨fun a h1 h2 h3 h4 => ?_, fun s h1 h2 h3 h4 h5 => ?_, fun a h1 => x1.2.2 a h1⟩, ?_, fun j hj => ?_, fun j hj => ?_⟩))⟩
            · rw [mI1, if_neg h1, mI1, if_neg h3]; exact x1.1 a h1 h2 h3 h4
            · rw [mI1, if_pos rfl, upd_at, if_neg h5, mI1, if_neg (by omega)]; exact x1.2.1 s h1 h2 h3 h4 h5
            · rw [mI1, if_pos rfl, upd_at, if_pos rfl, mI1, if_neg (by omega), c3, nI_1, hsp]
            · rw [mI1, if_neg (by omega), mI1, if_pos rfl, hfs, upd_at, upd_at]
              split
              · rfl
              · exact (c4 j (by omega)).1
            · rw [mI1, if_neg (by omega), mI1, if_neg (by omega)]; exact (c4 j hj).2
      rintro c ⟨d1, d2, d3, d4⟩
      refine nm_k (fun e => MP μ e ∧ e.1 0 16 = nI (spN b (m + 1)) ∧ ∀ j, j < spN b (m + 1) → e.1 9 j = fsN b (m + 1) j ∧ e.1 10 j = lsN b (m + 1) j) (fun J hJ => ?_) ?_
      · cases hbm : b m with
        | false =>
          rw [hbm] at hr
          have hsp : spN b (m + 1) = spN b m := by rw [spN, hbm]; rfl
          have hls : lsN b (m + 1) = lsN b m := by rw [lsN, hbm]; rfl
          exact zif_t hr (hJ _ ⟨d1, d2, fun j hj => ⟨d3 j hj, by rw [hls]; exact d4 j (by omega)⟩⟩)
        | true =>
          rw [hbm] at hr
          have hls : lsN b (m + 1) = upd (lsN b m) (spN b (m + 1) - 1) (kI m) := by rw [lsN, hbm]; rfl
          have hp := spN_pos b (m + 1) hbm
          have sl2 := spN_le b (m + 1)
          have sl3 : 2 * spN b (m + 1) ≤ m + 2 := Nat.le_trans sl2 (by split <;> omega)
          have sm : spN b (m + 1) ≤ spN b m + 1 := by rw [spN]; split <;> omega
          refine zif_f (by rw [hr]; decide) ?_
          rw [d2, show (1 : Int32) = nI 1 from rfl, pk_sub (by omega), nn_clamp (by omega)]
          refine ⟨vp_in_nI (by omega) (by omega), nm_b (hJ _ ⟨⟨fun a h1 h2 h3 h4 => ?_, fun s h1 h2 h3 h4 h5 => d1.2.1 s h1 h2 h3 h4 h5, fun a h1 => d1.2.2 a h1⟩, ?_, fun j hj => ⟨?_, ?_⟩⟩)⟩
          · rw [mI1, if_neg h4]; exact d1.1 a h1 h2 h3 h4
          · rw [mI1, if_neg (by omega)]; exact d2
          · rw [mI1, if_neg (by omega)]; exact d3 j hj
          · rw [mI1, if_pos rfl, hls, upd_at, upd_at]
            split
            · rfl
            · exact d4 j (by omega)
      rintro e ⟨f1, f2, f3⟩
      refine nm_b ?_
      rw [kI_s]
      exact hK r e ⟨hr, f1, f2, f3⟩
    refine m_isSteady (by rw [eP, eQ]; exact hs) (by decide) (Nat.le_trans (kI_ab hm) (by decide)) (fun z q9 x9 => step 1 q9 ?_ x9) (fun z q9 x9 => step 0 q9 ?_ x9)
    · rw [eP, eQ] at z
      rw [hb'.mpr z]; rfl
    · rw [eP, eQ] at z
      cases hbm : b m with
      | false => rfl
      | true => exact absurd (hb'.mp hbm) z
  · obtain ⟨i1, i2, i3, i4⟩ := hI
    unfold b_X12_laysSpans_10
    exact zif_t (by rw [kI_lt (by omega)]; omega) (h q i2 ⟨b, fun i _ => hb i, i3, i4⟩)
  · show upd (μ.1 0) 16 0 s = _
    rw [upd_at, if_neg h5]
  · rfl
