/-! exact longs: the class marks by the least long, the reference by a flag -/
def MINL : Int64 := -9223372036854775808
def encO (o : Option Int64) : Int64 := o.getD MINL
theorem l_rng (a : Int64) : -9223372036854775808 ≤ a.toInt ∧ a.toInt < 9223372036854775808 := ⟨Int64.le_toInt a, Int64.toInt_lt a⟩
theorem l_min {a : Int64} : a = -9223372036854775808 ↔ a.toInt = -9223372036854775808 := by
  rw [← Int64.toInt_inj]
  exact Iff.of_eq rfl
theorem zfit_iff (z : Int) : zfit z = true ↔ -9223372036854775808 < z ∧ z < 9223372036854775808 := by
  simp [zfit]
theorem l_bm {z : Int} (h1 : -9223372036854775808 ≤ z) (h2 : z < 9223372036854775808) : z.bmod (2 ^ 64) = z := by
  apply Int.bmod_eq_of_le <;> omega
theorem l_mul (a b : Int64) : (a * b).toInt = (a.toInt * b.toInt).bmod (2 ^ 64) := Int64.toInt_mul a b
theorem l_add (a b : Int64) : (a + b).toInt = (a.toInt + b.toInt).bmod (2 ^ 64) := Int64.toInt_add a b
theorem l_sub (a b : Int64) : (a - b).toInt = (a.toInt - b.toInt).bmod (2 ^ 64) := Int64.toInt_sub a b
theorem l_mulF {a b : Int64} (h : zfit (a.toInt * b.toInt) = true) : (a * b).toInt = a.toInt * b.toInt := by
  have := (zfit_iff _).mp h
  rw [l_mul, l_bm (by omega) (by omega)]
theorem l_addF {a b : Int64} (h : zfit (a.toInt + b.toInt) = true) : (a + b).toInt = a.toInt + b.toInt := by
  have := (zfit_iff _).mp h
  rw [l_add, l_bm (by omega) (by omega)]
theorem l_subF {a b : Int64} (h : zfit (a.toInt - b.toInt) = true) : (a - b).toInt = a.toInt - b.toInt := by
  have := (zfit_iff _).mp h
  rw [l_sub, l_bm (by omega) (by omega)]
theorem bm_cases (z : Int) : ∃ k : Int, z.bmod (2 ^ 64) = z - k * 18446744073709551616 := ⟨Int.bdiv z (2 ^ 64), Int.bmod_eq_self_sub_bdiv_mul z (2 ^ 64)⟩
/-- the reference's test of a product -/
theorem t_fit {a b : Int64} (ha : ¬ a = 0) : (a * b / a = b ∧ ¬ a * b = -9223372036854775808) ↔ zfit (a.toInt * b.toInt) = true := by
  have ha0 : a.toInt ≠ 0 := fun h => ha (Int64.toInt_inj.mp (by rw [h]; rfl))
  have hv := l_rng (a * b)
  have hra := l_rng a
  have hrb := l_rng b
  constructor
  · rintro ⟨h1, h2⟩
    have h3 : (a * b).toInt.tdiv a.toInt = b.toInt := by
      have h4 := congrArg Int64.toInt h1
      rw [Int64.toInt_div] at h4
      have h5 : (a * b).toInt ≠ -9223372036854775808 := fun q => h2 (l_min.mpr q)
      have h6 : -9223372036854775808 ≤ (a * b).toInt.tdiv a.toInt ∧ (a * b).toInt.tdiv a.toInt < 9223372036854775808 := by
        have h7 := Int.natAbs_tdiv_le_natAbs (a * b).toInt a.toInt
        omega
      rw [l_bm h6.1 h6.2] at h4
      exact h4
    have h8 : (a * b).toInt = a.toInt * b.toInt + (a * b).toInt.tmod a.toInt := by
      have h9 := Int.mul_tdiv_add_tmod (a * b).toInt a.toInt
      rw [h3] at h9
      omega
    obtain ⟨k, hk⟩ := bm_cases (a.toInt * b.toInt)
    rw [← l_mul] at hk
    have h10 : ((a * b).toInt.tmod a.toInt).natAbs < a.toInt.natAbs := by
      have := Int.natAbs_tmod (a * b).toInt a.toInt
      rw [this]
      exact Nat.mod_lt _ (by omega)
    have h11 : k = 0 := by omega
    have h5 : (a * b).toInt ≠ -9223372036854775808 := fun q => h2 (l_min.mpr q)
    rw [zfit_iff]
    subst h11
    omega
  · intro h
    have hf := (zfit_iff _).mp h
    have e := l_mulF h
    refine ⟨?_, fun q => ?_⟩
    · apply Int64.toInt_inj.mp
      rw [Int64.toInt_div, e, Int.mul_tdiv_cancel_left _ ha0, l_bm hrb.1 hrb.2]
    · rw [l_min, e] at q
      omega

theorem l_msb (x : Int64) : (x < 0) ↔ x.toBitVec.msb = true := by
  rw [Int64.lt_iff_toInt_lt, BitVec.msb_eq_toInt, decide_eq_true_eq]
  exact Iff.rfl
theorem l_xor_neg (x y : Int64) : (x ^^^ y < 0) ↔ ¬ ((x < 0) ↔ (y < 0)) := by
  rw [l_msb, l_msb, l_msb, Int64.toBitVec_xor, BitVec.msb_xor]
  cases x.toBitVec.msb <;> cases y.toBitVec.msb <;> simp
theorem l_and_neg (x y : Int64) : (x &&& y < 0) ↔ (x < 0 ∧ y < 0) := by
  rw [l_msb, l_msb, l_msb, Int64.toBitVec_and, BitVec.msb_and]
  cases x.toBitVec.msb <;> cases y.toBitVec.msb <;> simp
theorem l_neg0 (x : Int64) : (x < 0) ↔ x.toInt < 0 := by
  rw [Int64.lt_iff_toInt_lt]
  exact Iff.rfl
theorem s_ovf (a b : Int64) : (((a ^^^ b) &&& (a ^^^ (a - b))) < 0 ∨ a - b = -9223372036854775808) ↔ ¬ zfit (a.toInt - b.toInt) = true := by
  rw [l_and_neg, l_xor_neg, l_xor_neg, l_neg0, l_neg0, l_neg0, l_min, zfit_iff]
  have h1 := l_rng a
  have h2 := l_rng b
  have h3 := l_rng (a - b)
  obtain ⟨k, hk⟩ := bm_cases (a.toInt - b.toInt)
  rw [← l_sub] at hk
  omega
theorem p_ovf (a b : Int64) : (((a ^^^ (a + b)) &&& (b ^^^ (a + b))) < 0 ∨ a + b = -9223372036854775808) ↔ ¬ zfit (a.toInt + b.toInt) = true := by
  rw [l_and_neg, l_xor_neg, l_xor_neg, l_neg0, l_neg0, l_neg0, l_min, zfit_iff]
  have h1 := l_rng a
  have h2 := l_rng b
  have h3 := l_rng (a + b)
  obtain ⟨k, hk⟩ := bm_cases (a.toInt + b.toInt)
  rw [← l_add] at hk
  omega
def opt2 (f : Int64 → Int64 → Option Int64) (a b : Int64) : Option Int64 := if a = MINL ∨ b = MINL then none else f a b
theorem e_times (a b : Int64) (Φ : Int64 → Prop) : w_X1_times a b Φ ↔ Φ (encO (opt2 xt a b)) := by
  unfold w_X1_times opt2 encO MINL xt nm
  by_cases h1 : a = -9223372036854775808
  · simp [h1]
  by_cases h2 : b = -9223372036854775808
  · simp [h2]
  by_cases h3 : a = 0
  · simp [h1, h2, h3, zfit]
  by_cases h4 : b = 0
  · simp [h1, h2, h3, h4, zfit]
  have h5 := t_fit (a := b) (b := a) h4
  rw [Int64.mul_comm b a, Int.mul_comm] at h5
  by_cases h6 : zfit (a.toInt * b.toInt) = true
  · obtain ⟨h7, h8⟩ := h5.mpr h6
    simp [h1, h2, h3, h4, h6, h7, h8]
  · by_cases h8 : a * b = -9223372036854775808
    · simp [h1, h2, h3, h4, h6, h8]
    · have h7 : ¬ a * b / b = a := fun q => h6 (h5.mp ⟨q, h8⟩)
      simp [h1, h2, h3, h4, h6, h7, h8]
theorem e_plus (a b : Int64) (Φ : Int64 → Prop) : w_X1_plus a b Φ ↔ Φ (encO (opt2 xp a b)) := by
  unfold w_X1_plus opt2 encO MINL xp nm
  by_cases h1 : a = -9223372036854775808
  · simp [h1]
  by_cases h2 : b = -9223372036854775808
  · simp [h2]
  have h5 := p_ovf a b
  by_cases h6 : zfit (a.toInt + b.toInt) = true
  · have h7 : ¬ (((a ^^^ (a + b)) &&& (b ^^^ (a + b))) < 0) := fun q => h5.mp (Or.inl q) h6
    have h8 : (0 : Int64) ≤ ((a ^^^ (a + b)) &&& (b ^^^ (a + b))) := Int64.not_lt.mp h7
    simp [h1, h2, h6, h8]
  · by_cases h8 : (0 : Int64) ≤ ((a ^^^ (a + b)) &&& (b ^^^ (a + b)))
    · have h9 : a + b = -9223372036854775808 := (h5.mpr h6).resolve_left (Int64.not_lt.mpr h8)
      rw [h9] at h8
      simp [h1, h2, h6, h9, h8]
    · simp [h1, h2, h6, h8]
theorem e_less (a b : Int64) (Φ : Int64 → Prop) : w_X1_less a b Φ ↔ Φ (encO (opt2 xs a b)) := by
  unfold w_X1_less opt2 encO MINL xs nm
  by_cases h1 : a = -9223372036854775808
  · simp [h1]
  by_cases h2 : b = -9223372036854775808
  · simp [h2]
  have h5 := s_ovf a b
  by_cases h6 : zfit (a.toInt - b.toInt) = true
  · have h7 : ¬ (((a ^^^ b) &&& (a ^^^ (a - b))) < 0) := fun q => h5.mp (Or.inl q) h6
    have h8 : (0 : Int64) ≤ ((a ^^^ b) &&& (a ^^^ (a - b))) := Int64.not_lt.mp h7
    simp [h1, h2, h6, h8]
  · by_cases h8 : (0 : Int64) ≤ ((a ^^^ b) &&& (a ^^^ (a - b)))
    · have h9 : a - b = -9223372036854775808 := (h5.mpr h6).resolve_left (Int64.not_lt.mpr h8)
      rw [h9] at h8
      simp [h1, h2, h6, h9, h8]
    · simp [h1, h2, h6, h8]
/-- the reference's flag behind an operation that holds or doesn't -/
def flg (μ : ZMem) (ok : Bool) : ZMem := zz_upI μ 0 4 (if μ.1 0 4 = 0 ∧ ok = true then 0 else 1)
theorem m_times (a b : Int64) (μ : ZMem) (Φ : Int64 → ZMem → Prop) : w_X12_times a b μ Φ ↔ Φ (a * b) (flg μ (zfit (a.toInt * b.toInt))) := by
  unfold w_X12_times flg nm zbool
  by_cases h0 : μ.1 0 4 = 0
  · by_cases h3 : a = 0
    · simp [h0, h3, zfit]
    · have h5 := t_fit (a := a) (b := b) h3
      by_cases h6 : zfit (a.toInt * b.toInt) = true
      · obtain ⟨h7, h8⟩ := h5.mpr h6
        simp [h0, h3, h6, h7, h8]
      · by_cases h7 : a * b / a = b
        · have h8 : a * b = -9223372036854775808 := Classical.byContradiction fun q => h6 (h5.mp ⟨h7, q⟩)
          rw [h8] at h7
          simp [h0, h3, h6, h7, h8]
        · simp [h0, h3, h6, h7]
  · by_cases h3 : a = 0
    · simp [h0, h3]
    · by_cases h7 : a * b / a = b
      · by_cases h8 : a * b = -9223372036854775808
        · rw [h8] at h7
          simp [h0, h3, h7, h8]
        · simp [h0, h3, h7, h8]
      · simp [h0, h3, h7]
theorem m_plus (a b : Int64) (μ : ZMem) (Φ : Int64 → ZMem → Prop) : w_X12_plus a b μ Φ ↔ Φ (a + b) (flg μ (zfit (a.toInt + b.toInt))) := by
  unfold w_X12_plus flg nm zbool
  have h5 := p_ovf a b
  by_cases h0 : μ.1 0 4 = 0
  · by_cases h6 : zfit (a.toInt + b.toInt) = true
    · have h7 : ¬ (((a ^^^ (a + b)) &&& (b ^^^ (a + b))) < 0) := fun q => h5.mp (Or.inl q) h6
      have h8 : ¬ a + b = -9223372036854775808 := fun q => h5.mp (Or.inr q) h6
      simp [h0, h6, h7, h8]
    · by_cases h7 : (((a ^^^ (a + b)) &&& (b ^^^ (a + b))) < 0)
      · simp [h0, h6, h7]
      · have h9 : a + b = -9223372036854775808 := (h5.mpr h6).resolve_left h7
        rw [h9] at h7
        simp [h0, h6, h9, h7]
  · simp [h0]
theorem m_less (a b : Int64) (μ : ZMem) (Φ : Int64 → ZMem → Prop) : w_X12_less a b μ Φ ↔ Φ (a - b) (flg μ (zfit (a.toInt - b.toInt))) := by
  unfold w_X12_less flg nm zbool
  have h5 := s_ovf a b
  by_cases h0 : μ.1 0 4 = 0
  · by_cases h6 : zfit (a.toInt - b.toInt) = true
    · have h7 : ¬ (((a ^^^ b) &&& (a ^^^ (a - b))) < 0) := fun q => h5.mp (Or.inl q) h6
      have h8 : ¬ a - b = -9223372036854775808 := fun q => h5.mp (Or.inr q) h6
      simp [h0, h6, h7, h8]
    · by_cases h7 : (((a ^^^ b) &&& (a ^^^ (a - b))) < 0)
      · simp [h0, h6, h7]
      · have h9 : a - b = -9223372036854775808 := (h5.mpr h6).resolve_left h7
        rw [h9] at h7
        simp [h0, h6, h9, h7]
  · simp [h0]
theorem m_turned (a : Int64) (μ : ZMem) (Φ : Int64 → ZMem → Prop) : w_X12_turned a μ Φ ↔ Φ (-a) (flg μ (decide (¬ a = MINL))) := by
  unfold w_X12_turned flg nm zbool MINL
  by_cases h0 : μ.1 0 4 = 0
  · by_cases h6 : a = -9223372036854775808
    · simp [h0, h6]
    · simp [h0, h6]
  · simp [h0]
