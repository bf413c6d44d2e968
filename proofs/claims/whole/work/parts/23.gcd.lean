/-! greatest common divisors -/
def fbp : Nat → Nat × Nat
  | 0 => (1, 2)
  | n + 1 => ((fbp n).2, (fbp n).1 + (fbp n).2)
def fbn (n : Nat) : Nat := (fbp n).1
theorem fbn_s (n : Nat) : fbn (n + 2) = fbn n + fbn (n + 1) := rfl
theorem fbn_mono (n : Nat) : fbn n ≤ fbn (n + 1) ∧ 0 < fbn n := by
  induction n with
  | zero => decide
  | succ n ih => rw [fbn_s]; omega
/-- n steps of Euclid's are enough -/
def euS : Nat → Nat → Nat → Prop
  | 0, _, q => q = 0
  | n + 1, p, q => q = 0 ∨ euS n q (p % q)
theorem euS_of : ∀ n, (∀ p q, q < fbn n → euS n p q) ∧ (∀ p q, q < fbn (n + 1) → euS (n + 1) p q) := by
  intro n
  induction n with
  | zero =>
    refine ⟨fun p q h => ?_, fun p q h => ?_⟩
    · have h1 : q < 1 := h
      show q = 0
      omega
    · have h1 : q < 2 := h
      by_cases h0 : q = 0
      · exact Or.inl h0
      · right
        show p % q = 0
        rw [show q = 1 by omega]; exact Nat.mod_one p
  | succ n ih =>
    refine ⟨ih.2, fun p q h => ?_⟩
    by_cases h0 : q = 0
    · exact Or.inl h0
    · right
      have hr : p % q < q := Nat.mod_lt _ (by omega)
      by_cases h1 : p % q < fbn (n + 1)
      · exact ih.2 _ _ h1
      · by_cases h2 : p % q = 0
        · exact Or.inl h2
        right
        refine ih.1 _ _ ?_
        have h3 := fbn_mono n
        rw [fbn_s] at h
        have h4 : q % (p % q) = q - p % q := by
          rw [Nat.mod_eq_sub_mod (by omega), Nat.mod_eq_of_lt (by omega)]
        omega
theorem euS_100 (p q : Nat) (h : q < 9223372036854775808) : euS 100 p q := (euS_of 100).1 p q (Nat.lt_trans h (by decide +kernel))
theorem lN_rng {n : Nat} (h : n < 9223372036854775808) : (lN n).toInt = (n : Int) := pk_lT (by omega)
theorem lN_zero {n : Nat} (h : n < 9223372036854775808) : lN n = 0 ↔ n = 0 := by
  rw [← Int64.toInt_inj, lN_rng h]
  show (n : Int) = 0 ↔ n = 0
  omega
theorem absN_lt {a : Int64} (h : ¬ a = MINL) : a.toInt.natAbs < 9223372036854775808 := by
  have h1 := l_rng a
  have h2 : ¬ a.toInt = -9223372036854775808 := fun q => h (l_min.mpr q)
  omega
theorem abs_lN {a : Int64} (h : ¬ a = MINL) : (if (0 : Int64) ≤ a then a else -a) = lN a.toInt.natAbs := by
  have h1 := absN_lt h
  apply Int64.toInt_inj.mp
  rw [lN_rng h1]
  split
  · rename_i h2
    have h3 : 0 ≤ a.toInt := Int64.le_iff_toInt_le.mp h2
    omega
  · rename_i h2
    have h3 : ¬ 0 ≤ a.toInt := fun q => h2 (Int64.le_iff_toInt_le.mpr q)
    rw [Int64.toInt_neg, l_bm (by omega) (by omega)]
    omega
theorem div_loop (Φ : Int64 → Prop) : ∀ (n i p q : Nat), i + n = 100 → p < 9223372036854775808 → q < 9223372036854775808 → euS n p q → Φ (lN (Nat.gcd p q)) → lpz3 (b_X1_divisor_31 Φ) (n + 1) (lN p) (lN q) (nI i) := by
  intro n
  induction n with
  | zero =>
    intro i p q hi hp hq he h
    refine ⟨fun _ => ?_, fun h1 => absurd ?_ h1⟩
    · have he : q = 0 := he
      subst he
      rwa [Nat.gcd_zero_right] at h
    · rw [show i = 100 by omega]; decide
  | succ n ih =>
    intro i p q hi hp hq he h
    refine zif_f ?_ (zif ?_ ?_)
    · rw [i_le]
      rw [nI_toInt (by omega)]
      show ¬ (100 : Int) ≤ i
      omega
    · intro h1
      rw [lN_zero hq] at h1
      subst h1
      rwa [Nat.gcd_zero_right] at h
    · intro h1
      refine ⟨h1, ?_⟩
      have h2 : ¬ q = 0 := fun z => h1 ((lN_zero hq).mpr z)
      show lpz3 (b_X1_divisor_31 Φ) (n + 1) (lN q) (lN p - lN p / lN q * lN q) (nI i + 1)
      rw [pk_lRem (by omega) (by omega) (by omega), nI_1]
      have h3 := Nat.mod_lt p (show 0 < q by omega)
      refine ih (i + 1) q (p % q) (by omega) hq (by omega) (he.resolve_left h2) ?_
      have e : Nat.gcd p q = Nat.gcd q (p % q) := by rw [Nat.gcd_comm p q, Nat.gcd_rec q p, Nat.gcd_comm]
      rw [← e]; exact h
theorem e_divisor {a b : Int64} (ha : ¬ a = MINL) (hb : ¬ b = MINL) {Φ : Int64 → Prop} (h : Φ (lN (Nat.gcd a.toInt.natAbs b.toInt.natAbs))) : w_X1_divisor a b Φ := by
  have h1 : ∃ n, lpz3 (b_X1_divisor_31 Φ) n (lN a.toInt.natAbs) (lN b.toInt.natAbs) (nI 0) := ⟨101, div_loop Φ 100 0 _ _ rfl (absN_lt ha) (absN_lt hb) (euS_100 _ _ (absN_lt hb)) h⟩
  rw [← abs_lN ha, ← abs_lN hb] at h1
  unfold w_X1_divisor nm
  refine ⟨fun p => ⟨fun q => ?_, fun q => ?_⟩, fun p => ⟨fun q => ?_, fun q => ?_⟩⟩
  · rw [if_pos p, if_pos q] at h1; exact h1
  · rw [if_pos p, if_neg q] at h1; exact h1
  · rw [if_neg p, if_pos q] at h1; exact h1
  · rw [if_neg p, if_neg q] at h1; exact h1
theorem l_rem (x y : Int64) (hy : ¬ y = 0) : (x - x / y * y).toInt = x.toInt.tmod y.toInt := by
  have hy0 : y.toInt ≠ 0 := fun h => hy (Int64.toInt_inj.mp (by rw [h]; rfl))
  have e : x - x / y * y = Int64.ofInt (x.toInt.tmod y.toInt) := by
    have e1 : x / y = Int64.ofInt (x.toInt.tdiv y.toInt) := by
      apply Int64.toInt_inj.mp
      rw [Int64.toInt_div, Int64.toInt_ofInt]
    have e2 : x / y * y = Int64.ofInt (x.toInt.tdiv y.toInt * y.toInt) := by
      rw [Int64.ofInt_mul, Int64.ofInt_toInt, e1]
    have e3 : x = Int64.ofInt x.toInt := (Int64.ofInt_toInt x).symm
    have e4 := Int.mul_tdiv_add_tmod x.toInt y.toInt
    calc x - x / y * y = Int64.ofInt x.toInt - Int64.ofInt (x.toInt.tdiv y.toInt * y.toInt) := by rw [e2, ← e3]
      _ = Int64.ofInt (x.toInt - x.toInt.tdiv y.toInt * y.toInt) := (Int64.ofInt_sub _ _).symm
      _ = _ := by
        congr 1
        rw [Int.mul_comm] at e4
        omega
  have h1 : (x.toInt.tmod y.toInt).natAbs < y.toInt.natAbs := by
    rw [Int.natAbs_tmod]
    exact Nat.mod_lt _ (by omega)
  have h2 := l_rng y
  rw [e, Int64.toInt_ofInt]
  exact l_bm (by omega) (by omega)
theorem com_loop (J : Int64 → Prop) (g : Nat) (hJ : ∀ v : Int64, v.toInt.natAbs = g → J v) : ∀ (n : Nat) (x y : Int64), y.toInt.natAbs < n → Nat.gcd x.toInt.natAbs y.toInt.natAbs = g → lpz2 (b_X12_common_6 J) n x y := by
  intro n
  induction n with
  | zero => intro x y h; omega
  | succ n ih =>
    intro x y h hg
    refine zif (fun h1 => hJ x ?_) (fun h1 => ⟨h1, ?_⟩)
    · subst h1
      have e : (0 : Int64).toInt.natAbs = 0 := rfl
      rw [e, Nat.gcd_zero_right] at hg
      exact hg
    · have hy0 : y.toInt ≠ 0 := fun q => h1 (Int64.toInt_inj.mp (by rw [q]; rfl))
      have e := l_rem x y h1
      have h2 : (x - x / y * y).toInt.natAbs = x.toInt.natAbs % y.toInt.natAbs := by rw [e, Int.natAbs_tmod]
      have h3 := Nat.mod_lt x.toInt.natAbs (show 0 < y.toInt.natAbs by omega)
      refine ih _ _ (by rw [h2]; omega) ?_
      rw [h2, Nat.gcd_comm, ← Nat.gcd_rec, Nat.gcd_comm]
      exact hg
theorem e_common {a b : Int64} {Φ : Int64 → Prop} (h : ∀ g : Int64, (¬ a = MINL → ¬ b = MINL → g = lN (Nat.gcd a.toInt.natAbs b.toInt.natAbs)) → Φ g) : w_X12_common a b Φ := by
  unfold w_X12_common nm
  refine ⟨_, com_loop _ (Nat.gcd a.toInt.natAbs b.toInt.natAbs) (fun v hv => ?_) (b.toInt.natAbs + 1) a b (Nat.lt_succ_self _) rfl⟩
  have key : ∀ u : Int64, u = (if (0 : Int64) ≤ v then v else -v) → Φ u := by
    intro u hu
    refine h u (fun ha hb => ?_)
    have h1 := absN_lt ha
    have h2 := absN_lt hb
    have h3 : Nat.gcd a.toInt.natAbs b.toInt.natAbs < 9223372036854775808 := by
      by_cases h4 : a.toInt.natAbs = 0
      · rw [h4, Nat.gcd_zero_left]; exact h2
      · exact Nat.lt_of_le_of_lt (Nat.gcd_le_left _ (by omega)) h1
    have h5 : ¬ v = MINL := by
      intro q
      rw [q] at hv
      have e : MINL.toInt.natAbs = 9223372036854775808 := by decide
      omega
    rw [hu, abs_lN h5, hv]
  refine ⟨fun p => key _ (by rw [if_pos p]), fun p => key _ (by rw [if_neg p])⟩
