/-! PURE from here on: what memories hold -/
theorem mI1 (μ : ZMem) (k i : Nat) (v : Int32) (a : Nat) : (zz_upI μ k i v).1 a = if a = k then upd (μ.1 k) i v else μ.1 a := rfl
theorem mI2 (μ : ZMem) (k i : Nat) (v : Int32) : (zz_upI μ k i v).2 = μ.2 := rfl
theorem mJ1 (μ : ZMem) (k i : Nat) (v : Int64) : (zz_upJ μ k i v).1 = μ.1 := rfl
theorem mJ2 (μ : ZMem) (k i : Nat) (v : Int64) (a : Nat) : (zz_upJ μ k i v).2 a = if a = k then vp_updL (μ.2 k) i v else μ.2 a := rfl
theorem mcI1 (μ : ZMem) (k0 k1 sp dp n a : Nat) : (zz_cpI μ k0 k1 sp dp n).1 a = if a = k1 then va_cpy (μ.1 k0) (μ.1 k1) sp dp n else μ.1 a := rfl
theorem mcI2 (μ : ZMem) (k0 k1 sp dp n : Nat) : (zz_cpI μ k0 k1 sp dp n).2 = μ.2 := rfl
theorem mcJ1 (μ : ZMem) (k0 k1 sp dp n : Nat) : (zz_cpJ μ k0 k1 sp dp n).1 = μ.1 := rfl
theorem mcJ2 (μ : ZMem) (k0 k1 sp dp n a : Nat) : (zz_cpJ μ k0 k1 sp dp n).2 a = if a = k1 then va_cpy (μ.2 k0) (μ.2 k1) sp dp n else μ.2 a := rfl
/-- a whole cell is set -/
def stI (μ : ZMem) (k : Nat) (f : Nat → Int32) : ZMem := (fun a => if a = k then f else μ.1 a, μ.2)
def stJ (μ : ZMem) (k : Nat) (f : Nat → Int64) : ZMem := (μ.1, fun a => if a = k then f else μ.2 a)
theorem stI1 (μ : ZMem) (k : Nat) (f : Nat → Int32) (a : Nat) : (stI μ k f).1 a = if a = k then f else μ.1 a := rfl
theorem stI2 (μ : ZMem) (k : Nat) (f : Nat → Int32) : (stI μ k f).2 = μ.2 := rfl
theorem stJ1 (μ : ZMem) (k : Nat) (f : Nat → Int64) : (stJ μ k f).1 = μ.1 := rfl
theorem stJ2 (μ : ZMem) (k : Nat) (f : Nat → Int64) (a : Nat) : (stJ μ k f).2 a = if a = k then f else μ.2 a := rfl
theorem upI_st (μ : ZMem) (k i : Nat) (v : Int32) : zz_upI μ k i v = stI μ k (upd (μ.1 k) i v) := rfl
theorem upJ_st (μ : ZMem) (k i : Nat) (v : Int64) : zz_upJ μ k i v = stJ μ k (vp_updL (μ.2 k) i v) := rfl
theorem stI_self (μ : ZMem) (k : Nat) : stI μ k (μ.1 k) = μ := by
  refine Prod.ext (funext fun a => ?_) rfl
  rw [stI1]; split
  · rename_i h; rw [h]
  · rfl
theorem stJ_self (μ : ZMem) (k : Nat) : stJ μ k (μ.2 k) = μ := by
  refine Prod.ext rfl (funext fun a => ?_)
  rw [stJ2]; split
  · rename_i h; rw [h]
  · rfl
theorem stI_stI (μ : ZMem) (k : Nat) (f g : Nat → Int32) : stI (stI μ k f) k g = stI μ k g := by
  refine Prod.ext (funext fun a => ?_) rfl
  simp only [stI1]; split <;> rfl
theorem stJ_stJ (μ : ZMem) (k : Nat) (f g : Nat → Int64) : stJ (stJ μ k f) k g = stJ μ k g := by
  refine Prod.ext rfl (funext fun a => ?_)
  simp only [stJ2]; split <;> rfl
theorem upd_at (f : Nat → Int32) (k : Nat) (x : Int32) (j : Nat) : upd f k x j = if j = k then x else f j := rfl
theorem updL_at (f : Nat → Int64) (k : Nat) (x : Int64) (j : Nat) : vp_updL f k x j = if j = k then x else f j := rfl
/-- comparisons as whole numbers -/
theorem i_lt (a b : Int32) : (a < b) = (a.toInt < b.toInt) := propext Int32.lt_iff_toInt_lt
theorem i_le (a b : Int32) : (a ≤ b) = (a.toInt ≤ b.toInt) := propext Int32.le_iff_toInt_le
theorem i_eq (a b : Int32) : (a = b) = (a.toInt = b.toInt) := propext Int32.toInt_inj.symm
theorem l_lt (a b : Int64) : (a < b) = (a.toInt < b.toInt) := propext Int64.lt_iff_toInt_lt
theorem l_le (a b : Int64) : (a ≤ b) = (a.toInt ≤ b.toInt) := propext Int64.le_iff_toInt_le
theorem il_toInt (a : Int32) : (Int32.toInt64 a).toInt = a.toInt := Int32.toInt_toInt64 a
theorem vin_iff (i : Int32) (n : Nat) : vp_in i n ↔ 0 ≤ i.toInt ∧ i.toInt < n := vp_in_iff
theorem vin_of {i : Int32} {n : Nat} (h : vp_in i n) (hn : n < 2 ^ 31) : ∃ j : Nat, j < n ∧ i = nI j := vp_in_of h hn
theorem nn_clamp {n : Nat} (h : n < 2 ^ 31) : Int32.toNatClampNeg (nI n) = n := nI_clamp h
theorem nn_of {i : Int32} {n : Nat} (h0 : 0 ≤ i.toInt) (hn : i.toInt ≤ n) (hb : n < 2 ^ 31) : ∃ j : Nat, j ≤ n ∧ i = nI j := by
  refine ⟨i.toInt.toNat, by omega, ?_⟩
  apply Int32.toInt_inj.mp
  rw [nI_toInt (by omega)]; omega
/-- conditions -/
theorem zif {c A B : Prop} (h1 : c → A) (h2 : ¬ c → B) : (c → A) ∧ (¬ c → B) := ⟨h1, h2⟩
theorem zifn {c A B : Prop} (h1 : ¬ c → A) (h2 : c → B) : (¬ c → A) ∧ (c → B) := ⟨h1, h2⟩
theorem zif_t {c A B : Prop} (h : c) (a : A) : (c → A) ∧ (¬ c → B) := ⟨fun _ => a, fun q => absurd h q⟩
theorem zif_f {c A B : Prop} (h : ¬ c) (b : B) : (c → A) ∧ (¬ c → B) := ⟨fun q => absurd q h, fun _ => b⟩
theorem zifn_t {c A B : Prop} (h : c) (b : B) : (¬ c → A) ∧ (c → B) := ⟨fun q => absurd h q, fun _ => b⟩
theorem zifn_f {c A B : Prop} (h : ¬ c) (a : A) : (¬ c → A) ∧ (c → B) := ⟨fun _ => a, fun q => absurd q h⟩
def bI (c : Prop) [Decidable c] : Int32 := if c then 1 else 0
theorem e_within (a b : Int32) (Φ : Int32 → Prop) : w_X11_isWithin a b Φ ↔ Φ (bI (¬ a < -b ∧ ¬ b < a)) := by
  unfold w_X11_isWithin bI
  by_cases h1 : a < -b
  · simp [h1]
  · by_cases h2 : b < a
    · simp [h1, h2]
    · simp [h1, h2]
theorem e_in (a b c : Int64) (Φ : Int32 → Prop) : w_X12_in a b c Φ ↔ Φ (bI (b.toInt ≤ a.toInt ∧ a.toInt ≤ c.toInt)) := by
  unfold w_X12_in bI
  simp only [l_lt]
  by_cases h1 : a.toInt < b.toInt
  · simp [h1, show ¬ b.toInt ≤ a.toInt by omega]
  · by_cases h2 : c.toInt < a.toInt
    · simp [h1, h2, show ¬ a.toInt ≤ c.toInt by omega]
    · simp [h1, h2, show b.toInt ≤ a.toInt by omega, show a.toInt ≤ c.toInt by omega]
