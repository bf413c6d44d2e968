/-! forms, as functions -/
def inn (a : Int64) (lo : Nat) : Nat → (Nat → Int64) → (Nat → Int64)
  | 0, f => f
  | n + 1, f => inn a lo n (vp_updL f (lo + n) (f (lo + n) + a * f (lo + n + 1)))
def shOut (a : Int64) (d : Nat) : Nat → Nat → (Nat → Int64) → (Nat → Int64)
  | 0, _, f => f
  | n + 1, v, f => shOut a d n (v + 1) (inn a v (d - v) f)
def hor (a : Int64) (c : Nat → Int64) : Nat → (Nat → Int64) → (Nat → Int64)
  | 0, p => p
  | n + 1, p => hor a c n (fun j => if j = 0 then mulL a p 0 + c n else mulL a p j)
def itM (a : Int64) : Nat → (Nat → Int64) → (Nat → Int64)
  | 0, f => f
  | n + 1, f => itM a n (mulL a f)
def e0v (x : Int64) : Nat → Int64 := fun j => if j = 0 then x else 0
def cirM (C : Nat → Int64) (d : Nat) : Nat → (Nat → Int64)
  | 0 => z0
  | n + 1 => fun j => cirM C d n j + itM (-1) (d - n) (itM 1 n (e0v (C n))) j
def cirX (C : Nat → Int64) : Nat → (Nat → Int64) → (Nat → Int64) → (Nat → Int64)
  | 0, f, _ => f
  | n + 1, f, g => cirX C n (fun j => mulL 1 f j + C n * g j) (mulL (-1) g)
theorem shift_eq (a : Int64) (C : Nat → Int64) (d : Nat) (hd : d ≤ 6) (hz : ∀ j, d < j → j < 7 → C j = 0) (j : Nat) (hj : j < 7) : shOut a d d 0 C j = hor a C (d + 1) z0 j := by
  have hd : d = 0 ∨ d = 1 ∨ d = 2 ∨ d = 3 ∨ d = 4 ∨ d = 5 ∨ d = 6 := by omega
  have hj : j = 0 ∨ j = 1 ∨ j = 2 ∨ j = 3 ∨ j = 4 ∨ j = 5 ∨ j = 6 := by omega
  have z1 := hz 1
  have z2 := hz 2
  have z3 := hz 3
  have z4 := hz 4
  have z5 := hz 5
  have z6 := hz 6
  clear hz
  rcases hd with rfl | rfl | rfl | rfl | rfl | rfl | rfl <;> rcases hj with rfl | rfl | rfl | rfl | rfl | rfl | rfl <;> simp [shOut, hor, inn, mulL, updL_at, z0] at * <;> grind
theorem cir_eq (C : Nat → Int64) (d : Nat) (hd : d ≤ 6) (j : Nat) (hj : j < 7) : cirX C (d + 1) z0 (e0v 1) j = cirM C d (d + 1) j := by
  have hd : d = 0 ∨ d = 1 ∨ d = 2 ∨ d = 3 ∨ d = 4 ∨ d = 5 ∨ d = 6 := by omega
  have hj : j = 0 ∨ j = 1 ∨ j = 2 ∨ j = 3 ∨ j = 4 ∨ j = 5 ∨ j = 6 := by omega
  rcases hd with rfl | rfl | rfl | rfl | rfl | rfl | rfl <;> rcases hj with rfl | rfl | rfl | rfl | rfl | rfl | rfl <;> simp [cirX, cirM, itM, mulL, z0, e0v] <;> grind
def formF (a1 : Int32) (C : Nat → Int64) : Nat → Int64 :=
  if a1 = 0 then C else if a1 = 1 then (fun j => if j % 2 = 1 then -C j else C j) else if a1 = 2 then (fun j => if j < dg C then C (dg C - 1 - j) else 0) else if a1 = 3 then cirM C (dg C - 1) (dg C) else hor (Int32.toInt64 (a1 - 30)) C (dg C) z0
/-- bounds -/
def bd (f : Nat → Int64) (B : Nat) : Prop := ∀ j, j < 7 → (f j).toInt.natAbs ≤ B
theorem bd_mono {f : Nat → Int64} {B B' : Nat} (h : bd f B) (hB : B ≤ B') : bd f B' := fun j hj => Nat.le_trans (h j hj) hB
theorem bd_add {x y : Int64} {A B : Nat} (hx : x.toInt.natAbs ≤ A) (hy : y.toInt.natAbs ≤ B) (hb : A + B < 2 ^ 62) : (x + y).toInt.natAbs ≤ A + B := by
  rw [l_add, l_bm (by omega) (by omega)]; omega
theorem bd_neg {x : Int64} {A : Nat} (hx : x.toInt.natAbs ≤ A) (hb : A < 2 ^ 62) : (-x).toInt.natAbs ≤ A := by
  rw [Int64.toInt_neg, l_bm (by omega) (by omega)]; omega
theorem bd_mul {x y : Int64} {A B : Nat} (hx : x.toInt.natAbs ≤ A) (hy : y.toInt.natAbs ≤ B) (hb : A * B < 2 ^ 62) : (x * y).toInt.natAbs ≤ A * B := by
  have h1 : (x.toInt * y.toInt).natAbs ≤ A * B := by rw [Int.natAbs_mul]; exact Nat.mul_le_mul hx hy
  rw [l_mul, l_bm (by omega) (by omega)]; exact h1
theorem bd_mulL {a : Int64} {f : Nat → Int64} {A B : Nat} (ha : a.toInt.natAbs ≤ A) (hf : bd f B) (hb : B + A * B < 2 ^ 62) : bd (mulL a f) (B + A * B) := by
  intro j hj
  unfold mulL
  refine bd_add ?_ (bd_mul ha (hf j hj) (by omega)) hb
  split
  · exact Nat.zero_le _
  · exact hf _ (by omega)
theorem bd_ne {f : Nat → Int64} {B : Nat} (h : bd f B) (hb : B < 2 ^ 62) (j : Nat) (hj : j < 7) : ¬ f j = MINL := by
  intro q
  have h1 := h j hj
  have h2 : MINL.toInt = -9223372036854775808 := by decide
  rw [q, h2] at h1
  omega
theorem bd_z0 (B : Nat) : bd z0 B := fun j _ => Nat.zero_le _
theorem bd_hor {a : Int64} {c : Nat → Int64} (ha : a.toInt.natAbs ≤ 20) (hc : bd c 200000) : ∀ n p B, n ≤ 7 → bd p B → B * 21 ^ n + 200000 * 21 ^ n ≤ 200000 * 21 ^ 8 → bd (hor a c n p) (200000 * 21 ^ 8) := by
  intro n
  induction n with
  | zero => intro p B _ hp hB; exact bd_mono hp (by omega)
  | succ n ih =>
    intro p B hn hp hB
    have hpow : 0 < 21 ^ n := Nat.pow_pos (by omega)
    have h1 : B * 21 ^ (n + 1) = (21 * B) * 21 ^ n := by rw [Nat.pow_succ, Nat.mul_comm (21 ^ n) 21, ← Nat.mul_assoc, Nat.mul_comm B 21]
    have h2 : 200000 * 21 ^ (n + 1) = 4200000 * 21 ^ n := by rw [Nat.pow_succ]; omega
    have hBs : B ≤ 200000 * 21 ^ 8 := by
      have : B * 1 ≤ B * 21 ^ (n + 1) := Nat.mul_le_mul (Nat.le_refl B) (Nat.pow_pos (by omega))
      omega
    have hm := bd_mulL ha hp (show B + 20 * B < 2 ^ 62 by omega)
    refine ih _ (21 * B + 200000) (by omega) (fun j hj => ?_) ?_
    · split
      · have := bd_add (hm 0 (by omega)) (hc n (by omega)) (show B + 20 * B + 200000 < 2 ^ 62 by omega)
        omega
      · have := hm j hj
        omega
    · rw [Nat.add_mul]
      omega
theorem bd_itM {a : Int64} (ha : a.toInt.natAbs ≤ 1) : ∀ n p B, bd p B → B * 2 ^ n ≤ 25600000 → bd (itM a n p) (B * 2 ^ n) := by
  intro n
  induction n with
  | zero => intro p B hp _; exact bd_mono hp (by omega)
  | succ n ih =>
    intro p B hp hB
    have h1 : B * 2 ^ (n + 1) = (2 * B) * 2 ^ n := by rw [Nat.pow_succ, Nat.mul_comm (2 ^ n) 2, ← Nat.mul_assoc, Nat.mul_comm B 2]
    have hBs : B * 1 ≤ B * 2 ^ (n + 1) := Nat.mul_le_mul (Nat.le_refl B) (Nat.pow_pos (by omega))
    rw [h1]
    refine ih _ (2 * B) (bd_mono (bd_mulL ha hp (show B + 1 * B < 2 ^ 62 by omega)) (by omega)) (by omega)
theorem bd_e0v {x : Int64} {B : Nat} (h : x.toInt.natAbs ≤ B) : bd (e0v x) B := by
  intro j _
  unfold e0v
  split
  · exact h
  · exact Nat.zero_le _
theorem bd_cirM {C : Nat → Int64} (hC : bd C 200000) {d : Nat} (hd : d ≤ 6) : ∀ n, n ≤ d + 1 → bd (cirM C d n) (n * 12800000) := by
  intro n
  induction n with
  | zero => intro _; exact bd_z0 _
  | succ n ih =>
    intro hn j hj
    have h1 := ih (by omega) j hj
    have p1 : 2 ^ n * 2 ^ (d - n) = 2 ^ d := by rw [← Nat.pow_add]; congr 1; omega
    have p2 : 2 ^ d ≤ 2 ^ 6 := Nat.pow_le_pow_right (by omega) hd
    have p3 : 2 ^ n * 1 ≤ 2 ^ n * 2 ^ (d - n) := Nat.mul_le_mul (Nat.le_refl _) (Nat.pow_pos (by omega))
    have h2 := bd_itM (a := 1) (by decide) n _ 200000 (bd_e0v (hC n (by omega))) (by omega)
    have h3 := bd_itM (a := -1) (by decide) (d - n) _ _ h2 (by rw [Nat.mul_assoc, p1]; omega)
    rw [Nat.mul_assoc, p1] at h3
    have h4 := bd_add h1 (Nat.le_trans (h3 j hj) (show 200000 * 2 ^ d ≤ 12800000 by omega)) (by omega)
    rw [show (n + 1) * 12800000 = n * 12800000 + 12800000 by omega]
    exact h4
/-- a form's argument -/
def okF (a : Int32) : Prop := (0 ≤ a.toInt ∧ a.toInt ≤ 3) ∨ (10 ≤ a.toInt ∧ a.toInt ≤ 50)
theorem okF_30 {a : Int32} (h : okF a) (h0 : a ≠ 0) (h1 : a ≠ 1) (h2 : a ≠ 2) (h3 : a ≠ 3) : (Int32.toInt64 (a - 30)).toInt = a.toInt - 30 ∧ 10 ≤ a.toInt ∧ a.toInt ≤ 50 := by
  have e0 : a.toInt ≠ 0 := fun q => h0 (Int32.toInt_inj.mp q)
  have e1 : a.toInt ≠ 1 := fun q => h1 (Int32.toInt_inj.mp q)
  have e2 : a.toInt ≠ 2 := fun q => h2 (Int32.toInt_inj.mp q)
  have e3 : a.toInt ≠ 3 := fun q => h3 (Int32.toInt_inj.mp q)
  unfold okF at h
  have hr : 10 ≤ a.toInt ∧ a.toInt ≤ 50 := by omega
  refine ⟨?_, hr⟩
  rw [Int32.toInt_toInt64, Int32.toInt_sub, show (30 : Int32).toInt = 30 from rfl]
  exact Int.bmod_eq_of_le (by omega) (by omega)
theorem formF_bd {a : Int32} {C : Nat → Int64} (ha : okF a) (hC : bd C 200000) : bd (formF a C) (200000 * 21 ^ 8) := by
  have hd := dg_le C
  unfold formF
  split
  · exact bd_mono hC (by omega)
  rename_i h0
  split
  · intro j hj
    dsimp only
    split
    · exact Nat.le_trans (bd_neg (hC j hj) (by omega)) (by omega)
    · exact Nat.le_trans (hC j hj) (by omega)
  rename_i h1
  split
  · intro j hj
    dsimp only
    split
    · exact Nat.le_trans (hC _ (by omega)) (by omega)
    · exact Nat.zero_le _
  rename_i h2
  split
  · exact bd_mono (bd_cirM hC (by omega) (dg C) (by omega)) (by omega)
  rename_i h3
  obtain ⟨e1, e2⟩ := okF_30 ha h0 h1 h2 h3
  refine bd_hor (by rw [e1]; omega) hC (dg C) z0 0 hd (bd_z0 0) ?_
  have : 21 ^ (dg C) ≤ 21 ^ 7 := Nat.pow_le_pow_right (by omega) hd
  omega
theorem formF_ne {a : Int32} {C : Nat → Int64} (ha : okF a) (hC : bd C 200000) (j : Nat) (hj : j < 7) : ¬ formF a C j = MINL := bd_ne (formF_bd ha hC) (by decide) j hj
