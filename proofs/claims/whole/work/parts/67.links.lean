/-! the links -/
def ngF (r : Nat → Int64) : Nat → Int64 := fun j => -r j
def derF (C : Nat → Int64) : Nat → Int64 := fun j => if j < 6 then Int32.toInt64 (nI (j + 1)) * C (j + 1) else 0
def LK (C : Nat → Int64) : Nat → Nat → Int64
  | 0 => shr 7 C
  | 1 => shr 7 (derF C)
  | n + 2 => shr 7 (ngF ((remN (LK C (n + 1)) 7 (LK C n)).getD z0))
def rmK (C : Nat → Int64) (k : Nat) : Option (Nat → Int64) := remN (LK C (k + 1)) 7 (LK C k)
def goK (C : Nat → Int64) (k : Nat) : Prop := ∃ q, rmK C k = some q ∧ 1 ≤ dg q
def noM (r : Nat → Int64) : Prop := ∀ j, j < 7 → ¬ r j = MINL
theorem neg1_L (x : Int64) : Int32.toInt64 (-1) * x = -x := by
  apply Int64.toInt_inj.mp
  rw [l_mul, Int64.toInt_neg, show (Int32.toInt64 (-1)).toInt = -1 from by decide, Int.neg_one_mul]
theorem one_L (x : Int64) : Int32.toInt64 1 * x = x := by
  rw [show Int32.toInt64 1 = 1 from by decide]; exact Int64.one_mul x
theorem dgN_iff {f g : Nat → Int64} : ∀ n, (∀ j, j < n → (f j = 0 ↔ g j = 0)) → dgN f n = dgN g n := by
  intro n
  induction n with
  | zero => intro _; rfl
  | succ n ih =>
    intro h
    rw [dgN, dgN, ih (fun j hj => h j (by omega))]
    by_cases e : f n = 0
    · rw [if_pos e, if_pos ((h n (by omega)).mp e)]
    · rw [if_neg e, if_neg (fun z => e ((h n (by omega)).mpr z))]
theorem shr_at {r : Nat → Int64} {j : Nat} (hj : j < 7) : shr 7 r j = r j / lN (gcdN r 7) := by
  unfold shr cut
  rw [if_pos hj]; rfl
theorem shr_iff {r : Nat → Int64} (h : noM r) (j : Nat) (hj : j < 7) : shr 7 r j = 0 ↔ r j = 0 := by
  rw [shr_at hj]
  constructor
  · intro z
    apply Classical.byContradiction
    intro q
    exact l_div_nz q (h j hj) (gcdN_dvd 7 j hj) (gcdN_lt 7 h) z
  · intro z
    rw [z]
    exact Int64.zero_div
theorem shr_dg {r : Nat → Int64} (h : noM r) : dg (shr 7 r) = dg r := dgN_iff 7 (shr_iff h)
theorem shr_noM {r : Nat → Int64} (h : noM r) : noM (shr 7 r) := fun j _ => shr_ne h j
theorem gcdN_congr {f g : Nat → Int64} : ∀ n, (∀ j, j < n → f j = g j) → gcdN f n = gcdN g n := by
  intro n
  induction n with
  | zero => intro _; rfl
  | succ n ih => intro h; rw [gcdN, gcdN, ih (fun j hj => h j (by omega)), h n (by omega)]
theorem shr_congr {r s : Nat → Int64} (h : ∀ j, j < 7 → r j = s j) : shr 7 r = shr 7 s := by
  funext j
  unfold shr cut
  split
  · rename_i hj
    dsimp only
    rw [gcdN_congr 7 h, h j hj]
  · rfl
theorem ngF_noM {r : Nat → Int64} (h : noM r) : noM (ngF r) := fun j hj => neg_neL (h j hj)
theorem ngF_dg {r : Nat → Int64} : dg (ngF r) = dg r := dgN_iff 7 (fun j _ => by
  unfold ngF
  constructor
  · intro z
    have := congrArg (fun x : Int64 => -x) z
    simpa using this
  · intro z; rw [z]; decide)
theorem bd_noM {C : Nat → Int64} (h : bd C 200000) : noM C := fun j hj q => by
  have := h j hj
  rw [q] at this
  revert this
  decide
theorem der_toInt {C : Nat → Int64} (h : bd C 200000) (j : Nat) (hj : j < 6) : (derF C j).toInt = ((j : Int) + 1) * (C (j + 1)).toInt := by
  unfold derF
  rw [if_pos hj, l_mul, il_toInt, nI_toInt (by omega)]
  have b := h (j + 1) (by omega)
  have : ((j + 1 : Nat) : Int) * (C (j + 1)).toInt = ((j : Int) + 1) * (C (j + 1)).toInt := by rw [Int.natCast_add]; rfl
  rw [this]
  have hj' : j = 0 ∨ j = 1 ∨ j = 2 ∨ j = 3 ∨ j = 4 ∨ j = 5 := by omega
  rcases hj' with rfl | rfl | rfl | rfl | rfl | rfl <;> (apply Int.bmod_eq_of_le <;> omega)
theorem der_noM {C : Nat → Int64} (h : bd C 200000) : noM (derF C) := by
  intro j hj q
  have q2 := l_min.mp q
  by_cases e : j < 6
  · rw [der_toInt h j e] at q2
    have b := h (j + 1) (by omega)
    have hj' : j = 0 ∨ j = 1 ∨ j = 2 ∨ j = 3 ∨ j = 4 ∨ j = 5 := by omega
    rcases hj' with rfl | rfl | rfl | rfl | rfl | rfl <;> omega
  · unfold derF at q
    rw [if_neg e] at q
    exact absurd q (by decide)
theorem der_z {C : Nat → Int64} (h : bd C 200000) (j : Nat) (hj : j < 6) : derF C j = 0 ↔ C (j + 1) = 0 := by
  have e := der_toInt h j hj
  constructor
  · intro z
    rw [z, show (0 : Int64).toInt = 0 from rfl] at e
    apply Int64.toInt_inj.mp
    show (C (j + 1)).toInt = 0
    have hj' : j = 0 ∨ j = 1 ∨ j = 2 ∨ j = 3 ∨ j = 4 ∨ j = 5 := by omega
    rcases hj' with rfl | rfl | rfl | rfl | rfl | rfl <;> omega
  · intro z
    rw [z, show (0 : Int64).toInt = 0 from rfl, Int.mul_zero] at e
    apply Int64.toInt_inj.mp
    rw [e]; rfl
theorem der_dg {C : Nat → Int64} (h : bd C 200000) (h2 : 2 ≤ dg C) : dg (derF C) = dg C - 1 := by
  have dC := dg_le C
  have h1 : dg (derF C) ≤ dg C - 1 := dgN_lt 7 (fun j hj h7 => by
    by_cases e : j < 6
    · exact (der_z h j e).mpr (dgN_z C 7 _ (by show dg C ≤ _; omega) (by omega))
    · unfold derF; rw [if_neg e])
  have h3 : ¬ dg (derF C) ≤ dg C - 2 := by
    intro q
    have z := dgN_z (derF C) 7 (dg C - 2) q (by omega)
    have := (der_z h (dg C - 2) (by omega)).mp z
    rw [show dg C - 2 + 1 = dg C - 1 by omega] at this
    exact dg_top (by omega) this
  omega
/-- what holds of the links while the chain goes on -/
theorem lk_ok {C : Nat → Int64} (h : bd C 200000) (h2 : 2 ≤ dg C) : ∀ k, (∀ i, i < k → goK C i) → noM (LK C k) ∧ noM (LK C (k + 1)) ∧ 1 ≤ dg (LK C (k + 1)) ∧ dg (LK C (k + 1)) < dg (LK C k) ∧ dg (LK C k) + k ≤ 7 := by
  have dC := dg_le C
  intro k
  induction k with
  | zero =>
    intro _
    have e0 : LK C 0 = shr 7 C := rfl
    have e1 : LK C 1 = shr 7 (derF C) := rfl
    have d0 : dg (LK C 0) = dg C := by rw [e0]; exact shr_dg (bd_noM h)
    have d1 : dg (LK C 1) = dg C - 1 := by rw [e1, shr_dg (der_noM h), der_dg h h2]
    exact ⟨by rw [e0]; exact shr_noM (bd_noM h), by show noM (LK C 1); rw [e1]; exact shr_noM (der_noM h), (show 1 ≤ dg (LK C 1) by omega), (show dg (LK C 1) < dg (LK C 0) by omega), by omega⟩
  | succ k ih =>
    intro hg
    obtain ⟨a1, a2, a3, a4, a5⟩ := ih (fun i hi => hg i (by omega))
    obtain ⟨q, q1, q2⟩ := hg k (by omega)
    have hq : noM q := remN_ne 7 _ _ a1 q1
    have hd := remN_dg a2 a3 7 _ _ (dg_le _) q1
    have e2 : LK C (k + 2) = shr 7 (ngF q) := by
      show shr 7 (ngF ((rmK C k).getD z0)) = _
      rw [q1]; rfl
    have d2 : dg (LK C (k + 2)) = dg q := by rw [e2, shr_dg (ngF_noM hq), ngF_dg]
    exact ⟨a2, by show noM (LK C (k + 2)); rw [e2]; exact shr_noM (ngF_noM hq), by show 1 ≤ dg (LK C (k + 2)); omega, by show dg (LK C (k + 2)) < _; omega, by omega⟩
/-- division by 1 or by -1 -/
theorem remU {B : Nat → Int64} (h1 : dg B = 1) (hB : (B 0).toInt.natAbs = 1) : ∀ n r, noM r → ∃ q, remN B n r = some q := by
  intro n
  induction n with
  | zero => intro r _; exact ⟨r, rfl⟩
  | succ n ih =>
    intro r hr
    rw [remN]
    by_cases hd : dg r < dg B
    · rw [if_pos hd]; exact ⟨r, rfl⟩
    · rw [if_neg hd]
      have nB : ¬ B 0 = MINL := fun q => by
        rw [q] at hB; revert hB; decide
      have ea : (absL (B (dg B - 1))).toInt = 1 := by
        rw [h1, absL_toInt nB, hB]; rfl
      have fit : ∀ x : Int64, ¬ x = MINL → zfit x.toInt = true := fun x hx => by
        rw [zfit_iff]
        have a := l_rng x
        have b : ¬ x.toInt = -9223372036854775808 := fun q => hx (l_min.mpr q)
        omega
      have om : ∀ j, j < 7 → okm B r j = true := fun j hj => by
        unfold okm
        rw [ea, Int.mul_one]
        exact fit _ (hr j hj)
      have all : ∀ j, j < 7 → ∃ v, lowO B r j = some v := by
        intro j hj
        unfold lowO
        by_cases e : dg r - dg B ≤ j ∧ j < dg r
        · rw [if_pos e, finO_if]
          have dr := dg_le r
          have ej : j = dg r - 1 := by omega
          have e0 : j - (dg r - dg B) = 0 := by omega
          have hp : okp B r j = true := by
            unfold okp
            rw [e0]
            rw [zfit_iff]
            have a := l_rng (r (dg r - 1))
            have b : ¬ (r (dg r - 1)).toInt = -9223372036854775808 := fun q => hr _ (by omega) (l_min.mpr q)
            have c : (B 0).toInt = 1 ∨ (B 0).toInt = -1 := by omega
            rcases c with c | c <;> rw [c] <;> omega
          have hs : oks B r j = true := by
            unfold oks
            have m1 : (mdV B r j).toInt = (r j).toInt := by
              unfold mdV
              have := om j hj
              unfold okm at this
              rw [l_mulF this, ea, Int.mul_one]
            have m2 : (ptV B r j).toInt = (r j).toInt := by
              unfold ptV
              unfold okp at hp
              rw [e0] at hp ⊢
              have m3 := l_mulF hp
              unfold sgL
              rw [h1]
              split
              · rename_i q3
                rw [l_le, show (0 : Int64).toInt = 0 from rfl] at q3
                rw [m3, show (B (1 - 1)).toInt = (B 0).toInt from rfl] at *
                rw [show (B 0).toInt = 1 by have : 0 ≤ (B 0).toInt := q3; omega, Int.mul_one, ej]
              · rename_i q3
                rw [l_le, show (0 : Int64).toInt = 0 from rfl] at q3
                rw [neg_toL (zfit_ne hp), m3]
                rw [show (B 0).toInt = -1 by have : ¬ 0 ≤ (B 0).toInt := q3; omega, ej]; omega
            rw [m1, m2, Int.sub_self]
            decide
          rw [if_pos ⟨om j hj, hp, hs⟩]
          exact ⟨_, rfl⟩
        · rw [if_neg e, midO_if, if_pos (om j hj)]
          exact ⟨_, rfl⟩
      rw [rowS_all all, Option.bind_some]
      refine ih _ (fun j hj => ?_)
      obtain ⟨v, hv⟩ := all j hj
      rw [getR_at hj hv]
      exact lowO_ne hv
theorem shr_unit {r : Nat → Int64} (h : noM r) (h1 : dg r = 1) : (shr 7 r 0).toInt.natAbs = 1 := by
  have z : ∀ j, 1 ≤ j → j < 7 → r j = 0 := fun j hj h7 => dgN_z r 7 j (by show dg r ≤ j; omega) h7
  have hr0 : r 0 ≠ 0 := by
    have := dg_top (F := r) (by omega)
    rw [h1] at this
    exact this
  have eg : gcdN r 7 = (r 0).toInt.natAbs := by
    have e : ∀ n, n ≤ 6 → gcdN r (n + 1) = (r 0).toInt.natAbs := by
      intro n
      induction n with
      | zero => intro _; show Nat.gcd 0 _ = _; rw [Nat.gcd_zero_left]
      | succ n ih =>
        intro hn
        rw [gcdN, ih (by omega), z (n + 1) (by omega) (by omega)]
        exact Nat.gcd_zero_right _
    exact e 6 (by omega)
  have hl := absN_lt (h 0 (by omega))
  have hne : ¬ (r 0).toInt = 0 := fun q => hr0 (Int64.toInt_inj.mp q)
  have hmin : r 0 ≠ Int64.minValue := fun q => h 0 (by omega) (by rw [q]; decide)
  rw [shr_at (by omega), eg, Int64.toInt_div_of_ne_left _ _ hmin, lN_rng hl]
  by_cases s : 0 ≤ (r 0).toInt
  · rw [show (((r 0).toInt.natAbs : Nat) : Int) = (r 0).toInt by omega, Int.tdiv_self hne]; rfl
  · have e2 : (r 0).toInt = -(((r 0).toInt.natAbs : Nat) : Int) := by omega
    have e3 : (r 0).toInt.tdiv (((r 0).toInt.natAbs : Nat) : Int) = -1 := by
      conv => lhs; arg 1; rw [e2]
      rw [Int.neg_tdiv, Int.tdiv_self (by omega)]
    rw [e3]; rfl
def chS (C : Nat → Int64) (o : Nat) : Prop := o ≤ 5 ∧ (∀ k, k < o → goK C k) ∧ ¬ goK C o ∧ (o = 5 → ∃ q, rmK C o = some q)
theorem ch_ex {C : Nat → Int64} (h : bd C 200000) (h2 : 2 ≤ dg C) : ∃ o, chS C o := by
  obtain ⟨o, o1, o2, o3⟩ := first_bad (goK C) 5
  by_cases e : o = 5
  · subst e
    obtain ⟨a1, a2, a3, a4, a5⟩ := lk_ok h h2 5 o2
    have a3' : 1 ≤ dg (LK C 6) := a3
    have a4' : dg (LK C 6) < dg (LK C 5) := a4
    have d6 : dg (LK C 6) = 1 := by omega
    have u : (LK C 6 0).toInt.natAbs = 1 := by
      obtain ⟨q, q1, q2⟩ := o2 4 (by omega)
      obtain ⟨b1, b2, b3, b4, b5⟩ := lk_ok h h2 4 (fun i hi => o2 i (by omega))
      have hq : noM q := remN_ne 7 _ _ b1 q1
      have e2 : LK C 6 = shr 7 (ngF q) := by
        show shr 7 (ngF ((rmK C 4).getD z0)) = _
        rw [q1]; rfl
      rw [e2] at d6 ⊢
      exact shr_unit (ngF_noM hq) (by rw [← shr_dg (ngF_noM hq)]; exact d6)
    obtain ⟨q, hq⟩ := remU d6 u 7 (LK C 5) a1
    refine ⟨5, Nat.le_refl _, o2, fun z => ?_, fun _ => ⟨q, hq⟩⟩
    obtain ⟨q', q1, q2⟩ := z
    have := remN_dg a2 a3 7 _ _ (dg_le _) q1
    omega
  · exact ⟨o, o1, o2, o3 (by omega), fun z => absurd z e⟩
