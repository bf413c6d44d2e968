/-! what is computed, as functions -/
/-- how many places up to the last that isn't nothing -/
def dgN (f : Nat → Int64) : Nat → Nat
  | 0 => 0
  | n + 1 => if f n = 0 then dgN f n else n + 1
def dg (f : Nat → Int64) : Nat := dgN f 7
/-- its degree as the programs have it -/
def hd7 (f : Nat → Int64) : Int32 := nI (dg f) - 1
def zfit (z : Int) : Bool := decide (-9223372036854775808 < z) && decide (z < 9223372036854775808)
def xt (a b : Int64) : Option Int64 := if zfit (a.toInt * b.toInt) then some (a * b) else none
def xp (a b : Int64) : Option Int64 := if zfit (a.toInt + b.toInt) then some (a + b) else none
def xs (a b : Int64) : Option Int64 := if zfit (a.toInt - b.toInt) then some (a - b) else none
/-- how many items row k of degree m has -/
def wd (m k : Nat) : Nat := (m - k) / 2 + 1
def cut (w : Nat) (f : Nat → Int64) : Nat → Int64 := fun j => if j < w then f j else 0
def allS (w : Nat) (f : Nat → Option Int64) : Bool := (List.range w).all fun j => (f j).isSome
def getR (w : Nat) (f : Nat → Option Int64) : Nat → Int64 := cut w fun j => (f j).getD 0
def rowS (w : Nat) (f : Nat → Option Int64) : Option (Nat → Int64) := if allS w f then some (getR w f) else none
def crossIt (A B : Nat → Int64) (j : Nat) : Option Int64 := (xt (B 0) (A (j + 1))).bind fun x => (xt (A 0) (B (j + 1))).bind fun y => (xs x y).map fun v => if B 0 < 0 then -v else v
/-- the first place below w that isn't nothing, w: there is none -/
def fzN (r : Nat → Int64) (w : Nat) : Nat → Nat
  | 0 => w
  | n + 1 => if r (w - (n + 1)) = 0 then fzN r w n else w - (n + 1)
def fz (r : Nat → Int64) (w : Nat) : Nat := fzN r w w
def mendIt (m k w z : Nat) (A r : Nat → Int64) (j : Nat) : Option Int64 :=
  if z = 0 then some (r j) else if z = w then xt (A j) (Int32.toInt64 (nI m - nI k + 1 - 2 * nI j)) else if j + z < w then xp (r j) (if z % 2 = 1 then -r (j + z) else r (j + z)) else some (r j)
def gcdN (r : Nat → Int64) : Nat → Nat
  | 0 => 0
  | n + 1 => Nat.gcd (gcdN r n) (r n).toInt.natAbs
def shr (w : Nat) (r : Nat → Int64) : Nat → Int64 := cut w fun j => r j / Int64.ofNat (gcdN r w)
def csZ (w z : Nat) : Int32 := if z = 0 then 0 else if z = w then 2 else 1
/-- row k before it is mended, out of the two ahead of it -/
def preR (F : Nat → Int64) (m k : Nat) (A B : Nat → Int64) : Option (Nat → Int64) := if k < 2 then some (cut (wd m k) fun j => F (m - k - 2 * j)) else rowS (wd m k) (crossIt A B)
def mendR (m k : Nat) (B r : Nat → Int64) : Option (Nat → Int64) := if k = 0 then some r else rowS (wd m k) (mendIt m k (wd m k) (fz r (wd m k)) B r)
/-- the rows k - 1 and k -/
def rowP (F : Nat → Int64) (m : Nat) : Nat → Option ((Nat → Int64) × (Nat → Int64))
  | 0 => ((preR F m 0 (fun _ => 0) (fun _ => 0)).bind fun r => (mendR m 0 (fun _ => 0) r).map (shr (wd m 0))).map fun r => ((fun _ => 0), r)
  | k + 1 => (rowP F m k).bind fun p => ((preR F m (k + 1) p.1 p.2).bind fun r => (mendR m (k + 1) p.2 r).map (shr (wd m (k + 1)))).map fun r => (p.2, r)
/-- ROW k as it stands in the end, and its CASE -/
def rowK (F : Nat → Int64) (m k : Nat) : Nat → Int64 := ((rowP F m k).getD ((fun _ => 0), (fun _ => 0))).2
def cseK (F : Nat → Int64) (m : Nat) : Nat → Int32
  | 0 => 0
  | k + 1 => match rowP F m k with
    | none => 0
    | some p => match preR F m (k + 1) p.1 p.2 with
      | none => 0
      | some r => csZ (wd m (k + 1)) (fz r (wd m (k + 1)))
/-- the rows up to k are had -/
def okK (F : Nat → Int64) (m k : Nat) : Prop := (rowP F m k).isSome = true
theorem okK_down {F : Nat → Int64} {m k : Nat} (h : okK F m (k + 1)) : okK F m k := by
  unfold okK at h ⊢
  rw [rowP] at h
  cases hr : rowP F m k with
  | none => rw [hr] at h; cases h
  | some p => rfl
theorem okK_le {F : Nat → Int64} {m : Nat} : ∀ {k j : Nat}, okK F m k → j ≤ k → okK F m j := by
  intro k
  induction k with
  | zero => intro j h hj; rw [show j = 0 by omega]; exact h
  | succ k ih =>
    intro j h hj
    by_cases e : j = k + 1
    · rw [e]; exact h
    · exact ih (okK_down h) (by omega)
