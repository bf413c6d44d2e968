/-! values of links, changes of sign -/
def hoN (L : Nat → Int64) (x : Int64) : Nat → Option Int64 → Option Int64
  | 0, o => o
  | n + 1, o => hoN L x n ((o.bind fun v => xt v x).bind fun w => xp w (L n))
def okO (o : Option Int64) : Prop := ∀ v, o = some v → ¬ v = MINL
theorem stepO_ok (L : Nat → Int64) (x : Int64) (n : Nat) (o : Option Int64) : okO ((o.bind fun v => xt v x).bind fun w => xp w (L n)) := by
  intro v h
  rw [Option.bind_eq_some_iff] at h
  obtain ⟨w, _, h⟩ := h
  exact xp_ne h
theorem enc_t {o : Option Int64} {x : Int64} (ho : okO o) (hx : ¬ x = MINL) : encO (opt2 xt (encO o) x) = encO (o.bind fun v => xt v x) := by
  cases o with
  | none =>
    show encO (opt2 xt MINL x) = MINL
    unfold opt2
    rw [if_pos (Or.inl rfl)]; rfl
  | some v =>
    show encO (opt2 xt v x) = encO (xt v x)
    rw [opt2_t (ho v rfl) hx]
theorem enc_p {o : Option Int64} {x : Int64} (ho : okO o) (hx : ¬ x = MINL) : encO (opt2 xp (encO o) x) = encO (o.bind fun v => xp v x) := by
  cases o with
  | none =>
    show encO (opt2 xp MINL x) = MINL
    unfold opt2
    rw [if_pos (Or.inl rfl)]; rfl
  | some v =>
    show encO (opt2 xp v x) = encO (xp v x)
    rw [opt2_t (ho v rfl) hx]
theorem e_valLoop {μ : ZMem} {k : Nat} {L : Nat → Int64} {x : Int32} (hL : ∀ j, j < 7 → μ.2 k j = L j ∧ ¬ L j = MINL) (hx : ¬ Int32.toInt64 x = MINL) {Φ : Int64 → Prop} : ∀ n (o : Option Int64), n ≤ 7 → okO o → Φ (encO (hoN L (Int32.toInt64 x) n o)) → lpz2 (b_X0_valueAt_8 Φ x 7 μ k) (n + 1) (encO o) (nI n - 1) := by
  intro n
  induction n with
  | zero => intro o _ _ h; exact zif_t (by decide) h
  | succ n ih =>
    intro o hn ho h
    rw [lpz2]
    dsimp only
    generalize hL' : lpz2 (b_X0_valueAt_8 Φ x 7 μ k) (n + 1) = L'
    unfold b_X0_valueAt_8
    rw [nI_sub1, nn_clamp (by omega), (hL n (by omega)).1]
    refine zif_f (nI_nneg (by omega)) ((e_times _ _ _).mpr ⟨vp_in_nI (by omega) (by omega), (e_plus _ _ _).mpr ?_⟩)
    rw [enc_t ho hx, enc_p (fun v hv => ?_) (hL n (by omega)).2, nI_pm, ← hL']
    · exact ih _ (by omega) (stepO_ok L _ n o) h
    · rw [Option.bind_eq_some_iff] at hv
      obtain ⟨w, _, hv⟩ := hv
      exact xt_ne hv
def valO (L : Nat → Int64) (x : Int64) : Option Int64 := hoN L x (dg L - 1) (some (L (dg L - 1)))
theorem far_ne {x : Int32} : ¬ Int32.toInt64 x = MINL := by
  intro q
  have := l_min.mp q
  rw [il_toInt] at this
  have h := Int32.le_toInt x
  omega
theorem l_0mul (x : Int64) : xt 0 x = some 0 := by
  unfold xt
  rw [if_pos (by rw [show (0 : Int64).toInt = 0 from rfl, Int.zero_mul]; decide), Int64.zero_mul]
theorem l_0add {x : Int64} (h : ¬ x = MINL) : xp 0 x = some x := by
  unfold xp
  have a := l_rng x
  have b : ¬ x.toInt = -9223372036854775808 := fun q => h (l_min.mpr q)
  rw [if_pos (by rw [show (0 : Int64).toInt = 0 from rfl, Int.zero_add, zfit_iff]; omega), Int64.zero_add]
theorem e_valueAt {μ : ZMem} {k : Nat} {L : Nat → Int64} {x : Int32} (hL : ∀ j, j < 7 → μ.2 k j = L j ∧ ¬ L j = MINL) (h1 : 1 ≤ dg L) {Φ : Int64 → Prop} (h : Φ (encO (valO L (Int32.toInt64 x)))) : w_X0_valueAt k 7 x μ Φ := by
  unfold w_X0_valueAt
  have dL := dg_le L
  refine e_highest ?_
  have e : hd7 (μ.2 k) = nI (dg L) - 1 := by unfold hd7; rw [dg_congr (fun j hj => (hL j hj).1)]
  rw [e]
  refine ⟨dg L + 1, ?_⟩
  have key := e_valLoop hL far_ne (x := x) (Φ := Φ) (dg L) (some 0) dL (fun v hv => by rw [← Option.some.inj hv]; decide) ?_
  · exact key
  · obtain ⟨m, hm⟩ : ∃ m, dg L = m + 1 := ⟨dg L - 1, by omega⟩
    unfold valO at h
    rw [hm] at h ⊢
    rw [hoN, Option.bind_some, l_0mul, Option.bind_some, l_0add (hL m (by omega)).2]
    exact h
/-- a value of the reference's under way -/
def vlM (μ : ZMem) (P : Prop) (o : Option Int64) (v : Int64) (b : ZMem) : Prop := (∀ a t, ¬ (a = 0 ∧ t = 4) → b.1 a t = μ.1 a t) ∧ b.2 = μ.2 ∧ FL b (P ∧ o ≠ none) ∧ ∀ w, o = some w → v = w
theorem m_valLoop {μ : ZMem} {i : Nat} {L : Nat → Int64} {x : Int32} {P : Prop} (hi : i ≤ 8) (hL : ∀ j, j < 7 → μ.2 11 (7 * i + j) = L j) {Φ : Int64 → ZMem → Prop} : ∀ n (o : Option Int64) v b, n ≤ 7 → vlM μ P o v b → (∀ v' b', vlM μ P (hoN L (Int32.toInt64 x) n o) v' b' → Φ v' b') → lpz3 (b_X12_valueAt_24 Φ x (nI i)) (n + 1) v (nI n - 1) b := by
  intro n
  induction n with
  | zero => intro o v b _ hb h; exact zif_t (by decide) (h v b hb)
  | succ n ih =>
    intro o v b hn hb h
    rw [lpz3]
    dsimp only
    generalize hL' : lpz3 (b_X12_valueAt_24 Φ x (nI i)) (n + 1) = L'
    unfold b_X12_valueAt_24
    obtain ⟨b1, b2, b3, b4⟩ := hb
    rw [nI_sub1, show (7 : Int32) = nI 7 from rfl, pk_mul, nI_add, nn_clamp (by omega), nI_pm]
    refine zif_f (nI_nneg (by omega)) ((m_times _ _ _ _).mpr ⟨vp_in_nI (by omega) (by omega), (m_plus _ _ _ _).mpr ?_⟩)
    rw [flg_2, b2, hL n (by omega), ← hL']
    have w1 := fun v => xt_w v (Int32.toInt64 x)
    have w2 := fun v => xp_w v (L n)
    refine ih ((o.bind fun v => xt v (Int32.toInt64 x)).bind fun w => xp w (L n)) _ _ (by omega) ⟨fun a t ht => ?_, ?_, ?_, fun w hw => ?_⟩ h
    · rw [flg_1 _ _ _ _ ht, flg_1 _ _ _ _ ht]; exact b1 a t ht
    · rw [flg_2, flg_2]; exact b2
    · refine FL_iff (FL_flg (FL_flg b3)) ⟨fun z => ⟨z.1.1.1, ?_⟩, fun z => ?_⟩
      · cases o with
        | none => exact absurd rfl z.1.1.2
        | some u =>
          have ev : v = u := b4 u rfl
          have z1 := (w1 v).1.mp z.1.2
          have z2 := (w2 _).1.mp z.2
          rw [Option.bind_some]
          rw [ev] at z1 z2
          cases hx : xt u (Int32.toInt64 x) with
          | none => exact absurd hx z1
          | some y =>
            rw [Option.bind_some]
            have ey := (w1 u).2 y hx
            rw [ey] at z2
            exact z2
      · cases o with
        | none => exact absurd rfl z.2
        | some u =>
          have ev : v = u := b4 u rfl
          have zz := z.2
          rw [Option.bind_some] at zz
          cases hx : xt u (Int32.toInt64 x) with
          | none => rw [hx] at zz; exact absurd rfl zz
          | some y =>
            rw [hx, Option.bind_some] at zz
            have ey := (w1 u).2 y hx
            refine ⟨⟨⟨z.1, fun q => by cases q⟩, ?_⟩, ?_⟩
            · rw [ev]; exact (w1 u).1.mpr (by rw [hx]; exact fun q => by cases q)
            · rw [ev, ey]; exact (w2 y).1.mpr zz
    · rw [Option.bind_eq_some_iff] at hw
      obtain ⟨y, hy, hw⟩ := hw
      rw [Option.bind_eq_some_iff] at hy
      obtain ⟨u, hu, hy⟩ := hy
      rw [b4 u hu, (w1 u).2 y hy]
      exact (w2 y).2 w hw
theorem m_valueAt {μ : ZMem} {i : Nat} {L : Nat → Int64} {x : Int32} {P : Prop} (hi : i ≤ 8) (hL : ∀ j, j < 7 → μ.2 11 (7 * i + j) = L j) (h1 : 1 ≤ dg L) (hF : FL μ P) {Φ : Int64 → ZMem → Prop} (h : ∀ v b, vlM μ P (valO L (Int32.toInt64 x)) v b → Φ v b) : w_X12_valueAt (nI i) x μ Φ := by
  unfold w_X12_valueAt
  have dL := dg_le L
  refine m_degLink hi ?_
  have e : hd7 (fun j => μ.2 11 (7 * i + j)) = nI (dg L - 1) := by
    rw [← hd_I (show dg L ≠ 0 by omega)]
    unfold hd7; rw [dg_congr hL]
  rw [e, show (7 : Int32) = nI 7 from rfl, pk_mul, nI_add, nn_clamp (by omega), hL _ (by omega)]
  refine ⟨vp_in_nI (by omega) (by omega), nm_b (nm_b ⟨dg L - 1 + 1, ?_⟩)⟩
  exact m_valLoop (x := x) (P := P) hi hL (dg L - 1) (some (L (dg L - 1))) _ μ (by omega) ⟨fun _ _ _ => rfl, rfl, FL_iff hF ⟨fun z => ⟨z, fun q => by cases q⟩, fun z => z.1⟩, fun w hw => Option.some.inj hw⟩ h
def sgB (v : Int64) : Int32 := if 0 ≤ v then 0 else 1
def chg (p v : Int64) : Nat := if p = 0 then 0 else if sgB p = sgB v then 0 else 1
/-- changes among the first values, and the last that isn't 0 -/
def cgN (V : Nat → Int64) : Nat → Nat × Int64
  | 0 => (0, 0)
  | n + 1 => if V n = 0 then cgN V n else ((cgN V n).1 + chg (cgN V n).2 (V n), V n)
theorem cgN_le (V : Nat → Int64) : ∀ n, (cgN V n).1 ≤ n := by
  intro n
  induction n with
  | zero => exact Nat.le_refl _
  | succ n ih =>
    rw [cgN]
    split
    · omega
    · dsimp only
      unfold chg
      split
      · omega
      · split <;> omega
def vAt (C : Nat → Int64) (x : Int32) (i : Nat) : Option Int64 := valO (LK C i) (Int32.toInt64 x)
def vGt (C : Nat → Int64) (x : Int32) (i : Nat) : Int64 := (vAt C x i).getD 0
theorem valO_ok {L : Nat → Int64} (hn : ∀ j, j < 7 → ¬ L j = MINL) (h1 : 1 ≤ dg L) (x : Int64) : okO (valO L x) := by
  have dL := dg_le L
  have key : ∀ n o, okO o → okO (hoN L x n o) := by
    intro n
    induction n with
    | zero => intro o h; exact h
    | succ n ih => intro o h; exact ih _ (stepO_ok L x n o)
  exact key _ _ (fun v hv => by rw [← Option.some.inj hv]; exact hn _ (by omega))
theorem e_changesAt {μ : ZMem} {C : Nat → Int64} {s : Nat} (hs : s ≤ 7) (h2 : μ.1 40 2 = nI s) (h3 : μ.1 40 3 = 0) (hL : ∀ i, i < s → ∀ j, j < 7 → μ.2 (42 + i) j = LK C i j ∧ ¬ LK C i j = MINL) (h1 : ∀ i, i < s → 1 ≤ dg (LK C i)) {x : Int32} {Φ : Int32 → Prop} (hY : (∀ i, i < s → vAt C x i ≠ none) → Φ (nI (cgN (vGt C x) s).1)) (hN : ¬ (∀ i, i < s → vAt C x i ≠ none) → Φ (-7)) : w_X0_changesAt x μ Φ := by
  unfold w_X0_changesAt
  obtain ⟨o, o1, o2, o3⟩ := first_bad (fun i => vAt C x i ≠ none) s
  refine nm_b ⟨o + 1, ?_⟩
  refine lp3_thd o (fun i => nI (cgN (vGt C x) i).1) (fun i => (cgN (vGt C x) i).2) (fun i K hi hK => ?_) (fun K => ?_) o 0 (by omega)
  · unfold b_X0_changesAt_7
    rw [h2, n_le (by omega) (by omega), nn_clamp (by omega), nI_1]
    refine zif_f (by omega) (zifn_t h3 ⟨vp_in_nI (by omega) (by omega), e_valueAt (hL i (by omega)) (h1 i (by omega)) ?_⟩)
    have hok := valO_ok (fun j hj => (hL i (by omega) j hj).2) (h1 i (by omega)) (Int32.toInt64 x)
    cases hv : vAt C x i with
    | none => exact absurd hv (o2 i hi)
    | some v =>
      have hv' : valO (LK C i) (Int32.toInt64 x) = some v := hv
      have hvm : ¬ v = MINL := hok v hv'
      have eg : vGt C x i = v := by unfold vGt; rw [hv]; rfl
      rw [hv']
      refine zifn_f hvm ?_
      have hcs : cgN (vGt C x) (i + 1) = if v = 0 then cgN (vGt C x) i else ((cgN (vGt C x) i).1 + chg (cgN (vGt C x) i).2 v, v) := by rw [cgN, eg]
      generalize hW : cgN (vGt C x) i = W at *
      refine nm_k2 (fun a b => a = nI (cgN (vGt C x) (i + 1)).1 ∧ b = (cgN (vGt C x) (i + 1)).2) (fun J hJ => zif (fun q => hJ _ _ ?_) (fun q => ?_)) ?_
      · rw [hcs, if_pos (show v = 0 from q)]; exact ⟨rfl, rfl⟩
      · have hcs' := hcs
        rw [if_neg (show ¬ v = 0 from q)] at hcs'
        refine nm_k (fun y => y = nI (chg W.2 v)) (fun J2 hJ2 => nm_b (zif (fun p => hJ2 _ ?_) (fun p => ?_))) ?_
        · unfold chg; rw [if_pos p]; rfl
        · refine nm_k (fun y => y = sgB W.2) (fun J3 hJ3 => zif (fun z => hJ3 _ (by unfold sgB; rw [if_pos z])) (fun z => hJ3 _ (by unfold sgB; rw [if_neg z]))) ?_
          rintro y rfl
          refine nm_k (fun y => y = sgB v) (fun J3 hJ3 => zif (fun z => hJ3 _ (by unfold sgB; rw [if_pos (show (0 : Int64) ≤ v from z)])) (fun z => hJ3 _ (by unfold sgB; rw [if_neg (show ¬ (0 : Int64) ≤ v from z)]))) ?_
          rintro y rfl
          refine zif (fun z => hJ2 _ ?_) (fun z => hJ2 _ ?_)
          · unfold chg; rw [if_neg p, if_pos z]; rfl
          · unfold chg; rw [if_neg p, if_neg z]; rfl
        rintro y rfl
        refine nm_b (hJ _ _ ?_)
        rw [hcs', nI_add]
        exact ⟨rfl, rfl⟩
      rintro a b ⟨rfl, rfl⟩
      exact hK
  · unfold b_X0_changesAt_7
    rw [h2, n_le (by omega) (by omega), nn_clamp (by omega)]
    refine zif (fun q => ?_) (fun q => zifn_t h3 ⟨vp_in_nI (by omega) (by omega), e_valueAt (hL o (by omega)) (h1 o (by omega)) ?_⟩)
    · have eo : o = s := by omega
      refine zif_t h3 ?_
      rw [eo]
      exact hY (fun i hi => o2 i (by omega))
    · have hn : vAt C x o = none := Classical.not_not.mp (o3 (by omega))
      have hn' : valO (LK C o) (Int32.toInt64 x) = none := hn
      rw [hn']
      exact zifn_t rfl (hN (fun all => o3 (by omega) (all o (by omega))))
theorem m_changesAt {μ : ZMem} {C : Nat → Int64} {s : Nat} (hs : s ≤ 7) (h19 : μ.1 0 19 = nI s) {P : Prop} (hF : FL μ P) (hL : ∀ i, i < s → ∀ j, j < 7 → μ.2 11 (7 * i + j) = LK C i j) (h1 : ∀ i, i < s → 1 ≤ dg (LK C i)) {x : Int32} {Φ : Int32 → ZMem → Prop} (h : ∀ v b, (∀ a t, ¬ (a = 0 ∧ t = 4) → b.1 a t = μ.1 a t) → b.2 = μ.2 → FL b (P ∧ ∀ i, i < s → vAt C x i ≠ none) → ((∀ i, i < s → vAt C x i ≠ none) → v = nI (cgN (vGt C x) s).1) → Φ v b) : w_X12_changesAt x μ Φ := by
  unfold w_X12_changesAt
  refine ⟨s + 1, lp4_inv s (fun i v w b => (∀ a t, ¬ (a = 0 ∧ t = 4) → b.1 a t = μ.1 a t) ∧ b.2 = μ.2 ∧ FL b (P ∧ ∀ k, k < i → vAt C x k ≠ none) ∧ ((∀ k, k < i → vAt C x k ≠ none) → v = nI (cgN (vGt C x) i).1 ∧ w = (cgN (vGt C x) i).2)) (fun i v w b K hi hI hK => ?_) (fun v w b K hI => ?_) s 0 _ _ μ (by omega) ⟨fun _ _ _ => rfl, rfl, FL_iff hF ⟨fun z => ⟨z, fun k hk => absurd hk (by omega)⟩, fun z => z.1⟩, fun _ => ⟨rfl, rfl⟩⟩⟩
  · obtain ⟨i1, i2, i3, i4⟩ := hI
    unfold b_X12_changesAt_7
    have e19 : b.1 0 19 = nI s := by rw [i1 0 19 (by omega)]; exact h19
    rw [e19, n_le (by omega) (by omega), nI_1]
    refine zif_f (by omega) (m_valueAt (L := LK C i) (P := P ∧ ∀ k, k < i → vAt C x k ≠ none) (by omega) (fun j hj => by rw [i2]; exact hL i hi j hj) (h1 i hi) i3 (fun r c hc => ?_))
    obtain ⟨c1, c2, c3, c4⟩ := hc
    have hall : (∀ k, k < i + 1 → vAt C x k ≠ none) ↔ (∀ k, k < i → vAt C x k ≠ none) ∧ vAt C x i ≠ none := ⟨fun z => ⟨fun k hk => z k (by omega), z i (by omega)⟩, fun z k hk => by
      by_cases e : k = i
      · rw [e]; exact z.2
      · exact z.1 k (by omega)⟩
    have hval : (∀ k, k < i + 1 → vAt C x k ≠ none) → r = vGt C x i := fun z => by
      have z2 := (hall.mp z).2
      cases hv : vAt C x i with
      | none => exact absurd hv z2
      | some u => rw [c4 u hv]; unfold vGt; rw [hv]; rfl
    have fl : FL c (P ∧ ∀ k, k < i + 1 → vAt C x k ≠ none) := FL_iff c3 ⟨fun z => ⟨z.1.1, hall.mpr ⟨z.1.2, z.2⟩⟩, fun z => ⟨⟨z.1, (hall.mp z.2).1⟩, (hall.mp z.2).2⟩⟩
    refine nm_k (fun y => y = if r = 0 then 0 else nI (chg w r)) (fun J hJ => nm_b (zif (fun q => hJ _ (by rw [if_pos q])) (fun q => zif (fun q2 => hJ _ ?_) (fun q2 => ?_)))) ?_
    · rw [if_neg q]; unfold chg; rw [if_pos q2]; rfl
    · refine nm_k (fun y => y = sgB r) (fun J3 hJ3 => zif (fun z => hJ3 _ (by unfold sgB; rw [if_pos z])) (fun z => hJ3 _ (by unfold sgB; rw [if_neg z]))) ?_
      rintro y rfl
      refine nm_k (fun y => y = sgB w) (fun J3 hJ3 => zif (fun z => hJ3 _ (by unfold sgB; rw [if_pos z])) (fun z => hJ3 _ (by unfold sgB; rw [if_neg z]))) ?_
      rintro y rfl
      refine zif (fun z => hJ _ ?_) (fun z => hJ _ ?_)
      · rw [if_neg q]; unfold chg; rw [if_neg q2, if_pos z.symm]; rfl
      · rw [if_neg q]; unfold chg; rw [if_neg q2, if_neg (fun z' => z z'.symm)]; rfl
    rintro y hy
    refine nm_b ?_
    refine nm_k (fun z => z = if r = 0 then w else r) (fun J hJ => zifn (fun q => hJ _ (by rw [if_neg q])) (fun q => hJ _ (by rw [if_pos q]))) ?_
    rintro z hz
    refine hK _ _ _ ⟨fun a t ht => by rw [c1 a t ht]; exact i1 a t ht, by rw [c2]; exact i2, fl, fun ok => ?_⟩
    obtain ⟨e1, e2⟩ := i4 (hall.mp ok).1
    have er := hval ok
    have hcs : cgN (vGt C x) (i + 1) = if r = 0 then cgN (vGt C x) i else ((cgN (vGt C x) i).1 + chg (cgN (vGt C x) i).2 r, r) := by rw [cgN, ← er]
    rw [hcs, hy, hz, e1, e2]
    by_cases q : r = 0
    · rw [if_pos q, if_pos q, if_pos q]
      exact ⟨Int32.add_zero _, rfl⟩
    · rw [if_neg q, if_neg q, if_neg q, nI_add]
      exact ⟨rfl, rfl⟩
  · obtain ⟨i1, i2, i3, i4⟩ := hI
    unfold b_X12_changesAt_7
    have e19 : b.1 0 19 = nI s := by rw [i1 0 19 (by omega)]; exact h19
    rw [e19]
    exact zif_t (by rw [n_le (by omega) (by omega)]; omega) (h v b i1 i2 i3 (fun ok => (i4 ok).1))
