/-! the reference's chain -/
theorem m_divLink {μ : ZMem} {i m : Nat} {r : Nat → Int64} (hi : i ≤ 8) (hm : m < 100) (h19 : μ.1 0 19 = nI m) (hr : ∀ j, j < 7 → μ.2 11 (7 * i + j) = r j) (hn : noM r) (h1 : 1 ≤ dg r) {Φ : ZMem → Prop} (h : ∀ μ', (∀ a t, ¬ (a = 0 ∧ t = 19) → μ'.1 a t = μ.1 a t) → μ'.1 0 19 = nI (m + 1) → (∀ a, a ≠ 11 → μ'.2 a = μ.2 a) → (∀ t, t < 7 * i ∨ 7 * i + 7 ≤ t → μ'.2 11 t = μ.2 11 t) → (∀ j, j < 7 → μ'.2 11 (7 * i + j) = shr 7 r j) → Φ μ') : w_X12_dividesLink (nI i) μ Φ := by
  unfold w_X12_dividesLink
  have hlt : ∀ n, n ≤ 7 → gcdN r n < 9223372036854775808 := fun n hn' => gcdN_lt n (fun j hj => hn j (by omega))
  refine nm_k (fun x => x = lN (gcdN r 7)) (fun J hJ => ⟨7 + 1, ?_⟩) ?_
  · rw [show (0 : Int64) = (fun n => lN (gcdN r n)) 0 from rfl]
    refine lp2_k 7 (fun n => lN (gcdN r n)) nI (fun n K hn' hK => ?_) (fun K => ?_) 7 0 (by omega)
    · unfold b_X12_dividesLink_5
      rw [show (7 : Int32) = nI 7 from rfl, n_le (by omega) (by omega), pk_mul, nI_add, nn_clamp (by omega), nI_1, hr n hn']
      refine zif_f (by omega) ⟨vp_in_nI (by omega) (by omega), e_common (fun g hg => ?_)⟩
      have := hg (hn n hn') (lN_ne (hlt n (by omega)))
      rw [this, lN_abs (hlt n (by omega)), Nat.gcd_comm]
      exact hK
    · unfold b_X12_dividesLink_5
      exact zif_t (by decide) (hJ _ rfl)
  rintro x rfl
  have hg0 : gcdN r 7 ≠ 0 := by
    have ht := dg_top (F := r) (by omega)
    have dr := dg_le r
    exact gcdN_pos (by omega) ht
  have hz : ¬ lN (gcdN r 7) = 0 := fun q => hg0 ((lN_zero (hlt 7 (Nat.le_refl _))).mp q)
  refine nm_b ⟨7 + 1, lp2_inv 7 (fun n b => b.1 = μ.1 ∧ (∀ a, a ≠ 11 → b.2 a = μ.2 a) ∧ (∀ t, t < 7 * i ∨ 7 * i + 7 ≤ t → b.2 11 t = μ.2 11 t) ∧ ∀ j, j < 7 → b.2 11 (7 * i + j) = if j < n then shr 7 r j else r j) (fun n b K hn' hI hK => ?_) (fun b K hI => ?_) 7 0 μ (by omega) ⟨rfl, fun _ _ => rfl, fun _ _ => rfl, fun j hj => by rw [if_neg (by omega)]; exact hr j hj⟩⟩
  · obtain ⟨i1, i2, i3, i4⟩ := hI
    unfold b_X12_dividesLink_38
    rw [show (7 : Int32) = nI 7 from rfl, n_le (by omega) (by omega), pk_mul, nI_add, nn_clamp (by omega), nI_1]
    have hv := vp_in_nI (n := 7 * i + n) (N := 63) (by omega) (by omega)
    refine zif_f (by omega) ⟨hv, hz, hv, nm_b (hK _ ⟨i1, fun a ha => ?_, fun t ht => ?_, fun j hj => ?_⟩)⟩
    · rw [mJ2, if_neg ha]; exact i2 a ha
    · rw [mJ2, if_pos rfl, updL_at, if_neg (by omega)]; exact i3 t ht
    · rw [mJ2, if_pos rfl, updL_at, i4 n hn', if_neg (show ¬ n < n by omega)]
      by_cases e : j = n
      · rw [if_pos (by omega), if_pos (by omega), e, shr_at hn']
      · rw [if_neg (by omega), i4 j hj]
        by_cases e2 : j < n
        · rw [if_pos e2, if_pos (by omega)]
        · rw [if_neg e2, if_neg (by omega)]
  · obtain ⟨i1, i2, i3, i4⟩ := hI
    unfold b_X12_dividesLink_38
    refine zif_t (by decide) (nm_b ?_)
    rw [i1, h19, nI_1]
    refine h _ (fun a t ht => ?_) ?_ i2 i3 (fun j hj => ?_)
    · rw [mI1]
      by_cases e : a = 0
      · rw [if_pos e, upd_at, if_neg (fun z => ht ⟨e, z⟩), i1, e]
      · rw [if_neg e, i1]
    · rw [mI1, if_pos rfl, upd_at, if_pos rfl]
    · rw [mI2, i4 j hj, if_pos hj]
/-- what the chain changes in the reference -/
def MC (μ μ' : ZMem) : Prop := (∀ a, a ≠ 0 → μ'.1 a = μ.1 a) ∧ (∀ t, t ≠ 4 → t ≠ 8 → t ≠ 19 → μ'.1 0 t = μ.1 0 t) ∧ (∀ a, a ≠ 3 → a ≠ 11 → a ≠ 12 → μ'.2 a = μ.2 a)
theorem MC_rfl (μ : ZMem) : MC μ μ := ⟨fun _ _ => rfl, fun _ _ _ _ => rfl, fun _ _ _ _ => rfl⟩
theorem MC_tr {a b c : ZMem} (h1 : MC a b) (h2 : MC b c) : MC a c := ⟨fun x p => (h2.1 x p).trans (h1.1 x p), fun x p q r => (h2.2.1 x p q r).trans (h1.2.1 x p q r), fun x p q r => (h2.2.2 x p q r).trans (h1.2.2 x p q r)⟩
/-- the reference's chain is laid -/
def chM (C : Nat → Int64) (o : Nat) (μ : ZMem) : Prop := μ.1 0 19 = nI (o + 2) ∧ ((rmK C o = none ∧ μ.1 0 4 = 1) ∨ ((∃ q, rmK C o = some q) ∧ μ.1 0 4 = 0)) ∧ ∀ i, i < o + 2 → ∀ j, j < 7 → μ.2 11 (7 * i + j) = LK C i j
theorem m_chainLoop {μ : ZMem} {C : Nat → Int64} (hb : bd C 200000) (h2 : 2 ≤ dg C) {o : Nat} (ho : chS C o) {J : ZMem → Prop} (h : ∀ μ', MC μ μ' → chM C o μ' → J μ') : ∀ n k b, k + n = o → MC μ b → b.1 0 19 = nI (k + 2) → b.1 0 4 = 0 → (∀ i, i < k + 2 → ∀ j, j < 7 → b.2 11 (7 * i + j) = LK C i j) → lpz1 (b_X12_laysChain_101 J) (n + 1) b := by
  obtain ⟨o1, o2, o3, o4⟩ := ho
  intro n
  induction n with
  | zero =>
    intro k b hk hx h19 h4 hL
    obtain rfl : k = o := by omega
    rw [lpz1]
    dsimp only
    unfold b_X12_laysChain_101
    obtain ⟨a1, a2, a3, a4, a5⟩ := lk_ok hb h2 k o2
    have fr : ∀ b', mF (k + 2) b b' → MC μ b' ∧ b'.1 0 19 = nI (k + 2) ∧ ∀ i, i < k + 2 → ∀ j, j < 7 → b'.2 11 (7 * i + j) = LK C i j := fun b' m => ⟨⟨fun a ha => funext fun t => by rw [m.1 a t (fun z => ha z.1), hx.1 a ha], fun t q1 q2 q3 => by rw [m.1 0 t (fun z => q1 z.2)]; exact hx.2.1 t q1 q2 q3, fun a q1 q2 q3 => by rw [m.2.1 a q2 q3]; exact hx.2.2 a q1 q2 q3⟩, by rw [m.1 0 19 (by omega)]; exact h19, fun i hi j hj => by rw [m.2.2 _ (by omega)]; exact hL i hi j hj⟩
    refine m_goesOn (s := k + 2) (A := LK C k) (B := LK C (k + 1)) (by omega) (by omega) h19 h4 (fun j hj => ⟨hL k (by omega) j hj, a1 j hj⟩) (fun j hj => ⟨hL (k + 1) (by omega) j hj, a2 j hj⟩) a3 (fun hr b' m f => z0p ?_) (fun q hr hq b' m f => z0p ?_) (fun q hr hq b' m f _ => absurd ⟨q, hr, hq⟩ o3)
    · obtain ⟨f1, f2, f3⟩ := fr b' m
      exact h b' f1 ⟨f2, Or.inl ⟨hr, f⟩, f3⟩
    · obtain ⟨f1, f2, f3⟩ := fr b' m
      exact h b' f1 ⟨f2, Or.inr ⟨⟨q, hr⟩, f⟩, f3⟩
  | succ n ih =>
    intro k b hk hx h19 h4 hL
    rw [lpz1]
    dsimp only
    generalize hLL : lpz1 (b_X12_laysChain_101 J) (n + 1) = L
    unfold b_X12_laysChain_101
    obtain ⟨a1, a2, a3, a4, a5⟩ := lk_ok hb h2 k (fun i hi => o2 i (by omega))
    obtain ⟨q0, q1, q2⟩ := o2 k (by omega)
    have er : remN (LK C (k + 1)) 7 (LK C k) = rmK C k := rfl
    refine m_goesOn (s := k + 2) (A := LK C k) (B := LK C (k + 1)) (by omega) (by omega) h19 h4 (fun j hj => ⟨hL k (by omega) j hj, a1 j hj⟩) (fun j hj => ⟨hL (k + 1) (by omega) j hj, a2 j hj⟩) a3 (fun hr b' m f => ?_) (fun q hr hq b' m f => ?_) (fun q hr hq b' m f hrow => z1p ?_)
    · rw [er, q1] at hr; cases hr
    · rw [er, q1] at hr
      rw [← Option.some.inj hr] at hq; omega
    · rw [er, q1] at hr
      obtain rfl := Option.some.inj hr
      have qn : noM q0 := remN_ne 7 _ _ a1 q1
      have e19 : b'.1 0 19 = nI (k + 2) := by rw [m.1 0 19 (by omega)]; exact h19
      rw [e19]
      refine m_divLink (r := ngF q0) (m := k + 2) (by omega) (by omega) e19 (fun j hj => hrow j hj) (ngF_noM qn) (by rw [ngF_dg]; exact hq) (fun b2 d1 d2 d3 d4 d5 => ?_)
      rw [← hLL]
      refine ih (k + 1) b2 (by omega) ⟨fun a ha => funext fun t => ?_, fun t t1 t2 t3 => ?_, fun a q1 q2 q3 => ?_⟩ d2 ?_ (fun i hi j hj => ?_)
      · rw [d1 a t (fun z => ha z.1), m.1 a t (fun z => ha z.1), hx.1 a ha]
      · rw [d1 0 t (fun z => t3 z.2), m.1 0 t (fun z => t1 z.2)]; exact hx.2.1 t t1 t2 t3
      · rw [d3 a q2, m.2.1 a q2 q3]; exact hx.2.2 a q1 q2 q3
      · rw [d1 0 4 (by omega)]; exact f
      · by_cases e : i = k + 2
        · rw [e, d5 j hj]
          show _ = shr 7 (ngF ((rmK C k).getD z0)) j
          rw [q1]; rfl
        · rw [d4 _ (by omega), m.2.2 _ (by omega)]; exact hL i (by omega) j hj
theorem m_laysChain1 {μ : ZMem} {C : Nat → Int64} (hC : ∀ j, j < 7 → mixM μ 1 (μ.1 1 14) j = C j) (hd : ¬ 2 ≤ dg C) {Φ : Int32 → ZMem → Prop} (h : ∀ μ', MC μ μ' → Φ (-2) μ') : w_X12_laysChain μ Φ := by
  unfold w_X12_laysChain
  refine m_takes (fun μ1 t1 t2 t3 t4 => nm_b (nm_b ?_))
  have e8 : (zz_upI (zz_upI μ1 0 4 0) 0 19 0).1 0 8 = nI (dg C) - 1 := by
    show μ1.1 0 8 = _
    rw [t4]; unfold hd7; rw [dg_congr hC]
  rw [e8, i_le, hd_toInt (dg_le C), show (1 : Int32).toInt = 1 from rfl]
  refine zif_f (by omega) (h _ ⟨fun a ha => funext fun t => ?_, fun t q1 q2 q3 => ?_, fun a q1 q2 q3 => t2 a q1⟩)
  · rw [mI1, if_neg ha, mI1, if_neg ha]; exact t1 a t (fun z => ha z.1)
  · rw [mI1, if_pos rfl, upd_at, if_neg q3, mI1, if_pos rfl, upd_at, if_neg q1]; exact t1 0 t (fun z => q2 z.2)
theorem m_laysChain2 {μ : ZMem} {C : Nat → Int64} (hC : ∀ j, j < 7 → mixM μ 1 (μ.1 1 14) j = C j) (hb : bd C 200000) (h2 : 2 ≤ dg C) {o : Nat} (ho : chS C o) {Φ : Int32 → ZMem → Prop} (h : ∀ μ', MC μ μ' → chM C o μ' → (μ'.1 0 4 = 0 → Φ 0 μ') ∧ (¬ μ'.1 0 4 = 0 → Φ (-7) μ')) : w_X12_laysChain μ Φ := by
  unfold w_X12_laysChain
  refine m_takes (fun μ1 t1 t2 t3 t4 => nm_b (nm_b ?_))
  have e8 : (zz_upI (zz_upI μ1 0 4 0) 0 19 0).1 0 8 = nI (dg C) - 1 := by
    show μ1.1 0 8 = _
    rw [t4]; unfold hd7; rw [dg_congr hC]
  rw [e8, i_le, hd_toInt (dg_le C), show (1 : Int32).toInt = 1 from rfl]
  generalize hμ2 : zz_upI (zz_upI μ1 0 4 0) 0 19 0 = μ2
  have x2 : MC μ μ2 := by
    rw [← hμ2]
    refine ⟨fun a ha => funext fun t => ?_, fun t q1 q2 q3 => ?_, fun a q1 q2 q3 => t2 a q1⟩
    · rw [mI1, if_neg ha, mI1, if_neg ha]; exact t1 a t (fun z => ha z.1)
    · rw [mI1, if_pos rfl, upd_at, if_neg q3, mI1, if_pos rfl, upd_at, if_neg q1]; exact t1 0 t (fun z => q2 z.2)
  have e19 : μ2.1 0 19 = nI 0 := by rw [← hμ2]; rfl
  have e4 : μ2.1 0 4 = 0 := by rw [← hμ2]; rfl
  have e3 : ∀ j, j < 7 → μ2.2 3 j = C j := fun j hj => by
    rw [← hμ2]
    show μ1.2 3 j = _
    rw [t3 j hj, hC j hj]
  refine zif_t (by omega) (nm_b ⟨7 + 1, lp2_inv 7 (fun i b => b.1 = μ2.1 ∧ (∀ a, a ≠ 11 → b.2 a = μ2.2 a) ∧ (∀ j, j < i → b.2 11 j = C j) ∧ ∀ j, j < i → b.2 11 (7 + j) = derF C j) (fun i b K hi hI hK => ?_) (fun b K hI => ?_) 7 0 μ2 (by omega) ⟨rfl, fun _ _ => rfl, fun j hj => absurd hj (by omega), fun j hj => absurd hj (by omega)⟩⟩)
  · obtain ⟨i1, i2, i3, i4⟩ := hI
    unfold b_X12_laysChain_35
    have b3 : ∀ s, s < 7 → b.2 3 s = C s := fun s hs => by rw [i2 3 (by omega)]; exact e3 s hs
    rw [nI_1, show (7 : Int32) = nI 7 from rfl, show (6 : Int32) = nI 6 from rfl, n_le (by omega) (by omega), n_le (by omega) (by omega), nI_add, nn_clamp (n := i) (by omega), nn_clamp (n := i + 1) (by omega), nn_clamp (by omega)]
    refine zif_f (by omega) ⟨vp_in_nI (by omega) (by omega), vp_in_nI (by omega) (by omega), nm_b ?_⟩
    have c3 : ∀ s, (zz_upJ b 11 i (b.2 3 i)).2 3 s = b.2 3 s := fun s => rfl
    refine nm_k (fun x => x = derF C i) (fun J hJ => zif (fun q => hJ _ ?_) (fun q => ⟨vp_in_nI (by omega) (by omega), hJ _ ?_⟩)) ?_
    · unfold derF; rw [if_neg (by omega)]
    · rw [c3]; unfold derF; rw [if_pos (by omega), b3 _ (by omega)]
    rintro x hx
    refine ⟨vp_in_nI (by omega) (by omega), nm_b (hK _ ⟨i1, fun a ha => ?_, fun j hj => ?_, fun j hj => ?_⟩)⟩
    · rw [mJ2, if_neg ha, mJ2, if_neg ha]; exact i2 a ha
    · rw [mJ2, if_pos rfl, updL_at, if_neg (by omega), mJ2, if_pos rfl, updL_at]
      split
      · rename_i e; rw [e, b3 i hi]
      · exact i3 j (by omega)
    · rw [mJ2, if_pos rfl, updL_at]
      by_cases e : j = i
      · rw [if_pos (by omega), e]; exact hx
      · rw [if_neg (by omega), mJ2, if_pos rfl, updL_at, if_neg (by omega)]
        exact i4 j (by omega)
  · obtain ⟨i1, i2, i3, i4⟩ := hI
    unfold b_X12_laysChain_35
    refine zif_t (by decide) ?_
    dsimp only
    refine m_divLink (μ := b) (i := 0) (m := 0) (r := C) (by omega) (by omega) (by rw [i1]; exact e19) (fun j hj => by rw [show 7 * 0 + j = j by omega]; exact i3 j hj) (bd_noM hb) (by omega) (fun c c1 c2 c3 c4 c5 => ?_)
    refine m_divLink (μ := c) (i := 1) (m := 1) (r := derF C) (by omega) (by omega) c2 (fun j hj => by rw [c4 _ (by omega)]; exact i4 j hj) (der_noM hb) (by rw [der_dg hb h2]; omega) (fun d d1 d2 d3 d4 d5 => ?_)
    refine nm_b ⟨o + 1, m_chainLoop (μ := μ) hb h2 ho (fun μ' m1 m2 => h μ' m1 m2) o 0 d (by omega) ⟨fun a ha => funext fun t => ?_, fun t q1 q2 q3 => ?_, fun a q1 q2 q3 => ?_⟩ d2 ?_ (fun i hi j hj => ?_)⟩
    · rw [d1 a t (fun z => ha z.1), c1 a t (fun z => ha z.1), i1, x2.1 a ha]
    · rw [d1 0 t (fun z => q3 z.2), c1 0 t (fun z => q3 z.2), i1]; exact x2.2.1 t q1 q2 q3
    · rw [d3 a q2, c3 a q2, i2 a q2]; exact x2.2.2 a q1 q2 q3
    · rw [d1 0 4 (by omega), c1 0 4 (by omega), i1]; exact e4
    · have : i = 0 ∨ i = 1 := by omega
      rcases this with rfl | rfl
      · rw [d4 _ (by omega)]; exact c5 j hj
      · exact d5 j hj
