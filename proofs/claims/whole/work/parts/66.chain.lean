/-! the reference goes on -/
theorem low_dg {B r w : Nat → Int64} (hB : ∀ j, j < 7 → ¬ B j = MINL) (h0 : 1 ≤ dg B) (hd : dg B ≤ dg r) (h : rowS 7 (lowO B r) = some w) : dg w ≤ dg r - 1 := by
  have dB := dg_le B
  have dr := dg_le r
  refine dgN_lt 7 (fun j hj h7 => ?_)
  have hw := rowS_ok h j h7
  unfold lowO at hw
  by_cases e : j = dg r - 1
  · rw [if_pos (by omega), finO_if] at hw
    split at hw
    · rename_i q
      rw [← Option.some.inj hw]
      have e1 : (mdV B r j).toInt = (r j).toInt * (absL (B (dg B - 1))).toInt := l_mulF q.1
      have e2 : (r (dg r - 1) * B (j - (dg r - dg B))).toInt = (r (dg r - 1)).toInt * (B (j - (dg r - dg B))).toInt := l_mulF q.2.1
      have ej : j - (dg r - dg B) = dg B - 1 := by omega
      have e3 : mdV B r j = ptV B r j := by
        apply Int64.toInt_inj.mp
        rw [e1]
        unfold ptV
        rw [ej] at e2 ⊢
        have nb := hB (dg B - 1) (by omega)
        have np : ¬ r (dg r - 1) * B (dg B - 1) = MINL := by
          have := q.2.1
          unfold okp at this
          rw [ej] at this
          exact zfit_ne this
        rw [absL_toInt nb, e]
        unfold sgL
        split
        · rename_i q3
          rw [l_le, show (0 : Int64).toInt = 0 from rfl] at q3
          rw [e2, show ((B (dg B - 1)).toInt.natAbs : Int) = (B (dg B - 1)).toInt by omega]
        · rename_i q3
          rw [l_le, show (0 : Int64).toInt = 0 from rfl] at q3
          rw [neg_toL np, e2, show ((B (dg B - 1)).toInt.natAbs : Int) = -(B (dg B - 1)).toInt by omega, Int.mul_neg]
      rw [e3]
      exact Int64.sub_self _
    · cases hw
  · rw [if_neg (by omega), midO_if] at hw
    split at hw
    · rw [← Option.some.inj hw]
      unfold mdV
      rw [dgN_z r 7 j (by show dg r ≤ j; omega) h7]
      exact Int64.zero_mul
    · cases hw
theorem remN_dg {B : Nat → Int64} (hB : ∀ j, j < 7 → ¬ B j = MINL) (h0 : 1 ≤ dg B) : ∀ n r q, dg r ≤ n → remN B n r = some q → dg q < dg B := by
  intro n
  induction n with
  | zero => intro r q hr h; cases h; omega
  | succ n ih =>
    intro r q hr h
    rw [remN] at h
    split at h
    · cases h; assumption
    · rename_i hd
      rw [Option.bind_eq_some_iff] at h
      obtain ⟨x, h1, h2⟩ := h
      have := low_dg hB h0 (by omega) h1
      exact ih x q (by omega) h2
def dvM (μ : ZMem) (o : Option (Nat → Int64)) (b : ZMem) : Prop := gF μ b ∧ ((∃ q, o = some q) → b.1 0 4 = 0) ∧ (o = none → b.1 0 4 = 1) ∧ ∀ q, o = some q → ∀ j, j < 7 → b.2 12 j = q j
theorem m_while {μ : ZMem} {p : Nat} (hp : p ≤ 7) {B : Nat → Int64} (hB : ∀ j, j < 7 → μ.2 11 (7 * p + j) = B j ∧ ¬ B j = MINL) (h0 : 1 ≤ dg B) {J : ZMem → Prop} : ∀ n (o : Option (Nat → Int64)) (b : ZMem), dvM μ o b → (∀ q, o = some q → dg q ≤ n ∧ ∀ j, j < 7 → ¬ q j = MINL) → (∀ b', dvM μ (o.bind (remN B n)) b' → J b') → lpz2 (b_X12_goesOn_84 (hd7 B) J (nI p) (B (dg B - 1)) (absL (B (dg B - 1)))) (n + 1) (hd7 (b.2 12)) b := by
  have dB := dg_le B
  have lt : ∀ r, (hd7 r < hd7 B) = (dg r < dg B) := fun r => by
    apply propext
    have := dg_le r
    unfold hd7
    rw [i_lt, hd_toInt dB, hd_toInt this]; omega
  intro n
  induction n with
  | zero =>
    intro o b hb hq h
    rw [lpz2]
    dsimp only
    unfold b_X12_goesOn_84
    rw [lt]
    cases o with
    | none => exact zif (fun _ => h b hb) (fun q => zifn_f (by rw [hb.2.2.1 rfl]; decide) (h b hb))
    | some r =>
      have e : dg (b.2 12) = dg r := dg_congr (hb.2.2.2 r rfl)
      have := (hq r rfl).1
      exact zif_t (by omega) (h b hb)
  | succ n ih =>
    intro o b hb hq h
    rw [lpz2]
    dsimp only
    generalize hL : lpz2 (b_X12_goesOn_84 (hd7 B) J (nI p) (B (dg B - 1)) (absL (B (dg B - 1)))) (n + 1) = L
    unfold b_X12_goesOn_84
    rw [lt]
    cases o with
    | none => exact zif (fun _ => h b hb) (fun q => zifn_f (by rw [hb.2.2.1 rfl]; decide) (h b hb))
    | some r =>
      obtain ⟨g1, g2, _, g4⟩ := hb
      have cr := g4 r rfl
      have e : dg (b.2 12) = dg r := dg_congr cr
      have dr := dg_le r
      have hrem : (some r : Option (Nat → Int64)).bind (remN B (n + 1)) = if dg r < dg B then some r else (rowS 7 (lowO B r)).bind (remN B n) := rfl
      rw [hrem] at h
      rw [e]
      have eh : hd7 (b.2 12) = hd7 r := by unfold hd7; rw [e]
      refine zif (fun q => ?_) (fun q => ?_)
      · rw [if_pos q] at h
        exact h b ⟨g1, g2, (fun z => by cases z), g4⟩
      · rw [if_neg q] at h
        have h4 := g2 ⟨r, rfl⟩
        refine zifn_t h4 ?_
        rw [eh, show hd7 r = nI (dg r - 1) from hd_I (by omega), nn_clamp (by omega), cr _ (by omega)]
        refine ⟨vp_in_nI (by omega) (by omega), nm_b ?_⟩
        have key := m_lower (μ := b) (p := p) hp (B := B) (r := r) (fun j hj => by rw [g1.2 11 (by omega)]; exact (hB j hj).1) cr h0 (by omega) h4 (J := fun μ_32 => w_X12_degreeOf 12 7 μ_32 (fun (r_34 : Int32) => L r_34 μ_32)) (fun c c1 c2 c3 => m_degreeOf ?_)
        · rw [show hd7 r = nI (dg r - 1) from hd_I (by omega)] at key
          exact key
        · rw [← hL]
          cases hS : rowS 7 (lowO B r) with
          | none =>
            rw [hS] at h
            obtain ⟨j, j1, j2⟩ := rowS_none hS
            refine ih none c ⟨gF_tr g1 c1, fun z => ?_, fun _ => ?_, fun q hq => by cases hq⟩ (fun q hq => by cases hq) h
            · obtain ⟨q, hq⟩ := z; cases hq
            · rcases c2 with ⟨_, z⟩ | ⟨z, _⟩
              · exact absurd j2 (z j j1)
              · exact z
          | some w =>
            rw [hS] at h
            have hl := low_dg (fun j hj => (hB j hj).2) h0 (by omega) hS
            have hn := (hq r rfl).1
            refine ih (some w) c ⟨gF_tr g1 c1, fun _ => ?_, (fun z => by cases z), fun q hq j hj => ?_⟩ (fun q hq => ?_) h
            · rcases c2 with ⟨z, _⟩ | ⟨_, z⟩
              · exact z
              · exact absurd (fun j hj => by rw [rowS_ok hS j hj]; exact fun z => by cases z) z
            · rw [← Option.some.inj hq]; exact c3 w hS j hj
            · rw [← Option.some.inj hq]
              exact ⟨by omega, fun j hj => lowO_ne (rowS_ok hS j hj)⟩
theorem m_degLink {μ : ZMem} {i : Nat} (hi : i ≤ 8) {Φ : Int32 → Prop} (h : Φ (hd7 (fun j => μ.2 11 (7 * i + j)))) : w_X12_degreeOfLink (nI i) μ Φ := by
  unfold w_X12_degreeOfLink
  have key : ∀ j, j ≤ 7 → Φ (nI (dgN (fun j => μ.2 11 (7 * i + j)) j) - 1) → lpz1 (b_X12_degreeOfLink_3 Φ (nI i) μ) (j + 1) (nI j - 1) := by
    intro j
    induction j with
    | zero => intro _ h; exact zif_t (by decide) h
    | succ j ih =>
      intro hj h
      rw [lpz1]
      dsimp only
      generalize hL : lpz1 (b_X12_degreeOfLink_3 Φ (nI i) μ) (j + 1) = L
      unfold b_X12_degreeOfLink_3
      rw [nI_sub1, show (7 : Int32) = nI 7 from rfl, pk_mul, nI_add, nn_clamp (by omega), nI_pm]
      rw [dgN] at h
      refine zif_f (nI_nneg (by omega)) ⟨vp_in_nI (by omega) (by omega), zifn (fun q => ?_) (fun q => ?_)⟩
      · rw [if_neg q, nI_sub1] at h; exact h
      · rw [if_pos q] at h
        rw [← hL]
        exact ih (by omega) h
  refine ⟨7 + 1, ?_⟩
  rw [show (6 : Int32) = nI 7 - 1 from by decide]
  exact key 7 (Nat.le_refl _) h
def mF (s : Nat) (μ b : ZMem) : Prop := (∀ a t, ¬ (a = 0 ∧ t = 4) → b.1 a t = μ.1 a t) ∧ (∀ a, a ≠ 11 → a ≠ 12 → b.2 a = μ.2 a) ∧ (∀ i, i < 7 * s → b.2 11 i = μ.2 11 i)
theorem m_goesOn {μ : ZMem} {s : Nat} (hs2 : 2 ≤ s) (hs : s ≤ 7) (h19 : μ.1 0 19 = nI s) (h4 : μ.1 0 4 = 0) {A B : Nat → Int64} (hA : ∀ j, j < 7 → μ.2 11 (7 * (s - 2) + j) = A j ∧ ¬ A j = MINL) (hB : ∀ j, j < 7 → μ.2 11 (7 * (s - 1) + j) = B j ∧ ¬ B j = MINL) (h0 : 1 ≤ dg B) {Φ : Int32 → ZMem → Prop} (hN : remN B 7 A = none → ∀ b, mF s μ b → b.1 0 4 = 1 → Φ 0 b) (hZ : ∀ q, remN B 7 A = some q → dg q = 0 → ∀ b, mF s μ b → b.1 0 4 = 0 → Φ 0 b) (hG : ∀ q, remN B 7 A = some q → 1 ≤ dg q → ∀ b, mF s μ b → b.1 0 4 = 0 → (∀ j, j < 7 → b.2 11 (7 * s + j) = -q j) → Φ 1 b) : w_X12_goesOn μ Φ := by
  have dB := dg_le B
  unfold w_X12_goesOn
  rw [h19, show (1 : Int32) = nI 1 from rfl, pk_sub (by omega)]
  refine nm_b (m_degLink (by omega) ?_)
  have ed : hd7 (fun j => μ.2 11 (7 * (s - 1) + j)) = hd7 B := by unfold hd7; rw [dg_congr (fun j hj => (hB j hj).1)]
  rw [ed]
  refine nm_b ⟨7 + 1, lp2_inv 7 (fun i b => gF μ b ∧ b.1 0 4 = 0 ∧ ∀ j, j < i → b.2 12 j = A j) (fun i b K hi hI hK => ?_) (fun b K hI => ?_) 7 0 μ (by omega) ⟨gF_rfl μ, h4, fun j hj => absurd hj (by omega)⟩⟩
  · obtain ⟨g1, g2, g3⟩ := hI
    unfold b_X12_goesOn_15
    rw [show (1 : Int32) = nI 1 from rfl, pk_sub (by omega), show (7 : Int32) = nI 7 from rfl, n_le (by omega) (by omega), pk_mul, pk_mul, nI_add, nI_add, nn_clamp (n := i) (by omega), nn_clamp (by omega)]
    refine zif_f (by omega) ⟨vp_in_nI (by omega) (by omega), vp_in_nI (by omega) (by omega), nm_b (hK _ ⟨gF_up g1, g2, fun j hj => ?_⟩)⟩
    rw [mJ2, if_pos rfl, updL_at]
    by_cases e : j = i
    · rw [if_pos e, g1.2 11 (by omega), show s - 1 - 1 = s - 2 by omega, e]
      exact (hA i hi).1
    · rw [if_neg e]; exact g3 j (by omega)
  · obtain ⟨g1, g2, g3⟩ := hI
    unfold b_X12_goesOn_15
    refine zif_t (by decide) ?_
    have eB : b.2 11 (7 * (s - 1) + (dg B - 1)) = B (dg B - 1) := by rw [g1.2 11 (by omega)]; exact (hB _ (by omega)).1
    have nb := (hB (dg B - 1) (by omega)).2
    have hidx : (7 : Int32) * nI (s - 1) + hd7 B = nI (7 * (s - 1) + (dg B - 1)) := by
      rw [show hd7 B = nI (dg B - 1) from hd_I (by omega), show (7 : Int32) = nI 7 from rfl, pk_mul, nI_add]
    rw [hidx, nn_clamp (by omega)]
    dsimp only
    rw [eB]
    refine ⟨vp_in_nI (by omega) (by omega), nm_b ?_⟩
    refine nm_k2 (fun x c => x = absL (B (dg B - 1)) ∧ gF μ c ∧ c.1 0 4 = 0 ∧ c.2 = b.2) (fun J hJ => zif (fun q => hJ _ _ ⟨?_, g1, g2, rfl⟩) (fun q => (m_turned _ _ _).mpr (hJ _ _ ⟨?_, gF_flg g1, ?_, rfl⟩))) ?_
    · have hne : B (dg B - 1) ≠ 0 := dg_top (by omega)
      unfold absL
      rw [if_pos]
      rw [l_le, show (0 : Int64).toInt = 0 from rfl] at q
      rw [l_lt, show (0 : Int64).toInt = 0 from rfl]
      have : (B (dg B - 1)).toInt ≠ 0 := fun z => hne (Int64.toInt_inj.mp z)
      omega
    · unfold absL
      rw [if_neg]
      rw [l_le, show (0 : Int64).toInt = 0 from rfl] at q
      rw [l_lt, show (0 : Int64).toInt = 0 from rfl]
      omega
    · rw [flg_v, decide_eq_true nb, if_pos ⟨g2, rfl⟩]
    rintro x c ⟨rfl, c1, c2, c3⟩
    refine m_degreeOf (nm_b ⟨7 + 1, ?_⟩)
    have hBc : ∀ j, j < 7 → μ.2 11 (7 * (s - 1) + j) = B j ∧ ¬ B j = MINL := hB
    refine m_while (μ := μ) (p := s - 1) (by omega) hBc h0 7 (some A) c ⟨c1, fun _ => c2, (fun z => by cases z), fun q hq j hj => ?_⟩ (fun q hq => ?_) (fun e he => ?_)
    · rw [← Option.some.inj hq, c3]; exact g3 j hj
    · rw [← Option.some.inj hq]; exact ⟨dg_le A, fun j hj => (hA j hj).2⟩
    · obtain ⟨e1, e2, e3, e4⟩ := he
      have hbind : (some A : Option (Nat → Int64)).bind (remN B 7) = remN B 7 A := rfl
      rw [hbind] at e2 e3 e4
      refine nm_b ?_
      cases hr : remN B 7 A with
      | none =>
        have f1 := e3 hr
        refine ⟨1, ?_⟩
        rw [lpz2]
        dsimp only
        unfold b_X12_goesOn_237
        refine zif_f (by decide) (zifn_f (by rw [f1]; decide) (nm_b (zifn_f (by rw [f1]; decide) (hN hr e ⟨e1.1, fun a _ h12 => e1.2 a h12, fun i _ => by rw [e1.2 11 (by omega)]⟩ f1))))
      | some q =>
        have f0 := e2 ⟨q, hr⟩
        have fq := e4 q hr
        have qn := remN_ne 7 A q (fun j hj => (hA j hj).2) hr
        have e19 : ∀ b' : ZMem, mF s μ b' → b'.1 0 19 = nI s := fun b' hb' => by rw [hb'.1 0 19 (by omega)]; exact h19
        refine ⟨7 + 1, lp2_inv 7 (fun i b' => mF s μ b' ∧ b'.1 0 4 = 0 ∧ (∀ j, j < 7 → b'.2 12 j = q j) ∧ ∀ j, j < i → b'.2 11 (7 * s + j) = -q j) (fun i b' K hi hI hK => ?_) (fun b' K hI => ?_) 7 0 e (by omega) ⟨⟨e1.1, fun a _ h12 => e1.2 a h12, fun i _ => by rw [e1.2 11 (by omega)]⟩, f0, fq, fun j hj => absurd hj (by omega)⟩⟩
        · obtain ⟨k1, k2, k3, k4⟩ := hI
          unfold b_X12_goesOn_237
          rw [show (7 : Int32) = nI 7 from rfl, n_le (by omega) (by omega), nn_clamp (n := i) (by omega), k3 i hi, e19 b' k1, pk_mul, nI_add, nn_clamp (by omega), nI_1]
          refine zif_f (by omega) (zifn_t k2 ⟨vp_in_nI (by omega) (by omega), (m_turned _ _ _).mpr ⟨vp_in_nI (by omega) (by omega), nm_b (hK _ ⟨⟨fun a t h => ?_, fun a h11 h12 => ?_, fun j hj => ?_⟩, ?_, fun j hj => ?_, fun j hj => ?_⟩)⟩⟩)
          · show (flg b' _).1 a t = _
            rw [flg_1 _ _ _ _ h]; exact k1.1 a t h
          · rw [mJ2, if_neg h11]; exact k1.2.1 a h11 h12
          · rw [mJ2, if_pos rfl, updL_at, if_neg (by omega)]; exact k1.2.2 j hj
          · show (flg b' _).1 0 4 = 0
            rw [flg_v, decide_eq_true (qn i hi), if_pos ⟨k2, rfl⟩]
          · rw [mJ2, if_neg (by omega)]; exact k3 j hj
          · rw [mJ2, if_pos rfl, updL_at]
            by_cases e : j = i
            · rw [if_pos (by omega), e]
            · rw [if_neg (by omega)]; exact k4 j (by omega)
        · obtain ⟨k1, k2, k3, k4⟩ := hI
          unfold b_X12_goesOn_237
          refine zif_t (by decide) (nm_b (zifn_t k2 (m_degreeOf ?_)))
          have eq : hd7 (b'.2 12) = nI (dg q) - 1 := by unfold hd7; rw [dg_congr k3]
          rw [eq, i_lt0, hd_toInt (dg_le q)]
          refine zif (fun z => hZ q hr (by omega) b' k1 k2) (fun z => hG q hr (by omega) b' k1 k2 k4)
