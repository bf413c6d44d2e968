/-! one polynomial by another: the reference's way -/
def okm (B r : Nat → Int64) (j : Nat) : Bool := zfit ((r j).toInt * (absL (B (dg B - 1))).toInt)
def okp (B r : Nat → Int64) (j : Nat) : Bool := zfit ((r (dg r - 1)).toInt * (B (j - (dg r - dg B))).toInt)
def mdV (B r : Nat → Int64) (j : Nat) : Int64 := r j * absL (B (dg B - 1))
def ptV (B r : Nat → Int64) (j : Nat) : Int64 := sgL (B (dg B - 1)) (r (dg r - 1) * B (j - (dg r - dg B)))
def oks (B r : Nat → Int64) (j : Nat) : Bool := zfit ((mdV B r j).toInt - (ptV B r j).toInt)
theorem midO_if (B r : Nat → Int64) (j : Nat) : midO B r j = if okm B r j = true then some (mdV B r j) else none := rfl
theorem finO_if (B r : Nat → Int64) (j : Nat) : finO B r j = if okm B r j = true ∧ okp B r j = true ∧ oks B r j = true then some (mdV B r j - ptV B r j) else none := by
  unfold finO
  rw [midO_if]
  by_cases h1 : okm B r j = true
  · rw [if_pos h1, Option.bind_some]
    have e : xt (r (dg r - 1)) (B (j - (dg r - dg B))) = if okp B r j = true then some (r (dg r - 1) * B (j - (dg r - dg B))) else none := rfl
    rw [e]
    by_cases h2 : okp B r j = true
    · rw [if_pos h2, Option.bind_some]
      by_cases h3 : oks B r j = true
      · rw [if_pos ⟨h1, h2, h3⟩]
        show (if zfit ((mdV B r j).toInt - (ptV B r j).toInt) = true then some (mdV B r j - ptV B r j) else none) = _
        rw [if_pos (show zfit ((mdV B r j).toInt - (ptV B r j).toInt) = true from h3)]
      · rw [if_neg (fun q => h3 q.2.2)]
        show (if zfit ((mdV B r j).toInt - (ptV B r j).toInt) = true then some (mdV B r j - ptV B r j) else none) = _
        rw [if_neg (show ¬ zfit ((mdV B r j).toInt - (ptV B r j).toInt) = true from h3)]
    · rw [if_neg h2, if_neg (fun q => h2 q.2.1)]; rfl
  · rw [if_neg h1, if_neg (fun q => h1 q.1)]; rfl
def gF (μ b : ZMem) : Prop := (∀ a s, ¬ (a = 0 ∧ s = 4) → b.1 a s = μ.1 a s) ∧ (∀ a, a ≠ 12 → b.2 a = μ.2 a)
theorem gF_rfl (μ : ZMem) : gF μ μ := ⟨fun _ _ _ => rfl, fun _ _ => rfl⟩
theorem gF_tr {a b c : ZMem} (h1 : gF a b) (h2 : gF b c) : gF a c := ⟨fun x s q => (h2.1 x s q).trans (h1.1 x s q), fun x q => (h2.2 x q).trans (h1.2 x q)⟩
theorem gF_flg {μ b : ZMem} {ok : Bool} (h : gF μ b) : gF μ (flg b ok) := by
  refine ⟨fun a s q => ?_, fun a q => h.2 a q⟩
  unfold flg
  rw [mI1]
  by_cases e : a = 0
  · rw [if_pos e, upd_at, if_neg (fun z => q ⟨e, z⟩)]
    rw [← e]; exact h.1 a s q
  · rw [if_neg e]; exact h.1 a s q
theorem gF_up {μ b : ZMem} {j : Nat} {v : Int64} (h : gF μ b) : gF μ (zz_upJ b 12 j v) := ⟨fun a s q => h.1 a s q, fun a q => by rw [mJ2, if_neg q]; exact h.2 a q⟩
theorem FL_up {μ : ZMem} {p : Prop} {k j : Nat} {v : Int64} (h : FL μ p) : FL (zz_upJ μ k j v) p := h
theorem zfit_ne {a b : Int64} (h : zfit (a.toInt * b.toInt) = true) : ¬ a * b = MINL := by
  intro q
  have h1 := l_mulF h
  have h2 := (zfit_iff _).mp h
  have h3 : (a * b).toInt = -9223372036854775808 := l_min.mp q
  omega
theorem m_lower {μ : ZMem} {p : Nat} (hp : p ≤ 7) {B r : Nat → Int64} (hB : ∀ j, j < 7 → μ.2 11 (7 * p + j) = B j) (hr : ∀ j, j < 7 → μ.2 12 j = r j) (h0 : 1 ≤ dg B) (hd : dg B ≤ dg r) (h4 : μ.1 0 4 = 0) {J : ZMem → Prop} (h : ∀ b, gF μ b → FL b (∀ j, j < 7 → lowO B r j ≠ none) → (∀ w, rowS 7 (lowO B r) = some w → ∀ j, j < 7 → b.2 12 j = w j) → J b) : nm (fun (μ_30 : ZMem) => nm J (fun (J_33 : ZMem → Prop) => ∃ n, lpz2 (b_X12_goesOn_145 (hd7 B) J_33 (nI p) (r (dg r - 1)) (hd7 r) (B (dg B - 1))) n 0 μ_30)) (fun (J_31 : ZMem → Prop) => ∃ n, lpz2 (b_X12_goesOn_109 J_31 (absL (B (dg B - 1)))) n 0 μ) := by
  have dB := dg_le B
  have dr := dg_le r
  have eh : hd7 r = nI (dg r - 1) := hd_I (by omega)
  have el : hd7 B = nI (dg B - 1) := hd_I (by omega)
  refine nm_b ⟨7 + 1, lp2_inv 7 (fun i b => gF μ b ∧ FL b (∀ j, j < i → okm B r j = true) ∧ ∀ j, j < 7 → b.2 12 j = if j < i then mdV B r j else r j) (fun i b K hi hI hK => ?_) (fun b K hI => ?_) 7 0 μ (by omega) ⟨gF_rfl μ, Or.inl ⟨h4, fun j hj => absurd hj (by omega)⟩, fun j hj => by rw [if_neg (by omega)]; exact hr j hj⟩⟩
  · obtain ⟨g1, g2, g3⟩ := hI
    unfold b_X12_goesOn_109
    have hv := vp_in_nI (n := i) (N := 7) hi (by omega)
    have ei : b.2 12 i = r i := by rw [g3 i hi, if_neg (by omega)]
    rw [show (7 : Int32) = nI 7 from rfl, n_le (by omega) (by omega), nI_1, nn_clamp (by omega), ei]
    refine zif_f (by omega) ⟨hv, (m_times _ _ _ _).mpr ⟨hv, nm_b (hK _ ⟨gF_up (gF_flg g1), ?_, fun j hj => ?_⟩)⟩⟩
    · refine FL_iff (FL_up (FL_flg (ok := okm B r i) g2)) ⟨fun z j hj => ?_, fun z => ⟨fun j hj => z j (by omega), z i (by omega)⟩⟩
      by_cases e : j = i
      · rw [e]; exact z.2
      · exact z.1 j (by omega)
    · rw [mJ2, if_pos rfl, updL_at, flg_2, g3 j hj]
      by_cases e : j = i
      · rw [if_pos e, if_pos (by omega), e]; rfl
      · rw [if_neg e]
        by_cases e2 : j < i
        · rw [if_pos e2, if_pos (by omega)]
        · rw [if_neg e2, if_neg (by omega)]
  · obtain ⟨g1, g2, g3⟩ := hI
    unfold b_X12_goesOn_109
    refine zif_t (by decide) (nm_b ?_)
    rw [eh, el]
    refine ⟨dg B + 1, lp2_inv (dg B) (fun i b => gF μ b ∧ FL b ((∀ j, j < 7 → okm B r j = true) ∧ ∀ j, dg r - dg B ≤ j → j < dg r - dg B + i → okp B r j = true ∧ oks B r j = true) ∧ ∀ j, j < 7 → b.2 12 j = if dg r - dg B ≤ j ∧ j < dg r - dg B + i then mdV B r j - ptV B r j else mdV B r j) (fun i b K hi hI hK => ?_) (fun b K hI => ?_) (dg B) 0 b (by omega) ⟨g1, FL_iff g2 ⟨fun z => ⟨z, fun j h1 h2 => absurd h2 (by omega)⟩, fun z => z.1⟩, fun j hj => by rw [if_neg (by omega), g3 j hj, if_pos hj]⟩⟩
    · obtain ⟨f1, f2, f3⟩ := hI
      unfold b_X12_goesOn_145
      have eidx : nI i + nI (dg r - 1) - nI (dg B - 1) = nI (i + (dg r - dg B)) := by
        rw [nI_add, pk_sub (by omega)]; congr 1; omega
      have eB : b.2 11 (7 * p + i) = B i := by rw [f1.2 11 (by omega)]; exact hB i (by omega)
      have ex : b.2 12 (i + (dg r - dg B)) = mdV B r (i + (dg r - dg B)) := by rw [f3 _ (by omega), if_neg (by omega)]
      rw [n_lt (by omega) (by omega), show (7 : Int32) = nI 7 from rfl, pk_mul, nI_add, nn_clamp (n := 7 * p + i) (by omega), eB, eidx, nI_1, nn_clamp (by omega)]
      refine zif_f (by omega) ⟨vp_in_nI (by omega) (by omega), (m_times _ _ _ _).mpr ⟨vp_in_nI (by omega) (by omega), ?_⟩⟩
      have ei : i + (dg r - dg B) - (dg r - dg B) = i := by omega
      have epv : ptV B r (i + (dg r - dg B)) = sgL (B (dg B - 1)) (r (dg r - 1) * B i) := by unfold ptV; rw [ei]
      have eop : okp B r (i + (dg r - dg B)) = zfit ((r (dg r - 1)).toInt * (B i).toInt) := by unfold okp; rw [ei]
      rw [← eop]
      have s1 := FL_flg (ok := okp B r (i + (dg r - dg B))) f2
      refine nm_k2 (fun x c => x = ptV B r (i + (dg r - dg B)) ∧ gF μ c ∧ c.2 = b.2 ∧ FL c (((∀ j, j < 7 → okm B r j = true) ∧ ∀ j, dg r - dg B ≤ j → j < dg r - dg B + i → okp B r j = true ∧ oks B r j = true) ∧ okp B r (i + (dg r - dg B)) = true)) (fun J2 hJ2 => zif (fun q => hJ2 _ _ ⟨?_, gF_flg f1, rfl, s1⟩) (fun q => (m_turned _ _ _).mpr (hJ2 _ _ ⟨?_, gF_flg (gF_flg f1), rfl, ?_⟩))) ?_
      · rw [epv]; unfold sgL; rw [if_pos q]
      · rw [epv]; unfold sgL; rw [if_neg q]
      · refine FL_iff (FL_flg (ok := decide (¬ r (dg r - 1) * B i = MINL)) s1) ⟨fun z => z.1, fun z => ⟨z, ?_⟩⟩
        rw [decide_eq_true_eq]
        exact zfit_ne (by rw [← eop]; exact z.2)
      rintro x c ⟨rfl, c1, c2, c3⟩
      refine (m_less _ _ _ _).mpr ⟨vp_in_nI (by omega) (by omega), nm_b (hK _ ⟨gF_up (gF_flg c1), ?_, fun j hj => ?_⟩)⟩
      · have ebx : (flg b (okp B r (i + (dg r - dg B)))).2 12 (i + (dg r - dg B)) = mdV B r (i + (dg r - dg B)) := ex
        rw [ebx]
        refine FL_iff (FL_up (FL_flg (ok := oks B r (i + (dg r - dg B))) c3)) ⟨fun z => ⟨z.1.1.1, fun j h1 h2 => ?_⟩, fun z => ⟨⟨⟨z.1, fun j h1 h2 => z.2 j h1 (by omega)⟩, (z.2 _ (by omega) (by omega)).1⟩, (z.2 _ (by omega) (by omega)).2⟩⟩
        by_cases e : j = i + (dg r - dg B)
        · rw [e]; exact ⟨z.1.2, z.2⟩
        · exact z.1.1.2 j h1 (by omega)
      · have ebx : (flg b (okp B r (i + (dg r - dg B)))).2 12 (i + (dg r - dg B)) = mdV B r (i + (dg r - dg B)) := ex
        rw [mJ2, if_pos rfl, updL_at, flg_2, flg_2 c, c2, f3 j hj, ex]
        by_cases e : j = i + (dg r - dg B)
        · rw [if_pos e, if_pos (by omega), e]
        · rw [if_neg e]
          by_cases e2 : dg r - dg B ≤ j ∧ j < dg r - dg B + i
          · rw [if_pos e2, if_pos (by omega)]
          · rw [if_neg e2, if_neg (by omega)]
    · obtain ⟨f1, f2, f3⟩ := hI
      unfold b_X12_goesOn_145
      have lo : ∀ j, lowO B r j = if dg r - dg B ≤ j ∧ j < dg r then (if okm B r j = true ∧ okp B r j = true ∧ oks B r j = true then some (mdV B r j - ptV B r j) else none) else (if okm B r j = true then some (mdV B r j) else none) := fun j => by
        unfold lowO
        rw [finO_if, midO_if]
      refine zif_t (by rw [n_lt (by omega) (by omega)]; omega) (h b f1 (FL_iff f2 ⟨fun z j hj => ?_, fun z => ⟨fun j hj => ?_, fun j h1 h2 => ?_⟩⟩) (fun w hw j hj => ?_))
      · rw [lo j]
        by_cases e : dg r - dg B ≤ j ∧ j < dg r
        · have := z.2 j e.1 (by omega)
          rw [if_pos e, if_pos ⟨z.1 j hj, this.1, this.2⟩]
          exact fun q => by cases q
        · rw [if_neg e, if_pos (z.1 j hj)]
          exact fun q => by cases q
      · have := z j hj
        rw [lo j] at this
        by_cases e : dg r - dg B ≤ j ∧ j < dg r
        · rw [if_pos e] at this
          apply Classical.byContradiction
          intro q
          exact this (if_neg (fun y => q y.1))
        · rw [if_neg e] at this
          apply Classical.byContradiction
          intro q
          exact this (if_neg q)
      · have := z j (by omega)
        rw [lo j, if_pos (by omega)] at this
        apply Classical.byContradiction
        intro q
        exact this (if_neg (fun y => q y.2))
      · have hj2 := rowS_ok hw j hj
        rw [lo j] at hj2
        rw [f3 j hj]
        by_cases e : dg r - dg B ≤ j ∧ j < dg r
        · rw [if_pos e] at hj2
          rw [if_pos (by omega)]
          split at hj2
          · exact Option.some.inj hj2
          · cases hj2
        · rw [if_neg e] at hj2
          rw [if_neg (by omega)]
          split at hj2
          · exact Option.some.inj hj2
          · cases hj2
