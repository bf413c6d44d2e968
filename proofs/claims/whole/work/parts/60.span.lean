/-! span, its edges -/
theorem mid_k {i o : Int32} (h1 : ab i ≤ 1600) (h2 : ab o ≤ 1600) : ab ((i + o) / 2) ≤ 1600 := by
  rw [ab_in] at h1 h2 ⊢
  have e1 : (i + o).toInt = i.toInt + o.toInt := add_toI (by omega) (by omega) (by omega) (by omega)
  have t := tdiv2 (i.toInt + o.toInt)
  have e2 : ((i + o) / 2).toInt = (i.toInt + o.toInt).tdiv 2 := by
    rw [Int32.toInt_div, e1, show (2 : Int32).toInt = 2 from rfl]
    exact Int.bmod_eq_of_le (by omega) (by omega)
  rw [e2]
  omega
def edN (b : Int32 → Bool) : Nat → Int32 → Int32 → Int32
  | 0, i, _ => i
  | n + 1, i, o => if b ((i + o) / 2) then edN b n ((i + o) / 2) o else edN b n i ((i + o) / 2)
theorem ex_bI (p : Int32 → Prop) : ∃ b : Int32 → Bool, ∀ i, b i = true ↔ p i := by
  refine ⟨fun i => @decide (p i) (Classical.propDecidable _), fun i => ?_⟩
  exact @decide_eq_true_iff (p i) (Classical.propDecidable _)
theorem e_edgeLoop {μ0 : ZMem} {t : Nat} (ht : t = 64 ∨ t = 67) {kind : Int32} (hk : μ0.1 t 0 = kind) (hs : smallPQ (μ0.2 2) (μ0.2 3)) {b : Int32 → Bool} (hb : ∀ v, b v = true ↔ stP (μ0.2 2) (μ0.2 3) kind 16 v) {Φ : Int32 → ZMem → Prop} : ∀ n j i o μ, n + j = 4 → ab i ≤ 1600 → ab o ≤ 1600 → XH μ0 μ → (∀ μ', XH μ0 μ' → Φ (edN b n i o) μ') → lpz4 (b_X6_edge_15 Φ t) (n + 1) i o (nI j) μ := by
  intro n
  induction n with
  | zero =>
    intro j i o μ hj _ _ hμ h
    rw [lpz4]
    dsimp only
    unfold b_X6_edge_15
    exact zif_t (by rw [show (4 : Int32) = nI 4 from rfl, n_le (by omega) (by omega)]; omega) (h μ hμ)
  | succ n ih =>
    intro j i o μ hj hi ho hμ h
    rw [lpz4]
    dsimp only
    generalize hL : lpz4 (b_X6_edge_15 Φ t) (n + 1) = L
    unfold b_X6_edge_15
    rw [show (4 : Int32) = nI 4 from rfl, n_le (by omega) (by omega), hμ.1 t (by omega) (by omega), hk, nI_1]
    have hm := mid_k hi ho
    refine zif_f (by omega) (nm_b ?_)
    have eP := hμ.2 2 (by omega) (by omega)
    have eQ := hμ.2 3 (by omega) (by omega)
    unfold edN at h
    refine e_holds (by rw [eP, eQ]; exact hs) (by decide) hm (fun z μ' xs => ?_) (fun z μ' xs => ?_)
    · rw [eP, eQ] at z
      rw [(hb _).mpr z, if_pos rfl] at h
      refine nm_k2 (fun x y => x = (i + o) / 2 ∧ y = o) (fun J hJ => z1p (hJ _ _ ⟨rfl, rfl⟩)) ?_
      rintro x y ⟨rfl, rfl⟩
      rw [← hL]
      exact ih (j + 1) _ _ μ' (by omega) hm ho (XH_tr hμ xs) h
    · rw [eP, eQ] at z
      have hbf : b ((i + o) / 2) = false := by
        cases hb' : b ((i + o) / 2) with
        | false => rfl
        | true => exact absurd ((hb _).mp hb') z
      rw [hbf] at h
      refine nm_k2 (fun x y => x = i ∧ y = (i + o) / 2) (fun J hJ => z0p (hJ _ _ ⟨rfl, rfl⟩)) ?_
      rintro x y ⟨rfl, rfl⟩
      rw [← hL]
      exact ih (j + 1) _ _ μ' (by omega) hi hm (XH_tr hμ xs) h
theorem m_firstLoop {μ0 : ZMem} {kind a2 : Int32} (ha : ¬ a2 ≤ -100) (hs : smallPQ (pF μ0) (qF μ0)) {b : Int32 → Bool} (hb : ∀ v, ab v ≤ 1600 → (b v = true ↔ stP (pF μ0) (qF μ0) kind 16 v)) {Φ : Int32 → ZMem → Prop} : ∀ n j i o μ, n + j = 4 → ab i ≤ 1600 → ab o ≤ 1600 → MS μ0 μ → (∀ μ', MS μ0 μ' → Φ (edN b n i o) μ') → lpz4 (b_X12_firstEdge_14 Φ a2 kind) (n + 1) i o (nI j) μ := by
  intro n
  induction n with
  | zero =>
    intro j i o μ hj _ _ hμ h
    rw [lpz4]
    dsimp only
    unfold b_X12_firstEdge_14
    exact zif_t (by rw [show (4 : Int32) = nI 4 from rfl, n_le (by omega) (by omega)]; omega) (h μ hμ)
  | succ n ih =>
    intro j i o μ hj hi ho hμ h
    rw [lpz4]
    dsimp only
    generalize hL : lpz4 (b_X12_firstEdge_14 Φ a2 kind) (n + 1) = L
    unfold b_X12_firstEdge_14
    rw [show (4 : Int32) = nI 4 from rfl, n_le (by omega) (by omega), nI_1, Int32.add_comm o i]
    have hm := mid_k hi ho
    refine zif_f (by omega) (zif_f ha (nm_b ?_))
    obtain ⟨eP, eQ⟩ : pF μ = pF μ0 ∧ qF μ = qF μ0 := by
      unfold pF qF
      rw [hμ.1 1 (by omega) (by omega)]
      exact ⟨rfl, rfl⟩
    unfold edN at h
    refine m_isSteady (by rw [eP, eQ]; exact hs) (by decide) hm (fun z μ' xs => ?_) (fun z μ' xs => ?_)
    · rw [eP, eQ] at z
      rw [(hb _ hm).mpr z, if_pos rfl] at h
      refine nm_k (fun x => x = (i + o) / 2) (fun J hJ => z1p (hJ _ rfl)) ?_
      rintro x rfl
      refine nm_k (fun x => x = o) (fun J hJ => z1p (hJ _ rfl)) ?_
      rintro x rfl
      rw [← hL]
      exact ih (j + 1) _ _ μ' (by omega) hm ho (MS_tr hμ xs) h
    · rw [eP, eQ] at z
      have hbf : b ((i + o) / 2) = false := by
        cases hb' : b ((i + o) / 2) with
        | false => rfl
        | true => exact absurd ((hb _ hm).mp hb') z
      rw [hbf] at h
      refine nm_k (fun x => x = i) (fun J hJ => z0p (hJ _ rfl)) ?_
      rintro x rfl
      refine nm_k (fun y => y = (x + o) / 2) (fun J hJ => z0p (hJ _ rfl)) ?_
      rintro y rfl
      rw [← hL]
      exact ih (j + 1) _ _ μ' (by omega) hi hm (MS_tr hμ xs) h
theorem m_lastLoop {μ0 : ZMem} {kind a2 : Int32} (ha : ¬ (100 : Int32) ≤ a2) (hs : smallPQ (pF μ0) (qF μ0)) {b : Int32 → Bool} (hb : ∀ v, ab v ≤ 1600 → (b v = true ↔ stP (pF μ0) (qF μ0) kind 16 v)) {Φ : Int32 → ZMem → Prop} : ∀ n j i o μ, n + j = 4 → ab i ≤ 1600 → ab o ≤ 1600 → MS μ0 μ → (∀ μ', MS μ0 μ' → Φ (edN b n i o) μ') → lpz4 (b_X12_lastEdge_14 Φ a2 kind) (n + 1) i o (nI j) μ := by
  intro n
  induction n with
  | zero =>
    intro j i o μ hj _ _ hμ h
    rw [lpz4]
    dsimp only
    unfold b_X12_lastEdge_14
    exact zif_t (by rw [show (4 : Int32) = nI 4 from rfl, n_le (by omega) (by omega)]; omega) (h μ hμ)
  | succ n ih =>
    intro j i o μ hj hi ho hμ h
    rw [lpz4]
    dsimp only
    generalize hL : lpz4 (b_X12_lastEdge_14 Φ a2 kind) (n + 1) = L
    unfold b_X12_lastEdge_14
    rw [show (4 : Int32) = nI 4 from rfl, n_le (by omega) (by omega), nI_1]
    have hm := mid_k hi ho
    refine zif_f (by omega) (zif_f ha (nm_b ?_))
    obtain ⟨eP, eQ⟩ : pF μ = pF μ0 ∧ qF μ = qF μ0 := by
      unfold pF qF
      rw [hμ.1 1 (by omega) (by omega)]
      exact ⟨rfl, rfl⟩
    unfold edN at h
    refine m_isSteady (by rw [eP, eQ]; exact hs) (by decide) hm (fun z μ' xs => ?_) (fun z μ' xs => ?_)
    · rw [eP, eQ] at z
      rw [(hb _ hm).mpr z, if_pos rfl] at h
      refine nm_k (fun x => x = (i + o) / 2) (fun J hJ => z1p (hJ _ rfl)) ?_
      rintro x rfl
      refine nm_k (fun x => x = o) (fun J hJ => z1p (hJ _ rfl)) ?_
      rintro x rfl
      rw [← hL]
      exact ih (j + 1) _ _ μ' (by omega) hm ho (MS_tr hμ xs) h
    · rw [eP, eQ] at z
      have hbf : b ((i + o) / 2) = false := by
        cases hb' : b ((i + o) / 2) with
        | false => rfl
        | true => exact absurd ((hb _ hm).mp hb') z
      rw [hbf] at h
      refine nm_k (fun x => x = i) (fun J hJ => z0p (hJ _ rfl)) ?_
      rintro x rfl
      refine nm_k (fun y => y = (x + o) / 2) (fun J hJ => z0p (hJ _ rfl)) ?_
      rintro y rfl
      rw [← hL]
      exact ih (j + 1) _ _ μ' (by omega) hi hm (MS_tr hμ xs) h
