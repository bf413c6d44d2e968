/-! next, swap -/
def insI (f : Nat → Int32) (i en : Nat) : Prop := ∀ a b, a < b → b ≤ en → b ≠ i → (f a).toInt ≤ (f b).toInt
theorem insI_sw {f : Nat → Int32} {i en : Nat} (hi : i + 1 ≤ en) (h : insI f (i + 1) en) (hlt : ¬ (f i).toInt ≤ (f (i + 1)).toInt) : insI (sw f i (i + 1)) i en := by
  intro a b hab hb hbi
  rw [sw_at, sw_at]
  have h1 := h a b hab hb
  have h2 := h a i
  have h3 := h i b
  have h4 := h (i + 1) b
  by_cases e1 : b = i + 1
  · rw [if_pos e1]
    by_cases e2 : a = i
    · rw [if_neg (by omega), if_pos e2]; omega
    · rw [if_neg (by omega), if_neg e2]; exact h2 (by omega) (by omega) (by omega)
  · rw [if_neg e1, if_neg hbi]
    by_cases e3 : a = i + 1
    · rw [if_pos e3]; exact h3 (by omega) hb e1
    · rw [if_neg e3]
      by_cases e2 : a = i
      · rw [if_pos e2]; exact h4 (by omega) hb e1
      · rw [if_neg e2]; exact h1 e1
theorem bd_sw {f : Nat → Int32} {i j w : Nat} (hi : i < w) (hj : j < w) (h : ∀ t, t < w → ab (f t) ≤ 100) : ∀ t, t < w → ab (sw f i j t) ≤ 100 := by
  intro t ht
  rw [sw_at]
  split
  · exact h i hi
  · split
    · exact h j hj
    · exact h t ht
theorem e_ins {μ : ZMem} {w en : Nat} (hw : w ≤ 16) (hen : en < w) (g : Nat → Int32) (J : ZMem → Prop) (hJ : ∀ f, srt f (en + 1) → (∀ x, cle f x w = cle g x w) → (∀ t, t < w → ab (f t) ≤ 100) → J (stI μ 4 f)) {f : Nat → Int32} (f1 : srt f en) (f2 : ∀ x, cle f x w = cle g x w) (f3 : ∀ t, t < w → ab (f t) ≤ 100) : ∃ n, lpz2 (b_X3_sortLine_12 J) n (nI en) (stI μ 4 f) := by
  refine ⟨(en + 1) + 1, ?_⟩
  rw [show nI en = nI (en + 1) - 1 from (nI_sub1 en).symm]
  refine lp2_dni (en + 1) (fun i b => 1 ≤ i ∧ ∃ f, b = stI μ 4 f ∧ insI f (i - 1) en ∧ (∀ x, cle f x w = cle g x w) ∧ (∀ t, t < w → ab (f t) ≤ 100)) (fun i b K hi hI hK => ?_) (fun b K hI => absurd hI.1 (by omega)) (en + 1) (Nat.le_refl _) _ ⟨by omega, f, rfl, fun a b h1 h2 h3 => f1 a b h1 (by omega), f2, f3⟩
  obtain ⟨_, f, rfl, i1, i2, i3⟩ := hI
  rw [show i + 1 - 1 = i by omega] at i1
  unfold b_X3_sortLine_12
  rw [show (0 : Int32) = nI 0 from rfl, n_le (by omega) (by omega)]
  refine zif (fun q => hJ f (fun a b h1 h2 => i1 a b h1 (by omega) (by omega)) i2 i3) (fun q => ?_)
  obtain ⟨j, rfl⟩ : ∃ j, i = j + 1 := ⟨i - 1, by omega⟩
  rw [show nI (j + 1) - 1 = nI j from nI_sub1 j, nn_clamp (by omega), nn_clamp (by omega), nI_pm, nI_sub1]
  rw [nI_sub1] at hK
  refine ⟨vp_in_nI (by omega) (by omega), vp_in_nI (by omega) (by omega), ?_⟩
  have ef : (stI μ 4 f).1 4 = f := rfl
  rw [ef, i_le]
  refine zif (fun q2 => hJ f (fun a b h1 h2 => ?_) i2 i3) (fun q2 => e_exch (by omega) (by omega) (hK _ ⟨by omega, _, rfl, insI_sw (by omega) i1 q2, fun x => ?_, bd_sw (by omega) (by omega) i3⟩))
  · by_cases e : b = j + 1
    · rw [e]
      by_cases e2 : a = j
      · rw [e2]; exact q2
      · exact Int.le_trans (i1 a j (by omega) (by omega) (by omega)) q2
    · exact i1 a b h1 (by omega) e
  · rw [cle_sw (by omega) (by omega)]; exact i2 x
theorem e_sort {μ : ZMem} {w : Nat} (hw : w ≤ 16) (h4 : μ.1 1 4 = nI w) (hb : ∀ t, t < w → ab (μ.1 4 t) ≤ 100) {Φ : ZMem → Prop} (h : ∀ f, srt f w → (∀ x, cle f x w = cle (μ.1 4) x w) → (∀ t, t < w → ab (f t) ≤ 100) → Φ (stI μ 4 f)) : w_X3_sortLine μ Φ := by
  unfold w_X3_sortLine
  refine ⟨(max w 1 - 1) + 1, lp2_inv (max w 1) (fun i b => 1 ≤ i ∧ ∃ f, b = stI μ 4 f ∧ srt f i ∧ (∀ x, cle f x w = cle (μ.1 4) x w) ∧ (∀ t, t < w → ab (f t) ≤ 100)) (fun i b K hi hI hK => ?_) (fun b K hI => ?_) (max w 1 - 1) 1 μ (by omega) ⟨Nat.le_refl _, μ.1 4, (stI_self μ 4).symm, fun a b h1 h2 => absurd h1 (by omega), fun _ => rfl, hb⟩⟩
  · obtain ⟨i1, f, rfl, f1, f2, f3⟩ := hI
    unfold b_X3_sortLine_2
    have e4 : (stI μ 4 f).1 1 4 = nI w := h4
    rw [e4, n_le (by omega) (by omega)]
    refine zif_f (by omega) (nm_b (e_ins hw (by omega) (μ.1 4) _ (fun f' g1 g2 g3 => ?_) f1 f2 f3))
    rw [nI_1]
    exact hK _ ⟨by omega, f', rfl, g1, g2, g3⟩
  · obtain ⟨i1, f, rfl, f1, f2, f3⟩ := hI
    unfold b_X3_sortLine_2
    have e4 : (stI μ 4 f).1 1 4 = nI w := h4
    rw [e4]
    exact zif_t (by rw [n_le (by omega) (by omega)]; omega) (h f (fun a b h1 h2 => f1 a b h1 (by omega)) f2 f3)
def lin (g : Nat → Int32) (t : Nat) : Int32 := g (16 + t)
theorem lin_sw (g : Nat → Int32) (i j : Nat) : lin (sw g (16 + i) (16 + j)) = sw (lin g) i j := by
  funext t
  unfold lin
  rw [sw_at, sw_at]
  by_cases e1 : t = j
  · rw [if_pos e1, if_pos (by omega)]
  · rw [if_neg e1, if_neg (by omega)]
    by_cases e2 : t = i
    · rw [if_pos e2, if_pos (by omega)]
    · rw [if_neg e2, if_neg (by omega)]
def cnd (a1 : Int32) (w : Nat) (f : Nat → Int32) (i j : Nat) : Prop := (a1 = 0 ∧ i + j + 1 = w) ∨ (a1 = 1 ∧ ¬ (f i).toInt ≤ (f j).toInt) ∨ (a1 = 2 ∧ j = i + 1)
def outl (g g0 : Nat → Int32) : Prop := ∀ j, j < 16 ∨ 32 ≤ j → g j = g0 j
theorem m_swap {μ : ZMem} {a1 : Int32} {w : Nat} (ha : a1 = 0 ∨ a1 = 1 ∨ a1 = 2) (hw : w ≤ 16) (h15 : μ.1 1 15 = nI w) (O : Nat → (Nat → Int32) → Prop) (I : Nat → Nat → (Nat → Int32) → Prop) (h0 : O 0 (lin (μ.1 1))) (ha1 : ∀ i f, i < w → O i f → I i (i + 1) f) (hb1 : ∀ i f, i < w → I i w f → O (i + 1) f) (hc : ∀ i j f, i < j → j < w → I i j f → (cnd a1 w f i j → I i (j + 1) (sw f i j)) ∧ (¬ cnd a1 w f i j → I i (j + 1) f)) {Φ : Int32 → ZMem → Prop} (h : ∀ g, O w (lin g) → outl g (μ.1 1) → Φ (nI w) (stI μ 1 g)) : w_X12_swap a1 μ Φ := by
  unfold w_X12_swap
  refine m_in_k (fun _ _ => z1n ?_) (fun q => absurd ?_ q)
  · refine ⟨w + 1, lp2_inv w (fun i b => ∃ g, b = stI μ 1 g ∧ O i (lin g) ∧ outl g (μ.1 1)) (fun i b K hi hI hK => ?_) (fun b K hI => ?_) w 0 μ (by omega) ⟨μ.1 1, (stI_self μ 1).symm, h0, fun _ _ => rfl⟩⟩
    · obtain ⟨g, rfl, g1, g2⟩ := hI
      unfold b_X12_swap_17
      have e15 : (stI μ 1 g).1 1 15 = nI w := by rw [← h15]; exact g2 15 (by omega)
      rw [e15, n_le (by omega) (by omega)]
      refine zif_f (by omega) (nm_b (nm_b ?_))
      rw [nI_1]
      refine ⟨(w - (i + 1)) + 1, lp2_inv w (fun j b => i < j ∧ ∃ g, b = stI μ 1 g ∧ I i j (lin g) ∧ outl g (μ.1 1)) (fun j b K2 hj hI hK2 => ?_) (fun b K2 hI => ?_) (w - (i + 1)) (i + 1) _ (by omega) ⟨by omega, g, rfl, ha1 i _ hi g1, g2⟩⟩
      · obtain ⟨hij, g, rfl, g1, g2⟩ := hI
        unfold b_X12_swap_32
        have e15 : (stI μ 1 g).1 1 15 = nI w := by rw [← h15]; exact g2 15 (by omega)
        rw [e15, n_le (by omega) (by omega)]
        refine zif_f (by omega) ?_
        obtain ⟨c1, c2⟩ := hc i j (lin g) hij hj g1
        refine nm_k (fun x => (x = 1 ∧ cnd a1 w (lin g) i j) ∨ (x = 0 ∧ ¬ cnd a1 w (lin g) i j)) (fun J hJ => ?_) ?_
        · unfold cnd at hJ
          refine zifn (fun n0 => zifn (fun n1 => zifn (fun n2 => hJ _ (Or.inr ⟨rfl, ?_⟩)) (fun n2 => hJ _ (Or.inl ⟨rfl, ?_⟩))) (fun n1 => ?_)) (fun n0 => zifn (fun n2 => hJ _ (Or.inr ⟨rfl, ?_⟩)) (fun n2 => hJ _ (Or.inl ⟨rfl, ?_⟩)))
          · rw [nI_1, nI_eq (by omega) (by omega)] at n2
            rintro (⟨q, _⟩ | ⟨q, _⟩ | ⟨_, q⟩)
            · exact n0 q
            · exact n1 q
            · exact n2 q
          · rw [nI_1, nI_eq (by omega) (by omega)] at n2
            refine Or.inr (Or.inr ⟨?_, n2⟩)
            rcases ha with q | q | q
            · exact absurd q n0
            · exact absurd q n1
            · exact q
          · rw [show (16 : Int32) = nI 16 from rfl, nI_add, nI_add, nn_clamp (by omega), nn_clamp (by omega), i_le]
            refine ⟨vp_in_nI (by omega) (by omega), vp_in_nI (by omega) (by omega), zif (fun q => hJ _ (Or.inr ⟨rfl, ?_⟩)) (fun q => hJ _ (Or.inl ⟨rfl, Or.inr (Or.inl ⟨n1, q⟩)⟩))⟩
            rintro (⟨z, _⟩ | ⟨_, z⟩ | ⟨z, _⟩)
            · exact n0 z
            · exact z q
            · rw [n1] at z; exact absurd z (by decide)
          · rw [show (1 : Int32) = nI 1 from rfl, pk_sub (by omega), nI_add, nI_eq (by omega) (by omega)] at n2
            rintro (⟨_, q⟩ | ⟨q, _⟩ | ⟨q, _⟩)
            · omega
            · rw [n0] at q; exact absurd q (by decide)
            · rw [n0] at q; exact absurd q (by decide)
          · rw [show (1 : Int32) = nI 1 from rfl, pk_sub (by omega), nI_add, nI_eq (by omega) (by omega)] at n2
            exact Or.inl ⟨n0, by omega⟩
        rintro x (⟨rfl, q⟩ | ⟨rfl, q⟩)
        · refine nm_b (z1p (m_exch (by omega) (by omega) ?_))
          rw [nI_1]
          refine hK2 _ ⟨by omega, _, rfl, ?_, fun t ht => ?_⟩
          · rw [lin_sw]; exact c1 q
          · rw [sw_at, if_neg (by omega), if_neg (by omega)]; exact g2 t ht
        · refine nm_b (z0p ?_)
          rw [nI_1]
          exact hK2 _ ⟨by omega, g, rfl, c2 q, g2⟩
      · obtain ⟨hij, g, rfl, g1, g2⟩ := hI
        unfold b_X12_swap_32
        have e15 : (stI μ 1 g).1 1 15 = nI w := by rw [← h15]; exact g2 15 (by omega)
        rw [e15]
        exact zif_t (by rw [n_le (by omega) (by omega)]; omega) (hK _ ⟨g, rfl, hb1 i _ hi g1, g2⟩)
    · obtain ⟨g, rfl, g1, g2⟩ := hI
      unfold b_X12_swap_17
      have e15 : (stI μ 1 g).1 1 15 = nI w := by rw [← h15]; exact g2 15 (by omega)
      rw [e15]
      exact zif_t (by rw [n_le (by omega) (by omega)]; omega) (h g g1 g2)
  · rw [il_toInt]
    rcases ha with rfl | rfl | rfl <;> exact ⟨by decide, by decide⟩
theorem m_leaves {μ : ZMem} {w a : Nat} (hw : w ≤ 16) (ha : a < w) (h15 : μ.1 1 15 = nI w) {Φ : ZMem → Prop} (h : ∀ g, g 15 = nI (w - 1) → (∀ j, j < 15 ∨ 32 ≤ j → g j = μ.1 1 j) → (∀ t, t < w - 1 → lin g t = if t < a then lin (μ.1 1) t else lin (μ.1 1) (t + 1)) → Φ (stI μ 1 g)) : w_X12_leaves (nI a) μ Φ := by
  unfold w_X12_leaves
  refine nm_b ?_
  rw [h15, show (1 : Int32) = nI 1 from rfl, pk_sub (by omega), upI_st]
  generalize hg0 : upd (μ.1 1) 15 (nI (w - 1)) = g0
  have g15 : g0 15 = nI (w - 1) := by rw [← hg0, upd_at, if_pos rfl]
  have gO : ∀ j, j ≠ 15 → g0 j = μ.1 1 j := fun j hj => by rw [← hg0, upd_at, if_neg hj]
  refine ⟨(w - 1 - a) + 1, lp2_inv (w - 1) (fun i b => a ≤ i ∧ ∃ g, b = stI μ 1 g ∧ g 15 = nI (w - 1) ∧ (∀ j, j < 15 ∨ 32 ≤ j → g j = μ.1 1 j) ∧ (∀ t, t < 16 → lin g t = if t < a ∨ i ≤ t then lin (μ.1 1) t else lin (μ.1 1) (t + 1))) (fun i b K hi hI hK => ?_) (fun b K hI => ?_) (w - 1 - a) a _ (by omega) ⟨Nat.le_refl _, g0, rfl, g15, fun j hj => gO j (by omega), fun t ht => ?_⟩⟩
  · obtain ⟨hai, g, rfl, g1, g2, g3⟩ := hI
    unfold b_X12_leaves_13
    have e15 : (stI μ 1 g).1 1 15 = nI (w - 1) := g1
    rw [e15, n_le (by omega) (by omega), show (16 : Int32) = nI 16 from rfl, nI_add, show (1 : Int32) = nI 1 from rfl, nI_add, nI_add, nn_clamp (by omega), nn_clamp (by omega)]
    refine zif_f (by omega) ⟨vp_in_nI (by omega) (by omega), vp_in_nI (by omega) (by omega), nm_b ?_⟩
    rw [upI_st, stI_stI]
    refine hK _ ⟨by omega, _, rfl, ?_, fun j hj => ?_, fun t ht => ?_⟩
    · show upd g (16 + i) _ 15 = _
      rw [upd_at, if_neg (by omega)]; exact g1
    · show upd g (16 + i) _ j = _
      rw [upd_at, if_neg (by omega)]; exact g2 j hj
    · show upd g (16 + i) (g (16 + i + 1)) (16 + t) = _
      rw [upd_at]
      have s1 : g (16 + i + 1) = lin (μ.1 1) (i + 1) := by
        have := g3 (i + 1) (by omega)
        rw [if_pos (by omega)] at this
        exact this
      by_cases e : t = i
      · rw [if_pos (by omega), s1, if_neg (by omega), e]
      · rw [if_neg (by omega)]
        have := g3 t ht
        unfold lin at this ⊢
        rw [this]
        by_cases e2 : t < a ∨ i ≤ t
        · rw [if_pos e2, if_pos (by omega)]
        · rw [if_neg e2, if_neg (by omega)]
  · obtain ⟨hai, g, rfl, g1, g2, g3⟩ := hI
    unfold b_X12_leaves_13
    have e15 : (stI μ 1 g).1 1 15 = nI (w - 1) := g1
    rw [e15]
    refine zif_t (by rw [n_le (by omega) (by omega)]; omega) (h g g1 g2 (fun t ht => ?_))
    rw [g3 t (by omega)]
    by_cases e2 : t < a
    · rw [if_pos e2, if_pos (Or.inl e2)]
    · rw [if_neg e2, if_neg (by omega)]
  · show g0 (16 + t) = _
    rw [gO _ (by omega), if_pos (by omega)]
    rfl
theorem rSt_line {p q : Nat → Int64} {k w fc : Int32} {line : Nat → Int32} {fac : Nat → Nat → Int32} {g : Nat → Int32} (h : rSt p q k w fc line fac g) {k' : Int32} {line' g' : Nat → Int32} {n : Nat} (hn : n ≤ 16) (hg : ∀ j, j < 14 ∨ 32 ≤ j → g' j = g j) (g14 : k' = g' 14) (hk : ab k' ≤ 100) (g15 : g' 15 = nI n) (hl : ∀ i, i < n → line' i = lin g' i ∧ ab (line' i) ≤ 100) : rSt p q k' (nI n) fc line' fac g' := by
  obtain ⟨a1, a2, a3, a4, a5, a6, m, a7, a8, a9, a10⟩ := h
  refine ⟨fun j hj => ?_, fun j hj => ?_, fun j hj => ?_, g14, hk, ⟨n, hn, rfl, g15, hl⟩, m, a7, a8, ?_, fun i hi => ?_⟩
  · rw [hg _ (by omega)]; exact a1 j hj
  · rw [hg _ (by omega)]; exact a2 j hj
  · rw [hg _ (by omega)]; exact a3 j hj
  · rw [hg _ (by omega)]; exact a9
  · rw [hg _ (by omega), hg _ (by omega), hg _ (by omega)]; exact a10 i hi
theorem Rel0_line {μX μM μX' μM' : ZMem} (h : Rel0 μX μM) (hX : ∀ a, a ≠ 1 → a ≠ 4 → μX'.1 a = μX.1 a) (hX2 : μX'.2 = μX.2) (h6 : μX'.1 1 6 = μX.1 1 6) (hM : ∀ a, a ≠ 1 → μM'.1 a = μM.1 a) (hM2 : μM'.2 = μM.2) {n : Nat} (hn : n ≤ 16) (h4 : μX'.1 1 4 = nI n) (hg : ∀ j, j < 14 ∨ 32 ≤ j → μM'.1 1 j = μM.1 1 j) (g14 : μX'.1 1 2 = μM'.1 1 14) (hk : ab (μX'.1 1 2) ≤ 100) (g15 : μM'.1 1 15 = nI n) (hl : ∀ i, i < n → μX'.1 4 i = lin (μM'.1 1) i ∧ ab (μX'.1 4 i) ≤ 100) : Rel0 μX' μM' ∧ rC μX μX' := by
  refine ⟨⟨?_, kept_fr h.2.1 (fun a q1 q2 => ⟨hX a (by omega) (by omega), by rw [hX2]⟩) (hM 2 (by omega)), ?_, tape_fr h.2.2.2.1 (by rw [hX 23 (by omega) (by omega)]) (hX 24 (by omega) (by omega)) (by rw [hM 0 (by omega)]) (hM 13 (by omega)), trays_fr h.2.2.2.2 (fun a q1 q2 => ⟨hX a (by omega) (by omega), by rw [hX2]⟩) (hM 15 (by omega)) (hM 16 (by omega)) (by rw [hM2])⟩, Or.inl ⟨fun a q1 q2 => ⟨hX a (by omega) (by omega), by rw [hX2]⟩, by rw [hX2], by rw [hX2]⟩⟩
  · unfold rNow
    rw [hX2, h6, h4]
    exact rSt_fac (rSt_line h.1 hn hg g14 hk g15 hl) (fun i hi => hX (6 + i) (by omega) (by omega))
  · unfold rFlags
    rw [hX 0 (by omega) (by omega), hM 0 (by omega)]
    exact h.2.2.1
theorem o_next {μX μM : ZMem} (h : Rel0 μX μM) : w_X11_next μX (fun r μX1 => w_X12_next μM (fun r2 μM1 => oS μX μM r r2 μX1 μM1)) := by
  obtain ⟨w, b1, b2, b3, b4⟩ := h.1.2.2.2.2.2.1
  unfold w_X11_next
  rw [b2, show (0 : Int32) = nI 0 from rfl, nI_eq (by omega) (by omega)]
  refine zifn (fun h0 => nm_b (e_first (w := w) b1 ?_ (nm_b ?_))) (fun h0 => ?_)
  · show upd (μX.1 1) 2 (μX.1 4 0) 4 = _
    rw [upd_at, if_neg (by omega)]; exact b2
  · have e4 : (stI (zz_upI μX 1 2 (μX.1 4 0)) 4 (rotv ((zz_upI μX 1 2 (μX.1 4 0)).1 4) w)).1 1 4 = nI w := by
      show upd (μX.1 1) 2 (μX.1 4 0) 4 = _
      rw [upd_at, if_neg (by omega)]; exact b2
    rw [e4, show (1 : Int32) = nI 1 from rfl, pk_sub (by omega)]
    unfold w_X12_next
    dsimp only
    rw [b3, show (0 : Int32) = nI 0 from rfl, nI_eq (by omega) (by omega)]
    have e15 : (zz_upI μM 1 14 (μM.1 1 16)).1 1 15 = nI w := by
      show upd (μM.1 1) 14 (μM.1 1 16) 15 = _
      rw [upd_at, if_neg (by omega)]; exact b3
    refine zifn_f h0 (nm_b (m_leaves (w := w) (a := 0) b1 (by omega) e15 (fun g g1 g2 g3 => ?_)))
    have gl : ∀ j, (zz_upI μM 1 14 (μM.1 1 16)).1 1 j = if j = 14 then μM.1 1 16 else μM.1 1 j := fun j => rfl
    have k0 := b4 0 (by omega)
    refine ⟨?_, Rel0_line (n := w - 1) h (fun a q1 q2 => ?_) rfl rfl (fun a q => ?_) rfl (by omega) rfl (fun j hj => ?_) ?_ ?_ g1 (fun i hi => ?_)⟩
    · exact g1.symm
    · show (if a = 1 then _ else if a = 4 then _ else if a = 1 then _ else μX.1 a) = _
      rw [if_neg q1, if_neg q2, if_neg q1]
    · show (if a = 1 then _ else if a = 1 then _ else μM.1 a) = _
      rw [if_neg q, if_neg q]
    · show g j = _
      rw [g2 j (by omega), gl, if_neg (by omega)]
    · show μX.1 4 0 = g 14
      rw [g2 14 (by omega), gl, if_pos rfl]; exact k0.1
    · exact k0.2
    · show rotv (μX.1 4) w i = lin g i ∧ ab (rotv (μX.1 4) w i) ≤ 100
      have e : rotv (μX.1 4) w i = μX.1 4 (i + 1) := by unfold rotv; rw [if_pos (by omega)]
      have b := b4 (i + 1) (by omega)
      rw [e, g3 i hi, if_neg (by omega)]
      refine ⟨?_, b.2⟩
      show _ = (zz_upI μM 1 14 (μM.1 1 16)).1 1 (16 + (i + 1))
      rw [gl, if_neg (by omega)]; exact b.1
  · unfold w_X12_next
    rw [b3, show (0 : Int32) = nI 0 from rfl, nI_eq (by omega) (by omega)]
    exact zifn_t h0 (oS_0 h _)
theorem o_swap_no {μX μM : ZMem} {a1 : Int32} (hn : ¬ (0 ≤ a1.toInt ∧ a1.toInt ≤ 2)) {Φ : Int32 → ZMem → Prop} (h : Φ (-2) μM) : w_X12_swap a1 μM Φ := by
  unfold w_X12_swap
  refine m_in_k (fun q1 q2 => absurd ⟨?_, ?_⟩ hn) (fun _ => z0n h)
  · rw [il_toInt] at q1; exact q1
  · rw [il_toInt] at q2; exact q2
/-- both lines changed alike -/
theorem o_lines {μX μM : ZMem} (h : Rel0 μX μM) {w : Nat} (hw : w ≤ 16) (b2 : μX.1 1 4 = nI w) (b3 : μM.1 1 15 = nI w) {f g : Nat → Int32} (ho : outl g (μM.1 1)) (hl : ∀ t, t < w → f t = lin g t ∧ ab (f t) ≤ 100) : oS μX μM ((stI μX 4 f).1 1 4) (nI w) (stI μX 4 f) (stI μM 1 g) := by
  have hk := h.1.2.2.2.1
  have hk2 := h.1.2.2.2.2.1
  refine ⟨b2, Rel0_line (n := w) h (fun a q1 q2 => if_neg q2) rfl rfl (fun a q => if_neg q) rfl hw b2 (fun j hj => ho j (by omega)) ?_ hk2 ?_ hl⟩
  · show μX.1 1 2 = g 14
    rw [ho 14 (by omega)]; exact hk
  · show g 15 = _
    rw [ho 15 (by omega)]; exact b3
theorem o_swap {μX μM : ZMem} (h : Rel0 μX μM) (a1 : Int32) : w_X11_swap a1 μX (fun r μX1 => w_X12_swap a1 μM (fun r2 μM1 => oS μX μM r r2 μX1 μM1)) := by
  obtain ⟨w, b1, b2, b3, b4⟩ := h.1.2.2.2.2.2.1
  have hl : ∀ t, t < w → lin (μM.1 1) t = μX.1 4 t := fun t ht => (b4 t ht).1.symm
  unfold w_X11_swap
  refine ⟨?_, ?_, ?_, ?_⟩
  · rintro rfl
    refine e_turnL b1 b2 (fun f hf => m_swap (w := w) (Or.inl rfl) b1 b3 (fun i f => ∀ t, t < w → f t = rev (lin (μM.1 1)) w i t) (fun i j f => ∀ t, t < w → f t = if t < i ∨ w - 1 - t < i ∨ (w - 1 - i < j ∧ (t = i ∨ w - 1 - t = i)) then lin (μM.1 1) (w - 1 - t) else lin (μM.1 1) t) ?_ ?_ ?_ ?_ (fun g g1 g2 => o_lines h b1 b2 b3 g2 (fun t ht => ?_)))
    · intro t ht; unfold rev; rw [if_neg (by omega)]
    · intro i f hi hf t ht
      rw [hf t ht]; unfold rev; grind
    · intro i f hi hf t ht
      rw [hf t ht]; unfold rev; grind
    · intro i j f hij hj hf
      have f1 := hf i (by omega)
      have f2 := hf j hj
      refine ⟨fun c t ht => ?_, fun c t ht => ?_⟩
      · have c' : i + j + 1 = w := by
          rcases c with ⟨_, c⟩ | ⟨c, _⟩ | ⟨c, _⟩
          · exact c
          · exact absurd c (by decide)
          · exact absurd c (by decide)
        have f3 := hf t ht
        rw [sw_at]
        grind
      · have c' : ¬ i + j + 1 = w := fun q => c (Or.inl ⟨rfl, q⟩)
        rw [hf t ht]
        grind
    · have e1 := hf t ht
      have e2 := g1 t ht
      have e3 := hl (w - 1 - t) (by omega)
      have e4 := b4 (w - 1 - t) (by omega)
      have e5 : rev (lin (μM.1 1)) w w t = lin (μM.1 1) (w - 1 - t) := by unfold rev; rw [if_pos (by omega)]
      rw [e1, e2, e5, e3]
      exact ⟨rfl, e4.2⟩
  · rintro rfl
    refine e_sort b1 b2 (fun t ht => (b4 t ht).2) (fun f f1 f2 f3 => m_swap (w := w) (Or.inr (Or.inl rfl)) b1 b3 (fun i f => (∀ x, cle f x w = cle (lin (μM.1 1)) x w) ∧ ∀ a, a < i → ∀ b, a < b → b < w → (f a).toInt ≤ (f b).toInt) (fun i j f => (∀ x, cle f x w = cle (lin (μM.1 1)) x w) ∧ (∀ a, a < i → ∀ b, a < b → b < w → (f a).toInt ≤ (f b).toInt) ∧ ∀ t, i < t → t < j → (f i).toInt ≤ (f t).toInt) ?_ ?_ ?_ ?_ (fun g g1 g2 => o_lines h b1 b2 b3 g2 (fun t ht => ?_)))
    · exact ⟨fun _ => rfl, fun a ha => absurd ha (by omega)⟩
    · intro i f hi hf
      exact ⟨hf.1, hf.2, fun t h1 h2 => absurd h1 (by omega)⟩
    · intro i f hi hf
      refine ⟨hf.1, fun a ha b hab hb => ?_⟩
      by_cases e : a = i
      · subst e; exact hf.2.2 b hab hb
      · exact hf.2.1 a (by omega) b hab hb
    · intro i j f hij hj hf
      obtain ⟨h1, h2, h3⟩ := hf
      refine ⟨fun c => ⟨fun x => ?_, fun a ha b hab hb => ?_, fun t ht1 ht2 => ?_⟩, fun c => ⟨h1, h2, fun t ht1 ht2 => ?_⟩⟩
      · rw [cle_sw (by omega) hj]; exact h1 x
      · rw [sw_at, sw_at, if_neg (by omega), if_neg (by omega)]
        split
        · exact h2 a ha i (by omega) (by omega)
        · split
          · exact h2 a ha j (by omega) (by omega)
          · exact h2 a ha b hab hb
      · have c' : ¬ (f i).toInt ≤ (f j).toInt := by
          rcases c with ⟨c, _⟩ | ⟨_, c⟩ | ⟨c, _⟩
          · exact absurd c (by decide)
          · exact c
          · exact absurd c (by decide)
        rw [sw_at, sw_at, if_neg (show ¬ i = j by omega), if_pos rfl]
        by_cases e : t = j
        · rw [if_pos e]; omega
        · rw [if_neg e, if_neg (by omega)]
          have := h3 t ht1 (by omega)
          omega
      · by_cases e : t = j
        · subst e
          by_cases e2 : (f i).toInt ≤ (f t).toInt
          · exact e2
          · exact absurd (Or.inr (Or.inl ⟨rfl, e2⟩)) c
        · exact h3 t ht1 (by omega)
    · have hs : srt (lin g) w := fun a b hab hb => g1.2 a (by omega) b hab hb
      have hc : ∀ x, cle f x w = cle (lin g) x w := fun x => by rw [f2, g1.1]; exact cle_congr (fun j hj => (hl j hj).symm)
      exact ⟨srt_eq f1 hs hc t ht, f3 t ht⟩
  · rintro rfl
    refine e_first b1 b2 (m_swap (w := w) (Or.inr (Or.inr rfl)) b1 b3 (fun i f => ∀ t, t < w → f t = rotv (lin (μM.1 1)) (min (i + 1) w) t) (fun i j f => ∀ t, t < w → f t = if i + 1 < j then rotv (lin (μM.1 1)) (i + 2) t else rotv (lin (μM.1 1)) (i + 1) t) ?_ ?_ ?_ ?_ (fun g g1 g2 => o_lines h b1 b2 b3 g2 (fun t ht => ?_)))
    · intro t ht
      unfold rotv
      grind
    · intro i f hi hf t ht
      rw [hf t ht, show min (i + 1) w = i + 1 by omega, if_neg (by omega)]
    · intro i f hi hf t ht
      rw [hf t ht]
      by_cases e : i + 1 < w
      · rw [if_pos e, show min (i + 1 + 1) w = i + 2 by omega]
      · rw [if_neg e, show min (i + 1 + 1) w = i + 1 by omega]
    · intro i j f hij hj hf
      have f1 := hf i (by omega)
      have f2 := hf j hj
      refine ⟨fun c t ht => ?_, fun c t ht => ?_⟩
      · have c' : j = i + 1 := by
          rcases c with ⟨c, _⟩ | ⟨c, _⟩ | ⟨_, c⟩
          · exact absurd c (by decide)
          · exact absurd c (by decide)
          · exact c
        subst c'
        have f3 := hf t ht
        rw [sw_at, if_pos (show i + 1 < i + 1 + 1 by omega)]
        rw [if_neg (by omega)] at f1 f2 f3
        rw [f1, f2, f3]
        unfold rotv
        grind
      · have c' : ¬ j = i + 1 := fun q => c (Or.inr (Or.inr ⟨rfl, q⟩))
        rw [hf t ht, if_pos (by omega), if_pos (by omega)]
    · have e2 := g1 t ht
      rw [show min (w + 1) w = w by omega] at e2
      have e3 : rotv (lin (μM.1 1)) w t = rotv (μX.1 4) w t := by
        unfold rotv
        have a1 := hl t ht
        have a2 := hl 0 (by omega)
        split
        · exact hl (t + 1) (by omega)
        · split
          · exact a2
          · exact a1
      refine ⟨by rw [e2, e3], ?_⟩
      unfold rotv
      split
      · exact (b4 (t + 1) (by omega)).2
      · split
        · exact (b4 0 (by omega)).2
        · exact (b4 t ht).2
  · intro n0 n1 n2
    refine o_swap_no (μX := μX) (fun hq => ?_) (oS_0 h _)
    obtain ⟨i, i1, i2⟩ := nn_of (i := a1) (n := 2) (by omega) (by omega) (by omega)
    have : i = 0 ∨ i = 1 ∨ i = 2 := by omega
    rcases this with rfl | rfl | rfl
    · exact n0 i2
    · exact n1 i2
    · exact n2 i2
