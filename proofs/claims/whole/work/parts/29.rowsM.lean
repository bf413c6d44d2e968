/-! the reference's rows -/
theorem lp2_inv {B : Type} {body : Int32 → B → (Int32 → B → Prop) → Prop} (N : Nat) (I : Nat → B → Prop) (hs : ∀ i b K, i < N → I i b → (∀ b', I (i + 1) b' → K (nI (i + 1)) b') → body (nI i) b K) (hx : ∀ b K, I N b → body (nI N) b K) : ∀ m i b, i + m = N → I i b → lpz2 body (m + 1) (nI i) b := by
  intro m
  induction m with
  | zero => intro i b hi hI; (obtain rfl : i = N := (by omega)); exact hx b _ hI
  | succ m ih => intro i b hi hI; exact hs i b _ (by omega) hI (fun b' h => ih (i + 1) b' (by omega) h)
def rowM (μ : ZMem) (k : Nat) : Nat → Int64 := fun j => if j < 6 then μ.2 6 (6 * k + j) else 0
theorem six_I (k j : Nat) : 6 * nI k + nI j = nI (6 * k + j) := by
  rw [show (6 : Int32) = nI 6 from rfl, pk_mul, nI_add]
theorem m_item {μ : ZMem} {k j : Nat} {Φ : Int64 → Prop} (hk : k ≤ 6) (hj : j < 100) (h : Φ (rowM μ k j)) : w_X12_item (nI k) (nI j) μ Φ := by
  unfold w_X12_item
  rw [show (6 : Int32) = nI 6 from rfl]
  refine zif (fun h6 => ?_) (fun h6 => ?_)
  · rw [n_le (by omega) (by omega)] at h6
    unfold rowM at h
    rw [if_neg (by omega)] at h
    exact h
  · rw [n_le (by omega) (by omega)] at h6
    unfold rowM at h
    rw [if_pos (by omega)] at h
    rw [show nI 6 * nI k + nI j = nI (6 * k + j) from six_I k j]
    refine ⟨vp_in_nI (by omega) (by omega), ?_⟩
    rw [nn_clamp (by omega)]
    exact h
theorem m_itemMany {μ : ZMem} {k m : Nat} {Φ : Int32 → Prop} (hm : m ≤ 6) (hk : k ≤ m) (h9 : μ.1 0 9 = nI m) (h : Φ (nI (wd m k))) : w_X12_itemMany (nI k) μ Φ := by
  unfold w_X12_itemMany
  rw [h9, wd_I hm hk]
  exact h
theorem m_firstNot {μ : ZMem} {k m : Nat} {Φ : Int32 → Prop} (hm : m ≤ 6) (hk : k ≤ m) (h9 : μ.1 0 9 = nI m) (h : Φ (nI (fz (rowM μ k) (wd m k)))) : w_X12_firstNot (nI k) μ Φ := by
  have hw := wd_le hm hk
  refine ⟨wd m k + 1, ?_⟩
  have key : ∀ n i, i + n = wd m k → fzN (rowM μ k) (wd m k) n = fz (rowM μ k) (wd m k) → lpz1 (b_X12_firstNot_2 (nI k) μ Φ) (n + 1) (nI i) := by
    intro n
    induction n with
    | zero =>
      intro i hi hzz
      refine (show b_X12_firstNot_2 (nI k) μ Φ (nI i) (lpz1 (b_X12_firstNot_2 (nI k) μ Φ) 0) from ?_)
      unfold b_X12_firstNot_2
      refine m_itemMany hm hk h9 (zif_t (by rw [n_le (by omega) (by omega)]; omega) ?_)
      have e : i = fz (rowM μ k) (wd m k) := by rw [← hzz]; show i = wd m k; omega
      rw [e]; exact h
    | succ n ih =>
      intro i hi hzz
      refine (show b_X12_firstNot_2 (nI k) μ Φ (nI i) (lpz1 (b_X12_firstNot_2 (nI k) μ Φ) (n + 1)) from ?_)
      rw [fzN, show wd m k - (n + 1) = i by omega] at hzz
      have ih' := ih (i + 1) (by omega)
      generalize lpz1 (b_X12_firstNot_2 (nI k) μ Φ) (n + 1) = L at ih' ⊢
      unfold b_X12_firstNot_2
      refine m_itemMany hm hk h9 (zif_f (by rw [n_le (by omega) (by omega)]; omega) (m_item (by omega) (by omega) ?_))
      by_cases h0 : rowM μ k i = 0
      · rw [if_pos h0] at hzz
        refine zifn_t h0 ?_
        rw [nI_1]
        exact ih' hzz
      · rw [if_neg h0] at hzz
        refine zifn_f h0 ?_
        rw [hzz]; exact h
  exact key (wd m k) 0 (by omega) rfl
/-- what the work at row k may change -/
def frR (k : Nat) (μ μ' : ZMem) : Prop := (∀ a s, ¬ (a = 0 ∧ s = 4) → ¬ (a = 8 ∧ s = k) → μ'.1 a s = μ.1 a s) ∧ (∀ a, a ≠ 6 → a ≠ 7 → μ'.2 a = μ.2 a) ∧ (∀ s, ¬ (6 * k ≤ s ∧ s < 6 * k + 6) → μ'.2 6 s = μ.2 6 s)
theorem frR_rfl (k : Nat) (μ : ZMem) : frR k μ μ := ⟨fun _ _ _ _ => rfl, fun _ _ _ => rfl, fun _ _ => rfl⟩
theorem frR_tr {k : Nat} {a b c : ZMem} (h1 : frR k a b) (h2 : frR k b c) : frR k a c := ⟨fun x s p q => (h2.1 x s p q).trans (h1.1 x s p q), fun x p q => (h2.2.1 x p q).trans (h1.2.1 x p q), fun s p => (h2.2.2 s p).trans (h1.2.2 s p)⟩
theorem flg_1 (μ : ZMem) (ok : Bool) (a s : Nat) (h : ¬ (a = 0 ∧ s = 4)) : (flg μ ok).1 a s = μ.1 a s := by
  unfold flg
  rw [mI1]
  split
  · rename_i e
    subst e
    rw [upd_at, if_neg (fun q => h ⟨rfl, q⟩)]
  · rfl
theorem flg_2 (μ : ZMem) (ok : Bool) : (flg μ ok).2 = μ.2 := rfl
theorem flg_v (μ : ZMem) (ok : Bool) : (flg μ ok).1 0 4 = if μ.1 0 4 = 0 ∧ ok = true then 0 else 1 := by
  unfold flg
  rw [mI1, if_pos rfl, upd_at, if_pos rfl]
theorem frR_flg {k : Nat} {μ μ' : ZMem} {ok : Bool} (h : frR k μ μ') : frR k μ (flg μ' ok) := ⟨fun a s p q => (flg_1 μ' ok a s p).trans (h.1 a s p q), h.2.1, h.2.2⟩
theorem frR_up {k j : Nat} {μ μ' : ZMem} {v : Int64} (hj : j < 6) (h : frR k μ μ') : frR k μ (zz_upJ μ' 6 (6 * k + j) v) := by
  refine ⟨h.1, fun a p q => ?_, fun s p => ?_⟩
  · rw [mJ2, if_neg p]; exact h.2.1 a p q
  · rw [mJ2, if_pos rfl, updL_at, if_neg (by omega)]; exact h.2.2 s p
theorem frR_7 {k s : Nat} {μ μ' : ZMem} {v : Int64} (h : frR k μ μ') : frR k μ (zz_upJ μ' 7 s v) := by
  refine ⟨h.1, fun a p q => ?_, fun s p => ?_⟩
  · rw [mJ2, if_neg q]; exact h.2.1 a p q
  · rw [mJ2, if_neg (by omega)]; exact h.2.2 s p
theorem frR_8 {k : Nat} {μ μ' : ZMem} {v : Int32} (h : frR k μ μ') : frR k μ (zz_upI μ' 8 k v) := by
  refine ⟨fun a s p q => ?_, h.2.1, h.2.2⟩
  rw [mI1]
  split
  · rename_i e
    subst e
    rw [upd_at, if_neg (fun e => q ⟨rfl, e⟩)]
    exact h.1 8 s p q
  · exact h.1 a s p q
theorem rowM_up {μ : ZMem} {k j i : Nat} {v : Int64} (hj : j < 6) : rowM (zz_upJ μ 6 (6 * k + j) v) k i = if i = j then v else rowM μ k i := by
  unfold rowM
  rw [mJ2, if_pos rfl]
  by_cases e : i = j
  · rw [if_pos e, if_pos (by omega), updL_at, if_pos (by omega)]
  · rw [if_neg e]
    split
    · rw [updL_at, if_neg (by omega)]
    · rfl
theorem rowM_fr {μ μ' : ZMem} {k i : Nat} (h : frR k μ μ') (hi : i ≠ k) : rowM μ' i = rowM μ i := by
  funext j
  unfold rowM
  split
  · exact h.2.2 _ (by omega)
  · rfl
theorem rowM_flg (μ : ZMem) (ok : Bool) (k : Nat) : rowM (flg μ ok) k = rowM μ k := rfl
theorem rowM_7 (μ : ZMem) (s : Nat) (v : Int64) (k : Nat) : rowM (zz_upJ μ 7 s v) k = rowM μ k := by
  funext j
  unfold rowM
  rw [mJ2, if_neg (show ¬ (6 : Nat) = 7 by decide)]
theorem rowM_8 (μ : ZMem) (s : Nat) (v : Int32) (k : Nat) : rowM (zz_upI μ 8 s v) k = rowM μ k := rfl
/-- the flag tells whether p -/
def FL (μ : ZMem) (p : Prop) : Prop := (μ.1 0 4 = 0 ∧ p) ∨ (μ.1 0 4 = 1 ∧ ¬ p)
theorem FL_flg {μ : ZMem} {p : Prop} {ok : Bool} (h : FL μ p) : FL (flg μ ok) (p ∧ ok = true) := by
  unfold FL
  rw [flg_v]
  rcases h with ⟨h1, h2⟩ | ⟨h1, h2⟩
  · cases ok
    · exact Or.inr ⟨if_neg (fun q => by cases q.2), fun q => by cases q.2⟩
    · exact Or.inl ⟨if_pos ⟨h1, rfl⟩, h2, rfl⟩
  · exact Or.inr ⟨if_neg (fun q => by rw [h1] at q; exact absurd q.1 (by decide)), fun q => h2 q.1⟩
theorem FL_iff {μ : ZMem} {p q : Prop} (h : FL μ p) (e : p ↔ q) : FL μ q := by
  unfold FL at h ⊢
  rw [← e]; exact h
theorem FL_same {μ μ' : ZMem} {p : Prop} (h : FL μ p) (e : μ'.1 0 4 = μ.1 0 4) : FL μ' p := by
  unfold FL at h ⊢
  rw [e]; exact h
theorem FL_0 {μ : ZMem} {p : Prop} (h : FL μ p) : μ.1 0 4 = 0 ↔ p := by
  rcases h with ⟨h1, h2⟩ | ⟨h1, h2⟩
  · exact ⟨fun _ => h2, fun _ => h1⟩
  · exact ⟨fun q => by rw [h1] at q; exact absurd q (by decide), fun q => absurd q h2⟩
theorem crossIt_if (A B : Nat → Int64) (j : Nat) : crossIt A B j = if zfit ((B 0).toInt * (A (j + 1)).toInt) = true ∧ zfit ((A 0).toInt * (B (j + 1)).toInt) = true ∧ zfit ((B 0 * A (j + 1)).toInt - (A 0 * B (j + 1)).toInt) = true then some (if B 0 < 0 then -(B 0 * A (j + 1) - A 0 * B (j + 1)) else B 0 * A (j + 1) - A 0 * B (j + 1)) else none := by
  unfold crossIt xt xs
  by_cases h1 : zfit ((B 0).toInt * (A (j + 1)).toInt) = true
  · by_cases h2 : zfit ((A 0).toInt * (B (j + 1)).toInt) = true
    · by_cases h3 : zfit ((B 0 * A (j + 1)).toInt - (A 0 * B (j + 1)).toInt) = true
      · rw [if_pos h1, if_pos h2, Option.bind_some, Option.bind_some, if_pos h3, if_pos ⟨h1, h2, h3⟩]; rfl
      · rw [if_pos h1, if_pos h2, Option.bind_some, Option.bind_some, if_neg h3, if_neg (fun q => h3 q.2.2)]; rfl
    · rw [if_pos h1, if_neg h2, Option.bind_some, if_neg (fun q => h2 q.2.1)]; rfl
  · rw [if_neg (fun q : _ ∧ _ ∧ _ => h1 q.1), if_neg h1]; rfl
/-- the first rows are laid -/
theorem m_load {μ : ZMem} {m k : Nat} {F : Nat → Int64} (hm : m ≤ 6) (hk : k ≤ m) (h9 : μ.1 0 9 = nI m) (hF : ∀ j, j < 7 → μ.2 4 j = F j) (hz : ∀ j, rowM μ k j = 0) {J : ZMem → Prop}
    (h : ∀ μ', frR k μ μ' → μ'.1 0 4 = μ.1 0 4 → (k < 2 → ∀ j, rowM μ' k j = cut (wd m k) (fun j => F (m - k - 2 * j)) j) → (¬ k < 2 → ∀ j, rowM μ' k j = 0) → J μ') : ∃ n, lpz2 (b_X12_laysRows_45 (nI k) J) n (0 : Int32) μ := by
  have hw := wd_le hm hk
  by_cases hk2 : k < 2
  · refine ⟨wd m k + 1, ?_⟩
    refine lp2_inv (wd m k) (fun i b => frR k μ b ∧ b.1 0 4 = μ.1 0 4 ∧ ∀ j, rowM b k j = cut i (fun j => F (m - k - 2 * j)) j) (fun i b K hi hI hK => ?_) (fun b K hI => ?_) (wd m k) 0 μ (by omega) ⟨frR_rfl k μ, rfl, fun j => hz j⟩
    · obtain ⟨i1, i2, i3⟩ := hI
      have h9' : b.1 0 9 = nI m := by rw [i1.1 0 9 (by omega) (by omega)]; exact h9
      unfold b_X12_laysRows_45
      refine m_itemMany hm hk h9' (zif_f (by rw [n_le (by omega) (by omega)]; omega) (zif_f (by rw [show (2 : Int32) = nI 2 from rfl, n_le (by omega) (by omega)]; omega) ?_))
      have hidx : m - k - 2 * i < 7 ∧ k + 2 * i ≤ m := by unfold wd at hi; omega
      rw [h9', show (2 : Int32) = nI 2 from rfl, pk_mul, pk_sub hk, pk_sub (by omega), six_I, nI_1]
      refine ⟨vp_in_nI (by omega) (by omega), vp_in_nI (by omega) (by omega), ?_⟩
      rw [nn_clamp (n := m - k - 2 * i) (by omega), nn_clamp (n := 6 * k + i) (by omega)]
      refine hK _ ⟨frR_up (by omega) i1, i2, fun j => ?_⟩
      rw [rowM_up (by omega), i3 j, i1.2.1 4 (by decide) (by decide), hF _ hidx.1]
      unfold cut
      by_cases e : j = i
      · subst e; rw [if_pos rfl, if_pos (by omega)]
      · rw [if_neg e]
        by_cases e2 : j < i
        · rw [if_pos e2, if_pos (by omega)]
        · rw [if_neg e2, if_neg (by omega)]
    · obtain ⟨i1, i2, i3⟩ := hI
      have h9' : b.1 0 9 = nI m := by rw [i1.1 0 9 (by omega) (by omega)]; exact h9
      unfold b_X12_laysRows_45
      exact m_itemMany hm hk h9' (zif_t (Int32.le_refl _) (h b i1 i2 (fun _ => i3) (fun q => absurd hk2 q)))
  · refine ⟨1, ?_⟩
    refine (show b_X12_laysRows_45 (nI k) J (nI 0) μ (lpz2 (b_X12_laysRows_45 (nI k) J) 0) from ?_)
    unfold b_X12_laysRows_45
    refine m_itemMany hm hk h9 (zif_f (by rw [n_le (by omega) (by omega)]; omega) (zif_t (by rw [show (2 : Int32) = nI 2 from rfl, n_le (by omega) (by omega)]; omega) ?_))
    exact h μ (frR_rfl k μ) rfl (fun q => absurd q hk2) (fun _ => hz)
/-- a row out of the two ahead of it -/
theorem m_works {μ : ZMem} {m c : Nat} (hm : m ≤ 6) (hk : c + 2 ≤ m) (h9 : μ.1 0 9 = nI m) (h4 : μ.1 0 4 = 0) (hz : ∀ j, rowM μ (c + 2) j = 0) {Φ : ZMem → Prop}
    (h : ∀ μ', frR (c + 2) μ μ' → FL μ' (∀ j, j < wd m (c + 2) → crossIt (rowM μ c) (rowM μ (c + 1)) j ≠ none) → (∀ j, j < wd m (c + 2) → ∀ v, crossIt (rowM μ c) (rowM μ (c + 1)) j = some v → rowM μ' (c + 2) j = v) → (∀ j, wd m (c + 2) ≤ j → rowM μ' (c + 2) j = 0) → Φ μ') : w_X12_works (nI (c + 2)) μ Φ := by
  have hw := wd_le hm hk
  have hw2 := wd_le2 (m := m) (k := c + 2) hm (by omega)
  unfold w_X12_works
  rw [nI_sub2, show nI (c + 2) - 1 = nI (c + 1) from nI_sub1 (c + 1), show (0 : Int32) = nI 0 from rfl]
  refine m_item (by omega) (by omega) (m_item (by omega) (by omega) ⟨wd m (c + 2) + 1, ?_⟩)
  refine lp2_inv (wd m (c + 2)) (fun i b => frR (c + 2) μ b ∧ FL b (∀ j, j < i → crossIt (rowM μ c) (rowM μ (c + 1)) j ≠ none) ∧ (∀ j, j < i → ∀ v, crossIt (rowM μ c) (rowM μ (c + 1)) j = some v → rowM b (c + 2) j = v) ∧ (∀ j, i ≤ j → rowM b (c + 2) j = 0)) (fun i b K hi hI hK => ?_) (fun b K hI => ?_) (wd m (c + 2)) 0 μ (by omega) ⟨frR_rfl _ μ, Or.inl ⟨h4, fun j hj => absurd hj (Nat.not_lt_zero j)⟩, fun j hj => absurd hj (Nat.not_lt_zero j), fun j _ => hz j⟩
  · obtain ⟨i1, i2, i3, i4⟩ := hI
    have h9' : b.1 0 9 = nI m := by rw [i1.1 0 9 (by omega) (by omega)]; exact h9
    have hA : rowM b c = rowM μ c := rowM_fr i1 (by omega)
    have hB : rowM b (c + 1) = rowM μ (c + 1) := rowM_fr i1 (by omega)
    unfold b_X12_works_22
    rw [nI_sub2, show nI (c + 2) - 1 = nI (c + 1) from nI_sub1 (c + 1), nI_1, six_I]
    generalize rowM μ c = A at *
    generalize rowM μ (c + 1) = B at *
    refine m_itemMany hm hk h9' (zif_f (by rw [n_le (by omega) (by omega)]; omega) ?_)
    refine m_item (by omega) (by omega) ((m_times _ _ _ _).mpr (m_item (by omega) (by omega) ((m_times _ _ _ _).mpr ((m_less _ _ _ _).mpr ?_))))
    rw [rowM_flg, hA, hB]
    generalize ho1 : zfit ((B 0).toInt * (A (i + 1)).toInt) = o1
    generalize ho2 : zfit ((A 0).toInt * (B (i + 1)).toInt) = o2
    generalize ho3 : zfit ((B 0 * A (i + 1)).toInt - (A 0 * B (i + 1)).toInt) = o3
    have hc := crossIt_if A B i
    rw [ho1, ho2, ho3] at hc
    have f1 := frR_flg (ok := o3) (frR_flg (ok := o2) (frR_flg (ok := o1) i1))
    have f2 := FL_flg (ok := o3) (FL_flg (ok := o2) (FL_flg (ok := o1) i2))
    have f3 : rowM (flg (flg (flg b o1) o2) o3) (c + 2) = rowM b (c + 2) := rfl
    generalize flg (flg (flg b o1) o2) o3 = b3 at f1 f2 f3 ⊢
    have hcn : (crossIt A B i ≠ none) ↔ (o1 = true ∧ o2 = true ∧ o3 = true) := by
      rw [hc]
      by_cases q : o1 = true ∧ o2 = true ∧ o3 = true
      · rw [if_pos q]; exact ⟨fun _ => q, fun _ => by simp⟩
      · rw [if_neg q]; exact ⟨fun r => absurd rfl r, fun r => absurd r q⟩
    have hall : ((((∀ j, j < i → crossIt A B j ≠ none) ∧ o1 = true) ∧ o2 = true) ∧ o3 = true) ↔ (∀ j, j < i + 1 → crossIt A B j ≠ none) := by
      constructor
      · rintro ⟨⟨⟨q, q1⟩, q2⟩, q3⟩ j hj
        by_cases e : j = i
        · subst e; exact hcn.mpr ⟨q1, q2, q3⟩
        · exact q j (by omega)
      · intro q
        have := hcn.mp (q i (by omega))
        exact ⟨⟨⟨fun j hj => q j (by omega), this.1⟩, this.2.1⟩, this.2.2⟩
    have fin : ∀ (x : Int64) (b4 : ZMem), frR (c + 2) μ b4 → FL b4 (∀ j, j < i + 1 → crossIt A B j ≠ none) → rowM b4 (c + 2) = rowM b (c + 2) → (∀ v, crossIt A B i = some v → x = v) → vp_in (nI (6 * (c + 2) + i)) 42 ∧ nm (zz_upJ b4 6 (Int32.toNatClampNeg (nI (6 * (c + 2) + i))) x) (fun μ_23 => K (nI (i + 1)) μ_23) := by
      intro x b4 g1 g2 g3 g4
      refine ⟨vp_in_nI (by omega) (by omega), ?_⟩
      rw [nn_clamp (by omega)]
      refine hK _ ⟨frR_up (by omega) g1, FL_same g2 rfl, fun j hj v hv => ?_, fun j hj => ?_⟩
      · rw [rowM_up (by omega)]
        by_cases e : j = i
        · subst e; rw [if_pos rfl]; exact g4 v hv
        · rw [if_neg e, g3]; exact i3 j (by omega) v hv
      · rw [rowM_up (by omega), if_neg (by omega), g3]; exact i4 j (by omega)
    refine zif (fun h0 => ?_) (fun h0 => (m_turned _ _ _).mpr ?_)
    · refine fin _ _ f1 (FL_iff f2 hall) f3 (fun v hv => ?_)
      rw [hc] at hv
      split at hv
      · rw [if_neg (Int64.not_lt.mpr h0)] at hv
        cases hv; rfl
      · cases hv
    · refine fin _ _ (frR_flg f1) (FL_iff (FL_flg f2) ⟨fun q => hall.mp q.1, fun q => ⟨hall.mpr q, ?_⟩⟩) (by rw [rowM_flg]; exact f3) (fun v hv => ?_)
      · have q3 := (hall.mpr q).2
        rw [decide_eq_true_eq]
        have hx : xs (B 0 * A (i + 1)) (A 0 * B (i + 1)) = some (B 0 * A (i + 1) - A 0 * B (i + 1)) := by
          unfold xs; rw [ho3, if_pos q3]
        exact xs_ne hx
      · rw [hc] at hv
        split at hv
        · rw [if_pos (Int64.not_le.mp h0)] at hv
          cases hv; rfl
        · cases hv
  · obtain ⟨i1, i2, i3, i4⟩ := hI
    have h9' : b.1 0 9 = nI m := by rw [i1.1 0 9 (by omega) (by omega)]; exact h9
    unfold b_X12_works_22
    exact m_itemMany hm hk h9' (zif_t (Int32.le_refl _) (h b i1 i2 i3 i4))
