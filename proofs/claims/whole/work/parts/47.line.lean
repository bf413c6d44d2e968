/-! lines of gains -/
def sw (f : Nat → Int32) (i j : Nat) : Nat → Int32 := upd (upd f i (f j)) j (f i)
theorem sw_at (f : Nat → Int32) (i j t : Nat) : sw f i j t = if t = j then f i else if t = i then f j else f t := rfl
def cle (f : Nat → Int32) (x : Int) : Nat → Nat
  | 0 => 0
  | n + 1 => cle f x n + if (f n).toInt ≤ x then 1 else 0
theorem cle_congr {f g : Nat → Int32} {x : Int} : ∀ {n : Nat}, (∀ j, j < n → f j = g j) → cle f x n = cle g x n := by
  intro n
  induction n with
  | zero => intro _; rfl
  | succ n ih => intro h; unfold cle; rw [ih (fun j hj => h j (by omega)), h n (by omega)]
theorem cle_upd {f : Nat → Int32} {x : Int} {v : Int32} {i : Nat} : ∀ {n : Nat}, i < n → cle (upd f i v) x n + (if (f i).toInt ≤ x then 1 else 0) = cle f x n + (if v.toInt ≤ x then 1 else 0) := by
  intro n
  induction n with
  | zero => intro h; omega
  | succ n ih =>
    intro h
    unfold cle
    by_cases e : i = n
    · subst e
      rw [cle_congr (f := upd f i v) (g := f) (fun j hj => by rw [upd_at, if_neg (by omega)]), upd_at, if_pos rfl]
      omega
    · have := ih (by omega)
      rw [upd_at, if_neg (show ¬ n = i by omega)]
      omega
theorem cle_sw {f : Nat → Int32} {x : Int} {i j n : Nat} (hi : i < n) (hj : j < n) : cle (sw f i j) x n = cle f x n := by
  have h1 := cle_upd (f := f) (x := x) (v := f j) hi
  have h2 := cle_upd (f := upd f i (f j)) (x := x) (v := f i) hj
  have e : upd f i (f j) j = f j := by rw [upd_at]; split <;> rfl
  rw [e] at h2
  unfold sw
  omega
theorem cle_all {f : Nat → Int32} {x : Int} : ∀ {n : Nat}, (∀ j, j < n → (f j).toInt ≤ x) → cle f x n = n := by
  intro n
  induction n with
  | zero => intro _; rfl
  | succ n ih => intro h; unfold cle; rw [ih (fun j hj => h j (by omega)), if_pos (h n (by omega))]
theorem cle_le {f : Nat → Int32} {x : Int} : ∀ {n : Nat}, cle f x n ≤ n := by
  intro n
  induction n with
  | zero => exact Nat.le_refl _
  | succ n ih => unfold cle; split <;> omega
theorem cle_mono {f : Nat → Int32} {x : Int} {m : Nat} : ∀ {n : Nat}, m ≤ n → cle f x m ≤ cle f x n := by
  intro n
  induction n with
  | zero => intro h; rw [show m = 0 by omega]; exact Nat.le_refl _
  | succ n ih =>
    intro h
    by_cases e : m = n + 1
    · rw [e]; exact Nat.le_refl _
    · have := ih (by omega)
      rw [cle.eq_2]; omega
theorem cle_none {f : Nat → Int32} {x : Int} {m : Nat} : ∀ {n : Nat}, m ≤ n → (∀ j, m ≤ j → j < n → ¬ (f j).toInt ≤ x) → cle f x n = cle f x m := by
  intro n
  induction n with
  | zero => intro h _; rw [show m = 0 by omega]
  | succ n ih =>
    intro h h2
    by_cases e : m = n + 1
    · rw [e]
    · rw [cle.eq_2, ih (by omega) (fun j a b => h2 j a (by omega)), if_neg (h2 n (by omega) (by omega))]; rfl
def srt (f : Nat → Int32) (n : Nat) : Prop := ∀ a b, a < b → b < n → (f a).toInt ≤ (f b).toInt
theorem srt_nlt {f g : Nat → Int32} {n i : Nat} (hf : srt f n) (hg : srt g n) (h : ∀ x, cle f x n = cle g x n) (hi : i < n) : ¬ (f i).toInt < (g i).toInt := by
  intro hlt
  have h1 : cle f (f i).toInt (i + 1) = i + 1 := cle_all (fun j hj => by
    by_cases e : j = i
    · rw [e]; exact Int.le_refl _
    · exact hf j i (by omega) hi)
  have h2 := cle_mono (f := f) (x := (f i).toInt) (m := i + 1) (n := n) (by omega)
  have h3 : cle g (f i).toInt n = cle g (f i).toInt i := cle_none (by omega) (fun j a b hj => by
    by_cases e : j = i
    · rw [e] at hj; omega
    · have := hg i j (by omega) b; omega)
  have h4 := cle_le (f := g) (x := (f i).toInt) (n := i)
  have h5 := h (f i).toInt
  omega
theorem srt_eq {f g : Nat → Int32} {n : Nat} (hf : srt f n) (hg : srt g n) (h : ∀ x, cle f x n = cle g x n) : ∀ i, i < n → f i = g i := by
  intro i hi
  have h1 := srt_nlt hf hg h hi
  have h2 := srt_nlt hg hf (fun x => (h x).symm) hi
  apply Int32.toInt_inj.mp
  omega
def rotv (f : Nat → Int32) (v t : Nat) : Int32 := if t + 1 < v then f (t + 1) else if t + 1 = v then f 0 else f t
def rev (f : Nat → Int32) (w v t : Nat) : Int32 := if t < v ∨ w - 1 - t < v then f (w - 1 - t) else f t
theorem e_exch {μ : ZMem} {f : Nat → Int32} {i j : Nat} (hi : i < 16) (hj : j < 16) {Φ : ZMem → Prop} (h : Φ (stI μ 4 (sw f i j))) : w_X3_exchange (nI i) (nI j) (stI μ 4 f) Φ := by
  unfold w_X3_exchange
  have v1 := vp_in_nI (n := i) (N := 16) hi (by omega)
  have v2 := vp_in_nI (n := j) (N := 16) hj (by omega)
  rw [nn_clamp (by omega), nn_clamp (by omega)]
  refine ⟨v1, nm_b ⟨v2, v1, nm_b ⟨v2, nm_b ?_⟩⟩⟩
  rw [upI_st (stI μ 4 f), upI_st, stI_stI, stI_stI]
  exact h
theorem m_exch {μ : ZMem} {g : Nat → Int32} {i j : Nat} (hi : i < 16) (hj : j < 16) {Φ : ZMem → Prop} (h : Φ (stI μ 1 (sw g (16 + i) (16 + j)))) : w_X12_exchanges (nI i) (nI j) (stI μ 1 g) Φ := by
  unfold w_X12_exchanges
  have v1 : vp_in (nI (16 + i)) 51 := vp_in_nI (by omega) (by omega)
  have v2 : vp_in (nI (16 + j)) 51 := vp_in_nI (by omega) (by omega)
  rw [show (16 : Int32) = nI 16 from rfl, nI_add, nI_add, nn_clamp (by omega), nn_clamp (by omega)]
  refine ⟨v1, nm_b ⟨v2, v1, nm_b ⟨v2, nm_b ?_⟩⟩⟩
  rw [upI_st (stI μ 1 g), upI_st, stI_stI, stI_stI]
  exact h
theorem e_first {μ : ZMem} {w : Nat} (hw : w ≤ 16) (h4 : μ.1 1 4 = nI w) {Φ : ZMem → Prop} (h : Φ (stI μ 4 (rotv (μ.1 4) w))) : w_X3_firstBecomesLast μ Φ := by
  unfold w_X3_firstBecomesLast
  have r1 : rotv (μ.1 4) 1 = μ.1 4 := by
    funext t; unfold rotv
    rw [if_neg (by omega)]
    by_cases e : t = 0
    · rw [if_pos (by omega), e]
    · rw [if_neg (by omega)]
  by_cases h0 : w = 0
  · refine ⟨1, ?_⟩
    rw [lpz2]
    dsimp only
    unfold b_X3_firstBecomesLast_2
    rw [h4, show (1 : Int32) = nI 1 from rfl, n_le (by omega) (by omega)]
    refine zif_t (by omega) ?_
    have r0 : rotv (μ.1 4) w = μ.1 4 := by
      funext t; unfold rotv
      rw [if_neg (by omega), if_neg (by omega)]
    rw [r0, stI_self] at h
    exact h
  · refine ⟨(w - 1) + 1, lp2_inv w (fun i b => 1 ≤ i ∧ b = stI μ 4 (rotv (μ.1 4) i)) (fun i b K hi hI hK => ?_) (fun b K hI => ?_) (w - 1) 1 μ (by omega) ⟨Nat.le_refl _, by rw [r1, stI_self]⟩⟩
    · obtain ⟨i1, rfl⟩ := hI
      unfold b_X3_firstBecomesLast_2
      have e4 : (stI μ 4 (rotv (μ.1 4) i)).1 1 4 = nI w := h4
      rw [e4, n_le (by omega) (by omega), show (1 : Int32) = nI 1 from rfl, pk_sub (by omega), nI_add]
      refine zif_f (by omega) (e_exch (by omega) (by omega) (hK _ ⟨by omega, ?_⟩))
      congr 1
      funext t
      simp only [sw_at, rotv]
      grind
    · obtain ⟨i1, rfl⟩ := hI
      unfold b_X3_firstBecomesLast_2
      have e4 : (stI μ 4 (rotv (μ.1 4) w)).1 1 4 = nI w := h4
      rw [e4]
      exact zif_t (by rw [n_le (by omega) (by omega)]; omega) h
theorem half16 : ∀ w : Nat, w < 17 → nI w / 2 = nI (w / 2) := by decide +kernel
theorem e_turnL {μ : ZMem} {w : Nat} (hw : w ≤ 16) (h4 : μ.1 1 4 = nI w) {Φ : ZMem → Prop} (h : ∀ f, (∀ t, t < w → f t = μ.1 4 (w - 1 - t)) → Φ (stI μ 4 f)) : w_X3_turnLine μ Φ := by
  unfold w_X3_turnLine
  refine ⟨w / 2 + 1, lp2_inv (w / 2) (fun i b => ∃ f, b = stI μ 4 f ∧ ∀ t, t < w → f t = rev (μ.1 4) w i t) (fun i b K hi hI hK => ?_) (fun b K hI => ?_) (w / 2) 0 μ (by omega) ⟨μ.1 4, (stI_self μ 4).symm, fun t ht => by unfold rev; rw [if_neg (by omega)]⟩⟩
  · obtain ⟨f, rfl, hf⟩ := hI
    unfold b_X3_turnLine_2
    have e4 : (stI μ 4 f).1 1 4 = nI w := h4
    rw [e4, half16 w (by omega), n_le (by omega) (by omega), show (1 : Int32) = nI 1 from rfl, pk_sub (by omega), pk_sub (by omega), nI_add]
    refine zif_f (by omega) (e_exch (by omega) (by omega) (hK _ ⟨_, rfl, fun t ht => ?_⟩))
    have f1 := hf i (by omega)
    have f2 := hf (w - 1 - i) (by omega)
    have f3 := hf t ht
    simp only [sw_at, rev] at *
    grind
  · obtain ⟨f, rfl, hf⟩ := hI
    unfold b_X3_turnLine_2
    have e4 : (stI μ 4 f).1 1 4 = nI w := h4
    rw [e4, half16 w (by omega)]
    refine zif_t (by rw [n_le (by omega) (by omega)]; omega) (h f (fun t ht => ?_))
    rw [hf t ht]
    unfold rev
    grind
