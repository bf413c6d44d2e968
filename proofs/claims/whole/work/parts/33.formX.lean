/-! the class's forms -/
theorem lp2_dni {B : Type} {body : Int32 → B → (Int32 → B → Prop) → Prop} (N : Nat) (I : Nat → B → Prop) (hs : ∀ i b K, i < N → I (i + 1) b → (∀ b', I i b' → K (nI i - 1) b') → body (nI i) b K) (hx : ∀ b K, I 0 b → body (-1) b K) : ∀ j, j ≤ N → ∀ b, I j b → lpz2 body (j + 1) (nI j - 1) b := by
  intro j
  induction j with
  | zero => intro _ b hI; exact hx b _ hI
  | succ j ih => intro h b hI; rw [nI_pred]; exact hs j b _ (by omega) hI (fun b' hb => ih (by omega) b' hb)
theorem hd_toInt {n : Nat} (h : n ≤ 7) : (nI n - 1).toInt = (n : Int) - 1 := by
  rw [show (1 : Int32) = nI 1 from rfl, pk_sub_toInt (by omega) (by omega)]; rfl
theorem mulL_congr {a : Int64} {f g : Nat → Int64} (h : ∀ j, j < 7 → f j = g j) (j : Nat) (hj : j < 7) : mulL a f j = mulL a g j := by
  unfold mulL
  rw [h j hj]
  split
  · rfl
  · rw [h _ (by omega)]
theorem e_mirror {μ : ZMem} {t : Nat} {Φ : ZMem → Prop} (h : ∀ p, (∀ j, j < 7 → p j = if j % 2 = 1 then -μ.2 (t + 1) j else μ.2 (t + 1) j) → Φ (stJ μ (t + 1) p)) : w_X8_mirror t μ Φ := by
  refine ⟨4, ?_⟩
  have key : ∀ n i p, i + n = 3 → (∀ j, j < 7 → p j = if j % 2 = 1 ∧ j < 2 * i + 1 then -μ.2 (t + 1) j else μ.2 (t + 1) j) → lpz2 (b_X8_mirror_2 Φ t) (n + 1) (nI (2 * i + 1)) (stJ μ (t + 1) p) := by
    intro n
    induction n with
    | zero =>
      intro i p hi hp
      obtain rfl : i = 3 := by omega
      refine zif_t (by decide) (h p (fun j hj => ?_))
      rw [hp j hj]
      by_cases e : j % 2 = 1
      · rw [if_pos e, if_pos ⟨e, by omega⟩]
      · rw [if_neg e, if_neg (fun q => e q.1)]
    | succ n ih =>
      intro i p hi hp
      have hv := vp_in_nI (n := 2 * i + 1) (N := 7) (by omega) (by omega)
      refine zif_f (by rw [show (7 : Int32) = nI 7 from rfl, n_le (by omega) (by omega)]; omega) ⟨hv, hv, ?_⟩
      rw [nn_clamp (by omega), stJ_eq]
      show lpz2 _ _ (nI (2 * i + 1) + nI 2) (zz_upJ _ _ _ _)
      rw [nI_add, upJ_st, stJ_eq, stJ_stJ]
      refine ih (i + 1) _ (by omega) (fun j hj => ?_)
      rw [updL_at]
      by_cases e : j = 2 * i + 1
      · rw [if_pos e, hp _ (by omega), if_neg (by omega), if_pos (by omega), e]
      · rw [if_neg e, hp j hj]
        by_cases e2 : j % 2 = 1 ∧ j < 2 * i + 1
        · rw [if_pos e2, if_pos (by omega)]
        · rw [if_neg e2, if_neg (by omega)]
  have g := key 3 0 (μ.2 (t + 1)) rfl (fun j hj => by rw [if_neg (by omega)])
  rw [stJ_self] at g
  exact g
theorem e_turn {μ : ZMem} {t k1 d : Nat} (hd : d ≤ 7) (hk : k1 ≠ t + 1) {Φ : ZMem → Prop} (h : Φ (stJ μ (t + 1) (ovr d (fun j => μ.2 k1 (d - 1 - j)) (μ.2 (t + 1))))) : w_X8_turn t k1 7 (nI d - 1) μ Φ := by
  refine ⟨d + 1, ?_⟩
  have g := lp2_up (body := b_X8_turn_2 (nI d - 1) Φ 7 t k1) d (fun i => stJ μ (t + 1) (ovr i (fun j => μ.2 k1 (d - 1 - j)) (μ.2 (t + 1)))) (fun i K hi hK => ?_) (fun K => ?_) d 0 (by omega)
  · rw [stJ_0] at g; exact g
  · have e : nI d - 1 - nI i = nI (d - 1 - i) := by
      rw [show (1 : Int32) = nI 1 from rfl, pk_sub (by omega), pk_sub (by omega)]
    unfold b_X8_turn_2
    rw [e, nn_clamp (n := d - 1 - i) (by omega), nn_clamp (n := i) (by omega), nI_1, stJ_ne hk]
    refine zif_f (by rw [i_lt, hd_toInt hd, nI_toInt (by omega)]; omega) ⟨vp_in_nI (by omega) (by omega), vp_in_nI (by omega) (by omega), ?_⟩
    show K _ _
    rw [upJ_ovr rfl]
    exact hK
  · exact zif_t (by rw [i_lt, hd_toInt hd, nI_toInt (by omega)]; omega) h
theorem e_shiftIn {μ : ZMem} {t lo : Nat} {a : Int32} {J : ZMem → Prop} (n : Nat) (hn : lo + n ≤ 6) (h : J (stJ μ (t + 1) (inn (Int32.toInt64 a) lo n (μ.2 (t + 1))))) : ∃ k, lpz2 (b_X8_shift_12 (nI lo) J t a) k (nI (lo + n) - 1) μ := by
  refine ⟨n + 1, ?_⟩
  have key : ∀ n p, lo + n ≤ 6 → J (stJ μ (t + 1) (inn (Int32.toInt64 a) lo n p)) → lpz2 (b_X8_shift_12 (nI lo) J t a) (n + 1) (nI (lo + n) - 1) (stJ μ (t + 1) p) := by
    intro n
    induction n with
    | zero =>
      intro p hn hJ
      exact zif_t (by rw [i_lt, hd_toInt (by omega), nI_toInt (by omega)]; omega) hJ
    | succ n ih =>
      intro p hn hJ
      rw [show lo + (n + 1) = (lo + n) + 1 from rfl, nI_pred]
      have hv := vp_in_nI (n := lo + n) (N := 7) (by omega) (by omega)
      refine zif_f (by rw [n_lt (by omega) (by omega)]; omega) ⟨hv, by rw [nI_1]; exact vp_in_nI (by omega) (by omega), hv, ?_⟩
      rw [nI_1, nn_clamp (n := lo + n) (by omega), nn_clamp (n := lo + n + 1) (by omega), stJ_eq]
      show lpz2 _ _ (nI (lo + n) + -1) (zz_upJ _ _ _ _)
      rw [nI_pm, upJ_st, stJ_eq, stJ_stJ]
      exact ih _ (by omega) hJ
  have g := key n (μ.2 (t + 1)) hn h
  rw [stJ_self] at g
  exact g
theorem e_shift {μ : ZMem} {t d : Nat} {a : Int32} (hd : d ≤ 7) {Φ : ZMem → Prop} (h : Φ (stJ μ (t + 1) (shOut (Int32.toInt64 a) (d - 1) (d - 1) 0 (μ.2 (t + 1))))) : w_X8_shift t a (nI d - 1) μ Φ := by
  refine ⟨d - 1 + 1, ?_⟩
  have key : ∀ n i p, i + n = d - 1 → Φ (stJ μ (t + 1) (shOut (Int32.toInt64 a) (d - 1) n i p)) → lpz2 (b_X8_shift_2 (nI d - 1) Φ t a) (n + 1) (nI i) (stJ μ (t + 1) p) := by
    intro n
    induction n with
    | zero =>
      intro i p hi hJ
      exact zif_t (by rw [i_le, hd_toInt hd, nI_toInt (by omega)]; omega) hJ
    | succ n ih =>
      intro i p hi hJ
      refine (show b_X8_shift_2 (nI d - 1) Φ t a (nI i) (stJ μ (t + 1) p) (lpz2 (b_X8_shift_2 (nI d - 1) Φ t a) (n + 1)) from ?_)
      have ih' := ih (i + 1)
      generalize lpz2 (b_X8_shift_2 (nI d - 1) Φ t a) (n + 1) = L at ih' ⊢
      unfold b_X8_shift_2
      refine zif_f (by rw [i_le, hd_toInt hd, nI_toInt (by omega)]; omega) ?_
      show ∃ k, lpz2 _ k (nI d - 1 - 1) _
      have e : nI d - 1 - 1 = nI (i + (d - 1 - i)) - 1 := by rw [show i + (d - 1 - i) = d - 1 by omega, show (1 : Int32) = nI 1 from rfl, pk_sub (by omega), pk_sub (by omega)]
      rw [e]
      refine e_shiftIn (d - 1 - i) (by omega) ?_
      show L (nI i + 1) _
      rw [nI_1, stJ_eq, stJ_stJ]
      exact ih' _ (by omega) hJ
  have g := key (d - 1) 0 (μ.2 (t + 1)) (by omega) h
  rw [stJ_self] at g
  exact g
/-- what making a form may change -/
def fr12 (t : Nat) (μ μ' : ZMem) : Prop := μ'.1 = μ.1 ∧ ∀ a, a ≠ t + 1 → a ≠ t + 2 → μ'.2 a = μ.2 a
theorem fr12_1 {t : Nat} {μ μ' : ZMem} {p : Nat → Int64} (h : fr12 t μ μ') : fr12 t μ (stJ μ' (t + 1) p) := ⟨h.1, fun a h1 h2 => by rw [stJ_ne h1]; exact h.2 a h1 h2⟩
theorem fr12_2 {t : Nat} {μ μ' : ZMem} {p : Nat → Int64} (h : fr12 t μ μ') : fr12 t μ (stJ μ' (t + 2) p) := ⟨h.1, fun a h1 h2 => by rw [stJ_ne h2]; exact h.2 a h1 h2⟩
theorem fr12_u1 {t s : Nat} {μ μ' : ZMem} {v : Int64} (h : fr12 t μ μ') : fr12 t μ (zz_upJ μ' (t + 1) s v) := by rw [upJ_st]; exact fr12_1 h
theorem fr12_u2 {t s : Nat} {μ μ' : ZMem} {v : Int64} (h : fr12 t μ μ') : fr12 t μ (zz_upJ μ' (t + 2) s v) := by rw [upJ_st]; exact fr12_2 h
theorem e_carry {μ : ZMem} {t k1 d : Nat} {C : Nat → Int64} (hd : d ≤ 7) (h1 : k1 ≠ t + 1) (h2 : k1 ≠ t + 2) (hC : ∀ j, j < 7 → μ.2 k1 j = C j) {Φ : ZMem → Prop} (h : ∀ μ', fr12 t μ μ' → (∀ j, j < 7 → μ'.2 (t + 1) j = cirX C d z0 (e0v 1) j) → Φ μ') : w_X8_carry t k1 7 (nI d - 1) μ Φ := by
  unfold w_X8_carry
  refine nm_k (fun b => fr12 t μ b ∧ (∀ j, j < 7 → b.2 (t + 1) j = 0) ∧ (∀ j, j < 7 → b.2 (t + 2) j = 0)) (fun J hJ => ⟨8, ?_⟩) ?_
  · refine lp2_inv 7 (fun i b => fr12 t μ b ∧ (∀ j, j < i → b.2 (t + 1) j = 0) ∧ (∀ j, j < i → b.2 (t + 2) j = 0)) (fun i b K hi hI hK => ?_) (fun b K hI => ?_) 7 0 μ (by omega) ⟨⟨rfl, fun _ _ _ => rfl⟩, fun j hj => absurd hj (Nat.not_lt_zero j), fun j hj => absurd hj (Nat.not_lt_zero j)⟩
    · obtain ⟨i1, i2, i3⟩ := hI
      have hv := vp_in_nI (n := i) (N := 7) (by omega) (by omega)
      unfold b_X8_carry_2
      rw [nn_clamp (n := i) (by omega), nI_1]
      refine zif_f (by rw [show (7 : Int32) = nI 7 from rfl, n_le (by omega) (by omega)]; omega) ⟨hv, hv, ?_⟩
      refine hK _ ⟨fr12_u2 (fr12_u1 i1), fun j hj => ?_, fun j hj => ?_⟩
      · rw [mJ2, if_neg (by omega), mJ2, if_pos rfl, updL_at]
        split
        · rfl
        · exact i2 j (by omega)
      · rw [mJ2, if_pos rfl, updL_at]
        split
        · rfl
        · rw [mJ2, if_neg (by omega)]; exact i3 j (by omega)
    · obtain ⟨i1, i2, i3⟩ := hI
      unfold b_X8_carry_2
      exact zif_t (by decide) (hJ b ⟨i1, i2, i3⟩)
  rintro b0 ⟨f1, f2, f3⟩
  refine nm_b ⟨d + 1, ?_⟩
  refine lp2_dni d (fun n b => fr12 t μ b ∧ ∃ f g, (∀ j, j < 7 → b.2 (t + 1) j = f j) ∧ (∀ j, j < 7 → b.2 (t + 2) j = g j) ∧ cirX C n f g = cirX C d z0 (e0v 1)) (fun i b K hi hI hK => ?_) (fun b K hI => ?_) d (Nat.le_refl d) _ ⟨fr12_u2 f1, z0, e0v 1, fun j hj => ?_, fun j hj => ?_, rfl⟩
  · obtain ⟨i1, f, g, i2, i3, i4⟩ := hI
    have hv := vp_in_nI (n := i) (N := 7) (by omega) (by omega)
    unfold b_X8_carry_37
    refine zif_f (nI_nneg (by omega)) (e_stretch ?_)
    refine nm_k (fun b2 => fr12 t μ b2 ∧ (∀ j, j < 7 → b2.2 (t + 1) j = mulL 1 f j + C i * g j) ∧ (∀ j, j < 7 → b2.2 (t + 2) j = g j)) (fun J hJ => ⟨8, ?_⟩) ?_
    · refine lp2_inv 7 (fun v b2 => fr12 t μ b2 ∧ (∀ j, j < 7 → b2.2 (t + 1) j = if j < v then mulL 1 f j + C i * g j else mulL 1 f j) ∧ (∀ j, j < 7 → b2.2 (t + 2) j = g j)) (fun v b2 K2 hv2 hI2 hK2 => ?_) (fun b2 K2 hI2 => ?_) 7 0 _ (by omega) ⟨fr12_1 i1, fun j hj => ?_, fun j hj => ?_⟩
      · obtain ⟨j1, j2, j3⟩ := hI2
        have hvv := vp_in_nI (n := v) (N := 7) (by omega) (by omega)
        unfold b_X8_carry_52
        rw [nn_clamp (n := v) (by omega), nn_clamp (n := i) (by omega), nI_1]
        refine zif_f (by rw [show (7 : Int32) = nI 7 from rfl, n_le (by omega) (by omega)]; omega) ⟨hvv, hv, hvv, hvv, ?_⟩
        refine hK2 _ ⟨fr12_u1 j1, fun j hj => ?_, fun j hj => ?_⟩
        · rw [mJ2, if_pos rfl, updL_at, j1.2 k1 h1 h2, hC i (by omega)]
          by_cases e : j = v
          · rw [if_pos e, if_pos (by omega), j2 v (by omega), j3 v (by omega), if_neg (by omega), e]
          · rw [if_neg e, j2 j hj]
            by_cases e2 : j < v
            · rw [if_pos e2, if_pos (by omega)]
            · rw [if_neg e2, if_neg (by omega)]
        · rw [mJ2, if_neg (by omega)]; exact j3 j hj
      · obtain ⟨j1, j2, j3⟩ := hI2
        unfold b_X8_carry_52
        exact zif_t (by decide) (hJ b2 ⟨j1, fun j hj => by rw [j2 j hj, if_pos hj], j3⟩)
      · rw [if_neg (by omega), stJ_eq, ovr_lt hj]
        exact mulL_congr i2 j hj
      · rw [stJ_ne (by omega)]; exact i3 j hj
    rintro b2 ⟨j1, j2, j3⟩
    refine e_stretch ?_
    show K (nI i + -1) _
    rw [nI_pm]
    refine hK _ ⟨fr12_2 j1, _, _, fun j hj => ?_, fun j hj => ?_, i4⟩
    · rw [stJ_ne (by omega)]; exact j2 j hj
    · rw [stJ_eq, ovr_lt hj]; exact mulL_congr j3 j hj
  · obtain ⟨i1, f, g, i2, i3, i4⟩ := hI
    unfold b_X8_carry_37
    refine zif_t (by decide) (h b i1 (fun j hj => ?_))
    rw [i2 j hj, ← i4]; rfl
  · rw [mJ2, if_neg (by omega)]; exact f2 j hj
  · rw [mJ2, if_pos rfl, updL_at]
    unfold e0v
    split
    · rfl
    · exact f3 j hj
/-- a table's coefficients, top and lacking -/
theorem e_shape {μ : ZMem} {t k1 : Nat} {a : Int32} {C : Nat → Int64} (ha : okF a) (h1 : k1 ≠ t + 1) (h2 : k1 ≠ t + 2) (hC : ∀ j, j < 7 → μ.2 k1 j = C j) {Φ : ZMem → Prop}
    (h : ∀ μ', (∀ b s, ¬ (b = t ∧ (s = 4 ∨ s = 5)) → μ'.1 b s = μ.1 b s) → (∀ b, b ≠ t + 1 → b ≠ t + 2 → μ'.2 b = μ.2 b) → (∀ j, j < 7 → μ'.2 (t + 1) j = formF a C j) → μ'.1 t 4 = hd7 (formF a C) → μ'.1 t 5 = hd7 C - hd7 (formF a C) → Φ μ') : w_X8_shape t k1 7 a μ Φ := by
  unfold w_X8_shape
  refine e_highest ?_
  have hdC : hd7 (μ.2 k1) = hd7 C := by unfold hd7; rw [dg_congr hC]
  have hdle := dg_le C
  rw [hdC]
  refine ⟨by decide, nm_b ?_⟩
  have cp : ∀ j, j < 7 → (zz_cpJ μ k1 (t + 1) 0 0 7).2 (t + 1) j = C j := by
    intro j hj
    rw [mcJ2, if_pos rfl]
    unfold va_cpy
    rw [if_pos ⟨Nat.zero_le j, by omega⟩, Nat.zero_add, Nat.sub_zero]
    exact hC j hj
  have hC0 : ∀ j, dg C ≤ j → j < 7 → C j = 0 := fun j a b => dgN_z C 7 j a b
  have f0 : fr12 t μ (zz_cpJ μ k1 (t + 1) 0 0 7) := ⟨rfl, fun b p q => by rw [mcJ2, if_neg p]⟩
  generalize zz_cpJ μ k1 (t + 1) 0 0 7 = μ1 at cp f0 ⊢
  refine nm_k (fun b => fr12 t μ b ∧ ∀ j, j < 7 → b.2 (t + 1) j = formF a C j) (fun J hJ => ?_) ?_
  · refine zifn (fun a1 => zifn (fun a2 => zifn (fun a3 => zif (fun a0 => hJ _ ⟨f0, fun j hj => ?_⟩) (fun a0 => ?_)) (fun a3 => ?_)) (fun a2 => ?_)) (fun a1 => ?_)
    · rw [cp j hj]; unfold formF; rw [if_pos a0]
    · refine e_shift hdle (hJ _ ⟨fr12_1 f0, fun j hj => ?_⟩)
      rw [stJ_eq]
      unfold formF
      rw [if_neg a0, if_neg a1, if_neg a2, if_neg a3]
      have hcg : ∀ (x : Int64) (d : Nat) n i (p q : Nat → Int64), d ≤ 6 → i + n = d → (∀ j, j < 7 → p j = q j) → ∀ j, j < 7 → shOut x d n i p j = shOut x d n i q j := by
        intro x d n
        have hin : ∀ lo n (p q : Nat → Int64), lo + n ≤ 6 → (∀ j, j < 7 → p j = q j) → ∀ j, j < 7 → inn x lo n p j = inn x lo n q j := by
          intro lo n
          induction n with
          | zero => intro p q _ hpq j hj; exact hpq j hj
          | succ n ih =>
            intro p q hn hpq j hj
            refine ih _ _ (by omega) (fun j hj => ?_) j hj
            rw [updL_at, updL_at, hpq (lo + n) (by omega), hpq (lo + n + 1) (by omega), hpq j hj]
        induction n with
        | zero => intro i p q _ _ hpq j hj; exact hpq j hj
        | succ n ih =>
          intro i p q hd hi hpq j hj
          exact ih (i + 1) _ _ hd (by omega) (fun j hj => hin i (d - i) p q (by omega) hpq j hj) j hj
      rw [hcg _ _ _ _ _ C (by omega) (by omega) cp j hj]
      by_cases hz : dg C = 0
      · rw [hz]; exact hC0 j (by omega) hj
      · rw [shift_eq _ C (dg C - 1) (by omega) (fun i p q => hC0 i (by omega) q) j hj, show dg C - 1 + 1 = dg C by omega]
    · refine e_carry hdle h1 h2 (C := C) (fun j hj => by rw [f0.2 k1 h1 h2]; exact hC j hj) (fun b q1 q2 => hJ b ⟨⟨q1.1.trans f0.1, fun x p q => (q1.2 x p q).trans (f0.2 x p q)⟩, fun j hj => ?_⟩)
      rw [q2 j hj]
      unfold formF
      rw [if_neg (by rw [a3]; decide), if_neg a1, if_neg a2, if_pos a3]
      by_cases hz : dg C = 0
      · rw [hz]; rfl
      · obtain ⟨d, hd⟩ : ∃ d, dg C = d + 1 := ⟨dg C - 1, by omega⟩
        rw [hd]
        exact cir_eq C d (by omega) j hj
    · refine e_turn hdle h1 (hJ _ ⟨fr12_1 f0, fun j hj => ?_⟩)
      rw [stJ_eq]
      unfold formF
      rw [if_neg (show ¬ a = 0 by rw [a2]; decide), if_neg a1, if_pos a2]
      by_cases hj2 : j < dg C
      · rw [ovr_lt hj2, if_pos hj2, f0.2 k1 h1 h2, hC _ (by omega)]
      · rw [ovr_ge (by omega), if_neg hj2, cp j hj, hC0 j (by omega) hj]
    · refine e_mirror (fun p hp => hJ _ ⟨fr12_1 f0, fun j hj => ?_⟩)
      rw [stJ_eq, hp j hj, cp j hj]
      unfold formF
      rw [if_neg (show ¬ a = 0 by rw [a1]; decide), if_pos a1]
  rintro b ⟨g1, g2⟩
  refine e_highest (nm_b (nm_b ?_))
  have hdF : hd7 (b.2 (t + 1)) = hd7 (formF a C) := by unfold hd7; rw [dg_congr g2]
  rw [hdF]
  have e4 : (zz_upI b t 4 (hd7 (formF a C))).1 t 4 = hd7 (formF a C) := by rw [mI1, if_pos rfl, upd_at, if_pos rfl]
  rw [e4]
  refine h _ (fun x s p => ?_) (fun x p q => g1.2 x p q) g2 ?_ ?_
  · rw [mI1]
    by_cases e : x = t
    · subst e
      rw [if_pos rfl, upd_at, if_neg (fun q => p ⟨rfl, Or.inr q⟩), mI1, if_pos rfl, upd_at, if_neg (fun q => p ⟨rfl, Or.inl q⟩), g1.1]
    · rw [if_neg e, mI1, if_neg e, g1.1]
  · rw [mI1, if_pos rfl, upd_at, if_neg (by decide)]; exact e4
  · rw [mI1, if_pos rfl, upd_at, if_pos rfl]
