/-! the tables of both -/
theorem m_forms {μ : ZMem} {a : Int32} {C : Nat → Int64} (ha : okF a) (hC : ∀ j, j < 7 → μ.2 3 j = C j) (h8 : μ.1 0 8 = hd7 C) {Φ : ZMem → Prop} (h : ∀ μ', (∀ b s, ¬ (b = 0 ∧ (s = 9 ∨ s = 10)) → μ'.1 b s = μ.1 b s) → (∀ b, b ≠ 4 → b ≠ 5 → μ'.2 b = μ.2 b) → (∀ j, j < 7 → μ'.2 4 j = formF a C j) → μ'.1 0 9 = hd7 (formF a C) → μ'.1 0 10 = hd7 C - hd7 (formF a C) → Φ μ') : w_X12_forms a μ Φ := by
  have hd := dg_le C
  unfold w_X12_forms
  refine nm_k (fun b => fr45 μ b ∧ ∀ j, j < 7 → b.2 4 j = formF a C j) (fun J hJ => ?_) ?_
  · refine zifn (fun a3 => zif (fun al => ⟨8, ?_⟩) (fun al => ?_)) (fun a3 => ?_)
    · have hlow : a = 0 ∨ a = 1 ∨ a = 2 := by
        rw [i_lt, show (10 : Int32).toInt = 10 from rfl] at al
        have e3 : a.toInt ≠ 3 := fun q => a3 (Int32.toInt_inj.mp q)
        unfold okF at ha
        have : a.toInt = 0 ∨ a.toInt = 1 ∨ a.toInt = 2 := by omega
        rcases this with q | q | q
        · exact Or.inl (Int32.toInt_inj.mp q)
        · exact Or.inr (Or.inl (Int32.toInt_inj.mp q))
        · exact Or.inr (Or.inr (Int32.toInt_inj.mp q))
      refine lp2_inv 7 (fun i b => fr45 μ b ∧ ∀ j, j < i → b.2 4 j = formF a C j) (fun i b K hi hI hK => ?_) (fun b K hI => ?_) 7 0 μ (by omega) ⟨⟨rfl, fun _ _ _ => rfl⟩, fun j hj => absurd hj (Nat.not_lt_zero j)⟩
      · obtain ⟨i1, i2⟩ := hI
        have hv := vp_in_nI (n := i) (N := 7) (by omega) (by omega)
        have h3 : ∀ j, j < 7 → b.2 3 j = C j := fun j hj => by rw [i1.2 3 (by decide) (by decide)]; exact hC j hj
        unfold b_X12_forms_31
        rw [nn_clamp (n := i) (by omega), nI_1, i1.1, h8]
        refine zif_f (by rw [show (7 : Int32) = nI 7 from rfl, n_le (by omega) (by omega)]; omega) ?_
        refine nm_k (fun x => x = formF a C i) (fun J2 hJ2 => ?_) ?_
        · refine zifn (fun a2 => ?_) (fun a2 => zif (fun h0 => hJ2 _ ?_) (fun h0 => ?_))
          · have el : ∀ (a1 : a = 1), i % 2 ≠ 1 → J2 (C i) := fun a1 hp => hJ2 _ (by unfold formF; rw [if_neg (show ¬ a = 0 by rw [a1]; decide), if_pos a1, if_neg hp])
            show (¬ a = 1 → (vp_in (nI i) 7 ∧ J2 (b.2 3 i))) ∧ _
            rw [h3 i hi]
            refine zifn (fun a1 => ⟨hv, hJ2 _ ?_⟩) (fun a1 => zifn (fun hp => ⟨hv, el a1 ?_⟩) (fun hp => ⟨hv, hJ2 _ ?_⟩))
            · have a0 : a = 0 := by rcases hlow with q | q | q <;> simp_all
              unfold formF; rw [if_pos a0]
            · rw [nI_par i (by omega)] at hp; exact hp
            · rw [nI_par i (by omega)] at hp
              unfold formF; rw [if_neg (show ¬ a = 0 by rw [a1]; decide), if_pos a1, if_pos hp]
          · unfold hd7 at h0
            rw [i_lt, hd_toInt hd, nI_toInt (by omega)] at h0
            unfold formF
            rw [if_neg (show ¬ a = 0 by rw [a2]; decide), if_neg (show ¬ a = 1 by rw [a2]; decide), if_pos a2, if_neg (by omega)]
          · unfold hd7 at h0 ⊢
            rw [i_lt, hd_toInt hd, nI_toInt (by omega)] at h0
            have e : nI (dg C) - 1 - nI i = nI (dg C - 1 - i) := by
              rw [show (1 : Int32) = nI 1 from rfl, pk_sub (by omega), pk_sub (by omega)]
            rw [e, nn_clamp (n := dg C - 1 - i) (by omega), h3 _ (by omega)]
            refine ⟨vp_in_nI (by omega) (by omega), hJ2 _ ?_⟩
            unfold formF
            rw [if_neg (show ¬ a = 0 by rw [a2]; decide), if_neg (show ¬ a = 1 by rw [a2]; decide), if_pos a2, if_pos (by omega)]
        rintro x hx
        refine ⟨hv, hK _ ⟨fr45_4 i1, fun j hj => ?_⟩⟩
        rw [mJ2, if_pos rfl, updL_at]
        by_cases e : j = i
        · rw [if_pos e, hx, e]
        · rw [if_neg e]; exact i2 j (by omega)
      · obtain ⟨i1, i2⟩ := hI
        unfold b_X12_forms_31
        exact zif_t (by decide) (hJ b ⟨i1, i2⟩)
    · have hn : ∀ x : Int32, x.toInt < 10 → a ≠ x := by
        intro x hx q
        apply al
        rw [i_lt, q]
        exact hx
      refine m_shifts hC h8 (fun b q1 q2 => hJ b ⟨q1, fun j hj => ?_⟩)
      rw [q2 j hj]
      unfold formF
      rw [if_neg (hn 0 (by decide)), if_neg (hn 1 (by decide)), if_neg (hn 2 (by decide)), if_neg a3]
    · refine m_circles hC h8 (fun b q1 q2 => hJ b ⟨q1, fun j hj => ?_⟩)
      rw [q2 j hj]
      unfold formF
      rw [if_neg (show ¬ a = 0 by rw [a3]; decide), if_neg (show ¬ a = 1 by rw [a3]; decide), if_neg (show ¬ a = 2 by rw [a3]; decide), if_pos a3]
  rintro b ⟨g1, g2⟩
  refine m_degreeOf (nm_b ?_)
  have hdF : hd7 (b.2 4) = hd7 (formF a C) := by unfold hd7; rw [dg_congr g2]
  rw [hdF]
  have e9 : (zz_upI b 0 9 (hd7 (formF a C))).1 0 9 = hd7 (formF a C) := by rw [mI1, if_pos rfl, upd_at, if_pos rfl]
  have e8 : (zz_upI b 0 9 (hd7 (formF a C))).1 0 8 = hd7 C := by rw [mI1, if_pos rfl, upd_at, if_neg (by decide), g1.1, h8]
  rw [e9, e8]
  refine nm_k (fun x => x = hd7 C - hd7 (formF a C)) (fun J hJ => ?_) ?_
  · refine zif (fun h0 => hJ _ rfl) (fun h0 => hJ _ ?_)
    have hz : dg C = 0 := by
      unfold hd7 at h0
      rw [i_le, hd_toInt hd] at h0
      have : (0 : Int32).toInt = 0 := rfl
      omega
    have hF0 : ∀ j, j < 7 → formF a C j = 0 := by
      intro j hj
      have hC0 : C j = 0 := dgN_z C 7 j (by unfold dg at hz; omega) hj
      unfold formF
      split
      · exact hC0
      split
      · dsimp only; rw [hC0]; split <;> rfl
      split
      · exact if_neg (by omega)
      split
      · rw [hz]; rfl
      · rw [hz]; rfl
    have : dg (formF a C) = 0 := by
      unfold dg
      rw [dgN_congr (g := z0) 7 hF0]; rfl
    unfold hd7
    rw [hz, this]; rfl
  rintro x rfl
  refine nm_b ?_
  refine h _ (fun y s p => ?_) (fun y p q => g1.2 y p q) g2 ?_ ?_
  · rw [mI1]
    by_cases e : y = 0
    · subst e
      rw [if_pos rfl, upd_at, if_neg (fun q => p ⟨rfl, Or.inr q⟩), mI1, if_pos rfl, upd_at, if_neg (fun q => p ⟨rfl, Or.inl q⟩), g1.1]
    · rw [if_neg e, mI1, if_neg e, g1.1]
  · rw [mI1, if_pos rfl, upd_at, if_neg (by decide)]; exact e9
  · rw [mI1, if_pos rfl, upd_at, if_pos rfl]
/-- the rows outgrow what is kept -/
def grt (F : Nat → Int64) : Prop := dg F ≠ 0 ∧ ¬ okK F (dg F - 1) (dg F - 1)
def tabX (t : Nat) (μ : ZMem) (C F : Nat → Int64) : Prop := (∀ j, j < 7 → μ.2 (t + 1) j = F j) ∧ μ.1 t 4 = hd7 F ∧ μ.1 t 5 = hd7 C - hd7 F ∧ (grt F → μ.1 t 6 = 1) ∧ (¬ grt F → μ.1 t 6 = 0 ∧ ∀ k, k < dg F → (∀ j, j < 4 → μ.2 (t + 4 + k) j = rowK F (dg F - 1) k j) ∧ μ.1 (t + 11) k = cseK F (dg F - 1) k)
def tabM (μ : ZMem) (C F : Nat → Int64) : Prop := (∀ j, j < 7 → μ.2 4 j = F j) ∧ μ.1 0 9 = hd7 F ∧ μ.1 0 8 = hd7 C ∧ μ.1 0 10 = hd7 C - hd7 F ∧ (grt F → μ.1 0 4 = 1) ∧ (¬ grt F → μ.1 0 4 = 0 ∧ ∀ k, k < dg F → rowM μ k = rowK F (dg F - 1) k ∧ μ.1 8 k = cseK F (dg F - 1) k) ∧ (dg F ≠ 0 → μ.1 8 0 = 0)
/-- what a table may change -/
def XS (t : Nat) (μ μ' : ZMem) : Prop := (∀ a, a ≠ t → a ≠ t + 11 → μ'.1 a = μ.1 a) ∧ (∀ a, a ≠ 85 → (a < t + 1 ∨ t + 10 < a) → μ'.2 a = μ.2 a)
def MS (μ μ' : ZMem) : Prop := (∀ a, a ≠ 0 → a ≠ 8 → μ'.1 a = μ.1 a) ∧ (∀ s, s ≠ 4 → s ≠ 8 → s ≠ 9 → s ≠ 10 → μ'.1 0 s = μ.1 0 s) ∧ (∀ a, (a < 3 ∨ 7 < a) → μ'.2 a = μ.2 a)
theorem XS_rfl (t : Nat) (μ : ZMem) : XS t μ μ := ⟨fun _ _ _ => rfl, fun _ _ _ => rfl⟩
theorem XS_tr {t : Nat} {a b c : ZMem} (h1 : XS t a b) (h2 : XS t b c) : XS t a c := ⟨fun x p q => (h2.1 x p q).trans (h1.1 x p q), fun x p q => (h2.2 x p q).trans (h1.2 x p q)⟩
theorem MS_rfl (μ : ZMem) : MS μ μ := ⟨fun _ _ _ => rfl, fun _ _ _ _ _ => rfl, fun _ _ => rfl⟩
theorem MS_tr {a b c : ZMem} (h1 : MS a b) (h2 : MS b c) : MS a c := ⟨fun x p q => (h2.1 x p q).trans (h1.1 x p q), fun x p q r s => (h2.2.1 x p q r s).trans (h1.2.1 x p q r s), fun x p => (h2.2.2 x p).trans (h1.2.2 x p)⟩
theorem dg_top {F : Nat → Int64} (h : dg F ≠ 0) : F (dg F - 1) ≠ 0 := dgN_ne F 7 (dg F - 1) (by show dg F = _; omega)
/-- a table is built -/
theorem e_tab {μ : ZMem} {t k1 : Nat} {a : Int32} {C : Nat → Int64} (ha : okF a) (hb : bd C 200000) (h1 : k1 ≠ t + 1) (h2 : k1 ≠ t + 2) (hC : ∀ j, j < 7 → μ.2 k1 j = C j) {Φ : ZMem → Prop} (h : ∀ μ', XS t μ μ' → tabX t μ' C (formF a C) → Φ μ') : w_X8_shape t k1 7 a μ (fun μ_4 => w_X8_build t μ_4 Φ) := by
  refine e_shape ha h1 h2 hC (fun μ1 p1 p2 p3 p4 p5 => ?_)
  have hn : ∀ j, j < 7 → ¬ formF a C j = MINL := formF_ne ha hb
  have hdl := dg_le (formF a C)
  have hs : XS t μ μ1 := ⟨fun x q1 _ => funext fun s => p1 x s (fun q => q1 q.1), fun x _ q => p2 x (by omega) (by omega)⟩
  generalize formF a C = F at *
  by_cases hz : dg F = 0
  · have hm1 : hd7 F = -1 := by unfold hd7; rw [hz]; rfl
    refine e_build_m (by rw [p4, hm1]) (h _ (XS_tr hs ⟨fun x q _ => by rw [mI1, if_neg q], fun _ _ _ => rfl⟩) ⟨p3, ?_, ?_, fun q => absurd hz q.1, fun _ => ⟨by rw [mI1, if_pos rfl, upd_at, if_pos rfl], fun k hk => by omega⟩⟩)
    · rw [mI1, if_pos rfl, upd_at, if_neg (by decide)]; exact p4
    · rw [mI1, if_pos rfl, upd_at, if_neg (by decide)]; exact p5
  · have hm1 : hd7 F = nI (dg F - 1) := by unfold hd7; rw [show (1 : Int32) = nI 1 from rfl, pk_sub (by omega)]
    refine e_build (F := F) (m := dg F - 1) (by omega) (by rw [p4, hm1]) (fun j hj => ⟨p3 j hj, hn j hj⟩) (fun μ2 q1 q2 q3 => h μ2 (XS_tr hs ⟨fun x a1 a2 => funext fun s => q1.1 x s (fun e => a1 e.1) a2, fun x _ a2 => q1.2 x (by omega)⟩) ⟨fun j hj => by rw [q1.2 (t + 1) (by omega)]; exact p3 j hj, by rw [q1.1 t 4 (by omega) (by omega)]; exact p4, by rw [q1.1 t 5 (by omega) (by omega)]; exact p5, fun g => q3 g.2, fun g => ?_⟩)
    have hok : okK F (dg F - 1) (dg F - 1) := Classical.byContradiction fun q => g ⟨hz, q⟩
    exact ⟨(q2 hok).1, fun k hk => (q2 hok).2 k (by omega)⟩
theorem e_currentC {μ : ZMem} {C : Nat → Int64} (hC : ∀ j, j < 7 → mixF 1 (μ.1 1 2) (μ.2 2) (μ.2 3) j = C j) {Φ : Nat → ZMem → Prop} (h : ∀ μ', μ'.1 = μ.1 → (∀ a, a ≠ 85 → μ'.2 a = μ.2 a) → (∀ j, j < 7 → μ'.2 85 j = C j) → Φ 85 μ') : w_X11_currentC μ Φ := by
  unfold w_X11_currentC
  refine e_mix (by decide) (by decide) (h _ rfl (fun a q => stJ_ne q) (fun j hj => ?_))
  rw [stJ_eq, ovr_lt hj]; exact hC j hj
theorem e_tableOf {μ : ZMem} {a : Int32} {C : Nat → Int64} (ha : okF a) (hb : bd C 200000) (hC : ∀ j, j < 7 → mixF 1 (μ.1 1 2) (μ.2 2) (μ.2 3) j = C j) {Φ : Nat → ZMem → Prop} (h : ∀ μ', XS 28 μ μ' → tabX 28 μ' C (formF a C) → Φ 28 μ') : w_X11_tableOf a μ Φ := by
  unfold w_X11_tableOf
  refine e_currentC hC (fun μ1 p1 p2 p3 => ⟨rfl, ?_⟩)
  exact e_tab ha hb (by decide) (by decide) p3 (fun μ2 q1 q2 => h μ2 ⟨fun x a1 a2 => by rw [q1.1 x a1 a2, p1], fun x a1 a2 => by rw [q1.2 x a1 a2, p2 x a1]⟩ q2)
theorem m_tab {μ : ZMem} {u v a : Int32} {C : Nat → Int64} (ha : okF a) (hb : bd C 200000) (hC : ∀ j, j < 7 → mixM μ u v j = C j) {Φ : ZMem → Prop} (h : ∀ μ', MS μ μ' → tabM μ' C (formF a C) → Φ μ') : w_X12_takes u v μ (fun μ_2 => w_X12_forms a μ_2 (fun μ_4 => w_X12_laysRows μ_4 Φ)) := by
  refine m_takes (fun μ1 p1 p2 p3 p4 => ?_)
  have hdC : hd7 (mixM μ u v) = hd7 C := by unfold hd7; rw [dg_congr hC]
  rw [hdC] at p4
  refine m_forms (C := C) ha (fun j hj => by rw [p3 j hj]; exact hC j hj) p4 (fun μ2 r1 r2 r3 r4 r5 => ?_)
  have hn : ∀ j, j < 7 → ¬ formF a C j = MINL := formF_ne ha hb
  have hdl := dg_le (formF a C)
  have s1 : MS μ μ1 := ⟨fun x a1 a2 => funext fun s => p1 x s (fun q => a1 q.1), fun s a1 a2 a3 a4 => p1 0 s (fun q => a2 q.2), fun x a1 => p2 x (by omega)⟩
  have s2 : MS μ μ2 := MS_tr s1 ⟨fun x a1 a2 => funext fun s => r1 x s (fun q => a1 q.1), fun s a1 a2 a3 a4 => r1 0 s (by omega), fun x a1 => r2 x (by omega) (by omega)⟩
  have e8 : μ2.1 0 8 = hd7 C := by rw [r1 0 8 (by omega)]; exact p4
  have sL : ∀ μ3, frL μ2 μ3 → MS μ μ3 := fun μ3 q => MS_tr s2 ⟨fun x a1 a2 => funext fun s => q.1 x s (fun e => a1 e.1) a2, fun s a1 a2 a3 a4 => q.1 0 s (fun e => a1 e.2) (by decide), fun x a1 => q.2 x (by omega) (by omega)⟩
  generalize formF a C = F at *
  by_cases hz : dg F = 0
  · have hm1 : hd7 F = -1 := by unfold hd7; rw [hz]; rfl
    refine m_laysRows_m (by rw [r4, hm1]) (fun μ3 q1 q2 => h μ3 (sL μ3 q1) ⟨fun j hj => by rw [q1.2 4 (by decide) (by decide)]; exact r3 j hj, ?_, ?_, ?_, fun g => absurd hz g.1, fun _ => ⟨q2, fun k hk => by omega⟩, fun q => absurd hz q⟩)
    · rw [q1.1 0 9 (by omega) (by omega)]; exact r4
    · rw [q1.1 0 8 (by omega) (by omega)]; exact e8
    · rw [q1.1 0 10 (by omega) (by omega)]; exact r5
  · have hm1 : hd7 F = nI (dg F - 1) := by unfold hd7; rw [show (1 : Int32) = nI 1 from rfl, pk_sub (by omega)]
    refine m_laysRows (F := F) (m := dg F - 1) (by omega) (by rw [r4, hm1]) (fun j hj => ⟨r3 j hj, hn j hj⟩) (dg_top hz) (fun μ3 q1 q2 q3 q4 => h μ3 (sL μ3 q1) ⟨fun j hj => by rw [q1.2 4 (by decide) (by decide)]; exact r3 j hj, ?_, ?_, ?_, fun g => q3 g.2, fun g => ?_, fun _ => q4⟩)
    · rw [q1.1 0 9 (by omega) (by omega)]; exact r4
    · rw [q1.1 0 8 (by omega) (by omega)]; exact e8
    · rw [q1.1 0 10 (by omega) (by omega)]; exact r5
    · have hok : okK F (dg F - 1) (dg F - 1) := Classical.byContradiction fun q => g ⟨hz, q⟩
      exact ⟨(q2 hok).1, fun k hk => (q2 hok).2 k (by omega)⟩
theorem m_laysRowsOf {μ : ZMem} {a : Int32} {C : Nat → Int64} (ha : okF a) (hb : bd C 200000) (hC : ∀ j, j < 7 → mixM μ 1 (μ.1 1 14) j = C j) {Φ : ZMem → Prop} (h : ∀ μ', MS μ μ' → tabM μ' C (formF a C) → Φ μ') : w_X12_laysRowsOf a μ Φ := by
  unfold w_X12_laysRowsOf w_X12_laysForm
  exact m_tab ha hb hC h
