/-! steady -/
theorem within_k2 {a b : Int32} {n : Nat} (hb : b = nI n) (hn : n < 2 ^ 30) {Φ : Int32 → Prop} (h1 : ab a ≤ n → Φ 1) (h0 : ¬ ab a ≤ n → Φ 0) : w_X11_isWithin a b Φ := by
  subst hb
  rw [e_within]
  unfold bI
  have e1 : (a < -(nI n)) = (a.toInt < -(n : Int)) := by
    rw [i_lt, Int32.toInt_neg, nI_toInt (by omega), Int.bmod_eq_of_le (by omega) (by omega)]
  have e2 : (nI n < a) = ((n : Int) < a.toInt) := by rw [i_lt, nI_toInt (by omega)]
  simp only [e1, e2]
  split
  · exact h1 (ab_in.mpr (by omega))
  · exact h0 (fun q => by have := ab_in.mp q; omega)
def mx (P Q : Nat → Int64) (u v : Int32) : Nat → Int64 := fun j => if j < 7 then Int32.toInt64 u * P j + Int32.toInt64 v * Q j else 0
def rwF (F : Nat → Int64) (k : Nat) : Int64 := rowK F (dg F - 1) k 0
def csF (F : Nat → Int64) : Nat → Int32 := cseK F (dg F - 1)
def rgF (F : Nat → Int64) : Int32 := rgI (rwF F) (dg F)
def axF (F : Nat → Int64) : Int32 := axI (rwF F) (csF F) (dg F)
theorem csF_0 (F : Nat → Int64) : csF F 0 ≠ 2 := by
  show (0 : Int32) ≠ 2
  decide
theorem tX_right {t : Nat} {μ : ZMem} {C F : Nat → Int64} (tX : tabX t μ C F) (hg : ¬ grt F) {Φ : Int32 → Prop} (h : Φ (rgF F)) : w_X8_rightCount t μ Φ := by
  refine e_rightCount (dg_le F) tX.2.1 ?_
  rw [rgI_congr (r' := rwF F) (fun k hk => ((tX.2.2.2.2 hg).2 k hk).1 0 (by omega))]
  exact h
theorem tX_axis {t : Nat} {μ : ZMem} {C F : Nat → Int64} (tX : tabX t μ C F) (hg : ¬ grt F) {Φ : Int32 → Prop} (h : Φ (axF F)) : w_X8_axisCount t μ Φ := by
  have h0 : dg F ≠ 0 → μ.1 (t + 11) 0 ≠ 2 := fun q => by
    rw [((tX.2.2.2.2 hg).2 0 (by omega)).2]
    exact csF_0 F
  refine e_axisCount (dg_le F) tX.2.1 h0 ?_
  rw [axI_congr (r' := rwF F) (cs' := csF F) (fun k hk => ((tX.2.2.2.2 hg).2 k hk).1 0 (by omega)) (fun k hk => ((tX.2.2.2.2 hg).2 k hk).2) h0]
  exact h
theorem tM_right {μ : ZMem} {C F : Nat → Int64} (tM : tabM μ C F) (hg : ¬ grt F) {Φ : Int32 → Prop} (h : Φ (rgF F)) : w_X12_right μ Φ := by
  refine m_right (dg_le F) tM.2.1 ?_
  rw [rgI_congr (r' := rwF F) (fun k hk => by rw [((tM.2.2.2.2.2.1 hg).2 k hk).1]; rfl)]
  exact h
theorem tM_axis {μ : ZMem} {C F : Nat → Int64} (tM : tabM μ C F) (hg : ¬ grt F) {Φ : Int32 → Prop} (h : Φ (axF F)) : w_X12_axis μ Φ := by
  have h0 : dg F ≠ 0 → μ.1 8 0 ≠ 2 := fun q => by rw [tM.2.2.2.2.2.2 q]; decide
  refine m_axis (dg_le F) tM.2.1 h0 ?_
  rw [axI_congr (r' := rwF F) (cs' := csF F) (fun k hk => by rw [((tM.2.2.2.2.2.1 hg).2 k hk).1]; rfl) (fun k hk => ((tM.2.2.2.2.2.1 hg).2 k hk).2) h0]
  exact h
def kF (kind : Int32) : Int32 := if kind = 0 then 0 else 3
theorem kF_ok (kind : Int32) : okF (kF kind) := by
  unfold kF okF
  split <;> exact Or.inl (by decide)
def whN (P Q : Nat → Int64) : Nat := max (dg P) (dg Q)
/-- all lies where it should, of u P and v Q -/
def stP (P Q : Nat → Int64) (kind u v : Int32) : Prop := 2 ≤ whN P Q ∧ dg (mx P Q u v) = whN P Q ∧ ¬ grt (formF (kF kind) (mx P Q u v)) ∧ hd7 (mx P Q u v) - hd7 (formF (kF kind) (mx P Q u v)) = 0 ∧ rgF (formF (kF kind) (mx P Q u v)) = 0 ∧ axF (formF (kF kind) (mx P Q u v)) = 0
theorem mx_congr {P Q P' Q' : Nat → Int64} (hP : ∀ j, j < 7 → P j = P' j) (hQ : ∀ j, j < 7 → Q j = Q' j) (u v : Int32) : mx P Q u v = mx P' Q' u v := by
  funext j
  unfold mx
  split
  · rw [hP j ‹_›, hQ j ‹_›]
  · rfl
theorem stP_congr {P Q P' Q' : Nat → Int64} (hP : ∀ j, j < 7 → P j = P' j) (hQ : ∀ j, j < 7 → Q j = Q' j) (kind u v : Int32) : stP P Q kind u v = stP P' Q' kind u v := by
  unfold stP whN
  rw [mx_congr hP hQ, dg_congr hP, dg_congr hQ]
/-- coefficients of P and of Q are small -/
def smallPQ (P Q : Nat → Int64) : Prop := ∀ j, j < 7 → (P j).toInt.natAbs ≤ 99 ∧ (Q j).toInt.natAbs ≤ 99
theorem bd_mx {P Q : Nat → Int64} (h : smallPQ P Q) {u v : Int32} (hu : ab u ≤ 16) (hv : ab v ≤ 1600) : bd (mx P Q u v) 200000 := by
  intro j hj
  unfold mx
  rw [if_pos hj]
  have h1 := bd_mul (x := Int32.toInt64 u) (y := P j) (A := 16) (B := 99) (by rw [ab_64]; exact hu) (h j hj).1 (by decide)
  have h2 := bd_mul (x := Int32.toInt64 v) (y := Q j) (A := 1600) (B := 99) (by rw [ab_64]; exact hv) (h j hj).2 (by decide)
  exact Nat.le_trans (bd_add h1 h2 (by decide)) (by decide)
/-- what asking changes in the class -/
def XH (μ μ' : ZMem) : Prop := (∀ a, a ≠ 52 → a ≠ 63 → μ'.1 a = μ.1 a) ∧ (∀ a, a ≠ 85 → (a < 51 ∨ 62 < a) → μ'.2 a = μ.2 a)
theorem XH_rfl (μ : ZMem) : XH μ μ := ⟨fun _ _ _ => rfl, fun _ _ _ => rfl⟩
theorem XH_tr {a b c : ZMem} (h1 : XH a b) (h2 : XH b c) : XH a c := ⟨fun x p q => (h2.1 x p q).trans (h1.1 x p q), fun x p q => (h2.2 x p q).trans (h1.2 x p q)⟩
theorem hd_max (a b : Nat) (ha : a ≤ 7) (hb : b ≤ 7) : (if nI a - 1 < nI b - 1 then nI b - 1 else nI a - 1) = nI (max a b) - 1 := by
  by_cases q : nI a - 1 < nI b - 1
  · rw [if_pos q]
    rw [i_lt, hd_toInt ha, hd_toInt hb] at q
    rw [show max a b = b by omega]
  · rw [if_neg q]
    rw [i_lt, hd_toInt ha, hd_toInt hb] at q
    rw [show max a b = a by omega]
theorem hd_eq {a b : Nat} (ha : a ≤ 7) (hb : b ≤ 7) : (nI a - 1 = nI b - 1) = (a = b) := by
  apply propext
  rw [i_eq, hd_toInt ha, hd_toInt hb]; omega
theorem hd_l1 {a : Nat} (ha : a ≤ 7) : (nI a - 1 < 1) = (a ≤ 1) := by
  apply propext
  rw [i_lt, hd_toInt ha, show (1 : Int32).toInt = 1 from rfl]; omega
theorem e_holds {μ : ZMem} {kind u v : Int32} (hs : smallPQ (μ.2 2) (μ.2 3)) (hu : ab u ≤ 16) (hv : ab v ≤ 1600) {Φ : Int32 → ZMem → Prop} (h1 : stP (μ.2 2) (μ.2 3) kind u v → ∀ μ', XH μ μ' → Φ 1 μ') (h0 : ¬ stP (μ.2 2) (μ.2 3) kind u v → ∀ μ', XH μ μ' → Φ 0 μ') : w_X7_holds kind u v μ Φ := by
  unfold w_X7_holds
  refine e_highest (e_highest (nm_b ?_))
  have dP := dg_le (μ.2 2)
  have dQ := dg_le (μ.2 3)
  have em : (if hd7 (μ.2 2) < hd7 (μ.2 3) then hd7 (μ.2 3) else hd7 (μ.2 2)) = nI (whN (μ.2 2) (μ.2 3)) - 1 := hd_max _ _ dP dQ
  rw [em]
  have hw : whN (μ.2 2) (μ.2 3) ≤ 7 := by unfold whN; omega
  refine e_mix (by omega) (by omega) ?_
  generalize hμ1 : stJ μ 51 (ovr 7 (mixF u v (μ.2 2) (μ.2 3)) (μ.2 51)) = μ1
  have p1 : μ1.1 = μ.1 := by rw [← hμ1]; rfl
  have p2 : ∀ a, a ≠ 51 → μ1.2 a = μ.2 a := fun a ha => by rw [← hμ1]; exact if_neg ha
  have p3 : ∀ j, j < 7 → μ1.2 51 j = mx (μ.2 2) (μ.2 3) u v j := fun j hj => by
    rw [← hμ1, stJ_eq, ovr_lt hj]
    unfold mx mixF
    rw [if_pos hj]
  have x1 : XH μ μ1 := ⟨fun a _ _ => by rw [p1], fun a _ ha => p2 a (by omega)⟩
  generalize hC : mx (μ.2 2) (μ.2 3) u v = C at *
  have no : ¬ (2 ≤ whN (μ.2 2) (μ.2 3) ∧ dg C = whN (μ.2 2) (μ.2 3)) → Φ 0 μ1 := fun q => h0 (fun z => q (by
    unfold stP at z; rw [hC] at z; exact ⟨z.1, z.2.1⟩)) _ x1
  rw [hd_l1 hw]
  refine zif (fun q => no (by omega)) (fun q => e_highest ?_)
  have ed : hd7 (μ1.2 51) = nI (dg C) - 1 := by unfold hd7; rw [dg_congr p3]
  rw [ed, hd_eq (dg_le C) hw]
  refine zif (fun q2 => ?_) (fun q2 => no (fun z => q2 z.2))
  refine nm_k (fun x => x = kF kind) (fun J hJ => zifn (fun q3 => hJ _ (by unfold kF; rw [if_neg q3])) (fun q3 => hJ _ (by unfold kF; rw [if_pos q3]))) ?_
  rintro x rfl
  refine e_tab (C := C) (kF_ok kind) (by rw [← hC]; exact bd_mx hs hu hv) (by omega) (by omega) p3 (fun μ2 s2 t2 => ?_)
  have x2 : XH μ μ2 := XH_tr x1 ⟨fun a h1 h2 => s2.1 a h1 (by omega), fun a h1 h2 => s2.2 a h1 (by omega)⟩
  have st : stP (μ.2 2) (μ.2 3) kind u v ↔ (¬ grt (formF (kF kind) C) ∧ hd7 C - hd7 (formF (kF kind) C) = 0 ∧ rgF (formF (kF kind) C) = 0 ∧ axF (formF (kF kind) C) = 0) := by
    unfold stP
    rw [hC]
    exact ⟨fun z => z.2.2, fun z => ⟨by omega, q2, z⟩⟩
  rw [st] at h1 h0
  generalize formF (kF kind) C = F at *
  by_cases hg : grt F
  · exact ⟨fun _ => h0 (fun z => z.1 hg) _ x2, fun q => absurd (t2.2.2.2.1 hg) (by rw [q]; decide)⟩
  · refine ⟨fun q => absurd (t2.2.2.2.2 hg).1 q, fun _ => ?_⟩
    rw [t2.2.2.1]
    refine zif (fun q3 => tX_right t2 hg (zifn (fun q4 => h0 (fun z => q4 z.2.2.1) _ x2) (fun q4 => tX_axis t2 hg (zifn (fun q5 => h0 (fun z => q5 z.2.2.2) _ x2) (fun q5 => h1 ⟨hg, q3, q4, q5⟩ _ x2))))) (fun q3 => h0 (fun z => q3 z.2.1) _ x2)
/-- the reference's table, after a mixture is taken -/
theorem m_tab2 {μ : ZMem} {a : Int32} {C : Nat → Int64} (ha : okF a) (hb : bd C 200000) (hC : ∀ j, j < 7 → μ.2 3 j = C j) (e8' : μ.1 0 8 = hd7 C) {Φ : ZMem → Prop} (h : ∀ μ', MS μ μ' → tabM μ' C (formF a C) → Φ μ') : w_X12_forms a μ (fun μ_4 => w_X12_laysRows μ_4 Φ) := by
  refine m_forms (C := C) ha hC e8' (fun μ2 r1 r2 r3 r4 r5 => ?_)
  have hn : ∀ j, j < 7 → ¬ formF a C j = MINL := formF_ne ha hb
  have hdl := dg_le (formF a C)
  have s2 : MS μ μ2 := ⟨fun x a1 a2 => funext fun s => r1 x s (fun q => a1 q.1), fun s a1 a2 a3 a4 => r1 0 s (by omega), fun x a1 => r2 x (by omega) (by omega)⟩
  have e8 : μ2.1 0 8 = hd7 C := by rw [r1 0 8 (by omega)]; exact e8'
  have sL : ∀ μ3, frL μ2 μ3 → MS μ μ3 := fun μ3 q => MS_tr s2 ⟨fun x a1 a2 => funext fun s => q.1 x s (fun e => a1 e.1) a2, fun s a1 a2 a3 a4 => q.1 0 s (fun e => a1 e.2) (by decide), fun x a1 => q.2 x (by omega) (by omega)⟩
  generalize formF a C = F at *
  by_cases hz : dg F = 0
  · have hm1 : hd7 F = -1 := by unfold hd7; rw [hz]; rfl
    refine m_laysRows_m (by rw [r4, hm1]) (fun μ3 q1 q2 => h μ3 (sL μ3 q1) ⟨fun j hj => by rw [q1.2 4 (by decide) (by decide)]; exact r3 j hj, ?_, ?_, ?_, fun g => absurd hz g.1, fun _ => ⟨q2, fun k hk => by omega⟩, fun q => absurd hz q⟩)
    · rw [q1.1 0 9 (by omega) (by omega)]; exact r4
    · rw [q1.1 0 8 (by omega) (by omega)]; exact e8
    · rw [q1.1 0 10 (by omega) (by omega)]; exact r5
  · have hm1 : hd7 F = nI (dg F - 1) := by unfold hd7; rw [show (1 : Int32) = nI 1 from rfl, pk_sub (by omega)]
    refine m_laysRows (F := F) (m := dg F - 1) (by omega) (by rw [r4, hm1]) (fun j hj => ⟨r3 j hj, hn j hj⟩) (dg_top hz) (fun μ3 q1 q2 q3 q4 => h μ3 (sL μ3 q1) ⟨fun j hj => by rw [q1.2 4 (by decide) (by decide)]; exact r3 j hj, ?_, ?_, ?_, fun g => q3 g.2, fun g => ?_, fun _ => q4⟩)
    · rw [q1.1 0 9 (by omega) (by omega)]; exact r4
    · rw [q1.1 0 8 (by omega) (by omega)]; exact e8
    · rw [q1.1 0 10 (by omega) (by omega)]; exact r5
    · have hok : okK F (dg F - 1) (dg F - 1) := Classical.byContradiction fun q => g ⟨hz, q⟩
      exact ⟨(q2 hok).1, fun k hk => (q2 hok).2 k (by omega)⟩
def pF (μ : ZMem) (j : Nat) : Int64 := Int32.toInt64 (μ.1 1 j)
def qF (μ : ZMem) (j : Nat) : Int64 := Int32.toInt64 (μ.1 1 (7 + j))
theorem i64_0 (x : Int32) : (x = 0) = (Int32.toInt64 x = 0) := by
  apply propext
  rw [i_eq, ← Int64.toInt_inj, il_toInt]; rfl
theorem m_whLoop {μ : ZMem} {J : Int32 → Prop} : ∀ j, j ≤ 7 → J (nI (max (dgN (pF μ) j) (dgN (qF μ) j)) - 1) → lpz1 (b_X12_isSteady_4 J μ) (j + 1) (nI j - 1) := by
  intro j
  induction j with
  | zero => intro _ h; exact zif_t (by decide) h
  | succ j ih =>
    intro hj h
    rw [lpz1]
    dsimp only
    generalize hL : lpz1 (b_X12_isSteady_4 J μ) (j + 1) = L
    unfold b_X12_isSteady_4
    rw [nI_sub1, show (0 : Int32) + nI j = nI j from by rw [show (0 : Int32) = nI 0 from rfl, nI_add, Nat.zero_add], show (7 : Int32) + nI j = nI (7 + j) from nI_add 7 j, nn_clamp (by omega), nn_clamp (by omega), i64_0, i64_0, nI_pm]
    rw [dgN, dgN] at h
    have l1 := dgN_le (pF μ) j
    have l2 := dgN_le (qF μ) j
    refine zif_f (nI_nneg (by omega)) ⟨vp_in_nI (by omega) (by omega), zifn (fun q => ?_) (fun q => ⟨vp_in_nI (by omega) (by omega), zifn (fun q2 => ?_) (fun q2 => ?_)⟩)⟩
    · rw [if_neg (show ¬ pF μ j = 0 from q)] at h
      have : max (j + 1) (if qF μ j = 0 then dgN (qF μ) j else j + 1) = j + 1 := by split <;> omega
      rw [this, nI_sub1] at h
      exact h
    · rw [if_pos (show pF μ j = 0 from q), if_neg (show ¬ qF μ j = 0 from q2), show max (dgN (pF μ) j) (j + 1) = j + 1 by omega, nI_sub1] at h
      exact h
    · rw [if_pos (show pF μ j = 0 from q), if_pos (show qF μ j = 0 from q2)] at h
      rw [← hL]
      exact ih (by omega) h
theorem m_isSteady {μ : ZMem} {kind u v : Int32} (hs : smallPQ (pF μ) (qF μ)) (hu : ab u ≤ 16) (hv : ab v ≤ 1600) {Φ : Int32 → ZMem → Prop} (h1 : stP (pF μ) (qF μ) kind u v → ∀ μ', MS μ μ' → Φ 1 μ') (h0 : ¬ stP (pF μ) (qF μ) kind u v → ∀ μ', MS μ μ' → Φ 0 μ') : w_X12_isSteady kind u v μ Φ := by
  unfold w_X12_isSteady
  have dP := dg_le (pF μ)
  have dQ := dg_le (qF μ)
  have hw : whN (pF μ) (qF μ) ≤ 7 := by unfold whN; omega
  refine nm_k (fun x => x = nI (whN (pF μ) (qF μ)) - 1) (fun J hJ => ⟨7 + 1, ?_⟩) ?_
  · rw [show (6 : Int32) = nI 7 - 1 from by decide]
    exact m_whLoop 7 (Nat.le_refl _) (hJ _ rfl)
  rintro x rfl
  refine m_takes (fun μ1 t1 t2 t3 t4 => ?_)
  have sM : MS μ μ1 := ⟨fun x a1 a2 => funext fun s => t1 x s (fun q => a1 q.1), fun s a1 a2 a3 a4 => t1 0 s (fun q => a2 q.2), fun x a1 => t2 x (by omega)⟩
  have hmx : ∀ j, j < 7 → mixM μ u v j = mx (pF μ) (qF μ) u v j := fun j hj => by
    unfold mixM mx pF qF
    rw [if_pos hj]
  have e8 : μ1.1 0 8 = hd7 (mx (pF μ) (qF μ) u v) := by rw [t4]; unfold hd7; rw [dg_congr hmx]
  have t3' : ∀ j, j < 7 → μ1.2 3 j = mx (pF μ) (qF μ) u v j := fun j hj => by rw [t3 j hj, hmx j hj]
  generalize hC : mx (pF μ) (qF μ) u v = C at *
  rw [e8]
  have no : ¬ (2 ≤ whN (pF μ) (qF μ) ∧ dg C = whN (pF μ) (qF μ)) → Φ 0 μ1 := fun q => h0 (fun z => q (by
    unfold stP at z; rw [hC] at z; exact ⟨z.1, z.2.1⟩)) _ sM
  have hl1 : (hd7 C < 1) = (dg C ≤ 1) := hd_l1 (dg_le C)
  have hle : (hd7 C = nI (whN (pF μ) (qF μ)) - 1) = (dg C = whN (pF μ) (qF μ)) := hd_eq (dg_le C) hw
  rw [hl1, hle]
  refine zif (fun q => no (by omega)) (fun q => zif (fun q2 => ?_) (fun q2 => no (fun z => q2 z.2)))
  refine nm_k (fun x => x = kF kind) (fun J hJ => zifn (fun q3 => hJ _ (by unfold kF; rw [if_neg q3])) (fun q3 => hJ _ (by unfold kF; rw [if_pos q3]))) ?_
  rintro x rfl
  have st : stP (pF μ) (qF μ) kind u v ↔ (¬ grt (formF (kF kind) C) ∧ hd7 C - hd7 (formF (kF kind) C) = 0 ∧ rgF (formF (kF kind) C) = 0 ∧ axF (formF (kF kind) C) = 0) := by
    unfold stP
    rw [hC]
    exact ⟨fun z => z.2.2, fun z => ⟨by omega, q2, z⟩⟩
  have k0 : kind = 0 → formF (kF kind) C = C := fun q => by
    unfold kF formF
    rw [if_pos q, if_pos rfl]
  rw [st] at h1 h0
  refine m_tab2 (kF_ok kind) (by rw [← hC]; exact bd_mx hs hu hv) t3' e8 (fun μ2 s2 t2 => ?_)
  have x2 := MS_tr sM s2
  generalize formF (kF kind) C = F at *
  by_cases hg : grt F
  · exact ⟨fun _ => h0 (fun z => z.1 hg) _ x2, fun q => absurd (t2.2.2.2.2.1 hg) (by rw [q]; decide)⟩
  · refine ⟨fun q => absurd (t2.2.2.2.2.2.1 hg).1 q, fun _ => ?_⟩
    refine tM_right t2 hg (zifn (fun q4 => h0 (fun z => q4 z.2.2.1) _ x2) (fun q4 => tM_axis t2 hg (zifn (fun q5 => h0 (fun z => q5 z.2.2.2) _ x2) (fun q5 => zif (fun q6 => h1 ⟨hg, ?_, q4, q5⟩ _ x2) (fun q6 => ?_)))))
    · rw [k0 q6]
      exact Int32.sub_self _
    · rw [t2.2.2.2.1]
      exact zifn (fun q3 => h0 (fun z => q3 z.2.1) _ x2) (fun q3 => h1 ⟨hg, q3, q4, q5⟩ _ x2)
theorem rNow_P {μX μM : ZMem} (h : rNow μX μM) : (∀ j, j < 7 → μX.2 2 j = pF μM j) ∧ (∀ j, j < 7 → μX.2 3 j = qF μM j) ∧ smallPQ (pF μM) (qF μM) ∧ smallPQ (μX.2 2) (μX.2 3) := by
  obtain ⟨a1, a2, a3, _⟩ := h
  have s : smallPQ (pF μM) (qF μM) := fun j hj => ⟨by unfold pF; rw [ab_64]; exact a3 j (by omega), by unfold qF; rw [ab_64]; exact a3 _ (by omega)⟩
  refine ⟨a1, a2, s, fun j hj => ?_⟩
  rw [a1 j hj, a2 j hj]
  exact s j hj
theorem Rel0_H {μX μM μX' μM' : ZMem} (h : Rel0 μX μM) (hX : XH μX μX') (hM : MS μM μM') : Rel0 μX' μM' ∧ rC μX μX' := by
  have hx : ∀ a, (a < 50 ∨ 63 < a) → a ≠ 85 → μX'.1 a = μX.1 a ∧ μX'.2 a = μX.2 a := fun a ha h5 => ⟨hX.1 a (by omega) (by omega), hX.2 a h5 (by omega)⟩
  refine ⟨⟨now_fr h.1 (fun a q1 q2 => hx a (by omega) (by omega)) (hM.1 1 (by omega) (by omega)), kept_fr h.2.1 (fun a q1 q2 => hx a (by omega) (by omega)) (hM.1 2 (by omega) (by omega)), ?_, tape_fr h.2.2.2.1 (by rw [(hx 23 (by omega) (by omega)).1]) (hx 24 (by omega) (by omega)).1 (hM.2.1 22 (by omega) (by omega) (by omega) (by omega)) (hM.1 13 (by omega) (by omega)), trays_fr h.2.2.2.2 (fun a q1 q2 => hx a (by omega) (by omega)) (hM.1 15 (by omega) (by omega)) (hM.1 16 (by omega) (by omega)) (hM.2.2 17 (by omega))⟩, Or.inl ⟨fun a q1 q2 => hx a (by omega) (by omega), (hx 2 (by omega) (by omega)).2, (hx 3 (by omega) (by omega)).2⟩⟩
  unfold rFlags
  rw [(hx 0 (by omega) (by omega)).1, hM.2.1 2 (by omega) (by omega) (by omega) (by omega), hM.2.1 3 (by omega) (by omega) (by omega) (by omega)]
  exact h.2.2.1
theorem e_isKind {a : Int32} {Φ : Int32 → Prop} (h1 : a = 0 ∨ a = 1 → Φ 1) (h0 : ¬ (a = 0 ∨ a = 1) → Φ 0) : w_X11_isKind a Φ := by
  unfold w_X11_isKind
  exact zif (fun q => h1 (Or.inl q)) (fun q => zifn (fun q2 => h0 (fun z => z.elim q q2)) (fun q2 => h1 (Or.inr q2)))
theorem kind_iff (a : Int32) : (a = 0 ∨ a = 1) ↔ (0 ≤ a.toInt ∧ a.toInt ≤ 1) := by
  rw [i_eq, i_eq, show (0 : Int32).toInt = 0 from rfl, show (1 : Int32).toInt = 1 from rfl]; omega
theorem m_isKind {a : Int32} {Φ : Int32 → Prop} (h1 : a = 0 ∨ a = 1 → Φ 1) (h0 : ¬ (a = 0 ∨ a = 1) → Φ 0) : w_X12_isKind a Φ := by
  unfold w_X12_isKind
  refine m_in_k (fun q1 q2 => ⟨Or.inr rfl, h1 ((kind_iff a).mpr ⟨?_, ?_⟩)⟩) (fun q => ⟨Or.inl rfl, h0 (fun z => q ?_)⟩)
  · rw [il_toInt] at q1; exact q1
  · rw [il_toInt] at q2; exact q2
  · rw [il_toInt]; exact (kind_iff a).mp z
theorem o_steady {μX μM : ZMem} (h : Rel0 μX μM) (a1 a2 a3 : Int32) : w_X11_steady a1 a2 a3 μX (fun r μX1 => w_X12_steady a1 a2 a3 μM (fun r2 μM1 => oS μX μM r r2 μX1 μM1)) := by
  obtain ⟨hP, hQ, sM, sX⟩ := rNow_P h.1
  have est := stP_congr hP hQ a1 a2 a3
  have front : ∀ Φ : Int32 → ZMem → Prop, (¬ ((a1 = 0 ∨ a1 = 1) ∧ 1 ≤ a2.toInt ∧ a2.toInt ≤ 16 ∧ ab a3 ≤ 1600) → Φ (-2) μM) → ((a1 = 0 ∨ a1 = 1) → 1 ≤ a2.toInt → a2.toInt ≤ 16 → ab a3 ≤ 1600 → (stP (pF μM) (qF μM) a1 a2 a3 → ∀ μ', MS μM μ' → Φ 1 μ') ∧ (¬ stP (pF μM) (qF μM) a1 a2 a3 → ∀ μ', MS μM μ' → Φ 0 μ')) → w_X12_steady a1 a2 a3 μM Φ := by
    intro Φ hb hg
    unfold w_X12_steady
    refine m_isKind (fun k => z1p (m_in_k (fun q1 q2 => z1p (m_in_k (fun q3 q4 => z1n ?_) (fun q => z0n (hb (fun z => q ?_))))) (fun q => z0p (hb (fun z => q ?_))))) (fun q => z0p (hb (fun z => q z.1)))
    · rw [il_toInt] at q1 q2 q3 q4
      have q1' : (1 : Int) ≤ a2.toInt := q1
      have q2' : a2.toInt ≤ (16 : Int) := q2
      have ha3 : ab a3 ≤ 1600 := ab_in.mpr ⟨q3, q4⟩
      obtain ⟨g1, g0⟩ := hg k q1' q2' ha3
      exact m_isSteady sM (ab_in.mpr ⟨by omega, q2'⟩) ha3 (fun s μ' hμ => z1p (g1 s μ' hμ)) (fun s μ' hμ => z0p (g0 s μ' hμ))
    · rw [il_toInt]; exact ab_in.mp z.2.2.2
    · rw [il_toInt]; exact ⟨z.2.1, z.2.2.1⟩
  unfold w_X11_steady
  have no : ¬ ((a1 = 0 ∨ a1 = 1) ∧ 1 ≤ a2.toInt ∧ a2.toInt ≤ 16 ∧ ab a3 ≤ 1600) → w_X12_steady a1 a2 a3 μM (fun r2 μM1 => oS μX μM (-2) r2 μX μM1) := fun q => front _ (fun _ => oS_0 h _) (fun k1 k2 k3 k4 => absurd ⟨k1, k2, k3, k4⟩ q)
  rw [i_lt, i_lt, show (1 : Int32).toInt = 1 from rfl, show (16 : Int32).toInt = 16 from rfl]
  refine e_isKind (fun k => z1p (zif (fun q => no (by omega)) (fun q => zif (fun q2 => no (by omega)) (fun q2 => within_k2 (n := 1600) rfl (by omega) (fun q3 => z1n ?_) (fun q3 => z0n (no (fun z => q3 z.2.2.2))))))) (fun k => z0p (no (fun z => k z.1)))
  have hu : ab a2 ≤ 16 := ab_in.mpr ⟨by omega, by omega⟩
  refine e_holds sX hu q3 (fun s μ' hμ => z1p ?_) (fun s μ' hμ => z0p ?_)
  · refine front _ (fun z => absurd ⟨k, by omega, by omega, q3⟩ z) (fun _ _ _ _ => ⟨fun _ μ2 h2 => ⟨rfl, (Rel0_H h hμ h2).1, (Rel0_H h hμ h2).2⟩, fun z => absurd (by rw [← est]; exact s) z⟩)
  · refine front _ (fun z => absurd ⟨k, by omega, by omega, q3⟩ z) (fun _ _ _ _ => ⟨fun z => absurd (by rw [est]; exact z) s, fun _ μ2 h2 => ⟨rfl, (Rel0_H h hμ h2).1, (Rel0_H h hμ h2).2⟩⟩)
