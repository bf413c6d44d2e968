/-! put -/
theorem trays_up {μX μM : ZMem} (h : rTrays μX μM) {t j : Nat} (ht : t < 4) (hj : j < 30) (v : Int64) : rTrays (zz_upJ μX (86 + 2 * t + 1) j v) (zz_upJ μM 17 (30 * t + j) v) := by
  intro t' ht'
  obtain ⟨z, z1, z2, z3, z4, z5, z6⟩ := h t' ht'
  refine ⟨z, z1, z2, z3, z4, z5, fun i hi => ?_⟩
  rw [mJ2, mJ2, if_pos rfl, updL_at]
  by_cases e : t' = t
  · subst e
    rw [if_pos rfl, updL_at]
    by_cases e2 : i = j
    · rw [if_pos e2, if_pos (by omega)]
    · rw [if_neg e2, if_neg (by omega)]; exact z6 i hi
  · rw [if_neg (by omega), if_neg (by omega)]; exact z6 i hi
theorem Rel0_up {μX μM : ZMem} (h : Rel0 μX μM) {t j : Nat} (ht : t < 4) (hj : j < 30) (v : Int64) : Rel0 (zz_upJ μX (86 + 2 * t + 1) j v) (zz_upJ μM 17 (30 * t + j) v) ∧ rC μX (zz_upJ μX (86 + 2 * t + 1) j v) := by
  have hx : ∀ a, a < 86 → (zz_upJ μX (86 + 2 * t + 1) j v).1 a = μX.1 a ∧ (zz_upJ μX (86 + 2 * t + 1) j v).2 a = μX.2 a := fun a ha => ⟨rfl, by rw [mJ2, if_neg (by omega)]⟩
  exact ⟨⟨now_fr h.1 (fun a q1 q2 => hx a (by omega)) rfl, kept_fr h.2.1 (fun a q1 q2 => hx a (by omega)) rfl, h.2.2.1, tape_fr h.2.2.2.1 rfl rfl rfl rfl, trays_up h.2.2.2.2 ht hj v⟩, Or.inl ⟨fun a q1 q2 => hx a (by omega), (hx 2 (by omega)).2, (hx 3 (by omega)).2⟩⟩
/-- both store, one as the other -/
theorem o_store {μX μM : ZMem} (h : Rel0 μX μM) {t j : Nat} (ht : t < 4) (hj : j < 30) (v : Int64) {Φ : ZMem → Prop} {Ψ : ZMem → ZMem → Prop} (hk : ∀ μX1, Φ μX1 ↔ w_X12_lays (nI t) (nI j) v μM (Ψ μX1)) (hΨ : ∀ μX1 μM1, Rel0 μX1 μM1 → rC μX μX1 → Ψ μX1 μM1) : w_X10_store (86 + 2 * t) (nI j) v μX Φ := by
  obtain ⟨z, z1, z2, z3, z4, z5, z6⟩ := h.2.2.2.2 t ht
  unfold w_X10_store
  refine nm_k (fun x => x = if μM.1 15 t = 1 then Int32.toInt64 (Int64.toInt32 v) else v) (fun J hJ => ?_) ?_
  · rw [z4]
    exact zifn (fun q => hJ _ (by rw [if_neg q])) (fun q => hJ _ (by rw [if_pos q]))
  rintro x rfl
  refine ⟨vp_in_nI (by omega) (by omega), ?_⟩
  rw [nn_clamp (by omega)]
  refine (hk _).mpr ?_
  unfold w_X12_lays
  rw [nn_clamp (n := t) (by omega)]
  refine ⟨vp_in_nI (by omega) (by omega), ?_⟩
  refine nm_k (fun x => x = if μM.1 15 t = 1 then Int32.toInt64 (Int64.toInt32 v) else v) (fun J hJ => zifn (fun q => hJ _ (by rw [if_neg q])) (fun q => hJ _ (by rw [if_pos q]))) ?_
  rintro x rfl
  rw [show (30 : Int32) = nI 30 from rfl, pk_mul, nI_add, nn_clamp (by omega)]
  refine ⟨vp_in_nI (by omega) (by omega), ?_⟩
  obtain ⟨r1, r2⟩ := Rel0_up h ht hj (if μM.1 15 t = 1 then Int32.toInt64 (Int64.toInt32 v) else v)
  exact hΨ _ _ r1 r2
theorem o_put {μX μM : ZMem} (h : Rel0 μX μM) (a1 a2 : Int32) (a3 : Int64) : w_X11_put a1 a2 a3 μX (fun r μX1 => w_X12_put a1 a2 a3 μM (fun r2 μM1 => oS μX μM r r2 μX1 μM1)) := by
  unfold w_X11_put
  refine e_isTray (fun t ht et => z1n ?_) (fun hn => z0n ?_)
  · subst et
    obtain ⟨z, z1, z2, z3, z4, z5, z6⟩ := h.2.2.2.2 t ht
    have hv := vp_in_nI (n := t) (N := 4) ht (by omega)
    have el : ((Int32.toInt64 (nI z - 1)).toInt) = (z : Int) - 1 := by
      rw [il_toInt, show (1 : Int32) = nI 1 from rfl, pk_sub_toInt (by omega) (by omega)]; rfl
    refine ⟨hv, ?_⟩
    rw [nn_clamp (n := t) (by omega)]
    unfold w_X10_isNothing
    rw [z2, z4]
    have back : ∀ (Φ : Int32 → ZMem → Prop), (μM.1 15 t = -1 → Φ (-11) μM) → (¬ μM.1 15 t = -1 → w_X12_in (Int32.toInt64 a2) 0 (Int32.toInt64 (nI z - 1)) (fun r_5 => (¬ r_5 = 0 → w_X12_lays (nI t) a2 a3 μM (fun μ_8 => Φ 1 μ_8)) ∧ (r_5 = 0 → Φ (-13) μM))) → w_X12_put (nI t) a2 a3 μM Φ := by
      intro Φ k1 k2
      unfold w_X12_put
      refine m_isTray (fun _ _ _ => z1n ⟨hv, ?_⟩) (fun q => absurd (by rw [nI_toInt (by omega)]; omega) q)
      rw [nn_clamp (n := t) (by omega), z3]
      refine zif (fun q => ⟨hv, k2 (fun e => ?_)⟩) (fun q => k1 ?_)
      · rw [e] at q; exact absurd q (by decide)
      · rcases z5 with ⟨e, _⟩ | e | e
        · exact e
        · rw [e] at q; exact absurd (by decide) q
        · rw [e] at q; exact absurd (by decide) q
    refine zifn (fun hs => z0p ?_) (fun hs => z1p (back _ (fun _ => oS_0 h _) (fun q => absurd hs q)))
    have no : ¬ (0 ≤ a2.toInt ∧ a2.toInt < z) → w_X12_put (nI t) a2 a3 μM (fun r2 μM1 => oS μX μM (-13) r2 μX μM1) := by
      intro hn
      refine back _ (fun q => absurd q hs) (fun _ => m_in_k (fun q1 q2 => absurd ⟨?_, ?_⟩ hn) (fun _ => z0n (oS_0 h _)))
      · rw [il_toInt] at q1; exact q1
      · rw [il_toInt, el] at q2; omega
    rw [i_lt, i_lt, nI_toInt (by omega), show (0 : Int32).toInt = 0 from rfl]
    refine zif (fun q => no (by omega)) (fun q => zif (fun q2 => ?_) (fun q2 => no (by omega)))
    obtain ⟨j, j1, j2⟩ := nn_of (i := a2) (n := 30) (by omega) (by omega) (by omega)
    subst j2
    rw [nI_toInt (by omega)] at q2
    have mono : ∀ (P Q : ZMem → Prop), (∀ x, P x → Q x) → w_X10_store (86 + 2 * t) (nI j) a3 μX P → w_X10_store (86 + 2 * t) (nI j) a3 μX Q := by
      intro P Q hPQ g
      unfold w_X10_store at g ⊢
      exact ⟨fun e => ⟨(g.1 e).1, hPQ _ (g.1 e).2⟩, fun e => ⟨(g.2 e).1, hPQ _ (g.2 e).2⟩⟩
    refine mono _ _ (fun μX1 g => ?_) (o_store h ht (by omega) a3 (Ψ := fun μX1 μM1 => oS μX μM (1 : Int32) 1 μX1 μM1) (Φ := fun μX1 => w_X12_lays (nI t) (nI j) a3 μM (fun μM1 => oS μX μM (1 : Int32) 1 μX1 μM1)) (fun μX1 => Iff.rfl) (fun μX1 μM1 r1 r2 => ⟨rfl, r1, r2⟩))
    refine back _ (fun q => absurd q hs) (fun _ => m_in_k (fun _ _ => z1n g) (fun q0 => absurd ?_ q0))
    rw [il_toInt, el, nI_toInt (by omega)]; exact ⟨by show (0 : Int) ≤ _; omega, by omega⟩
  · unfold w_X12_put
    exact m_isTray (fun k hk ek => absurd (by rw [ek, nI_toInt (by omega)]; omega) hn) (fun _ => z0n (oS_0 h _))
