/-! put -/
theorem trays_up {μX μM : ZMem} (h : rTrays μX μM) {t j : Nat} (ht : t < 4) (hj : j < 30) (v : Int64) : rTrays (zz_upJ μX (86 + 2 * t + 1) j v) (zz_upJ μM 17 (30 * t + j) v) := by
  intro t' ht'
  obtain ⟨z, z1, z2, z3, z4, z5, z6⟩ := h t' ht'
  refine ⟨z, z1, z2, z3, z4, z5, fun i hi => ?_⟩
  rw [mJ2, mJ2, if_pos rfl, updL_at]
  by_cases e : t' = t
  · subst e
    rw [if_pos rfl, updL_at]
    by_cases e2 : i = j
    · rw [if_pos e2, if_pos (by omega)]
    · rw [if_neg e2, if_neg (by omega)]; exact z6 i hi
  · rw [if_neg (by omega), if_neg (by omega)]; exact z6 i hi
theorem Rel0_up {μX μM : ZMem} (h : Rel0 μX μM) {t j : Nat} (ht : t < 4) (hj : j < 30) (v : Int64) : Rel0 (zz_upJ μX (86 + 2 * t + 1) j v) (zz_upJ μM 17 (30 * t + j) v) ∧ rC μX (zz_upJ μX (86 + 2 * t + 1) j v) := by
  have hx : ∀ a, a < 86 → (zz_upJ μX (86 + 2 * t + 1) j v).1 a = μX.1 a ∧ (zz_upJ μX (86 + 2 * t + 1) j v).2 a = μX.2 a := fun a ha => ⟨rfl, by rw [mJ2, if_neg (by omega)]⟩
  exact ⟨⟨now_fr h.1 (fun a q1 q2 => hx a (by omega)) rfl, kept_fr h.2.1 (fun a q1 q2 => hx a (by omega)) rfl, h.2.2.1, tape_fr h.2.2.2.1 rfl rfl rfl rfl, trays_up h.2.2.2.2 ht hj v⟩, Or.inl ⟨fun a q1 q2 => hx a (by omega), (hx 2 (by omega)).2, (hx 3 (by omega)).2⟩⟩
/-- both store, one as the other -/
theorem o_store {μX μM : ZMem} (h : Rel0 μX μM) {t j : Nat} (ht : t < 4) (hj : j < 30) (v : Int64) {Φ : ZMem → Prop} {Ψ : ZMem → ZMem → Prop} (hk : ∀ μX1, Φ μX1 ↔ w_X12_lays (nI t) (nI j) v μM (Ψ μX1)) (hΨ : ∀ μX1 μM1, Rel0 μX1 μM1 → rC μX μX1 → Ψ μX1 μM1) : w_X10_store (86 + 2 * t) (nI j) v μX Φ := by
  obtain ⟨z, z1, z2, z3, z4, z5, z6⟩ := h.2.2.2.2 t ht
  unfold w_X10_store
  refine nm_k (fun x => x = if μM.1 15 t = 1 then Int32.toInt64 (Int64.toInt32 v) else v) (fun J hJ => ?_) ?_
  · rw [z4]
    exact zifn (fun q => hJ _ (by rw [if_neg q])) (fun q => hJ _ (by rw [if_pos q]))
  rintro x rfl
  refine ⟨vp_in_nI (by omega) (by omega), ?_⟩
  rw [nn_clamp (by omega)]
  refine (hk _).mpr ?_
  unfold w_X12_lays
  rw [nn_clamp (n := t) (by omega)]
  refine ⟨vp_in_nI (by omega) (by omega), ?_⟩
  refine nm_k (fun x => x = if μM.1 15 t = 1 then Int32.toInt64 (Int64.toInt32 v) else v) (fun J hJ => zifn (fun q => hJ _ (by rw [if_neg q])) (fun q => hJ _ (by rw [if_pos q]))) ?_
  rintro x rfl
  rw [show (30 : Int32) = nI 30 from rfl, pk_mul, nI_add, nn_clamp (by omega)]
  refine ⟨vp_in_nI (by omega) (by omega), ?_⟩
  obtain ⟨r1, r2⟩ := Rel0_up h ht hj (if μM.1 15 t = 1 then Int32.toInt64 (Int64.toInt32 v) else v)
  exact hΨ _ _ r1 r2
