/-! both build the chain -/
theorem e_append {μ : ZMem} {k1 s : Nat} {a2 : Int32} {c : Nat → Int64} (hs : s < 7) (h2 : μ.1 40 2 = nI s) (hk : k1 ≠ 42 + s) (hc : ∀ j, j < 7 → Int32.toInt64 a2 * μ.2 k1 j = c j) (hn : noM c) {Φ : ZMem → Prop} (h : ∀ μ', (∀ a t, ¬ (a = 40 ∧ t = 2) → μ'.1 a t = μ.1 a t) → μ'.1 40 2 = nI (s + 1) → (∀ a, a ≠ 42 + s → μ'.2 a = μ.2 a) → (∀ j, j < 7 → μ'.2 (42 + s) j = shr 7 c j) → Φ μ') : w_X0_append k1 7 a2 μ Φ := by
  unfold w_X0_append
  refine nm_b ⟨7 + 1, lp2_inv 7 (fun i b => ∃ f, b = stJ μ (42 + s) f ∧ ∀ j, j < i → f j = c j) (fun i b K hi hI hK => ?_) (fun b K hI => ?_) 7 0 μ (by omega) ⟨μ.2 (42 + s), (stJ_self μ (42 + s)).symm, fun j hj => absurd hj (by omega)⟩⟩
  · obtain ⟨f, rfl, hf⟩ := hI
    unfold b_X0_append_2
    have hv := vp_in_nI (n := i) (N := 7) hi (by omega)
    have e2 : (stJ μ (42 + s) f).1 40 2 = nI s := h2
    rw [e2, show (7 : Int32) = nI 7 from rfl, n_le (by omega) (by omega), nI_1, nn_clamp (by omega), nn_clamp (by omega), stJ_ne hk, hc i hi]
    refine zif_f (by omega) ⟨vp_in_nI (by omega) (by omega), hv, hv, nm_b (hK _ ⟨vp_updL f i (c i), by rw [upJ_st, stJ_stJ, stJ_eq], fun j hj => ?_⟩)⟩
    rw [updL_at]
    split
    · rename_i e; rw [e]
    · exact hf j (by omega)
  · obtain ⟨f, rfl, hf⟩ := hI
    unfold b_X0_append_2
    have e2 : (stJ μ (42 + s) f).1 40 2 = nI s := h2
    refine zif_t (by decide) ?_
    dsimp only
    rw [e2, nn_clamp (by omega)]
    refine ⟨vp_in_nI (by omega) (by omega), e_shrink (by omega) (fun j hj => by rw [stJ_eq, hf j hj]; exact hn j hj) (nm_b ?_)⟩
    rw [stJ_eq, stJ_stJ]
    have e3 : ∀ g, (stJ μ (42 + s) g).1 40 2 = nI s := fun _ => h2
    rw [e3, nI_1]
    refine h _ (fun a t ht => ?_) rfl (fun a ha => stJ_ne ha) (fun j hj => ?_)
    · rw [mI1]
      by_cases e : a = 40
      · rw [if_pos e, upd_at, if_neg (fun z => ht ⟨e, z⟩), e]; rfl
      · rw [if_neg e]; rfl
    · rw [mI2, stJ_eq]
      unfold ovr
      rw [if_pos hj, shr_at hj, gcdN_congr 7 hf]
      dsimp only
      rw [hf j hj]
def XC (μ μ' : ZMem) : Prop := (∀ a, a ≠ 40 → μ'.1 a = μ.1 a) ∧ (∀ a, a ≠ 85 → (a < 42 ∨ 49 < a) → μ'.2 a = μ.2 a)
theorem XC_rfl (μ : ZMem) : XC μ μ := ⟨fun _ _ => rfl, fun _ _ _ => rfl⟩
/-- the class's chain is built -/
def chX (C : Nat → Int64) (o : Nat) (μ : ZMem) : Prop := μ.1 40 2 = nI (o + 2) ∧ ((rmK C o = none ∧ μ.1 40 3 = 1) ∨ ((∃ q, rmK C o = some q) ∧ μ.1 40 3 = 0)) ∧ ∀ i, i < o + 2 → ∀ j, j < 7 → μ.2 (42 + i) j = LK C i j
theorem e_build1 {μ : ZMem} {C : Nat → Int64} (hC : ∀ j, j < 7 → μ.2 85 j = C j) (hd : ¬ 2 ≤ dg C) {Φ : Int32 → ZMem → Prop} (h : ∀ μ', XC μ μ' → Φ 0 μ') : w_X0_build 85 7 μ Φ := by
  unfold w_X0_build
  refine nm_b (nm_b (e_highest ?_))
  have e : hd7 ((zz_upI (zz_upI μ 40 2 0) 40 3 0).2 85) = nI (dg C) - 1 := by
    show hd7 (μ.2 85) = _
    unfold hd7; rw [dg_congr hC]
  rw [e, i_le, hd_toInt (dg_le C), show (1 : Int32).toInt = 1 from rfl]
  refine zif_f (by omega) (h _ ⟨fun a ha => ?_, fun a _ _ => rfl⟩)
  rw [mI1, if_neg ha, mI1, if_neg ha]
theorem e_buildLoop {μ : ZMem} {C : Nat → Int64} (hb : bd C 200000) (h2 : 2 ≤ dg C) {o : Nat} (ho : chS C o) {Φ : Int32 → ZMem → Prop} (h : ∀ μ', XC μ μ' → chX C o μ' → Φ 1 μ') : ∀ n k b, k + n = o → XC μ b → b.1 40 2 = nI (k + 2) → b.1 40 3 = 0 → (∀ i, i < k + 2 → ∀ j, j < 7 → b.2 (42 + i) j = LK C i j) → lpz2 (b_X0_build_79 Φ) (n + 1) (nI (k + 2)) b := by
  obtain ⟨o1, o2, o3, o4⟩ := ho
  intro n
  induction n with
  | zero =>
    intro k b hk hx h40 h43 hL
    obtain rfl : k = o := by omega
    rw [lpz2]
    dsimp only
    unfold b_X0_build_79
    rw [show (7 : Int32) = nI 7 from rfl, n_le (by omega) (by omega)]
    obtain ⟨a1, a2, a3, a4, a5⟩ := lk_ok hb h2 k o2
    refine zif (fun q => h b hx ⟨h40, Or.inr ⟨o4 (by omega), h43⟩, hL⟩) (fun q => ?_)
    rw [show (2 : Int32) = nI 2 from rfl, show (1 : Int32) = nI 1 from rfl, pk_sub (by omega), pk_sub (by omega), nn_clamp (by omega), nn_clamp (by omega)]
    refine ⟨vp_in_nI (by omega) (by omega), vp_in_nI (by omega) (by omega), ?_⟩
    rw [show k + 2 - 2 = k by omega, show k + 2 - 1 = k + 1 by omega]
    refine e_divide (A := LK C k) (B := LK C (k + 1)) (by omega) (fun j hj => ⟨hL k (by omega) j hj, a1 j hj⟩) (fun j hj => ⟨hL (k + 1) (by omega) j hj, a2 j hj⟩) a3 h43 (fun b' hb' => ?_)
    obtain ⟨⟨c, c1, c2⟩, c3, c4, c5⟩ := hb'
    have hx' : XC μ b' := ⟨fun a ha => funext fun t => by rw [c3 a t (fun z => ha z.1), hx.1 a ha], fun a h85 ha => by rw [c1, stJ_ne (by omega)]; exact hx.2 a h85 ha⟩
    have s40 : b'.1 40 2 = nI (k + 2) := by rw [c3 40 2 (by omega)]; exact h40
    have hL' : ∀ i, i < k + 2 → ∀ j, j < 7 → b'.2 (42 + i) j = LK C i j := fun i hi j hj => by rw [c1, stJ_ne (by omega)]; exact hL i hi j hj
    have er : remN (LK C (k + 1)) 7 (LK C k) = rmK C k := rfl
    rw [er] at c2 c4 c5
    cases hr : rmK C k with
    | none =>
      have f := c5 hr
      refine zifn_f (by rw [f]; decide) (h b' hx' ⟨s40, Or.inl ⟨hr, f⟩, hL'⟩)
    | some q =>
      have f := c4 ⟨q, hr⟩
      refine zifn_t f (e_highest ?_)
      have eh : hd7 (b'.2 49) = nI (dg q) - 1 := by
        rw [c1, stJ_eq]
        unfold hd7; rw [dg_congr (c2 q hr)]
      rw [eh, i_0le, hd_toInt (dg_le q)]
      refine zif (fun z => absurd ⟨q, hr, by omega⟩ o3) (fun z => h b' hx' ⟨s40, Or.inr ⟨⟨q, hr⟩, f⟩, hL'⟩)
  | succ n ih =>
    intro k b hk hx h40 h43 hL
    rw [lpz2]
    dsimp only
    generalize hLL : lpz2 (b_X0_build_79 Φ) (n + 1) = L
    unfold b_X0_build_79
    rw [show (7 : Int32) = nI 7 from rfl, n_le (by omega) (by omega), nI_1]
    obtain ⟨a1, a2, a3, a4, a5⟩ := lk_ok hb h2 k (fun i hi => o2 i (by omega))
    refine zif_f (by omega) ?_
    rw [show (2 : Int32) = nI 2 from rfl, show (1 : Int32) = nI 1 from rfl, pk_sub (by omega), pk_sub (by omega), nn_clamp (by omega), nn_clamp (by omega)]
    refine ⟨vp_in_nI (by omega) (by omega), vp_in_nI (by omega) (by omega), ?_⟩
    rw [show k + 2 - 2 = k by omega, show k + 2 - 1 = k + 1 by omega]
    refine e_divide (A := LK C k) (B := LK C (k + 1)) (by omega) (fun j hj => ⟨hL k (by omega) j hj, a1 j hj⟩) (fun j hj => ⟨hL (k + 1) (by omega) j hj, a2 j hj⟩) a3 h43 (fun b' hb' => ?_)
    obtain ⟨⟨c, c1, c2⟩, c3, c4, c5⟩ := hb'
    have er : remN (LK C (k + 1)) 7 (LK C k) = rmK C k := rfl
    rw [er] at c2 c4 c5
    obtain ⟨q, q1, q2⟩ := o2 k (by omega)
    have f := c4 ⟨q, q1⟩
    have qn : noM q := remN_ne 7 _ _ a1 q1
    have s40 : b'.1 40 2 = nI (k + 2) := by rw [c3 40 2 (by omega)]; exact h40
    have e49 : ∀ j, j < 7 → b'.2 49 j = q j := fun j hj => by rw [c1, stJ_eq]; exact c2 q q1 j hj
    refine zifn_t f (e_highest ?_)
    have eh : hd7 (b'.2 49) = nI (dg q) - 1 := by unfold hd7; rw [dg_congr e49]
    rw [eh, i_0le, hd_toInt (dg_le q)]
    refine zif_t (by omega) (e_append (s := k + 2) (c := ngF q) (by omega) s40 (by omega) (fun j hj => by rw [e49 j hj, show -nI 1 = (-1 : Int32) from rfl, neg1_L]; rfl) (ngF_noM qn) (fun μ2 d1 d2 d3 d4 => ?_))
    rw [← hLL]
    refine ih (k + 1) μ2 (by omega) ⟨fun a ha => funext fun t => ?_, fun a h85 ha => ?_⟩ d2 ?_ (fun i hi j hj => ?_)
    · rw [d1 a t (fun z => ha z.1), c3 a t (fun z => ha z.1), hx.1 a ha]
    · rw [d3 a (by omega), c1, stJ_ne (by omega)]; exact hx.2 a h85 ha
    · rw [d1 40 3 (by omega)]; exact f
    · by_cases e : i = k + 2
      · rw [e, d4 j hj]
        show _ = shr 7 (ngF ((rmK C k).getD z0)) j
        rw [q1]; rfl
      · rw [d3 _ (by omega), c1, stJ_ne (by omega)]; exact hL i (by omega) j hj
theorem e_build2 {μ : ZMem} {C : Nat → Int64} (hC : ∀ j, j < 7 → μ.2 85 j = C j) (hb : bd C 200000) (h2 : 2 ≤ dg C) {o : Nat} (ho : chS C o) {Φ : Int32 → ZMem → Prop} (h : ∀ μ', XC μ μ' → chX C o μ' → Φ 1 μ') : w_X0_build 85 7 μ Φ := by
  unfold w_X0_build
  refine nm_b (nm_b (e_highest ?_))
  have e : hd7 ((zz_upI (zz_upI μ 40 2 0) 40 3 0).2 85) = nI (dg C) - 1 := by
    show hd7 (μ.2 85) = _
    unfold hd7; rw [dg_congr hC]
  rw [e, i_le, hd_toInt (dg_le C), show (1 : Int32).toInt = 1 from rfl]
  refine zif_t (by omega) (e_append (s := 0) (c := C) (by omega) rfl (by omega) (fun j hj => by rw [one_L]; exact hC j hj) (bd_noM hb) (fun μ1 a1 a2 a3 a4 => nm_b ?_))
  have c85 : ∀ j, j < 7 → μ1.2 85 j = C j := fun j hj => by rw [a3 85 (by omega)]; exact hC j hj
  refine ⟨7 + 1, lp2_inv 7 (fun i b => ∃ f, b = stJ μ1 49 f ∧ ∀ j, j < i → f j = derF C j) (fun i b K hi hI hK => ?_) (fun b K hI => ?_) 7 0 μ1 (by omega) ⟨μ1.2 49, (stJ_self μ1 49).symm, fun j hj => absurd hj (by omega)⟩⟩
  · obtain ⟨f, rfl, hf⟩ := hI
    unfold b_X0_build_28
    rw [nI_1, show (7 : Int32) = nI 7 from rfl, n_le (by omega) (by omega), n_le (by omega) (by omega), nn_clamp (by omega), nn_clamp (by omega), stJ_ne (by omega)]
    refine zif_f (by omega) ?_
    refine nm_k (fun x => x = derF C i) (fun J hJ => zif (fun q => hJ _ ?_) (fun q => ⟨vp_in_nI (by omega) (by omega), hJ _ ?_⟩)) ?_
    · unfold derF; rw [if_neg (by omega)]
    · unfold derF; rw [if_pos (by omega), c85 _ (by omega)]
    rintro x hx
    refine ⟨vp_in_nI (by omega) (by omega), nm_b (hK _ ⟨vp_updL f i x, by rw [upJ_st, stJ_stJ, stJ_eq], fun j hj => ?_⟩)⟩
    rw [updL_at]
    split
    · rename_i e; rw [e]; exact hx
    · exact hf j (by omega)
  · obtain ⟨f, rfl, hf⟩ := hI
    unfold b_X0_build_28
    refine zif_t (by decide) ?_
    dsimp only
    refine (e_append (μ := stJ μ1 49 f) (k1 := 49) (s := 1) (c := derF C) (by omega) a2 (by omega) (fun j hj => by rw [one_L, stJ_eq]; exact hf j hj) (der_noM hb) (fun μ2 d1 d2 d3 d4 => ?_))
    refine ⟨o + 1, e_buildLoop hb h2 ho h o 0 μ2 (by omega) ⟨fun a ha => funext fun t => ?_, fun a h85 ha => ?_⟩ d2 ?_ (fun i hi j hj => ?_)⟩
    · rw [d1 a t (fun z => ha z.1)]
      show μ1.1 a t = _
      rw [a1 a t (fun z => ha z.1), mI1, if_neg ha, mI1, if_neg ha]
    · rw [d3 a (by omega), stJ_ne (by omega), a3 a (by omega)]; rfl
    · rw [d1 40 3 (by omega)]
      show μ1.1 40 3 = 0
      rw [a1 40 3 (by omega)]; rfl
    · have : i = 0 ∨ i = 1 := by omega
      rcases this with rfl | rfl
      · rw [d3 42 (by omega), stJ_ne (by omega)]; exact a4 j hj
      · exact d4 j hj
