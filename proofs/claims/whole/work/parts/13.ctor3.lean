theorem zc_outer (c : ClassId) (N h0 : Nat) : ∀ i : Nat, Jvm.Free.Multi.outerC c N h0 i = arrV c N (fun j => va_rf (if j < i then some (h0 + 1 + j) else none))
  | 0 => by
    show ({ cls := c, slots := Array.replicate N .null, vm := .none } : Cell) = _
    rw [arrV_new]
    refine congrArg (arrV c N) (funext fun j => ?_)
    simp [va_rf]
  | i + 1 => by
    show (Jvm.Free.Multi.outerC c N h0 i).setSlot i (.ref (h0 + 1 + i)) = _
    rw [zc_outer c N h0 i, arrV_store]
    refine congrArg (arrV c N) (funext fun j => ?_)
    by_cases e : j = i
    · subst e
      simp [updV, va_rf]
    · by_cases h : j < i
      · simp [updV, e, h, Nat.lt_succ_of_lt h]
      · simp [updV, e, h, show ¬ j < i + 1 by omega]
theorem zc_mna {E : ZCx} {cc : ByteArray} {nL : Nat} {own : String} {d mc ms a : Nat} {Φ : List ZShp → ZMem → Prop} {S : List ZShp} {nc ns pc : Nat} {lv : List (Nat × Value)} {st : List Value} {μ : ZMem} (hE : zcOk E cc nL own d mc ms a) {i N K : Nat} {n k : Int32} (hd : decode cc pc = .ok (.multianewarray i 2, 4)) (hcl : Cond.classLink own i "[[J" ∈ zz_tbl) (hw : Cond.arrayClass .long ∈ zz_tbl) (hn : ¬ n < 0) (hk : ¬ k < 0) (hN : n.toNatClampNeg = N) (hM : k.toNatClampNeg = K) (hb1 : N * 4 ≤ 536870912) (hb2 : K * 8 ≤ 536870912) (hμ : ∀ r j, S.length < r → μ.2 r j = 0) (hnc : nc + 1 = S.length) (h1 : nc + (1 + N) ≤ mc) (h2 : ns + (N + N * K) ≤ ms) (kk : zC E mc ms a Φ (S ++ [(3, 4, zz_rw1 (S.length + 1) N)] ++ List.replicate N (2, K, [])) (nc + 1 + N) (ns + N + N * K) (pc + 4) lv (.ref S.length :: st) μ) : zC E mc ms a Φ S nc ns pc lv (.int k :: .int n :: st) μ := by
  intro H locs ls hP h0 hS hl
  refine zc_W (fun T0 hT0 X0 => ?_)
  have hz := zc_size hT0 X0 hP hnc hS
  clear X0 hT0 T0
  have hts := hE.2.2.2.2.1
  have hR := hE.2.2.2.2.2.2.2.1
  have hK := hE.2.2.2.2.2.2.2.2.2.1
  have hbad := hE.2.2.2.2.2.2.2.2.2.2.1
  subst hN
  subst hM
  intro T hT Xs
  obtain ⟨vm₁, cA, comp, -, fA, fC, -, -, X', step⟩ := Xs.multianewarray2F hE.1 hE.2.2.2.1 (ty := .long) (hts _ hcl) (show (Cond.arrayOver (.array .long)).before E.args E.s = true from hbad.2.2.2) (hts _ hw) (g := F0 E.m pc ls ((Value.int k :: Value.int n :: st).map (zz_tr (zc_ad a E.s.heap.size)))) rfl (by rw [hE.2.1]; exact hd) rfl hn hk hb1 hb2 (by show k.toNatClampNeg ≤ 536870912; omega) rfl rfl (by rw [hR]; exact h1) (by rw [hR]; exact h2)
  have ecA : cA = E.cy 4 := zc_sameI hK (k := 4) rfl (fun C q => by cases q) fA
  have eco : comp = E.cy 1 := zc_sameI hK (k := 1) (ty := .long) rfl (fun C q => by cases q) fC
  subst ecA
  subst eco
  generalize hF : Jvm.Free.Multi.fill (T.setVm vm₁) (E.cy 4) (E.cy 1) n.toNatClampNeg k.toNatClampNeg (defaultValue .long) n.toNatClampNeg = F at X' step
  have hTh : (T.setVm vm₁).heap = H := hT
  obtain ⟨f1, f2, -, -⟩ := Jvm.Free.Multi.fill_facts (T.setVm vm₁) (E.cy 4) (E.cy 1) n.toNatClampNeg k.toNatClampNeg (defaultValue .long) n.toNatClampNeg
  rw [hF, hTh] at f1 f2
  have hold : ∀ x : Nat, x < H.size → F.heap[x]? = H[x]? := fun x hx => by
    have := Jvm.Free.Multi.fill_old (T.setVm vm₁) (E.cy 4) (E.cy 1) n.toNatClampNeg k.toNatClampNeg (defaultValue .long) (a := x) (by rw [hTh]; exact hx) n.toNatClampNeg
    rw [hF, hTh] at this
    exact this
  have hrow : ∀ j : Nat, j < n.toNatClampNeg → F.heap[H.size + 1 + j]? = some (arrV (E.cy 1) k.toNatClampNeg (fun _ => .long 0)) := fun j hj => by
    have := Jvm.Free.Multi.fill_inner (T.setVm vm₁) (E.cy 4) (E.cy 1) n.toNatClampNeg k.toNatClampNeg (defaultValue .long) n.toNatClampNeg j hj
    rw [hF, hTh] at this
    rw [this, ← arrV_new]
    rfl
  rw [zc_outer] at f2
  have e : zc_ad a E.s.heap.size S.length = H.size := by
    have := zc_ad_at (a := a) (sz := E.s.heap.size) (n := S.length) h0
    omega
  have eN : ∀ j, zc_ad a E.s.heap.size (S.length + 1 + j) = H.size + 1 + j := fun j => by
    have := zc_ad_at (a := a) (sz := E.s.heap.size) (n := S.length + 1 + j) (by omega)
    omega
  have hlen : (S ++ [((3, 4, zz_rw1 (S.length + 1) n.toNatClampNeg) : ZShp)]).length = S.length + 1 := by rw [List.length_append]; rfl
  have g : va_P E.D vwCl (zc_wld (S ++ [(3, 4, zz_rw1 (S.length + 1) n.toNatClampNeg)] ++ List.replicate n.toNatClampNeg (2, k.toNatClampNeg, [])) E.cy (zc_ad a E.s.heap.size) μ) F.heap := by
    apply zc_P_of
    intro q sh hq
    by_cases hl1 : q < S.length + 1
    · rw [List.getElem?_append_left (by rw [hlen]; exact hl1)] at hq
      by_cases hl2 : q < S.length
      · rw [List.getElem?_append_left hl2] at hq
        have h3 := hP q _ (zc_wld_get hq)
        exact h3.kept (hold _ h3.lt)
      · rw [List.getElem?_append_right (by omega), show q - S.length = 0 by omega] at hq
        cases hq
        rw [show q = S.length by omega, e]
        show F.heap[H.size]? = some (vp_cell (E.cy 4) ((zz_rw1 (S.length + 1) n.toNatClampNeg).length, .inr (.inr (.inr (.inr (fun i => ((zz_rw1 (S.length + 1) n.toNatClampNeg).getD i none).map (zc_ad a E.s.heap.size)))))))
        rw [f2, vp_cell_q]
        have hlz : (zz_rw1 (S.length + 1) n.toNatClampNeg).length = n.toNatClampNeg := by simp [zz_rw1]
        rw [hlz]
        congr 2
        funext j
        congr 1
        by_cases hj : j < n.toNatClampNeg
        · rw [if_pos hj, List.getD_eq_getElem?_getD, zz_rw1_at hj]
          simp only [Option.getD_some, Option.map_some, eN]
        · rw [if_neg hj, List.getD_eq_getElem?_getD, List.getElem?_eq_none (by rw [hlz]; omega)]
          rfl
    · rw [List.getElem?_append_right (by rw [hlen]; omega), hlen, List.getElem?_replicate] at hq
      split at hq
      · rename_i hlt
        cases hq
        have eq2 : q = S.length + 1 + (q - (S.length + 1)) := by omega
        have h5 := hrow (q - (S.length + 1)) hlt
        rw [← eN, ← eq2] at h5
        show F.heap[zc_ad a E.s.heap.size q]? = some (vp_cell (E.cy 1) (k.toNatClampNeg, .inr (.inl (μ.2 q))))
        rw [h5, vp_cell_l]
        congr 2
        funext j
        rw [hμ q j (by omega)]
      · cases hq
  have k2 := kk F.heap locs ls g (by rw [List.length_append, List.length_append]; omega) ⟨by rw [f1]; have := hS.1; omega, fun x h1 h2 => (hold x (Nat.lt_of_lt_of_le h1 hS.1)).trans (hS.2.1 x h1 h2), hS.2.2⟩ hl F rfl X'
  obtain ⟨t, a1, b1⟩ := k2
  refine ⟨t, step t ?_, b1⟩
  have e9 : T.heap.size = H.size := by rw [hT]
  rw [e9]
  simp only [List.map_cons, zz_tr, e] at a1
  exact a1
