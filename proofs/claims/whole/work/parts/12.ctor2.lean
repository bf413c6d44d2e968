/-! constructors, on: fields, arrays, calls -/
/-- one cell changes -/
theorem zc_wld_set {S S' : List ZShp} {cy : Nat → ClassId} {ad : Nat → Nat} {μ μ' : ZMem} {k : Nat} {e : va_E} {sh : ZShp} (hS : S.set k sh = S') (hk : k < S.length) (he : zc_cel cy ad μ' k sh = e) (h1 : ∀ j, j ≠ k → μ'.1 j = μ.1 j) (h2 : ∀ j, j ≠ k → μ'.2 j = μ.2 j) : (zc_wld S cy ad μ).set k (ad k, e) = zc_wld S' cy ad μ' := by
  subst hS
  apply List.ext_getElem?
  intro j
  by_cases hj : j = k
  · subst hj
    have hl : j < (zc_wld S cy ad μ).length := by simpa [zc_wld] using hk
    rw [List.getElem?_set_self hl, zc_wld_get (sh := sh) (List.getElem?_set_self hk), he]
  · rw [List.getElem?_set_ne (fun q => hj q.symm)]
    simp only [zc_wld, List.getElem?_mapIdx, List.getElem?_set_ne (fun q => hj q.symm)]
    cases hs : S[j]? with
    | none => rfl
    | some sj =>
      obtain ⟨tg, n, rs⟩ := sj
      simp only [Option.map_some]
      congr 2
      match tg with
      | 0 => simp only [zc_cel, h1 j hj]
      | 1 => simp only [zc_cel, h1 j hj]
      | 2 => simp only [zc_cel, h2 j hj]
      | _ + 3 => rfl
theorem zc_fields_set {ad : Nat → Nat} {f : Nat → Int32} {p : List Bool} {rs : List (Option Nat)} {j t : Nat} (hj : j < rs.length) : (rs.set j (some t)).mapIdx (zc_fv ad f p) = (rs.mapIdx (zc_fv ad f p)).set j (.ref (ad t)) := by
  apply List.ext_getElem?
  intro i
  rw [List.getElem?_mapIdx]
  by_cases h : i = j
  · subst h
    rw [List.getElem?_set_self hj, List.getElem?_set_self (by simpa using hj)]; rfl
  · rw [List.getElem?_set_ne (fun q => h q.symm), List.getElem?_set_ne (fun q => h q.symm), List.getElem?_mapIdx]
theorem zc_fields_upd {ad : Nat → Nat} {f : Nat → Int32} {p : List Bool} {rs : List (Option Nat)} {j : Nat} {v : Int32} (hr : rs[j]? = some none) (hp : p.getD j false = false) : rs.mapIdx (zc_fv ad (upd f j v) p) = (rs.mapIdx (zc_fv ad f p)).set j (.int v) := by
  have hj : j < rs.length := (List.getElem?_eq_some_iff.mp hr).1
  apply List.ext_getElem?
  intro i
  rw [List.getElem?_mapIdx]
  by_cases h : i = j
  · subst h
    rw [List.getElem?_set_self (by simpa using hj), hr]
    show some (if p.getD i false = true then Value.null else .int (upd f i v i)) = _
    rw [hp]; simp [upd]
  · rw [List.getElem?_set_ne (fun q => h q.symm), List.getElem?_mapIdx]
    cases rs[i]? with
    | none => rfl
    | some r => cases r with
      | none => simp [zc_fv, upd, h]
      | some t => rfl
theorem zc_getR {E : ZCx} {cc : ByteArray} {nL : Nat} {own : String} {d mc ms a : Nat} {Φ : List ZShp → ZMem → Prop} {S : List ZShp} {nc ns pc : Nat} {lv : List (Nat × Value)} {st : List Value} {μ : ZMem} (hE : zcOk E cc nL own d mc ms a) {i ci j b t : Nat} {ty : FieldType} {fin : Bool} {rs : List (Option Nat)} (hd : decode cc pc = .ok (.getfield i, 3)) (hF : zz_FF own i ci j ty fin) (hs : S[b]? = some (0, ci, rs)) (hr : rs[j]? = some (some t)) (k : zC E mc ms a Φ S nc ns (pc + 3) lv (.ref t :: st) μ) : zC E mc ms a Φ S nc ns pc lv (.ref b :: st) μ := by
  intro H locs ls hP h0 hS hl
  obtain ⟨C, T, N, ty0, hc, hj, hlk, hw, hC, -⟩ := hF
  have he := zc_wld_get (cy := E.cy) (ad := zc_ad a E.s.heap.size) (μ := μ) hs
  refine va_get hE.1 hE.2.1 hE.2.2.2.2.1 hw hE.2.2.2.1 hE.2.2.2.2.2.2.2.2.2.1 hP b he hc j hj (ref := C) (hE.2.2.2.2.1 _ hlk) (fun x q => by rw [← q, hC]) (v := .ref (zc_ad a E.s.heap.size t)) ?_ hd (k H locs ls hP h0 hS hl)
  rw [List.getElem?_mapIdx, hr]; rfl
theorem zc_putR {E : ZCx} {cc : ByteArray} {nL : Nat} {own : String} {d mc ms a : Nat} {Φ : List ZShp → ZMem → Prop} {S : List ZShp} {nc ns pc : Nat} {lv : List (Nat × Value)} {st : List Value} {μ : ZMem} (hE : zcOk E cc nL own d mc ms a) {i ci j b t : Nat} {ty : FieldType} {rs : List (Option Nat)} {S' : List ZShp} (hd : decode cc pc = .ok (.putfield i, 3)) (hF : zz_FF own i ci j ty true) (hs : S[b]? = some (0, ci, rs)) (hj' : j < rs.length) (hown : ∃ N, vwCl[ci]? = some (own, (vwCl.getD ci ("", (fun _ => ("", "", "", false)), 0)).2.1, N)) (hn : ∀ q, narrow ty (.ref q) = .ref q) (hf : ∀ q, fits ty (.ref q) = true) (hS' : S.set b (0, ci, rs.set j (some t)) = S') (k : zC E mc ms a Φ S' nc ns (pc + 3) lv st μ) : zC E mc ms a Φ S nc ns pc lv (.ref t :: .ref b :: st) μ := by
  intro H locs ls hP h0 hS hl
  obtain ⟨C, T, N, ty0, hc, hj, hlk, hw, hC, hty, hnm, hty0, hfin⟩ := hF
  obtain ⟨N2, hN2⟩ := hown
  have hCo : C = own := by rw [hc] at hN2; cases hN2; rfl
  have he := zc_wld_get (cy := E.cy) (ad := zc_ad a E.s.heap.size) (μ := μ) hs
  have hb : b < S.length := (List.getElem?_eq_some_iff.mp hs).1
  refine va_putF hE.1 hE.2.1 hE.2.2.2.2.1 hw ty0 hty hnm hE.2.2.2.1 hE.2.2.2.2.2.2.2.2.2.1 hP (zc_D hE.2.2.2.2.2.2.2.2.1 S E.cy μ) hS b he hc j hj (ref := C) (hE.2.2.2.2.1 _ hlk) (fun x q => by rw [← q, hC]) hfin hE.2.2.2.2.2.2.2.2.2.2.2 (hC.trans hCo) (ty := ty) (v := .ref (zc_ad a E.s.heap.size t)) (by rw [hty j hj, hty0]) (hn _) (hf _) (by simpa using hj') hd (fun H1 locs1 hP1 _ hS1 => ?_)
  refine k H1 locs1 ls ?_ (by rw [← hS', List.length_set]; exact h0) hS1 hl
  rw [zc_wld_set (μ := μ) (μ' := μ) hS' hb (by show Sum.inr (ci, (rs.set j (some t)).mapIdx _) = _; rw [zc_fields_set hj']) (fun _ _ => rfl) (fun _ _ => rfl)] at hP1
  exact hP1

theorem zc_put {E : ZCx} {cc : ByteArray} {nL : Nat} {own : String} {d mc ms a : Nat} {Φ : List ZShp → ZMem → Prop} {S : List ZShp} {nc ns pc : Nat} {lv : List (Nat × Value)} {st : List Value} {μ : ZMem} (hE : zcOk E cc nL own d mc ms a) {i ci j b : Nat} {ty : FieldType} {rs : List (Option Nat)} {v : Int32} (hd : decode cc pc = .ok (.putfield i, 3)) (hF : zz_FF own i ci j ty false) (hs : S[b]? = some (0, ci, rs)) (hr : rs[j]? = some none) (hp : (zc_pat ci).getD j false = false) (hn : narrow ty (.int v) = .int v) (hfit : fits ty (.int v) = true) (k : zC E mc ms a Φ S nc ns (pc + 3) lv st (zz_upI μ b j v)) : zC E mc ms a Φ S nc ns pc lv (.int v :: .ref b :: st) μ := by
  intro H locs ls hP h0 hS hl
  obtain ⟨C, T, N, ty0, hc, hj, hlk, hw, hC, hty, hnm, hty0, hfin⟩ := hF
  have he := zc_wld_get (cy := E.cy) (ad := zc_ad a E.s.heap.size) (μ := μ) hs
  have hb : b < S.length := (List.getElem?_eq_some_iff.mp hs).1
  have hj' : j < rs.length := (List.getElem?_eq_some_iff.mp hr).1
  refine va_put hE.1 hE.2.1 hE.2.2.2.2.1 hw ty0 hty hnm hE.2.2.2.1 hE.2.2.2.2.2.2.2.2.2.1 hP (zc_D hE.2.2.2.2.2.2.2.2.1 S E.cy μ) hS b he hc j hj (ref := C) (hE.2.2.2.2.1 _ hlk) (fun x q => by rw [← q, hC]) hfin (ty := ty) (v := .int v) (by rw [hty j hj, hty0]) hn hfit (by simpa using hj') hd (fun H1 locs1 hP1 _ hS1 => ?_)
  refine k H1 locs1 ls ?_ h0 hS1 hl
  rw [zc_wld_set (S' := S) (μ := μ) (μ' := zz_upI μ b j v) (sh := (0, ci, rs)) (by rw [← (List.getElem?_eq_some_iff.mp hs).2]; exact List.set_getElem_self _) hb (by show Sum.inr (ci, rs.mapIdx (zc_fv _ ((zz_upI μ b j v).1 b) _)) = _; rw [show (zz_upI μ b j v).1 b = upd (μ.1 b) j v by simp [zz_upI], zc_fields_upd hr hp]) (fun q h => by simp [zz_upI, h]) (fun _ _ => rfl)] at hP1
  exact hP1
theorem zc_putF {E : ZCx} {cc : ByteArray} {nL : Nat} {own : String} {d mc ms a : Nat} {Φ : List ZShp → ZMem → Prop} {S : List ZShp} {nc ns pc : Nat} {lv : List (Nat × Value)} {st : List Value} {μ : ZMem} (hE : zcOk E cc nL own d mc ms a) {i ci j b : Nat} {ty : FieldType} {rs : List (Option Nat)} {v : Int32} (hd : decode cc pc = .ok (.putfield i, 3)) (hF : zz_FF own i ci j ty true) (hown : ∃ N, vwCl[ci]? = some (own, (vwCl.getD ci ("", (fun _ => ("", "", "", false)), 0)).2.1, N)) (hs : S[b]? = some (0, ci, rs)) (hr : rs[j]? = some none) (hp : (zc_pat ci).getD j false = false) (hn : narrow ty (.int v) = .int v) (hfit : fits ty (.int v) = true) (k : zC E mc ms a Φ S nc ns (pc + 3) lv st (zz_upI μ b j v)) : zC E mc ms a Φ S nc ns pc lv (.int v :: .ref b :: st) μ := by
  intro H locs ls hP h0 hS hl
  obtain ⟨C, T, N, ty0, hc, hj, hlk, hw, hC, hty, hnm, hty0, hfin⟩ := hF
  obtain ⟨N2, hN2⟩ := hown
  have hCo : C = own := by rw [hc] at hN2; cases hN2; rfl
  have he := zc_wld_get (cy := E.cy) (ad := zc_ad a E.s.heap.size) (μ := μ) hs
  have hb : b < S.length := (List.getElem?_eq_some_iff.mp hs).1
  have hj' : j < rs.length := (List.getElem?_eq_some_iff.mp hr).1
  refine va_putF hE.1 hE.2.1 hE.2.2.2.2.1 hw ty0 hty hnm hE.2.2.2.1 hE.2.2.2.2.2.2.2.2.2.1 hP (zc_D hE.2.2.2.2.2.2.2.2.1 S E.cy μ) hS b he hc j hj (ref := C) (hE.2.2.2.2.1 _ hlk) (fun x q => by rw [← q, hC]) hfin hE.2.2.2.2.2.2.2.2.2.2.2 (hC.trans hCo) (ty := ty) (v := .int v) (by rw [hty j hj, hty0]) hn hfit (by simpa using hj') hd (fun H1 locs1 hP1 _ hS1 => ?_)
  refine k H1 locs1 ls ?_ h0 hS1 hl
  rw [zc_wld_set (S' := S) (μ := μ) (μ' := zz_upI μ b j v) (sh := (0, ci, rs)) (by rw [← (List.getElem?_eq_some_iff.mp hs).2]; exact List.set_getElem_self _) hb (by show Sum.inr (ci, rs.mapIdx (zc_fv _ ((zz_upI μ b j v).1 b) _)) = _; rw [show (zz_upI μ b j v).1 b = upd (μ.1 b) j v by simp [zz_upI], zc_fields_upd hr hp]) (fun q h => by simp [zz_upI, h]) (fun _ _ => rfl)] at hP1
  exact hP1
theorem zc_iast {E : ZCx} {cc : ByteArray} {nL : Nat} {own : String} {d mc ms a : Nat} {Φ : List ZShp → ZMem → Prop} {S : List ZShp} {nc ns pc : Nat} {lv : List (Nat × Value)} {st : List Value} {μ : ZMem} (hE : zcOk E cc nL own d mc ms a) {b n : Nat} {i v : Int32} {rs : List (Option Nat)} (hd : decode cc pc = .ok (.iastore, 1)) (hs : S[b]? = some (1, n, rs)) (hin : vp_in i n) (k : zC E mc ms a Φ S nc ns (pc + 1) lv st (zz_upI μ b i.toNatClampNeg v)) : zC E mc ms a Φ S nc ns pc lv (.int v :: .int i :: .ref b :: st) μ := by
  intro H locs ls hP h0 hS hl
  have hb : b < S.length := (List.getElem?_eq_some_iff.mp hs).1
  refine va_iast hE.1 hE.2.1 hE.2.2.2.2.2.2.2.2.2.1 hP (zc_D hE.2.2.2.2.2.2.2.2.1 S E.cy μ) hS b 0 (zc_wld_get hs) rfl hin hd (fun H1 locs1 hP1 _ hS1 => ?_)
  refine k H1 locs1 ls ?_ h0 hS1 hl
  rw [zc_wld_set (S' := S) (μ := μ) (μ' := zz_upI μ b i.toNatClampNeg v) (sh := (1, n, rs)) (by rw [← (List.getElem?_eq_some_iff.mp hs).2]; exact List.set_getElem_self _) hb (by simp [zc_cel, zz_upI]) (fun q h => by simp [zz_upI, h]) (fun _ _ => rfl)] at hP1
  exact hP1
theorem zc_last {E : ZCx} {cc : ByteArray} {nL : Nat} {own : String} {d mc ms a : Nat} {Φ : List ZShp → ZMem → Prop} {S : List ZShp} {nc ns pc : Nat} {lv : List (Nat × Value)} {st : List Value} {μ : ZMem} (hE : zcOk E cc nL own d mc ms a) {b n : Nat} {i : Int32} {v : Int64} {rs : List (Option Nat)} (hd : decode cc pc = .ok (.lastore, 1)) (hs : S[b]? = some (2, n, rs)) (hin : vp_in i n) (k : zC E mc ms a Φ S nc ns (pc + 1) lv st (zz_upJ μ b i.toNatClampNeg v)) : zC E mc ms a Φ S nc ns pc lv (.long v :: .int i :: .ref b :: st) μ := by
  intro H locs ls hP h0 hS hl
  have hb : b < S.length := (List.getElem?_eq_some_iff.mp hs).1
  refine va_last hE.1 hE.2.1 hE.2.2.2.2.2.2.2.2.2.1 hP (zc_D hE.2.2.2.2.2.2.2.2.1 S E.cy μ) hS b 1 (zc_wld_get hs) rfl hin hd (fun H1 locs1 hP1 _ hS1 => ?_)
  refine k H1 locs1 ls ?_ h0 hS1 hl
  rw [zc_wld_set (S' := S) (μ := μ) (μ' := zz_upJ μ b i.toNatClampNeg v) (sh := (2, n, rs)) (by rw [← (List.getElem?_eq_some_iff.mp hs).2]; exact List.set_getElem_self _) hb (by simp [zc_cel, zz_upJ]) (fun _ _ => rfl) (fun q h => by simp [zz_upJ, h])] at hP1
  exact hP1
theorem zc_aast {E : ZCx} {cc : ByteArray} {nL : Nat} {own : String} {d mc ms a : Nat} {Φ : List ZShp → ZMem → Prop} {S : List ZShp} {nc ns pc : Nat} {lv : List (Nat × Value)} {st : List Value} {μ : ZMem} (hE : zcOk E cc nL own d mc ms a) {b w t ci : Nat} {C : String} {T : u_T} {N : Nat} {i : Int32} {rs rt : List (Option Nat)} {S' : List ZShp} (hd : decode cc pc = .ok (.aastore, 1)) (hs : S[b]? = some (3, w, rs)) (ht : S[t]? = some (0, ci, rt)) (hc : vwCl[ci]? = some (C, T, N)) (hw : (zz_tys E.cy)[w]? = some (E.cy w, .object C)) (hin : vp_in i rs.length) (hS' : S.set b (3, w, rs.set i.toNatClampNeg (some t)) = S') (k : zC E mc ms a Φ S' nc ns (pc + 1) lv st μ) : zC E mc ms a Φ S nc ns pc lv (.ref t :: .int i :: .ref b :: st) μ := by
  intro H locs ls hP h0 hS hl
  have hb : b < S.length := (List.getElem?_eq_some_iff.mp hs).1
  refine va_astq (r := (C, T, N)) hE.1 hE.2.1 hE.2.2.2.2.2.2.2.2.2.1 hP (zc_D hE.2.2.2.2.2.2.2.2.1 S E.cy μ) hS b w t ci (zc_wld_get hs) hw (zc_wld_get ht) hc hin hd (fun H1 locs1 hP1 _ hS1 => ?_)
  refine k H1 locs1 ls ?_ (by rw [← hS', List.length_set]; exact h0) hS1 hl
  have hlt := zz_in_lt hin
  rw [zc_wld_set (S' := S') (μ := μ) (μ' := μ) (sh := (3, w, rs.set i.toNatClampNeg (some t))) hS' hb ?_ (fun _ _ => rfl) (fun _ _ => rfl)] at hP1
  · exact hP1
  · show Sum.inl (E.cy w, (rs.set i.toNatClampNeg (some t)).length, _) = _
    rw [List.length_set]
    congr 7
    funext j
    by_cases h : j = i.toNatClampNeg
    · subst h
      rw [List.getD_eq_getElem?_getD, List.getElem?_set_self hlt]
      simp [va_up]
    · rw [List.getD_eq_getElem?_getD, List.getElem?_set_ne (fun q => h q.symm), ← List.getD_eq_getElem?_getD]
      simp [va_up, h]
theorem zc_obj {E : ZCx} {cc : ByteArray} {nL : Nat} {own : String} {d mc ms a : Nat} {Φ : List ZShp → ZMem → Prop} {S : List ZShp} {nc ns pc : Nat} {lv : List (Nat × Value)} {st : List Value} {μ : ZMem} (hE : zcOk E cc nL own d mc ms a) {i b : Nat} (hd : decode cc pc = .ok (.invokespecial i, 3)) (hl0 : Cond.methodLink own i objectInit ∈ zz_tbl) (hi0 : Cond.instanceMethod objectInit ∈ zz_tbl) (hc0 : Cond.code objectInit ⟨#[0xb1]⟩ 1 none ∈ zz_tbl) (hst : (st.map fun v => v.category).sum ≤ 8) (k : zC E mc ms a Φ S nc ns (pc + 3) lv st μ) : zC E mc ms a Φ S nc ns pc lv (.ref b :: st) μ := by
  intro H locs ls hP h0 hS hl
  have hts := hE.2.2.2.2.1
  have hR := hE.2.2.2.2.2.2.2.1
  refine W.objInit hE.1 hE.2.1 hE.2.2.2.1 (hts _ hl0) (hts _ hi0) (hts _ hc0) rfl hl.1 rfl hd (by rw [hR]; show 1 ≤ d + 1; omega) (by rw [hR, zz_tr_sum]; show 2 * 0 + _ + 12 ≤ 40 + 32 * d; omega) (k H locs ls hP h0 hS hl)
/-- what a constructor's contract says: from the blank object to the shapes S1 with the memory m1 -/
def zmem0 : ZMem := (fun _ _ => 0, fun _ _ => 0)
def zK (y : MethodName) (bytes : ByteArray) (maxL d : Nat) (As : List Value) (ci N : Nat) (S1 : List ZShp) (m1 : ZMem) (mc ms : Nat) : Prop := ∀ (l : Launch) (D : va_G) (cy : Nat → ClassId) (a sz : Nat), a < sz → Met l y (zz_ws y bytes maxL none) ({ frames := d + 1, cells := mc, slots := ms, locals := 40 + 32 * d }) (va_Pc (.ref a :: As) (fun U => U.heap.size = sz ∧ va_P D vwCl (zc_wld [(0, ci, List.replicate N none)] cy (zc_ad a sz) zmem0) U.heap ∧ va_K D vwCl (zz_tys cy) U ∧ zc_bad U)) (zc_Q D cy a sz (fun S μ => S = S1 ∧ μ = m1)) mc ms (zc_A a sz)
theorem zK_intro {y : MethodName} {bytes : ByteArray} {maxL d ci N mc ms : Nat} {As : List Value} {S1 : List ZShp} {m1 : ZMem} {own : String} (ho : y.cls = own) (hy : plainName y.cls = true) (hn : y.name = "<init>") (hA : ∀ (ad : Nat → Nat) v, v ∈ As → zz_tr ad v = v) (hlen : (lg_sl (.ref 0 :: As)).length ≤ maxL) (hb : ∀ (E : ZCx) (a : Nat), zcOk E bytes maxL own d mc ms a → zC E mc ms a (fun S μ => S = S1 ∧ μ = m1) [(0, ci, List.replicate N none)] 0 0 0 (lv_args 0 (.ref 0 :: As)) [] zmem0) : zK y bytes maxL d As ci N S1 m1 mc ms := by
  intro l D cy a sz hasz
  refine Met.ofW (cc := bytes) (maxL := maxL) (ret := none) hy rfl ?_
  intro p e s m args below meth c s₁ B hml hv
  obtain ⟨rfl, hsz, hP, hK, hbad⟩ := hv
  subst hsz
  subst ho
  have hts0 := atoms_spec (ws := zz_ws y bytes maxL none) B.pre
  have hts : ∀ w ∈ zz_tbl, w.before (Value.ref a :: As).toArray s = true := fun w hw => hts0 w (List.mem_cons_of_mem _ hw)
  have hown : s.vm.findClass y.cls = some m.cls := findClass_of_methodNamed B.named
  have hname : meth.name = "<init>" := by rw [(name_of_methodNamed B.named B.method).1]; exact hn
  have hE : zcOk (p, l, e, { frames := d + 1, cells := mc, slots := ms, locals := 40 + 32 * d }, s, m, (Value.ref a :: As).toArray, below, meth, c, D, cy, (fun _ => 0), []) bytes maxL y.cls d mc ms a :=
    ⟨B.exec, B.bytes, hml, hown, hts, B.notSynchronized, B.returns, rfl, hasz, hK, hbad, hname⟩
  have hlen2 : (lg_sl (Value.ref a :: As)).length ≤ maxL := hlen
  have hl := lv_entry (Value.ref a :: As) (n := maxL) hlen2
  rw [lg_entry_eq]
  refine hb _ a hE s.heap [] _ hP (Nat.succ_pos 0) va_S.rf ?_
  show lv_has _ c.maxLocals _
  rw [hml, zz_args]
  have e : (Value.ref 0 :: As).map (zz_tr (zc_ad a s.heap.size)) = Value.ref a :: As := by
    show Value.ref (zc_ad a s.heap.size 0) :: As.map _ = _
    rw [show As.map (zz_tr (zc_ad a s.heap.size)) = As from by
      conv => rhs; rw [← List.map_id As]
      exact List.map_congr_left (fun v hv => hA _ v hv)]
    rfl
  show lv_has _ maxL (lv_args 0 ((Value.ref 0 :: As).map (zz_tr (zc_ad a s.heap.size))))
  rw [e]
  exact hl
/-- shapes of a part, moved on by n -/
def zc_sh (n : Nat) (sh : ZShp) : ZShp := (sh.1, sh.2.1, sh.2.2.map (fun r => r.map (fun t => n + t)))
def zc_mix (n : Nat) (μ m1 : ZMem) : ZMem := (fun k => if k < n then μ.1 k else m1.1 (k - n), fun k => if k < n then μ.2 k else m1.2 (k - n))
theorem zc_cel_sh {cy : Nat → ClassId} {ad ad' : Nat → Nat} {n i : Nat} {μ m1 : ZMem} {sh : ZShp} (had : ∀ j, ad' j = ad (n + j)) : zc_cel cy ad (zc_mix n μ m1) (n + i) (zc_sh n sh) = zc_cel cy ad' m1 i sh := by
  obtain ⟨tg, x, rs⟩ := sh
  have e1 : (zc_mix n μ m1).1 (n + i) = m1.1 i := by
    simp only [zc_mix]; rw [if_neg (by omega), Nat.add_sub_cancel_left]
  have e2 : (zc_mix n μ m1).2 (n + i) = m1.2 i := by
    simp only [zc_mix]; rw [if_neg (by omega), Nat.add_sub_cancel_left]
  match tg with
  | 0 =>
    simp only [zc_cel, zc_sh, e1]
    congr 2
    apply List.ext_getElem?
    intro j
    rw [List.getElem?_mapIdx, List.getElem?_mapIdx, List.getElem?_map]
    cases rs[j]? with
    | none => rfl
    | some r => cases r with
      | none => rfl
      | some t => simp [zc_fv, had]
  | 1 => simp only [zc_cel, zc_sh, e1]
  | 2 => simp only [zc_cel, zc_sh, e2]
  | _ + 3 =>
    simp only [zc_cel, zc_sh, List.length_map]
    congr 7
    funext j
    rw [List.getD_eq_getElem?_getD, List.getD_eq_getElem?_getD, List.getElem?_map]
    cases rs[j]? with
    | none => rfl
    | some r => cases r with
      | none => rfl
      | some t => simp [had]
theorem zc_P_join {D : va_G} {cy : Nat → ClassId} {S0 S1 : List ZShp} {ad ad' : Nat → Nat} {μ m1 : ZMem} {H H1 : Heap} (hP : ∀ k sh, S0[k]? = some sh → va_at D vwCl (ad k, zc_cel cy ad μ k sh) H) (hk : ∀ k, k < S0.length → H1[ad k]? = H[ad k]?) (hP1 : va_P D vwCl (zc_wld S1 cy ad' m1) H1) (had : ∀ j, ad' j = ad (S0.length + j)) : va_P D vwCl (zc_wld (S0 ++ S1.map (zc_sh S0.length)) cy ad (zc_mix S0.length μ m1)) H1 := by
  apply zc_P_of
  intro k sh hk1
  by_cases hl : k < S0.length
  · rw [List.getElem?_append_left hl] at hk1
    have h1 := (hP k sh hk1).kept (hk k hl)
    have e : zc_cel cy ad (zc_mix S0.length μ m1) k sh = zc_cel cy ad μ k sh := by
      obtain ⟨tg, x, rs⟩ := sh
      match tg with
      | 0 => simp only [zc_cel, zc_mix, if_pos hl]
      | 1 => simp only [zc_cel, zc_mix, if_pos hl]
      | 2 => simp only [zc_cel, zc_mix, if_pos hl]
      | _ + 3 => rfl
    rw [e]; exact h1
  · rw [List.getElem?_append_right (by omega), List.getElem?_map] at hk1
    cases hs : S1[k - S0.length]? with
    | none => rw [hs] at hk1; cases hk1
    | some sh1 =>
      rw [hs] at hk1
      cases hk1
      have h1 := hP1 _ _ (zc_wld_get hs)
      have e : S0.length + (k - S0.length) = k := by omega
      have h2 := zc_cel_sh (cy := cy) (ad := ad) (ad' := ad') (n := S0.length) (i := k - S0.length) (μ := μ) (m1 := m1) (sh := sh1) had
      rw [e] at h2
      rw [h2]
      have h3 : ad' (k - S0.length) = ad k := by rw [had, e]
      rw [h3] at h1
      exact h1
def zc_CI (own : String) (index : Nat) (y : MethodName) (bytes : ByteArray) (maxL n : Nat) : Prop := Cond.initialized y.cls ∈ zz_tbl ∧ Cond.code y bytes maxL none ∈ zz_tbl ∧ (y.cls ≠ "java/lang/invoke/MethodHandle" ∧ y.cls ≠ "java/lang/invoke/VarHandle" ∧ (parseMethodDescriptor y.desc).map (fun d => d.parameters.length) = some n) ∧ maxL ≤ 13 ∧ y.name = "<init>" ∧ Cond.instanceMethod y ∈ zz_tbl ∧ (Cond.methodLink own index y ∈ zz_tbl ∨ ∃ host, Cond.methodLinkNest own index y host ∈ zc_words)
theorem zc_init {E : ZCx} {cc : ByteArray} {nL : Nat} {own : String} {d mc ms a : Nat} {Φ : List ZShp → ZMem → Prop} {S : List ZShp} {nc ns pc : Nat} {lv : List (Nat × Value)} {st : List Value} {μ : ZMem} (hE : zcOk E cc nL own d mc ms a) {i n' ci N d' mc' ms' maxL n : Nat} {y : MethodName} {bytes : ByteArray} {As st0 : List Value} {S0 S1 S' : List ZShp} {m1 : ZMem} (hd : decode cc pc = .ok (.invokespecial i, 3)) (hM : zK y bytes maxL d' As ci N S1 m1 mc' ms') (hC : zc_CI own i y bytes maxL n') (hn : As.length = n') (hA : ∀ (ad : Nat → Nat) v, v ∈ As → zz_tr ad v = v) (hS0 : S = S0 ++ [(0, ci, List.replicate N none)]) (hn0 : S0.length = n) (hpos : 0 < n) (hμ : ∀ j, μ.1 n j = 0) (hnc : nc + 1 = S.length) (hst : (st.map fun v => v.category).sum ≤ 8) (hdd : d' + 1 ≤ d) (hS' : S0 ++ S1.map (zc_sh n) = S') (h1 : nc + mc' ≤ mc) (h2 : ns + ms' ≤ ms) (hst0 : As.reverse ++ .ref n :: st = st0) (k : zC E mc ms a Φ S' (nc + mc') (ns + ms') (pc + 3) lv st (zc_mix n μ m1)) : zC E mc ms a Φ S nc ns pc lv st0 μ := by
  intro H locs ls hP h0 hS hl
  refine zc_W (fun T0 hT0 X0 => ?_)
  have hz := zc_size hT0 X0 hP hnc hS
  clear X0 hT0 T0
  have hts := hE.2.2.2.2.1
  have hR := hE.2.2.2.2.2.2.2.1
  have hK := hE.2.2.2.2.2.2.2.2.2.1
  have hbad := hE.2.2.2.2.2.2.2.2.2.2.1
  subst hst0
  subst hS0
  subst hn0
  have hlen : (S0 ++ [((0, ci, List.replicate N none) : ZShp)]).length = S0.length + 1 := by rw [List.length_append]; rfl
  rw [hlen] at hz hnc
  have hsn : (S0 ++ [((0, ci, List.replicate N none) : ZShp)])[S0.length]? = some (0, ci, List.replicate N none) := by rw [List.getElem?_append_right (Nat.le_refl _), Nat.sub_self]; rfl
  have had0 := zc_ad_at (a := a) (sz := E.s.heap.size) (n := S0.length) hpos
  have hb := (hP _ _ (zc_wld_get hsn))
  have hblt : zc_ad a E.s.heap.size S0.length < H.size := hb.lt
  have had : ∀ j, zc_ad (zc_ad a E.s.heap.size S0.length) H.size j = zc_ad a E.s.heap.size (S0.length + j) := by
    intro j
    cases j with
    | zero => rfl
    | succ j =>
      have := zc_ad_at (a := a) (sz := E.s.heap.size) (n := S0.length + (j + 1)) (by omega)
      show H.size + j = _
      omega
  have hPl : va_P E.D vwCl (zc_wld [(0, ci, List.replicate N none)] E.cy (zc_ad (zc_ad a E.s.heap.size S0.length) H.size) zmem0) H := by
    apply zc_P_of
    intro k sh hk
    have hk0 : k < 1 := (List.getElem?_eq_some_iff.mp hk).1
    rw [show k = 0 by omega] at hk ⊢
    cases hk
    have e : zc_cel E.cy (zc_ad (zc_ad a E.s.heap.size S0.length) H.size) zmem0 0 (0, ci, List.replicate N none) = zc_cel E.cy (zc_ad a E.s.heap.size) μ S0.length (0, ci, List.replicate N none) := by
      simp only [zc_cel]
      congr 2
      apply List.ext_getElem?
      intro j
      rw [List.getElem?_mapIdx, List.getElem?_mapIdx, List.getElem?_replicate]
      split
      · simp only [Option.map_some, zc_fv, hμ, zmem0]
      · rfl
    rw [e]
    exact hb
  have hFB : FrameBlind (va_Pc (.ref (zc_ad a E.s.heap.size S0.length) :: As) (fun U => U.heap.size = H.size ∧ va_P E.D vwCl (zc_wld [(0, ci, List.replicate N none)] E.cy (zc_ad (zc_ad a E.s.heap.size S0.length) H.size) zmem0) U.heap ∧ va_K E.D vwCl (zz_tys E.cy) U ∧ zc_bad U)) := fun a2 U g mk q => ⟨q.1, q.2.1, q.2.2.1, va_K.moved (u := U) (U := U.calling g mk a2) (Vm.Alike.refl U.vm) q.2.2.2.1, zc_bad_same (u := U) (U := U.calling g mk a2) rfl q.2.2.2.2⟩
  have hPre : PreS E.s H (va_Pc (.ref (zc_ad a E.s.heap.size S0.length) :: As) (fun U => U.heap.size = H.size ∧ va_P E.D vwCl (zc_wld [(0, ci, List.replicate N none)] E.cy (zc_ad (zc_ad a E.s.heap.size S0.length) H.size) zmem0) U.heap ∧ va_K E.D vwCl (zz_tys E.cy) U ∧ zc_bad U)) (.ref (zc_ad a E.s.heap.size S0.length) :: As) := ⟨hFB, fun U hU hW => ⟨rfl, by rw [hU], by rw [hU]; exact hPl, va_K.moved hW.alike hK, zc_bad_warm hW hbad⟩⟩
  have hAs : As.map (zz_tr (zc_ad a E.s.heap.size)) = As := by
    conv => rhs; rw [← List.map_id As]
    exact List.map_congr_left (fun v hv => hA _ v hv)
  have hstk : (F0 E.m pc ls ((As.reverse ++ Value.ref S0.length :: st).map (zz_tr (zc_ad a E.s.heap.size)))).stack = As.reverse ++ .ref (zc_ad a E.s.heap.size S0.length) :: st.map (zz_tr (zc_ad a E.s.heap.size)) := by
    show (As.reverse ++ Value.ref S0.length :: st).map (zz_tr (zc_ad a E.s.heap.size)) = _
    rw [List.map_append, List.map_reverse, hAs]; rfl
  have hRR : ({ frames := d' + 1, cells := mc', slots := ms', locals := 40 + 32 * d' } : Room).frames + 1 ≤ E.R.frames ∧ 8 + (maxL + 11) + ({ frames := d' + 1, cells := mc', slots := ms', locals := 40 + 32 * d' } : Room).locals ≤ E.R.locals := by
    have := hC.2.2.2.1
    rw [hR]
    show d' + 1 + 1 ≤ d + 1 ∧ 8 + (maxL + 11) + (40 + 32 * d') ≤ 40 + 32 * d
    omega
  have hrun : va_Run E.p E.l E.e E.R E.s E.m E.args E.below E.meth E.c H locs nc ns mc' ms' (F0 E.m pc ls ((As.reverse ++ Value.ref S0.length :: st).map (zz_tr (zc_ad a E.s.heap.size)))) (st.map (zz_tr (zc_ad a E.s.heap.size))) (zc_Q E.D E.cy (zc_ad a E.s.heap.size S0.length) H.size (fun S μ => S = S1 ∧ μ = m1) (Value.ref (zc_ad a E.s.heap.size S0.length) :: As).toArray) (zc_A (zc_ad a E.s.heap.size S0.length) H.size) := by
    rcases hC.2.2.2.2.2.2 with hl1 | ⟨host, hl1⟩
    · exact va_runI (nL := E.c.maxLocals) ⟨hE.1, hE.2.1, rfl, hE.2.2.2.1, hts⟩ (hM E.l E.D E.cy _ _ hblt) ⟨callB_of (ws' := zz_tbl) n' hts (zz_goodIn hC.2.1) rfl rfl rfl (hts _ hC.1) (hts _ hl1) hC.2.2.1 hRR, hC.2.2.2.2.1, hts _ hC.2.2.2.2.2.1⟩ hPre rfl hn hl.1 hstk (lv_room (by rw [zz_tr_sum]; exact hst)) hd (by rw [hR]; exact ⟨h1, h2⟩)
    · exact va_runIN (nL := E.c.maxLocals) ⟨hE.1, hE.2.1, rfl, hE.2.2.2.1, hts⟩ (hM E.l E.D E.cy _ _ hblt) ⟨va_cnB (ws' := zz_tbl) n' hts (zz_goodIn hC.2.1) rfl rfl rfl (hbad.1 _ hl1) (hts _ hC.1) hC.2.2.1 hRR, hC.2.2.2.2.1, hts _ hC.2.2.2.2.2.1⟩ hPre rfl hn hl.1 hstk (lv_room (by rw [zz_tr_sum]; exact hst)) hd (by rw [hR]; exact ⟨h1, h2⟩)
  intro T hT X
  obtain ⟨v, st₀, t, T', L, h00, X', hL, e1, e2, ⟨⟨hv, S2, m2, ⟨rfl, rfl⟩, hP', hz'⟩, hzF, hkF⟩, stp⟩ := hrun T hT X
  have hv' : v = none := by injection hv
  subst hv'
  rw [h00] at hzF hkF
  have hfree : ∀ q, zc_A (zc_ad a E.s.heap.size S0.length) H.size q → zc_A a E.s.heap.size q := by
    rintro q (rfl | h)
    · right; omega
    · right; have := hS.1; omega
  have hkeep : ∀ k2, k2 < S0.length → t.heap[zc_ad a E.s.heap.size k2]? = H[zc_ad a E.s.heap.size k2]? := by
    intro k2 hk2
    have hne : zc_ad a E.s.heap.size k2 < zc_ad a E.s.heap.size S0.length ∨ k2 = 0 := by
      by_cases hk0 : k2 = 0
      · exact Or.inr hk0
      · have := zc_ad_at (a := a) (sz := E.s.heap.size) (n := k2) (by omega)
        left; omega
    have ha := hE.2.2.2.2.2.2.2.2.1
    have hlt2 : zc_ad a E.s.heap.size k2 < zc_ad a E.s.heap.size S0.length := by
      rcases hne with h | h
      · exact h
      · subst h
        show a < _
        omega
    refine hkF _ (by omega) ?_
    rintro (h | h) <;> omega
  have hPn := zc_P_join (S0 := S0) (S1 := S2) (ad := zc_ad a E.s.heap.size) (ad' := zc_ad (zc_ad a E.s.heap.size S0.length) H.size) (μ := μ) (m1 := m2) (fun k2 sh hk2 => hP k2 _ (zc_wld_get (by rw [List.getElem?_append_left (List.getElem?_eq_some_iff.mp hk2).1]; exact hk2))) hkeep hP' had
  rw [hS'] at hPn
  obtain ⟨t2, a1, b1⟩ := k T'.heap (locs ++ L) ls (by rw [e1]; exact hPn) (by rw [← hS', List.length_append]; omega) ⟨Nat.le_trans hS.1 (by rw [e1]; exact hzF), fun q h1 h2 => by rw [e1, hkF q (Nat.lt_of_lt_of_le h1 hS.1) (fun z => h2 (hfree q z))]; exact hS.2.1 q h1 h2, fun q hq => by
      rcases List.mem_append.mp hq with h | h
      · exact hS.2.2 q h
      · exact hfree _ (hL q h)⟩ hl T' rfl X'
  exact ⟨t2, stp t2 a1, b1⟩

