/-! constructors: a world that grows, each new cell at the heap's end -/
def zc_pats : List (List Bool) := [[true, true, false, false], [false, false, false], [true, true, false, true, false, true, false], [true, true, true, false], [false, true, true, false, false], [true, true], [true, true, true, true, false, false, false], [true, true, true, false, false, false, false], [true, false, false], [true, true, false, true, false, true, true, true, true, true, true, true, true], [true, true, false, false, false, true, true, true, false, false, false, true, true, true, true, true, false, true, true, false, true, true, false, false, false, false, true, true, true, true, false, false]]
def zc_pat (ci : Nat) : List Bool := zc_pats.getD ci []
def zc_fv (ad : Nat → Nat) (f : Nat → Int32) (p : List Bool) (j : Nat) : Option Nat → Value
  | some t => .ref (ad t)
  | none => if p.getD j false = true then .null else .int (f j)
def zc_cel (cy : Nat → ClassId) (ad : Nat → Nat) (μ : ZMem) (k : Nat) (sh : ZShp) : va_E :=
  match sh with
  | (0, ci, rs) => .inr (ci, rs.mapIdx (zc_fv ad (μ.1 k) (zc_pat ci)))
  | (1, n, _) => .inl (cy 0, n, .inl (μ.1 k))
  | (2, n, _) => .inl (cy 1, n, .inr (.inl (μ.2 k)))
  | (_ + 3, w, rs) => .inl (cy w, rs.length, .inr (.inr (.inr (.inr (fun i => (rs.getD i none).map ad)))))
def zc_wld (S : List ZShp) (cy : Nat → ClassId) (ad : Nat → Nat) (μ : ZMem) : va_W := S.mapIdx (fun k sh => (ad k, zc_cel cy ad μ k sh))
theorem zc_wld_get {S : List ZShp} {cy : Nat → ClassId} {ad : Nat → Nat} {μ : ZMem} {k : Nat} {sh : ZShp} (h : S[k]? = some sh) : (zc_wld S cy ad μ)[k]? = some (ad k, zc_cel cy ad μ k sh) := by
  simp only [zc_wld, List.getElem?_mapIdx, h, Option.map_some]
theorem zc_wld_inv {S : List ZShp} {cy : Nat → ClassId} {ad : Nat → Nat} {μ : ZMem} {k : Nat} {q : Nat × va_E} (h : (zc_wld S cy ad μ)[k]? = some q) : ∃ sh, S[k]? = some sh ∧ q = (ad k, zc_cel cy ad μ k sh) := by
  simp only [zc_wld, List.getElem?_mapIdx] at h
  cases hs : S[k]? with
  | none => rw [hs] at h; cases h
  | some sh => rw [hs] at h; cases h; exact ⟨sh, rfl, rfl⟩
theorem zc_P_of {D : va_G} {S : List ZShp} {cy : Nat → ClassId} {ad : Nat → Nat} {μ : ZMem} {H : Heap} (h : ∀ k sh, S[k]? = some sh → va_at D vwCl (ad k, zc_cel cy ad μ k sh) H) : va_P D vwCl (zc_wld S cy ad μ) H := by
  intro k q hq
  obtain ⟨sh, hs, rfl⟩ := zc_wld_inv hq
  exact h k sh hs
/-- every slot of a reference is filled -/
def zc_full (S : List ZShp) : Bool := S.all fun sh => sh.1 != 0 || (sh.2.2.mapIdx (fun j r => r.isSome || !((zc_pat sh.2.1).getD j false))).all id
theorem zc_full_wld {S : List ZShp} (hf : zc_full S = true) (cy : Nat → ClassId) (ad : Nat → Nat) (μ : ZMem) : zc_wld S cy ad μ = zz_wld S cy ad μ := by
  apply List.ext_getElem?
  intro k
  simp only [zc_wld, zz_wld, List.getElem?_mapIdx]
  cases hs : S[k]? with
  | none => rfl
  | some sh =>
    obtain ⟨tg, n, rs⟩ := sh
    simp only [Option.map_some]
    congr 2
    match tg, hs with
    | 0, hs =>
      have h1 := List.all_eq_true.mp hf _ (List.mem_of_getElem? hs)
      simp only [bne_self_eq_false, Bool.false_or] at h1
      simp only [zc_cel, zz_cel]
      congr 2
      apply List.ext_getElem?
      intro j
      rw [List.getElem?_mapIdx, List.getElem?_mapIdx]
      cases hr : rs[j]? with
      | none => rfl
      | some r =>
        cases r with
        | some t => rfl
        | none =>
          have h2 : (rs.mapIdx (fun j r => r.isSome || !((zc_pat n).getD j false)))[j]? = some (!((zc_pat n).getD j false)) := by
            rw [List.getElem?_mapIdx, hr]; rfl
          have h3 := List.all_eq_true.mp h1 _ (List.mem_of_getElem? h2)
          simp only [id, Bool.not_eq_true'] at h3
          show some (if (zc_pat n).getD j false = true then Value.null else .int (μ.1 k j)) = some (.int (μ.1 k j))
          rw [h3]; rfl
    | 1, _ => rfl
    | 2, _ => rfl
    | _ + 3, _ => rfl
def zc_ad (a sz : Nat) : Nat → Nat
  | 0 => a
  | k + 1 => sz + k
def zc_A (a sz : Nat) : Nat → Prop := fun q => q = a ∨ sz ≤ q
theorem zc_D {a sz : Nat} (h : a < sz) (S : List ZShp) (cy : Nat → ClassId) (μ : ZMem) : va_D (zc_A a sz) (zc_wld S cy (zc_ad a sz) μ) := by
  refine ⟨fun i j p q hi hj hpq => ?_, fun k q hk => ?_⟩
  · obtain ⟨_, -, rfl⟩ := zc_wld_inv hi
    obtain ⟨_, -, rfl⟩ := zc_wld_inv hj
    have e : zc_ad a sz i = zc_ad a sz j := hpq
    cases i with
    | zero => cases j with
      | zero => rfl
      | succ j => simp only [zc_ad] at e; omega
    | succ i => cases j with
      | zero => simp only [zc_ad] at e; omega
      | succ j => simp only [zc_ad] at e; omega
  · obtain ⟨_, -, rfl⟩ := zc_wld_inv hk
    cases k with
    | zero => exact Or.inl rfl
    | succ k => exact Or.inr (Nat.le_add_right _ _)
/-- words that a constructor needs beside the good ones -/
def zc_badw : List Cond := lw_tbl.filter (fun w => !goodWord w)
def zc_words : List Cond := zc_badw.filter (fun w => match w with
  | .methodLinkNest .. => true
  | _ => false)
def zc_AOA (U : State) : Prop := (Cond.arrayOver (.array .long)).before #[] U = true
theorem zc_AOA_moved {u U : State} (hvm : u.vm.Alike U.vm) (h : zc_AOA u) : zc_AOA U := arrayOver_alikeB hvm h
def zc_bad (U : State) : Prop := (∀ w ∈ zc_words, va_Nw w U) ∧ va_AO "SignTables$Factor" U ∧ va_AO "SignTables$Tray" U ∧ zc_AOA U
theorem zc_bad_warm {s U : State} (hW : s.WarmedH U.vm) (h : zc_bad s) : zc_bad U := by
  refine ⟨fun w hw => ?_, h.2.1.moved hW.alike, h.2.2.1.moved hW.alike, zc_AOA_moved hW.alike h.2.2.2⟩
  have h1 := h.1 w hw
  have h2 := (List.mem_filter.mp hw).2
  cases w <;> first | (simp at h2; done) | exact va_Nw.warmM hW h1
theorem zc_bad_same {u U : State} (h : u.vm = U.vm) (hb : zc_bad u) : zc_bad U := by
  refine ⟨fun w hw => ?_, hb.2.1.moved (by rw [h]; exact Vm.Alike.refl _), hb.2.2.1.moved (by rw [h]; exact Vm.Alike.refl _), zc_AOA_moved (by rw [h]; exact Vm.Alike.refl _) hb.2.2.2⟩
  have h1 := hb.1 w hw
  have h2 := (List.mem_filter.mp hw).2
  cases w <;> first | (simp at h2; done) | exact va_Nw.same rfl h h1

def zcOk (E : ZCx) (cc : ByteArray) (nL : Nat) (own : String) (d mc ms a : Nat) : Prop :=
  E.p.tables.exec = Jvm.exec ∧ E.c.code = cc ∧ E.c.maxLocals = nL ∧ E.s.vm.findClass own = some E.m.cls ∧ (∀ w ∈ zz_tbl, w.before E.args E.s = true) ∧ E.meth.locks = false ∧ E.meth.sig.returnType = none ∧ E.R = { frames := d + 1, cells := mc, slots := ms, locals := 40 + 32 * d } ∧ a < E.s.heap.size ∧ va_K E.D vwCl (zz_tys E.cy) E.s ∧ zc_bad E.s ∧ E.meth.name = "<init>"
def zc_Q (D : va_G) (cy : Nat → ClassId) (a sz : Nat) (Φ : List ZShp → ZMem → Prop) : Array Value → State → Outcome → State → Prop := fun _ st oc t =>
  (oc = .returned none ∧ ∃ (S : List ZShp) (μ : ZMem), Φ S μ ∧ va_P D vwCl (zc_wld S cy (zc_ad a sz) μ) t.heap ∧ t.heap.size + 1 = sz + S.length) ∧ va_F (zc_A a sz) st t
def zC (E : ZCx) (mc ms a : Nat) (Φ : List ZShp → ZMem → Prop) (S : List ZShp) (nc ns pc : Nat) (lv : List (Nat × Value)) (st : List Value) (μ : ZMem) : Prop :=
  ∀ (H : Heap) (locs : List Loc) (ls : Array Slot), va_P E.D vwCl (zc_wld S E.cy (zc_ad a E.s.heap.size) μ) H → 0 < S.length → va_S (zc_A a E.s.heap.size) E.s.heap H locs → lv_has ls E.c.maxLocals (lv.map fun q => (q.1, zz_tr (zc_ad a E.s.heap.size) q.2)) →
    W E.p E.l E.e E.R E.s E.m E.args E.below E.meth E.c H locs nc ns (MQ E.below (zc_Q E.D E.cy a E.s.heap.size Φ) E.args E.s mc ms (zc_A a E.s.heap.size)) (F0 E.m pc ls (st.map (zz_tr (zc_ad a E.s.heap.size))))
theorem zc_at {ad : Nat → Nat} {ls : Array Slot} {n : Nat} {lv : List (Nat × Value)} (hl : lv_has ls n (lv.map fun q => (q.1, zz_tr ad q.2))) {j i : Nat} {v : Value} (h : lv[j]? = some (i, v)) : ls[i]? = some (.val (zz_tr ad v)) := lv_at hl j (by rw [List.getElem?_map, h]; rfl)
theorem zc_aload_n {E : ZCx} {cc : ByteArray} {nL : Nat} {own : String} {d mc ms a : Nat} {Φ : List ZShp → ZMem → Prop} {S : List ZShp} {nc ns pc : Nat} {lv : List (Nat × Value)} {st : List Value} {μ : ZMem} (hE : zcOk E cc nL own d mc ms a) {q : Fin 4} {i x : Nat} (hd : decode cc pc = .ok (.aload_n q, 1)) (hq : (q : Nat) = i) (j : Nat) (hj : lv[j]? = some (i, .ref x)) (k : zC E mc ms a Φ S nc ns (pc + 1) lv (.ref x :: st) μ) : zC E mc ms a Φ S nc ns pc lv st μ := fun H locs ls hP h0 hS hl => lv_aload_n hE.1 hE.2.1 hd hq (zc_at hl hj) (k H locs ls hP h0 hS hl)
theorem zc_iload_n {E : ZCx} {cc : ByteArray} {nL : Nat} {own : String} {d mc ms a : Nat} {Φ : List ZShp → ZMem → Prop} {S : List ZShp} {nc ns pc : Nat} {lv : List (Nat × Value)} {st : List Value} {μ : ZMem} (hE : zcOk E cc nL own d mc ms a) {q : Fin 4} {i : Nat} {x : Int32} (hd : decode cc pc = .ok (.iload_n q, 1)) (hq : (q : Nat) = i) (j : Nat) (hj : lv[j]? = some (i, .int x)) (k : zC E mc ms a Φ S nc ns (pc + 1) lv (.int x :: st) μ) : zC E mc ms a Φ S nc ns pc lv st μ := fun H locs ls hP h0 hS hl => lv_iload_n hE.1 hE.2.1 hd hq (zc_at hl hj) (k H locs ls hP h0 hS hl)
theorem zc_iconst {E : ZCx} {cc : ByteArray} {nL : Nat} {own : String} {d mc ms a : Nat} {Φ : List ZShp → ZMem → Prop} {S : List ZShp} {nc ns pc : Nat} {lv : List (Nat × Value)} {st : List Value} {μ : ZMem} (hE : zcOk E cc nL own d mc ms a) {n : Int} {v : Int32} (hd : decode cc pc = .ok (.iconst n, 1)) (hv : Int32.ofInt n = v) (k : zC E mc ms a Φ S nc ns (pc + 1) lv (.int v :: st) μ) : zC E mc ms a Φ S nc ns pc lv st μ := fun H locs ls hP h0 hS hl => lv_iconst hE.1 hE.2.1 hd hv (k H locs ls hP h0 hS hl)
theorem zc_bipush {E : ZCx} {cc : ByteArray} {nL : Nat} {own : String} {d mc ms a : Nat} {Φ : List ZShp → ZMem → Prop} {S : List ZShp} {nc ns pc : Nat} {lv : List (Nat × Value)} {st : List Value} {μ : ZMem} (hE : zcOk E cc nL own d mc ms a) {n : Int} {v : Int32} (hd : decode cc pc = .ok (.bipush n, 2)) (hv : (Int8.ofInt n).toInt32 = v) (k : zC E mc ms a Φ S nc ns (pc + 2) lv (.int v :: st) μ) : zC E mc ms a Φ S nc ns pc lv st μ := fun H locs ls hP h0 hS hl => lv_bipush hE.1 hE.2.1 hd hv (k H locs ls hP h0 hS hl)
theorem zc_sipush {E : ZCx} {cc : ByteArray} {nL : Nat} {own : String} {d mc ms a : Nat} {Φ : List ZShp → ZMem → Prop} {S : List ZShp} {nc ns pc : Nat} {lv : List (Nat × Value)} {st : List Value} {μ : ZMem} (hE : zcOk E cc nL own d mc ms a) {n : Int} {v : Int32} (hd : decode cc pc = .ok (.sipush n, 3)) (hv : (Int16.ofInt n).toInt32 = v) (k : zC E mc ms a Φ S nc ns (pc + 3) lv (.int v :: st) μ) : zC E mc ms a Φ S nc ns pc lv st μ := fun H locs ls hP h0 hS hl => lv_sipush hE.1 hE.2.1 hd hv (k H locs ls hP h0 hS hl)
theorem zc_lconst {E : ZCx} {cc : ByteArray} {nL : Nat} {own : String} {d mc ms a : Nat} {Φ : List ZShp → ZMem → Prop} {S : List ZShp} {nc ns pc : Nat} {lv : List (Nat × Value)} {st : List Value} {μ : ZMem} (hE : zcOk E cc nL own d mc ms a) {n : Fin 2} {v : Int64} (hd : decode cc pc = .ok (.lconst n, 1)) (hv : Int64.ofNat (n : Nat) = v) (k : zC E mc ms a Φ S nc ns (pc + 1) lv (.long v :: st) μ) : zC E mc ms a Φ S nc ns pc lv st μ := fun H locs ls hP h0 hS hl => lv_lconst hE.1 hE.2.1 hd hv (k H locs ls hP h0 hS hl)
theorem zc_dup {E : ZCx} {cc : ByteArray} {nL : Nat} {own : String} {d mc ms a : Nat} {Φ : List ZShp → ZMem → Prop} {S : List ZShp} {nc ns pc : Nat} {lv : List (Nat × Value)} {st : List Value} {μ : ZMem} (hE : zcOk E cc nL own d mc ms a) {v : Value} (hd : decode cc pc = .ok (.dup, 1)) (hc : v.category = 1) (k : zC E mc ms a Φ S nc ns (pc + 1) lv (v :: v :: st) μ) : zC E mc ms a Φ S nc ns pc lv (v :: st) μ := fun H locs ls hP h0 hS hl => lv_dup hE.1 hE.2.1 hd (by rw [zz_tr_cat]; exact hc) (k H locs ls hP h0 hS hl)
theorem zc_goto {E : ZCx} {cc : ByteArray} {nL : Nat} {own : String} {d mc ms a : Nat} {Φ : List ZShp → ZMem → Prop} {S : List ZShp} {nc ns pc : Nat} {lv : List (Nat × Value)} {st : List Value} {μ : ZMem} (hE : zcOk E cc nL own d mc ms a) {off : Int} {tgt : Nat} (hd : decode cc pc = .ok (.goto off, 3)) (ht : (pc : Int) + off = (tgt : Int)) (k : zC E mc ms a Φ S nc ns tgt lv st μ) : zC E mc ms a Φ S nc ns pc lv st μ := fun H locs ls hP h0 hS hl => lv_goto hE.1 hE.2.1 hd ht (k H locs ls hP h0 hS hl)
theorem zc_geT {E : ZCx} {cc : ByteArray} {nL : Nat} {own : String} {d mc ms a : Nat} {Φ : List ZShp → ZMem → Prop} {S : List ZShp} {nc ns pc : Nat} {lv : List (Nat × Value)} {st : List Value} {μ : ZMem} (hE : zcOk E cc nL own d mc ms a) {x y : Int32} {off : Int} {tgt : Nat} (hd : decode cc pc = .ok (.if_icmp .ge off, 3)) (ht : (pc : Int) + off = (tgt : Int)) (h : y ≤ x) (k : zC E mc ms a Φ S nc ns tgt lv st μ) : zC E mc ms a Φ S nc ns pc lv (.int y :: .int x :: st) μ := fun H locs ls hP h0 hS hl => lv_icmp_ge hE.1 hE.2.1 hd ht (fun _ => k H locs ls hP h0 hS hl) (fun q => absurd h q)
theorem zc_geF {E : ZCx} {cc : ByteArray} {nL : Nat} {own : String} {d mc ms a : Nat} {Φ : List ZShp → ZMem → Prop} {S : List ZShp} {nc ns pc : Nat} {lv : List (Nat × Value)} {st : List Value} {μ : ZMem} (hE : zcOk E cc nL own d mc ms a) {x y : Int32} {off : Int} {tgt : Nat} (hd : decode cc pc = .ok (.if_icmp .ge off, 3)) (ht : (pc : Int) + off = (tgt : Int)) (h : ¬ y ≤ x) (k : zC E mc ms a Φ S nc ns (pc + 3) lv st μ) : zC E mc ms a Φ S nc ns pc lv (.int y :: .int x :: st) μ := fun H locs ls hP h0 hS hl => lv_icmp_ge hE.1 hE.2.1 hd ht (fun q => absurd q h) (fun _ => k H locs ls hP h0 hS hl)
theorem zc_istore_n {E : ZCx} {cc : ByteArray} {nL : Nat} {own : String} {d mc ms a : Nat} {Φ : List ZShp → ZMem → Prop} {S : List ZShp} {nc ns pc : Nat} {lv : List (Nat × Value)} {st : List Value} {μ : ZMem} (hE : zcOk E cc nL own d mc ms a) {q : Fin 4} {i : Nat} {x : Int32} {lv' : List (Nat × Value)} (hd : decode cc pc = .ok (.istore_n q, 1)) (hq : (q : Nat) = i) (hn : i < nL) (hl' : (i, Value.int x) :: zz_f1 i lv = lv') (k : zC E mc ms a Φ S nc ns (pc + 1) lv' st μ) : zC E mc ms a Φ S nc ns pc lv (.int x :: st) μ := by
  intro H locs ls hP h0 hS hl
  subst hl'
  exact lv_istore_n hE.1 hE.2.1 hd hq hl (by rw [hE.2.2.1]; exact hn) (by rw [zz_f1_map]; rfl) (fun ls hl => k H locs ls hP h0 hS hl)
theorem zc_iinc {E : ZCx} {cc : ByteArray} {nL : Nat} {own : String} {d mc ms a : Nat} {Φ : List ZShp → ZMem → Prop} {S : List ZShp} {nc ns pc : Nat} {lv : List (Nat × Value)} {st : List Value} {μ : ZMem} (hE : zcOk E cc nL own d mc ms a) {i j : Nat} {n : Int} {x v : Int32} {lv' : List (Nat × Value)} (hd : decode cc pc = .ok (.iinc i n, 3)) (hj : lv[j]? = some (i, .int x)) (hv : x + Int32.ofInt n = v) (hn : i < nL) (hl' : (i, Value.int v) :: zz_f1 i lv = lv') (k : zC E mc ms a Φ S nc ns (pc + 3) lv' st μ) : zC E mc ms a Φ S nc ns pc lv st μ := by
  intro H locs ls hP h0 hS hl
  subst hl'
  exact lv_iinc hE.1 hE.2.1 hd hl (k := j) (by rw [List.getElem?_map, hj]; rfl) hv (by rw [hE.2.2.1]; exact hn) (by rw [zz_f1_map]; rfl) (fun ls hl => k H locs ls hP h0 hS hl)
theorem zc_ad_at0 {a sz n : Nat} (h : 0 < n) : zc_ad a sz n + 1 = sz + n := by
  cases n with
  | zero => omega
  | succ n => show sz + n + 1 = sz + (n + 1); omega
theorem zc_size {E : ZCx} {a nc ns : Nat} {S : List ZShp} {μ : ZMem} {H : Heap} {locs : List Loc} {T : State} (hT : T.heap = H) (X : Stand E.p E.l E.e E.R E.s E.m E.args E.below E.meth E.c T locs nc ns) (hP : va_P E.D vwCl (zc_wld S E.cy (zc_ad a E.s.heap.size) μ) H) (hn : nc + 1 = S.length) (hS : va_S (zc_A a E.s.heap.size) E.s.heap H locs) : H.size + 1 = E.s.heap.size + S.length := by
  have h1 := X.heapSize
  rw [hT] at h1
  by_cases h2 : S.length = 1
  · have := hS.1
    omega
  · have hl : S.length - 1 < S.length := by omega
    have h3 := (hP (S.length - 1) _ (zc_wld_get (List.getElem?_eq_getElem hl))).lt
    have h4 := zc_ad_at0 (a := a) (sz := E.s.heap.size) (n := S.length - 1) (by omega)
    have h5 : zc_ad a E.s.heap.size (S.length - 1) < H.size := h3
    omega
theorem zc_W {p : Program} {l : Launch} {e : Env} {R : Room} {s : State} {m : MethodId} {args : Array Value} {below : List Frame} {meth : Method} {c : Code} {H : Heap} {locs : List Loc} {cells slots : Nat} {Q : State → Prop} {g : JFrame} (h : ∀ T : State, T.heap = H → Stand p l e R s m args below meth c T locs cells slots → W p l e R s m args below meth c H locs cells slots Q g) : W p l e R s m args below meth c H locs cells slots Q g := fun T hT X => h T hT X T hT X
theorem zc_ret {E : ZCx} {cc : ByteArray} {nL : Nat} {own : String} {d mc ms a : Nat} {Φ : List ZShp → ZMem → Prop} {S : List ZShp} {nc ns pc : Nat} {lv : List (Nat × Value)} {st : List Value} {μ : ZMem} (hE : zcOk E cc nL own d mc ms a) (hd : decode cc pc = .ok (.return_, 1)) (h1 : nc ≤ mc) (h2 : ns ≤ ms) (hn : nc + 1 = S.length) (h : Φ S μ) : zC E mc ms a Φ S nc ns pc lv [] μ := by
  intro H locs ls hP h0 hS hl
  refine zc_W (fun T hT X => ?_)
  have hz := zc_size hT X hP hn hS
  exact (W.widen h1 h2 (W.vret hE.1 hE.2.1 hE.2.2.2.2.2.2.1 (fun t ht _ => ⟨⟨rfl, S, μ, h, by rw [ht]; exact hP, by rw [ht]; exact hz⟩, hS.F ht⟩) (fun q hq => hS.2.2 q hq) hd hE.2.2.2.2.2.1))
theorem zc_ad_at {a sz n : Nat} (h : 0 < n) : zc_ad a sz n + 1 = sz + n := by
  cases n with
  | zero => omega
  | succ n => show sz + n + 1 = sz + (n + 1); omega
/-- a cell more -/
theorem zc_grow {D : va_G} {S : List ZShp} {cy : Nat → ClassId} {a sz : Nat} {μ : ZMem} {H H1 : Heap} {sh : ZShp} (hP : va_P D vwCl (zc_wld S cy (zc_ad a sz) μ) H) (hz : H.size + 1 = sz + S.length) (h0 : 0 < S.length) (o1 : ∀ q, q < H.size → H1[q]? = H[q]?) (hn : va_at D vwCl (H.size, zc_cel cy (zc_ad a sz) μ S.length sh) H1) : va_P D vwCl (zc_wld (S ++ [sh]) cy (zc_ad a sz) μ) H1 := by
  apply zc_P_of
  intro k sh' hk
  by_cases hl : k < S.length
  · rw [List.getElem?_append_left hl] at hk
    have h1 := hP k _ (zc_wld_get hk)
    exact h1.kept (o1 _ h1.lt)
  · rw [List.getElem?_append_right (by omega)] at hk
    have hk0 : k - S.length < 1 := (List.getElem?_eq_some_iff.mp hk).1
    rw [show k - S.length = 0 by omega] at hk
    cases hk
    have e : zc_ad a sz k = H.size := by
      have := zc_ad_at (a := a) (sz := sz) (n := k) (by omega)
      omega
    rw [e, show k = S.length by omega]
    exact hn
theorem zc_new {E : ZCx} {cc : ByteArray} {nL : Nat} {own : String} {d mc ms a : Nat} {Φ : List ZShp → ZMem → Prop} {S : List ZShp} {nc ns pc : Nat} {lv : List (Nat × Value)} {st : List Value} {μ : ZMem} (hE : zcOk E cc nL own d mc ms a) {i ci N : Nat} {C : String} {T : u_T} {ty : Nat → FieldType} (hd : decode cc pc = .ok (.new i, 3)) (hcl : Cond.classLink own i C ∈ zz_tbl) (hinst : Cond.instantiable C N ∈ zz_tbl) (hini : Cond.initialized C ∈ zz_tbl) (hw : ∀ w ∈ u_ws C T N, w ∈ zz_tbl) (hty : ∀ k, k < N → parseFieldDescriptor (T k).2.2.1 = some (ty k)) (hc : vwCl[ci]? = some (C, T, N)) (hdf : ∀ j, j < N → defaultValue (ty j) = if (zc_pat ci).getD j false = true then .null else .int 0) (hμ : ∀ j, μ.1 S.length j = 0) (hnc : nc + 1 = S.length) (h1 : nc + 1 ≤ mc) (h2 : ns + N ≤ ms) (k : zC E mc ms a Φ (S ++ [(0, ci, List.replicate N none)]) (nc + 1) (ns + N) (pc + 3) lv (.ref S.length :: st) μ) : zC E mc ms a Φ S nc ns pc lv st μ := by
  intro H locs ls hP h0 hS hl
  refine zc_W (fun T0 hT0 X0 => ?_)
  have hz := zc_size hT0 X0 hP hnc hS
  have hts := hE.2.2.2.2.1
  have hR := hE.2.2.2.2.2.2.2.1
  have hKn := hE.2.2.2.2.2.2.2.2.2.1.1 ci _ hc
  refine (W.newcK hE.1 hE.2.1 hE.2.2.2.1 (hts _ hcl) (hts _ hinst) (hts _ hini) rfl hd (by rw [hR]; exact h1) (by rw [hR]; exact h2) hKn.2.1 rfl fun H1 kC hkC e1 z1 o1 => ?_)
  have e : zc_ad a E.s.heap.size S.length = H.size := by
    have := zc_ad_at (a := a) (sz := E.s.heap.size) (n := S.length) h0
    omega
  have g : va_P E.D vwCl (zc_wld (S ++ [(0, ci, List.replicate N none)]) E.cy (zc_ad a E.s.heap.size) μ) H1 := by
    refine zc_grow hP hz h0 o1 ⟨_, hc, (u_born ty hts hw hKn hkC e1 hty).to (fun j hj => ?_)⟩
    rw [hdf j hj]
    have e5 : ((List.replicate N none).mapIdx (zc_fv (zc_ad a E.s.heap.size) (μ.1 S.length) (zc_pat ci)))[j]? = some (zc_fv (zc_ad a E.s.heap.size) (μ.1 S.length) (zc_pat ci) j none) := by
      rw [List.getElem?_mapIdx, List.getElem?_replicate, if_pos hj]; rfl
    have e6 : List.getD ((List.replicate N none).mapIdx (zc_fv (zc_ad a E.s.heap.size) (μ.1 S.length) (zc_pat ci))) j Value.null = zc_fv (zc_ad a E.s.heap.size) (μ.1 S.length) (zc_pat ci) j none := by
      rw [List.getD_eq_getElem?_getD, e5]; rfl
    refine Eq.trans ?_ e6.symm
    show _ = (if (zc_pat ci).getD j false = true then Value.null else .int (μ.1 S.length j))
    rw [hμ]
  have kk := k H1 locs ls g (by rw [List.length_append]; omega) ⟨Nat.le_trans hS.1 (by omega), fun x h1 h2 => (o1 x (Nat.lt_of_lt_of_le h1 hS.1)).trans (hS.2.1 x h1 h2), hS.2.2⟩ hl
  simp only [List.map_cons, zz_tr, e] at kk
  exact kk
theorem zc_sameI {s : State} {D : va_G} {cl : List vw_C} {tys : List (ClassId × FieldType)} (hK : va_K D cl tys s) {k : Nat} {c cA : ClassId} {ty : FieldType} (h : tys[k]? = some (c, ty)) (ho : ∀ C, ty ≠ .object C) (hc : s.vm.findClass ("[" ++ ty.toString) = some cA) : cA = c := by
  have h2 := (hK.2 k _ h).2
  cases ty with
  | object C => exact absurd rfl (ho C)
  | _ => exact Option.some.inj (hc.symm.trans h2)
theorem zc_newI {E : ZCx} {cc : ByteArray} {nL : Nat} {own : String} {d mc ms a : Nat} {Φ : List ZShp → ZMem → Prop} {S : List ZShp} {nc ns pc : Nat} {lv : List (Nat × Value)} {st : List Value} {μ : ZMem} (hE : zcOk E cc nL own d mc ms a) {n : Int32} {N : Nat} (hd : decode cc pc = .ok (.newarray .int, 2)) (hw : Cond.arrayClass .int ∈ zz_tbl) (hn : ¬ n < 0) (hN : n.toNatClampNeg = N) (hb : N * 4 ≤ 536870912) (hμ : ∀ j, μ.1 S.length j = 0) (hnc : nc + 1 = S.length) (h1 : nc + 1 ≤ mc) (h2 : ns + N ≤ ms) (k : zC E mc ms a Φ (S ++ [(1, N, [])]) (nc + 1) (ns + N) (pc + 2) lv (.ref S.length :: st) μ) : zC E mc ms a Φ S nc ns pc lv (.int n :: st) μ := by
  intro H locs ls hP h0 hS hl
  refine zc_W (fun T0 hT0 X0 => ?_)
  have hz := zc_size hT0 X0 hP hnc hS
  have hts := hE.2.2.2.2.1
  have hR := hE.2.2.2.2.2.2.2.1
  have hK := hE.2.2.2.2.2.2.2.2.2.1
  refine (va_newaK hE.1 hE.2.1 (atype := .int) (hts _ hw) rfl hd rfl hn hN hb (by rw [hR]; exact h1) (by rw [hR]; exact h2) rfl fun H1 cA e1 z1 o1 hAr hNm => ?_)
  have e : zc_ad a E.s.heap.size S.length = H.size := by
    have := zc_ad_at (a := a) (sz := E.s.heap.size) (n := S.length) h0
    omega
  have ec : cA = E.cy 0 := zc_sameI hK (k := 0) rfl (fun C q => by cases q) hNm
  have g : va_P E.D vwCl (zc_wld (S ++ [(1, N, [])]) E.cy (zc_ad a E.s.heap.size) μ) H1 := by
    refine zc_grow hP hz h0 o1 ?_
    show H1[H.size]? = some (vp_cell (E.cy 0) (N, .inl (μ.1 S.length)))
    rw [vp_cell_i, show μ.1 S.length = fun _ => 0 from funext hμ, ← ec]
    exact e1
  have kk := k H1 locs ls g (by rw [List.length_append]; omega) ⟨Nat.le_trans hS.1 (by omega), fun x h1 h2 => (o1 x (Nat.lt_of_lt_of_le h1 hS.1)).trans (hS.2.1 x h1 h2), hS.2.2⟩ hl
  simp only [List.map_cons, zz_tr, e] at kk
  exact kk
theorem zc_newJ {E : ZCx} {cc : ByteArray} {nL : Nat} {own : String} {d mc ms a : Nat} {Φ : List ZShp → ZMem → Prop} {S : List ZShp} {nc ns pc : Nat} {lv : List (Nat × Value)} {st : List Value} {μ : ZMem} (hE : zcOk E cc nL own d mc ms a) {n : Int32} {N : Nat} (hd : decode cc pc = .ok (.newarray .long, 2)) (hw : Cond.arrayClass .long ∈ zz_tbl) (hn : ¬ n < 0) (hN : n.toNatClampNeg = N) (hb : N * 8 ≤ 536870912) (hμ : ∀ j, μ.2 S.length j = 0) (hnc : nc + 1 = S.length) (h1 : nc + 1 ≤ mc) (h2 : ns + N ≤ ms) (k : zC E mc ms a Φ (S ++ [(2, N, [])]) (nc + 1) (ns + N) (pc + 2) lv (.ref S.length :: st) μ) : zC E mc ms a Φ S nc ns pc lv (.int n :: st) μ := by
  intro H locs ls hP h0 hS hl
  refine zc_W (fun T0 hT0 X0 => ?_)
  have hz := zc_size hT0 X0 hP hnc hS
  have hts := hE.2.2.2.2.1
  have hR := hE.2.2.2.2.2.2.2.1
  have hK := hE.2.2.2.2.2.2.2.2.2.1
  refine (va_newaK hE.1 hE.2.1 (atype := .long) (hts _ hw) rfl hd rfl hn hN hb (by rw [hR]; exact h1) (by rw [hR]; exact h2) rfl fun H1 cA e1 z1 o1 hAr hNm => ?_)
  have e : zc_ad a E.s.heap.size S.length = H.size := by
    have := zc_ad_at (a := a) (sz := E.s.heap.size) (n := S.length) h0
    omega
  have ec : cA = E.cy 1 := zc_sameI hK (k := 1) rfl (fun C q => by cases q) hNm
  have g : va_P E.D vwCl (zc_wld (S ++ [(2, N, [])]) E.cy (zc_ad a E.s.heap.size) μ) H1 := by
    refine zc_grow hP hz h0 o1 ?_
    show H1[H.size]? = some (vp_cell (E.cy 1) (N, .inr (.inl (μ.2 S.length))))
    rw [vp_cell_l, show μ.2 S.length = fun _ => 0 from funext hμ, ← ec]
    exact e1
  have kk := k H1 locs ls g (by rw [List.length_append]; omega) ⟨Nat.le_trans hS.1 (by omega), fun x h1 h2 => (o1 x (Nat.lt_of_lt_of_le h1 hS.1)).trans (hS.2.1 x h1 h2), hS.2.2⟩ hl
  simp only [List.map_cons, zz_tr, e] at kk
  exact kk
theorem zc_newQ {E : ZCx} {cc : ByteArray} {nL : Nat} {own : String} {d mc ms a : Nat} {Φ : List ZShp → ZMem → Prop} {S : List ZShp} {nc ns pc : Nat} {lv : List (Nat × Value)} {st : List Value} {μ : ZMem} (hE : zcOk E cc nL own d mc ms a) {i w : Nat} {C : String} {n : Int32} {N : Nat} (hd : decode cc pc = .ok (.anewarray i, 3)) (hcl : Cond.classLink own i C ∈ zz_tbl) (ho : va_AO C E.s) (hw : (zz_tys E.cy)[w]? = some (E.cy w, .object C)) (hw3 : 2 ≤ w) (hn : ¬ n < 0) (hN : n.toNatClampNeg = N) (hb : N * 4 ≤ 536870912) (hnc : nc + 1 = S.length) (h1 : nc + 1 ≤ mc) (h2 : ns + N ≤ ms) (k : zC E mc ms a Φ (S ++ [(3, w, List.replicate N none)]) (nc + 1) (ns + N) (pc + 3) lv (.ref S.length :: st) μ) : zC E mc ms a Φ S nc ns pc lv (.int n :: st) μ := by
  intro H locs ls hP h0 hS hl
  refine zc_W (fun T0 hT0 X0 => ?_)
  have hz := zc_size hT0 X0 hP hnc hS
  have hts := hE.2.2.2.2.1
  have hR := hE.2.2.2.2.2.2.2.1
  have hK := hE.2.2.2.2.2.2.2.2.2.1
  subst hN
  refine (W.anew hE.1 hE.2.1 hE.2.2.2.1 (hts _ hcl) (va_AO.use ho) rfl hd rfl hn hb (by rw [hR]; exact h1) (by rw [hR]; exact h2) fun cA kA comp f1 f2 f3 f4 => ?_)
  generalize hH1 : H.push ({ cls := cA, slots := Array.replicate n.toNatClampNeg .null, vm := .none } : Cell) = H1
  have z1 : H1.size = H.size + 1 := by rw [← hH1, Array.size_push]
  have e1 : H1[H.size]? = some (arrV cA n.toNatClampNeg (fun _ => .null)) := by rw [← hH1, Array.getElem?_push_size, ← arrV_new]
  have o1 : ∀ q, q < H.size → H1[q]? = H[q]? := fun q hq => by rw [← hH1, Array.getElem?_push_lt hq]; exact (Array.getElem?_eq_getElem hq).symm
  have e : zc_ad a E.s.heap.size S.length = H.size := by
    have := zc_ad_at (a := a) (sz := E.s.heap.size) (n := S.length) h0
    omega
  obtain ⟨kA2, comp2, g1, g2, g3, g4⟩ := (hK.2 w _ hw).2
  have ec : cA = E.cy w := Option.some.inj (f1.symm.trans g4)
  have g : va_P E.D vwCl (zc_wld (S ++ [(3, w, List.replicate n.toNatClampNeg none)]) E.cy (zc_ad a E.s.heap.size) μ) H1 := by
    refine zc_grow hP hz h0 o1 ?_
    show H1[H.size]? = some (vp_cell (E.cy w) ((List.replicate n.toNatClampNeg none).length, .inr (.inr (.inr (.inr (fun i => ((List.replicate n.toNatClampNeg none : List (Option Nat)).getD i none).map (zc_ad a E.s.heap.size)))))))
    rw [vp_cell_q, ← ec, List.length_replicate, e1]
    congr 2
    funext j
    rw [List.getD_eq_getElem?_getD, List.getElem?_replicate]
    split <;> rfl
  have kk := k H1 locs ls g (by rw [List.length_append]; omega) ⟨Nat.le_trans hS.1 (by omega), fun x h1 h2 => (o1 x (Nat.lt_of_lt_of_le h1 hS.1)).trans (hS.2.1 x h1 h2), hS.2.2⟩ hl
  simp only [List.map_cons, zz_tr, e] at kk
  exact kk
