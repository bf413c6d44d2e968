/-! THE CLAIM OUT OF ONE WALK OF THE LAW'S BODY. Your part is whole_start (and what it stands on); all else here is the same for every law, but numbers. -/
def R_law : String := "SignTablesLaw"
def lw_P (b : Addr) (xs : List Int32) (args : Array Value) (s : State) : Prop := args = #[.ref b] ∧ s.IntsAt b xs ∧ xs.length ≤ 3072 ∧ (Jvm.Cond.and given_1 narrow_1).before args s = true
def lw_Q (_ : Array Value) (s : State) (o : Outcome) (t : State) : Prop := o = .returned (some (.int 1)) ∧ Framed s o t [] 600000 7302249
def lw_Z (below : List Frame) (a : Array Value) (s : State) : State → Prop := fun t => ∃ o, t.status = .running ∧ Ended t below o ∧ lw_Q a s o t
/-- the law's own end, with 1 on the stack, nothing written that was there before, its room as the claim has it -/
theorem lw_ret {p : Program} {l : Launch} {e : Env} {s : State} {m : MethodId} {below : List Frame} {meth : Method} {c : Code} {b : Nat} (hx : p.tables.exec = Jvm.exec) (hb : c.code = code) (hr : meth.sig.returnType = ret) (hlocks : meth.locks = false) {pc : Nat} {H : Heap} {ls : Array Slot} (hdg : decode code pc = .ok (.ireturn, 1)) : W p l e room_1 s m #[Value.ref b] below meth c H [] 600000 7302249 (lw_Z below #[Value.ref b] s) (F0 m pc ls [.int 1]) := by
  intro T hT X
  obtain ⟨fs, hret, hrun, hended, hW, hframe⟩ := X.leave (v := some (.int 1)) (hlocks := hlocks) (fun h => by rw [hr] at h; cases h)
  have hmeth' : T.vm.method? m = some meth := X.method'
  refine ⟨T.setFrames fs, ?_, .returned (some (.int 1)), hrun, hended, rfl, ⟨_, rfl⟩, hW, hframe⟩
  jvm_step X.here [X.here.top, hx, hb, hdg, hmeth', hr, ret, narrow_b1]
  (try refine ⟨rfl, ?_⟩); (try refine ⟨rfl, ?_⟩)
  first | (intro acts; rw [hret _ acts rfl rfl rfl]) | rw [hret _ _ rfl rfl rfl]
  exact Steps.refl _
/-- what holds at the law's entry: the machine, the code, the tables' words (any of lw_tbl by 'hts w (by decide +kernel)'), the script of L ints xs at the cell b, what the Statement gives of the start (any of its parts by flat_of_before) -/
def lw_At (p : Program) (s : State) (m : MethodId) (meth : Method) (c : Code) (b L : Nat) (xs : Nat → Int32) : Prop :=
  p.tables.exec = Jvm.exec ∧ c.code = code ∧ meth.sig.returnType = ret ∧ c.maxLocals = 4 ∧ s.vm.findClass R_law = some m.cls ∧ (∀ w ∈ lw_tbl, w.before #[Value.ref b] s = true) ∧ va_X b L xs s s.heap ∧ b < s.heap.size ∧ meth.locks = false ∧ (Jvm.Cond.and given_1 narrow_1).before #[Value.ref b] s = true
/-! the law: its judgement, a row an instruction -/
def LCx : Type := Program × Launch × Env × State × MethodId × List Frame × Method × Code × Nat × Nat × (Nat → Int32) × va_G × (Nat → ClassId) × Nat
def LCx.p (E : LCx) : Program := E.1
def LCx.l (E : LCx) : Launch := E.2.1
def LCx.e (E : LCx) : Env := E.2.2.1
def LCx.s (E : LCx) : State := E.2.2.2.1
def LCx.m (E : LCx) : MethodId := E.2.2.2.2.1
def LCx.below (E : LCx) : List Frame := E.2.2.2.2.2.1
def LCx.meth (E : LCx) : Method := E.2.2.2.2.2.2.1
def LCx.c (E : LCx) : Code := E.2.2.2.2.2.2.2.1
def LCx.b (E : LCx) : Nat := E.2.2.2.2.2.2.2.2.1
def LCx.L (E : LCx) : Nat := E.2.2.2.2.2.2.2.2.2.1
def LCx.xs (E : LCx) : (Nat → Int32) := E.2.2.2.2.2.2.2.2.2.2.1
def LCx.D (E : LCx) : va_G := E.2.2.2.2.2.2.2.2.2.2.2.1
def LCx.cy (E : LCx) : (Nat → ClassId) := E.2.2.2.2.2.2.2.2.2.2.2.2.1
def LCx.a (E : LCx) : Nat := E.2.2.2.2.2.2.2.2.2.2.2.2.2
def zLOk (E : LCx) : Prop := lw_At E.p E.s E.m E.meth E.c E.b E.L E.xs ∧ E.a = E.s.heap.size ∧ va_K E.D vwCl (zz_tys E.cy) E.s ∧ E.L ≤ 3072
def zl_X (E : LCx) : Nat → Nat := fun k => E.a + k
def zl_M (E : LCx) : Nat → Nat := fun k => E.a + 94 + k
def zL (E : LCx) (pc : Nat) (lv : List (Nat × Value)) (st : List Value) (μX μM : ZMem) : Prop :=
  ∀ (H : Heap) (locs : List Loc) (ls : Array Slot), va_P E.D vwCl (zz_wld SX E.cy (zl_X E) μX) H → va_P E.D vwCl (zz_wld SM E.cy (zl_M E) μM) H → va_S (fun q => E.s.heap.size ≤ q) E.s.heap H locs → lv_has ls 4 lv →
    W E.p E.l E.e room_1 E.s E.m #[Value.ref E.b] E.below E.meth E.c H locs 113 1964 (lw_Z E.below #[Value.ref E.b] E.s) (F0 E.m pc ls st)
theorem zl_aload_n {E : LCx} {pc : Nat} {lv : List (Nat × Value)} {st : List Value} {μX μM : ZMem} (hE : zLOk E) {q : Fin 4} {i x : Nat} (hd : decode code pc = .ok (.aload_n q, 1)) (hq : (q : Nat) = i) (j : Nat) (hj : lv[j]? = some (i, .ref x)) (k : zL E (pc + 1) lv (.ref x :: st) μX μM) : zL E pc lv st μX μM := fun H locs ls hX hM hS hl => lv_aload_n hE.1.1 hE.1.2.1 hd hq (lv_at hl j hj) (k H locs ls hX hM hS hl)
theorem zl_iload_n {E : LCx} {pc : Nat} {lv : List (Nat × Value)} {st : List Value} {μX μM : ZMem} (hE : zLOk E) {q : Fin 4} {i : Nat} {x : Int32} (hd : decode code pc = .ok (.iload_n q, 1)) (hq : (q : Nat) = i) (j : Nat) (hj : lv[j]? = some (i, .int x)) (k : zL E (pc + 1) lv (.int x :: st) μX μM) : zL E pc lv st μX μM := fun H locs ls hX hM hS hl => lv_iload_n hE.1.1 hE.1.2.1 hd hq (lv_at hl j hj) (k H locs ls hX hM hS hl)
theorem zl_iconst {E : LCx} {pc : Nat} {lv : List (Nat × Value)} {st : List Value} {μX μM : ZMem} (hE : zLOk E) {n : Int} {v : Int32} (hd : decode code pc = .ok (.iconst n, 1)) (hv : Int32.ofInt n = v) (k : zL E (pc + 1) lv (.int v :: st) μX μM) : zL E pc lv st μX μM := fun H locs ls hX hM hS hl => lv_iconst hE.1.1 hE.1.2.1 hd hv (k H locs ls hX hM hS hl)
theorem zl_bipush {E : LCx} {pc : Nat} {lv : List (Nat × Value)} {st : List Value} {μX μM : ZMem} (hE : zLOk E) {n : Int} {v : Int32} (hd : decode code pc = .ok (.bipush n, 2)) (hv : (Int8.ofInt n).toInt32 = v) (k : zL E (pc + 2) lv (.int v :: st) μX μM) : zL E pc lv st μX μM := fun H locs ls hX hM hS hl => lv_bipush hE.1.1 hE.1.2.1 hd hv (k H locs ls hX hM hS hl)
theorem zl_ldc2 {E : LCx} {pc : Nat} {lv : List (Nat × Value)} {st : List Value} {μX μM : ZMem} (hE : zLOk E) {i : Nat} {v : Int64} (hd : decode code pc = .ok (.ldc2_w i, 3)) (hv : Cond.constantLong R_law i v ∈ lw_tbl) (k : zL E (pc + 3) lv (.long v :: st) μX μM) : zL E pc lv st μX μM := fun H locs ls hX hM hS hl => lv_ldc2 hE.1.1 hE.1.2.1 hE.1.2.2.2.2.1 (hE.1.2.2.2.2.2.1 _ hv) hd (k H locs ls hX hM hS hl)
theorem zl_iadd {E : LCx} {pc : Nat} {lv : List (Nat × Value)} {st : List Value} {μX μM : ZMem} (hE : zLOk E) {x y : Int32} (hd : decode code pc = .ok (.iadd, 1)) (k : zL E (pc + 1) lv (.int (x + y) :: st) μX μM) : zL E pc lv (.int y :: .int x :: st) μX μM := fun H locs ls hX hM hS hl => lv_iadd hE.1.1 hE.1.2.1 hd (k H locs ls hX hM hS hl)
theorem zl_isub {E : LCx} {pc : Nat} {lv : List (Nat × Value)} {st : List Value} {μX μM : ZMem} (hE : zLOk E) {x y : Int32} (hd : decode code pc = .ok (.isub, 1)) (k : zL E (pc + 1) lv (.int (x - y) :: st) μX μM) : zL E pc lv (.int y :: .int x :: st) μX μM := fun H locs ls hX hM hS hl => lv_isub hE.1.1 hE.1.2.1 hd (k H locs ls hX hM hS hl)
theorem zl_iand {E : LCx} {pc : Nat} {lv : List (Nat × Value)} {st : List Value} {μX μM : ZMem} (hE : zLOk E) {x y : Int32} (hd : decode code pc = .ok (.iand, 1)) (k : zL E (pc + 1) lv (.int (x &&& y) :: st) μX μM) : zL E pc lv (.int y :: .int x :: st) μX μM := fun H locs ls hX hM hS hl => lv_iand hE.1.1 hE.1.2.1 hd (k H locs ls hX hM hS hl)
theorem zl_land {E : LCx} {pc : Nat} {lv : List (Nat × Value)} {st : List Value} {μX μM : ZMem} (hE : zLOk E) {x y : Int64} (hd : decode code pc = .ok (.land, 1)) (k : zL E (pc + 1) lv (.long (x &&& y) :: st) μX μM) : zL E pc lv (.long y :: .long x :: st) μX μM := fun H locs ls hX hM hS hl => lv_land hE.1.1 hE.1.2.1 hd (k H locs ls hX hM hS hl)
theorem zl_lor {E : LCx} {pc : Nat} {lv : List (Nat × Value)} {st : List Value} {μX μM : ZMem} (hE : zLOk E) {x y : Int64} (hd : decode code pc = .ok (.lor, 1)) (k : zL E (pc + 1) lv (.long (x ||| y) :: st) μX μM) : zL E pc lv (.long y :: .long x :: st) μX μM := fun H locs ls hX hM hS hl => lv_lor hE.1.1 hE.1.2.1 hd (k H locs ls hX hM hS hl)
theorem zl_i2l {E : LCx} {pc : Nat} {lv : List (Nat × Value)} {st : List Value} {μX μM : ZMem} (hE : zLOk E) {x : Int32} (hd : decode code pc = .ok (.i2l, 1)) (k : zL E (pc + 1) lv (.long x.toInt64 :: st) μX μM) : zL E pc lv (.int x :: st) μX μM := fun H locs ls hX hM hS hl => lv_i2l hE.1.1 hE.1.2.1 hd rfl (k H locs ls hX hM hS hl)
theorem zl_lshl {E : LCx} {pc : Nat} {lv : List (Nat × Value)} {st : List Value} {μX μM : ZMem} (hE : zLOk E) {x : Int64} {y : Int32} (hd : decode code pc = .ok (.lshl, 1)) (k : zL E (pc + 1) lv (.long (x <<< (y.toInt64 &&& 63)) :: st) μX μM) : zL E pc lv (.int y :: .long x :: st) μX μM := fun H locs ls hX hM hS hl => lv_lshl hE.1.1 hE.1.2.1 hd rfl (k H locs ls hX hM hS hl)
theorem zl_bA {E : LCx} (hE : zLOk E) : ¬ (fun q : Nat => E.s.heap.size ≤ q) E.b := Nat.not_le.mpr hE.1.2.2.2.2.2.2.2.1
theorem zl_sld {E : LCx} {pc : Nat} {lv : List (Nat × Value)} {st : List Value} {μX μM : ZMem} (hE : zLOk E) {i : Int32} (hd : decode code pc = .ok (.iaload, 1)) (hin : vp_in i E.L) (k : zL E (pc + 1) lv (.int (E.xs i.toNatClampNeg) :: st) μX μM) : zL E pc lv (.int i :: .ref E.b :: st) μX μM := fun H locs ls hX hM hS hl => va_sld hE.1.1 hE.1.2.1 hE.1.2.2.2.2.2.2.1 hE.1.2.2.2.2.2.2.2.1 (zl_bA hE) hS hin hd (k H locs ls hX hM hS hl)
theorem zl_goto {E : LCx} {pc : Nat} {lv : List (Nat × Value)} {st : List Value} {μX μM : ZMem} (hE : zLOk E) {off : Int} {tgt : Nat} (hd : decode code pc = .ok (.goto off, 3)) (ht : (pc : Int) + off = (tgt : Int)) (k : zL E tgt lv st μX μM) : zL E pc lv st μX μM := fun H locs ls hX hM hS hl => lv_goto hE.1.1 hE.1.2.1 hd ht (k H locs ls hX hM hS hl)
theorem zl_eqI {E : LCx} {pc : Nat} {lv : List (Nat × Value)} {st : List Value} {μX μM : ZMem} (hE : zLOk E) {x y : Int32} {off : Int} {tgt : Nat} (hd : decode code pc = .ok (.if_icmp .eq off, 3)) (ht : (pc : Int) + off = (tgt : Int)) (h : x = y) (k : zL E tgt lv st μX μM) : zL E pc lv (.int y :: .int x :: st) μX μM := fun H locs ls hX hM hS hl => lv_icmp_eq hE.1.1 hE.1.2.1 hd ht (fun _ => (k H locs ls hX hM hS hl)) (fun q => absurd h q)
theorem zl_eqJ {E : LCx} {pc : Nat} {lv : List (Nat × Value)} {st : List Value} {μX μM : ZMem} (hE : zLOk E) {x y : Int64} {off : Int} {tgt : Nat} (hd : decode code pc = .ok (.lcmp, 1)) (hd2 : decode code (pc + 1) = .ok (.ifCond .eq off, 3)) (ht : ((pc + 1 : Nat) : Int) + off = (tgt : Int)) (h : x = y) (k : zL E tgt lv st μX μM) : zL E pc lv (.long y :: .long x :: st) μX μM := fun H locs ls hX hM hS hl => W.lcmp hE.1.1 hE.1.2.1 hd (lv_if_eq hE.1.1 hE.1.2.1 hd2 ht (fun _ => (k H locs ls hX hM hS hl)) (fun q => absurd ((zlc_eq x y).mpr h) q))
theorem zl_swOut {E : LCx} {pc : Nat} {lv : List (Nat × Value)} {st : List Value} {μX μM : ZMem} (hE : zLOk E) {dflt lo hi : Int} {offs : Array Int} {len : Nat} {x : Int32} {tgt : Nat} (hd : decode code pc = .ok (.tableswitch dflt lo hi offs, len)) (h : x.toInt < lo ∨ hi < x.toInt) (ht : (pc : Int) + dflt = (tgt : Int)) (k : zL E tgt lv st μX μM) : zL E pc lv (.int x :: st) μX μM := fun H locs ls hX hM hS hl => lv_tableOut hE.1.1 hE.1.2.1 hd h ht (k H locs ls hX hM hS hl)
theorem zl_swIn {E : LCx} {pc : Nat} {lv : List (Nat × Value)} {st : List Value} {μX μM : ZMem} (hE : zLOk E) {dflt lo hi : Int} {offs : Array Int} {len : Nat} {x : Int32} {off : Int} {tgt : Nat} (hd : decode code pc = .ok (.tableswitch dflt lo hi offs, len)) (h1 : ¬ x.toInt < lo) (h2 : ¬ hi < x.toInt) (ho : offs[(x.toInt - lo).toNat]? = some off) (ht : (pc : Int) + off = (tgt : Int)) (k : zL E tgt lv st μX μM) : zL E pc lv (.int x :: st) μX μM := fun H locs ls hX hM hS hl => lv_tableIn hE.1.1 hE.1.2.1 hd h1 h2 ho ht (k H locs ls hX hM hS hl)
theorem zl_at_lt {D : va_G} {S : List ZShp} {cy : Nat → ClassId} {ad : Nat → Nat} {μ : ZMem} {H : Heap} (hP : va_P D vwCl (zz_wld S cy ad μ) H) {k : Nat} (hk : k < S.length) : ad k < H.size := (hP k _ (zz_wld_get (List.getElem?_eq_getElem hk))).lt
theorem zl_kept {D : va_G} {S : List ZShp} {cy : Nat → ClassId} {ad : Nat → Nat} {μ : ZMem} {H H1 : Heap} (hP : va_P D vwCl (zz_wld S cy ad μ) H) (h : ∀ k, k < S.length → H1[ad k]? = H[ad k]?) : va_P D vwCl (zz_wld S cy ad μ) H1 := by
  refine hP.kept (fun k q hq => ?_)
  have hl : k < S.length := by
    have := (List.getElem?_eq_some_iff.mp hq).1
    simpa [zz_wld] using this
  have e := zz_wld_get (cy := cy) (ad := ad) (μ := μ) (List.getElem?_eq_getElem hl)
  rw [e] at hq
  cases hq
  exact h k hl
theorem zl_D {S : List ZShp} {cy : Nat → ClassId} {μ : ZMem} (n : Nat) : va_D (fun _ => True) (zz_wld S cy (fun k => n + k) μ) := by
  have key : ∀ (i : Nat) (q : Nat × va_E), (zz_wld S cy (fun k => n + k) μ)[i]? = some q → q.1 = n + i := by
    intro i q hq
    simp only [zz_wld, List.getElem?_mapIdx] at hq
    cases hs : S[i]? with
    | none => rw [hs] at hq; cases hq
    | some sh => rw [hs] at hq; cases hq; rfl
  refine ⟨fun i j p q hi hj hpq => ?_, fun _ _ _ => trivial⟩
  have h1 := key i p hi
  have h2 := key j q hj
  omega
theorem zl_run {E : LCx} (hE : zLOk E) {S : List ZShp} {n0 : Nat} (hn0 : E.a ≤ n0) {pc i n ci d' maxL : Nat} {y : MethodName} {bytes : ByteArray} {ret : Option FieldType} {As st st0 : List Value} {μ : ZMem} {Ψ : Option Value → ZMem → Prop} {rs : List (Option Nat)} {H : Heap} {locs : List Loc} {ls : Array Slot} (hd : decode code pc = .ok (.invokevirtual i, 3)) (hC : zz_CV R_law i y bytes maxL ret n ci) (hM : zM S y bytes maxL ret d' (.ref 0 :: As) μ Ψ) (hs : S[0]? = some (0, ci, rs)) (hA : ∀ (ad : Nat → Nat) v, v ∈ As → zz_tr ad v = v) (hn : As.length = n) (hst : (st.map fun v => v.category).sum ≤ 8) (hdd : d' ≤ 7) (h0 : As.reverse ++ .ref (n0 + 0) :: st = st0) (hP : va_P E.D vwCl (zz_wld S E.cy (fun k => n0 + k) μ) H) {lv : List (Nat × Value)} (hl : lv_has ls 4 lv) : va_Run E.p E.l E.e room_1 E.s E.m #[Value.ref E.b] E.below E.meth E.c H locs 113 1964 0 0 (F0 E.m pc ls st0) st (zz_Q E.D E.cy (fun k => n0 + k) S Ψ (Value.ref (n0 + 0) :: As).toArray) (zz_A S (fun k => n0 + k)) := by
  subst h0
  obtain ⟨hx, hb, hr, hml, hown, hts, -⟩ := hE.1
  have hts2 : ∀ w ∈ zz_tbl, w.before #[Value.ref E.b] E.s = true := fun w hw => hts w (List.mem_filter.mp hw).1
  obtain ⟨T, N, hcl⟩ := hC.2.2.2
  have hrv := va_recv hE.2.2.1 hP hcl (zz_wld_get hs)
  have hAs : As.map (zz_tr (fun k => n0 + k)) = As := by
    conv => rhs; rw [← List.map_id As]
    exact List.map_congr_left (fun v hv => hA _ v hv)
  have hAr : (Value.ref 0 :: As).map (zz_tr (fun k => n0 + k)) = Value.ref (n0 + 0) :: As := by
    rw [List.map_cons, hAs]; rfl
  have hMet := hM E.l E.D E.cy (fun k => n0 + k)
  rw [hAr] at hMet
  have hCB : CallB room_1 E.s #[Value.ref E.b] R_law i y bytes maxL ret (zz_ws y bytes maxL ret) (zz_rm d') 0 0 n := by
    obtain ⟨h1, h2, h3, h4, h5⟩ := hC.1
    refine callB_of (ws' := zz_tbl) n hts2 (zz_goodIn h3) rfl rfl rfl (hts2 _ h2) (hts2 _ h1) h4 ?_
    show d' + 1 + 1 ≤ 10 ∧ 8 + (maxL + 11) + (40 + 32 * d') ≤ 368
    omega
  exact va_runV (As := As) (rest := st) (n := n) (nL := 4) ⟨hx, hb, hml, hown, hts⟩ hMet ⟨hCB, hts2 _ hC.2.1, hts2 _ hC.2.2.1⟩ ⟨fun a2 U g mk q => ⟨q.1, q.2.1, va_K.moved (u := U) (U := U.calling g mk a2) (Vm.Alike.refl U.vm) q.2.2.1, q.2.2.2⟩, hrv, fun U hU hW => ⟨rfl, by rw [hU]; exact hP, va_K.moved hW.alike hE.2.2.1, zl_D n0⟩⟩ rfl hn hl.1 rfl (lv_room hst) hd ⟨by show 113 + 0 ≤ 600000; omega, by show 1964 + 0 ≤ 7302249; omega⟩
theorem zl_callX {E : LCx} {pc : Nat} {lv : List (Nat × Value)} {st : List Value} {μX μM : ZMem} (hE : zLOk E) {i n d' maxL : Nat} {y : MethodName} {bytes : ByteArray} {ret : Option FieldType} {As st0 : List Value} {Ψ : Option Value → ZMem → Prop} (hd : decode code pc = .ok (.invokevirtual i, 3)) (hC : zz_CV R_law i y bytes maxL ret n 9) (hM : zM SX y bytes maxL ret d' (.ref 0 :: As) μX Ψ) (hA : ∀ (ad : Nat → Nat) v, v ∈ As → zz_tr ad v = v) (hn : As.length = n) (hst : (st.map fun v => v.category).sum ≤ 8) (hdd : d' ≤ 7) (h0 : As.reverse ++ .ref (E.a + 0) :: st = st0) (kk : ∀ r μ', Ψ r μ' → zL E (pc + 3) lv ((r.map (zz_tr (fun k => E.a + k))).toList ++ st) μ' μM) : zL E pc lv st0 μX μM := by
  intro H locs ls hX hM0 hS hl T hT X
  obtain ⟨v, st₀, t, T', L, h00, X', hL, e1, e2, ⟨⟨r, μ', hv, hΨ, hP'⟩, hz, hk⟩, stp⟩ := zl_run (locs := locs) hE (S := SX) (n0 := E.a) (by exact Nat.le_refl _) hd hC hM sX_0 hA hn hst hdd h0 hX hl T hT X
  have hv' : v = r.map (zz_tr (fun k => E.a + k)) := by injection hv
  subst hv'
  rw [h00] at hz hk
  have ha := hE.2.1
  have hA2 : ∀ q, zz_A SX (fun k => E.a + k) q → E.s.heap.size ≤ q := by
    rintro q ⟨k, -, rfl⟩
    show E.s.heap.size ≤ E.a + k
    omega
  have hO : va_P E.D vwCl (zz_wld SM E.cy (zl_M E) μM) T'.heap := by
    refine zl_kept hM0 (fun k hk2 => ?_)
    rw [e1]
    refine hk _ (zl_at_lt hM0 hk2) ?_
    rintro ⟨j, hj, e⟩
    have hj2 : j < 94 := hj
    have hk3 : k < 19 := hk2
    have e' : E.a + 94 + k = E.a + j := e
    omega
  obtain ⟨t2, a1, b1⟩ := kk r μ' hΨ T'.heap (locs ++ L) ls (by rw [e1]; exact hP') hO ⟨Nat.le_trans hS.1 (by rw [e1]; exact hz), fun q h1 h2 => by rw [e1, hk q (Nat.lt_of_lt_of_le h1 hS.1) (fun z => h2 (hA2 q z))]; exact hS.2.1 q h1 h2, fun q hq => by
      rcases List.mem_append.mp hq with h | h
      · exact hS.2.2 q h
      · exact hA2 _ (hL q h)⟩ hl T' rfl X'
  exact ⟨t2, stp t2 a1, b1⟩
theorem zl_callM {E : LCx} {pc : Nat} {lv : List (Nat × Value)} {st : List Value} {μX μM : ZMem} (hE : zLOk E) {i n d' maxL : Nat} {y : MethodName} {bytes : ByteArray} {ret : Option FieldType} {As st0 : List Value} {Ψ : Option Value → ZMem → Prop} (hd : decode code pc = .ok (.invokevirtual i, 3)) (hC : zz_CV R_law i y bytes maxL ret n 10) (hM : zM SM y bytes maxL ret d' (.ref 0 :: As) μM Ψ) (hA : ∀ (ad : Nat → Nat) v, v ∈ As → zz_tr ad v = v) (hn : As.length = n) (hst : (st.map fun v => v.category).sum ≤ 8) (hdd : d' ≤ 7) (h0 : As.reverse ++ .ref ((E.a + 94) + 0) :: st = st0) (kk : ∀ r μ', Ψ r μ' → zL E (pc + 3) lv ((r.map (zz_tr (fun k => (E.a + 94) + k))).toList ++ st) μX μ') : zL E pc lv st0 μX μM := by
  intro H locs ls hX hM0 hS hl T hT X
  obtain ⟨v, st₀, t, T', L, h00, X', hL, e1, e2, ⟨⟨r, μ', hv, hΨ, hP'⟩, hz, hk⟩, stp⟩ := zl_run (locs := locs) hE (S := SM) (n0 := (E.a + 94)) (by omega) hd hC hM sM_0 hA hn hst hdd h0 hM0 hl T hT X
  have hv' : v = r.map (zz_tr (fun k => (E.a + 94) + k)) := by injection hv
  subst hv'
  rw [h00] at hz hk
  have ha := hE.2.1
  have hA2 : ∀ q, zz_A SM (fun k => (E.a + 94) + k) q → E.s.heap.size ≤ q := by
    rintro q ⟨k, -, rfl⟩
    show E.s.heap.size ≤ (E.a + 94) + k
    omega
  have hO : va_P E.D vwCl (zz_wld SX E.cy (zl_X E) μX) T'.heap := by
    refine zl_kept hX (fun k hk2 => ?_)
    rw [e1]
    refine hk _ (zl_at_lt hX hk2) ?_
    rintro ⟨j, hj, e⟩
    have hj2 : j < 19 := hj
    have hk3 : k < 94 := hk2
    have e' : E.a + k = E.a + 94 + j := e
    omega
  obtain ⟨t2, a1, b1⟩ := kk r μ' hΨ T'.heap (locs ++ L) ls hO (by rw [e1]; exact hP') ⟨Nat.le_trans hS.1 (by rw [e1]; exact hz), fun q h1 h2 => by rw [e1, hk q (Nat.lt_of_lt_of_le h1 hS.1) (fun z => h2 (hA2 q z))]; exact hS.2.1 q h1 h2, fun q hq => by
      rcases List.mem_append.mp hq with h | h
      · exact hS.2.2 q h
      · exact hA2 _ (hL q h)⟩ hl T' rfl X'
  exact ⟨t2, stp t2 a1, b1⟩
def zOp_set (Rel : ZMem → ZMem → Prop) : Prop := ∀ μX μM : ZMem, Rel μX μM → ∀ (a1 : Int32) (a2 : Int32) (a3 : Int32), w_X11_set a1 a2 a3 μX (fun (r : Int64) (μX1 : ZMem) => w_X12_set a1 a2 a3 μM (fun (r2 : Int64) (μM1 : ZMem) => r = r2 ∧ Rel μX1 μM1))
theorem lc_0 {E : LCx} (hE : zLOk E) {Rel : ZMem → ZMem → Prop} (hop : zOp_set Rel) {x3 : Int32} {μX μM : ZMem} (hR : Rel μX μM) (h1 : vp_in (x3 + 1) E.L) (h2 : vp_in (x3 + 2) E.L) (h3 : vp_in (x3 + 3) E.L) (h4 : vp_in (x3 + 4) E.L) (h5 : vp_in (x3 + 5) E.L) (kk : ∀ μX1 μM1, Rel μX1 μM1 → zL E 1542 [(3, .int x3), (2, .ref (E.a + 94 + 0)), (1, .ref (E.a + 0)), (0, .ref E.b)] [] μX1 μM1) : zL E 224 [(3, .int x3), (2, .ref (E.a + 94 + 0)), (1, .ref (E.a + 0)), (0, .ref E.b)] [] μX μM := by
  refine zl_aload_n hE dL_law_224 rfl 2 rfl ?_
  refine zl_aload_n hE dL_law_225 rfl 3 rfl ?_
  refine zl_iload_n hE dL_law_226 rfl 0 rfl ?_
  refine zl_iconst (v := 1) hE dL_law_227 (by decide) ?_
  refine zl_iadd hE dL_law_228 ?_
  refine zl_sld hE dL_law_229 h1 ?_
  refine zl_aload_n hE dL_law_230 rfl 3 rfl ?_
  refine zl_iload_n hE dL_law_231 rfl 0 rfl ?_
  refine zl_iconst (v := 2) hE dL_law_232 (by decide) ?_
  refine zl_iadd hE dL_law_233 ?_
  refine zl_sld hE dL_law_234 h2 ?_
  refine zl_aload_n hE dL_law_235 rfl 3 rfl ?_
  refine zl_iload_n hE dL_law_236 rfl 0 rfl ?_
  refine zl_iconst (v := 3) hE dL_law_237 (by decide) ?_
  refine zl_iadd hE dL_law_238 ?_
  refine zl_sld hE dL_law_239 h3 ?_
  have h := hop μX μM hR (E.xs (x3 + 1).toNatClampNeg) (E.xs (x3 + 2).toNatClampNeg) (E.xs (x3 + 3).toNatClampNeg)
  refine zl_callX hE dL_law_240 lV_L_13 (c_X11_set _ _ _ μX _ h) (fun ad v hv => by simp at hv; try (rcases hv with rfl | rfl | rfl | rfl | rfl <;> rfl); try (rcases hv with rfl | rfl | rfl | rfl <;> rfl); try (rcases hv with rfl | rfl | rfl <;> rfl); try (rcases hv with rfl | rfl <;> rfl); try (subst hv; rfl)) rfl (Nat.le_of_ble_eq_true rfl) (by decide) rfl (fun _ μX1 h => ?_)
  obtain ⟨r1, rfl, h⟩ := h
  refine zl_aload_n hE dL_law_243 rfl 1 rfl ?_
  refine zl_aload_n hE dL_law_244 rfl 3 rfl ?_
  refine zl_iload_n hE dL_law_245 rfl 0 rfl ?_
  refine zl_iconst (v := 1) hE dL_law_246 (by decide) ?_
  refine zl_iadd hE dL_law_247 ?_
  refine zl_sld hE dL_law_248 h1 ?_
  refine zl_aload_n hE dL_law_249 rfl 3 rfl ?_
  refine zl_iload_n hE dL_law_250 rfl 0 rfl ?_
  refine zl_iconst (v := 2) hE dL_law_251 (by decide) ?_
  refine zl_iadd hE dL_law_252 ?_
  refine zl_sld hE dL_law_253 h2 ?_
  refine zl_aload_n hE dL_law_254 rfl 3 rfl ?_
  refine zl_iload_n hE dL_law_255 rfl 0 rfl ?_
  refine zl_iconst (v := 3) hE dL_law_256 (by decide) ?_
  refine zl_iadd hE dL_law_257 ?_
  refine zl_sld hE dL_law_258 h3 ?_
  refine zl_callM hE dL_law_259 lV_L_17 (c_X12_set _ _ _ μM _ h) (fun ad v hv => by simp at hv; try (rcases hv with rfl | rfl | rfl | rfl | rfl <;> rfl); try (rcases hv with rfl | rfl | rfl | rfl <;> rfl); try (rcases hv with rfl | rfl | rfl <;> rfl); try (rcases hv with rfl | rfl <;> rfl); try (subst hv; rfl)) rfl (Nat.le_of_ble_eq_true rfl) (by decide) rfl (fun _ μM1 h => ?_)
  obtain ⟨r2, rfl, h⟩ := h
  refine zl_eqJ (tgt := 1542) hE dL_law_262 dL_law_263 (by decide) h.1 ?_
  exact kk _ _ h.2
def zOp_of (Rel : ZMem → ZMem → Prop) : Prop := ∀ μX μM : ZMem, Rel μX μM → ∀ (a1 : Int32) (a2 : Int32), w_X11_of a1 a2 μX (fun (r : Int64) (μX1 : ZMem) => w_X12_of a1 a2 μM (fun (r2 : Int64) (μM1 : ZMem) => r = r2 ∧ Rel μX1 μM1))
theorem lc_1 {E : LCx} (hE : zLOk E) {Rel : ZMem → ZMem → Prop} (hop : zOp_of Rel) {x3 : Int32} {μX μM : ZMem} (hR : Rel μX μM) (h1 : vp_in (x3 + 1) E.L) (h2 : vp_in (x3 + 2) E.L) (h3 : vp_in (x3 + 3) E.L) (h4 : vp_in (x3 + 4) E.L) (h5 : vp_in (x3 + 5) E.L) (kk : ∀ μX1 μM1, Rel μX1 μM1 → zL E 1542 [(3, .int x3), (2, .ref (E.a + 94 + 0)), (1, .ref (E.a + 0)), (0, .ref E.b)] [] μX1 μM1) : zL E 268 [(3, .int x3), (2, .ref (E.a + 94 + 0)), (1, .ref (E.a + 0)), (0, .ref E.b)] [] μX μM := by
  refine zl_aload_n hE dL_law_268 rfl 2 rfl ?_
  refine zl_aload_n hE dL_law_269 rfl 3 rfl ?_
  refine zl_iload_n hE dL_law_270 rfl 0 rfl ?_
  refine zl_iconst (v := 1) hE dL_law_271 (by decide) ?_
  refine zl_iadd hE dL_law_272 ?_
  refine zl_sld hE dL_law_273 h1 ?_
  refine zl_aload_n hE dL_law_274 rfl 3 rfl ?_
  refine zl_iload_n hE dL_law_275 rfl 0 rfl ?_
  refine zl_iconst (v := 2) hE dL_law_276 (by decide) ?_
  refine zl_iadd hE dL_law_277 ?_
  refine zl_sld hE dL_law_278 h2 ?_
  have h := hop μX μM hR (E.xs (x3 + 1).toNatClampNeg) (E.xs (x3 + 2).toNatClampNeg)
  refine zl_callX hE dL_law_279 lV_L_18 (c_X11_of _ _ μX _ h) (fun ad v hv => by simp at hv; try (rcases hv with rfl | rfl | rfl | rfl | rfl <;> rfl); try (rcases hv with rfl | rfl | rfl | rfl <;> rfl); try (rcases hv with rfl | rfl | rfl <;> rfl); try (rcases hv with rfl | rfl <;> rfl); try (subst hv; rfl)) rfl (Nat.le_of_ble_eq_true rfl) (by decide) rfl (fun _ μX1 h => ?_)
  obtain ⟨r1, rfl, h⟩ := h
  refine zl_aload_n hE dL_law_282 rfl 1 rfl ?_
  refine zl_aload_n hE dL_law_283 rfl 3 rfl ?_
  refine zl_iload_n hE dL_law_284 rfl 0 rfl ?_
  refine zl_iconst (v := 1) hE dL_law_285 (by decide) ?_
  refine zl_iadd hE dL_law_286 ?_
  refine zl_sld hE dL_law_287 h1 ?_
  refine zl_aload_n hE dL_law_288 rfl 3 rfl ?_
  refine zl_iload_n hE dL_law_289 rfl 0 rfl ?_
  refine zl_iconst (v := 2) hE dL_law_290 (by decide) ?_
  refine zl_iadd hE dL_law_291 ?_
  refine zl_sld hE dL_law_292 h2 ?_
  refine zl_callM hE dL_law_293 lV_L_22 (c_X12_of _ _ μM _ h) (fun ad v hv => by simp at hv; try (rcases hv with rfl | rfl | rfl | rfl | rfl <;> rfl); try (rcases hv with rfl | rfl | rfl | rfl <;> rfl); try (rcases hv with rfl | rfl | rfl <;> rfl); try (rcases hv with rfl | rfl <;> rfl); try (subst hv; rfl)) rfl (Nat.le_of_ble_eq_true rfl) (by decide) rfl (fun _ μM1 h => ?_)
  obtain ⟨r2, rfl, h⟩ := h
  refine zl_eqJ (tgt := 1542) hE dL_law_296 dL_law_297 (by decide) h.1 ?_
  exact kk _ _ h.2
def zOp_gain (Rel : ZMem → ZMem → Prop) : Prop := ∀ μX μM : ZMem, Rel μX μM → ∀ (a1 : Int32), w_X11_gain a1 μX (fun (r : Int32) (μX1 : ZMem) => w_X12_gain a1 μM (fun (r2 : Int32) (μM1 : ZMem) => r = r2 ∧ Rel μX1 μM1))
theorem lc_2 {E : LCx} (hE : zLOk E) {Rel : ZMem → ZMem → Prop} (hop : zOp_gain Rel) {x3 : Int32} {μX μM : ZMem} (hR : Rel μX μM) (h1 : vp_in (x3 + 1) E.L) (h2 : vp_in (x3 + 2) E.L) (h3 : vp_in (x3 + 3) E.L) (h4 : vp_in (x3 + 4) E.L) (h5 : vp_in (x3 + 5) E.L) (kk : ∀ μX1 μM1, Rel μX1 μM1 → zL E 1542 [(3, .int x3), (2, .ref (E.a + 94 + 0)), (1, .ref (E.a + 0)), (0, .ref E.b)] [] μX1 μM1) : zL E 302 [(3, .int x3), (2, .ref (E.a + 94 + 0)), (1, .ref (E.a + 0)), (0, .ref E.b)] [] μX μM := by
  refine zl_aload_n hE dL_law_302 rfl 2 rfl ?_
  refine zl_aload_n hE dL_law_303 rfl 3 rfl ?_
  refine zl_iload_n hE dL_law_304 rfl 0 rfl ?_
  refine zl_iconst (v := 1) hE dL_law_305 (by decide) ?_
  refine zl_iadd hE dL_law_306 ?_
  refine zl_sld hE dL_law_307 h1 ?_
  have h := hop μX μM hR (E.xs (x3 + 1).toNatClampNeg)
  refine zl_callX hE dL_law_308 lV_L_23 (c_X11_gain _ μX _ h) (fun ad v hv => by simp at hv; try (rcases hv with rfl | rfl | rfl | rfl | rfl <;> rfl); try (rcases hv with rfl | rfl | rfl | rfl <;> rfl); try (rcases hv with rfl | rfl | rfl <;> rfl); try (rcases hv with rfl | rfl <;> rfl); try (subst hv; rfl)) rfl (Nat.le_of_ble_eq_true rfl) (by decide) rfl (fun _ μX1 h => ?_)
  obtain ⟨r1, rfl, h⟩ := h
  refine zl_aload_n hE dL_law_311 rfl 1 rfl ?_
  refine zl_aload_n hE dL_law_312 rfl 3 rfl ?_
  refine zl_iload_n hE dL_law_313 rfl 0 rfl ?_
  refine zl_iconst (v := 1) hE dL_law_314 (by decide) ?_
  refine zl_iadd hE dL_law_315 ?_
  refine zl_sld hE dL_law_316 h1 ?_
  refine zl_callM hE dL_law_317 lV_L_27 (c_X12_gain _ μM _ h) (fun ad v hv => by simp at hv; try (rcases hv with rfl | rfl | rfl | rfl | rfl <;> rfl); try (rcases hv with rfl | rfl | rfl | rfl <;> rfl); try (rcases hv with rfl | rfl | rfl <;> rfl); try (rcases hv with rfl | rfl <;> rfl); try (subst hv; rfl)) rfl (Nat.le_of_ble_eq_true rfl) (by decide) rfl (fun _ μM1 h => ?_)
  obtain ⟨r2, rfl, h⟩ := h
  refine zl_eqI (tgt := 1542) hE dL_law_320 (by decide) h.1 ?_
  exact kk _ _ h.2
def zOp_feed (Rel : ZMem → ZMem → Prop) : Prop := ∀ μX μM : ZMem, Rel μX μM → ∀ (a1 : Int32), w_X11_feed a1 μX (fun (r : Int32) (μX1 : ZMem) => w_X12_feed a1 μM (fun (r2 : Int32) (μM1 : ZMem) => r = r2 ∧ Rel μX1 μM1))
theorem lc_3 {E : LCx} (hE : zLOk E) {Rel : ZMem → ZMem → Prop} (hop : zOp_feed Rel) {x3 : Int32} {μX μM : ZMem} (hR : Rel μX μM) (h1 : vp_in (x3 + 1) E.L) (h2 : vp_in (x3 + 2) E.L) (h3 : vp_in (x3 + 3) E.L) (h4 : vp_in (x3 + 4) E.L) (h5 : vp_in (x3 + 5) E.L) (kk : ∀ μX1 μM1, Rel μX1 μM1 → zL E 1542 [(3, .int x3), (2, .ref (E.a + 94 + 0)), (1, .ref (E.a + 0)), (0, .ref E.b)] [] μX1 μM1) : zL E 325 [(3, .int x3), (2, .ref (E.a + 94 + 0)), (1, .ref (E.a + 0)), (0, .ref E.b)] [] μX μM := by
  refine zl_aload_n hE dL_law_325 rfl 2 rfl ?_
  refine zl_aload_n hE dL_law_326 rfl 3 rfl ?_
  refine zl_iload_n hE dL_law_327 rfl 0 rfl ?_
  refine zl_iconst (v := 1) hE dL_law_328 (by decide) ?_
  refine zl_iadd hE dL_law_329 ?_
  refine zl_sld hE dL_law_330 h1 ?_
  have h := hop μX μM hR (E.xs (x3 + 1).toNatClampNeg)
  refine zl_callX hE dL_law_331 lV_L_28 (c_X11_feed _ μX _ h) (fun ad v hv => by simp at hv; try (rcases hv with rfl | rfl | rfl | rfl | rfl <;> rfl); try (rcases hv with rfl | rfl | rfl | rfl <;> rfl); try (rcases hv with rfl | rfl | rfl <;> rfl); try (rcases hv with rfl | rfl <;> rfl); try (subst hv; rfl)) rfl (Nat.le_of_ble_eq_true rfl) (by decide) rfl (fun _ μX1 h => ?_)
  obtain ⟨r1, rfl, h⟩ := h
  refine zl_aload_n hE dL_law_334 rfl 1 rfl ?_
  refine zl_aload_n hE dL_law_335 rfl 3 rfl ?_
  refine zl_iload_n hE dL_law_336 rfl 0 rfl ?_
  refine zl_iconst (v := 1) hE dL_law_337 (by decide) ?_
  refine zl_iadd hE dL_law_338 ?_
  refine zl_sld hE dL_law_339 h1 ?_
  refine zl_callM hE dL_law_340 lV_L_31 (c_X12_feed _ μM _ h) (fun ad v hv => by simp at hv; try (rcases hv with rfl | rfl | rfl | rfl | rfl <;> rfl); try (rcases hv with rfl | rfl | rfl | rfl <;> rfl); try (rcases hv with rfl | rfl | rfl <;> rfl); try (rcases hv with rfl | rfl <;> rfl); try (subst hv; rfl)) rfl (Nat.le_of_ble_eq_true rfl) (by decide) rfl (fun _ μM1 h => ?_)
  obtain ⟨r2, rfl, h⟩ := h
  refine zl_eqI (tgt := 1542) hE dL_law_343 (by decide) h.1 ?_
  exact kk _ _ h.2
def zOp_read (Rel : ZMem → ZMem → Prop) : Prop := ∀ μX μM : ZMem, Rel μX μM → w_X11_read μX (fun (r : Int32) (μX1 : ZMem) => w_X12_read μM (fun (r2 : Int32) (μM1 : ZMem) => r = r2 ∧ Rel μX1 μM1))
theorem lc_4 {E : LCx} (hE : zLOk E) {Rel : ZMem → ZMem → Prop} (hop : zOp_read Rel) {x3 : Int32} {μX μM : ZMem} (hR : Rel μX μM) (h1 : vp_in (x3 + 1) E.L) (h2 : vp_in (x3 + 2) E.L) (h3 : vp_in (x3 + 3) E.L) (h4 : vp_in (x3 + 4) E.L) (h5 : vp_in (x3 + 5) E.L) (kk : ∀ μX1 μM1, Rel μX1 μM1 → zL E 1542 [(3, .int x3), (2, .ref (E.a + 94 + 0)), (1, .ref (E.a + 0)), (0, .ref E.b)] [] μX1 μM1) : zL E 348 [(3, .int x3), (2, .ref (E.a + 94 + 0)), (1, .ref (E.a + 0)), (0, .ref E.b)] [] μX μM := by
  refine zl_aload_n hE dL_law_348 rfl 2 rfl ?_
  have h := hop μX μM hR 
  refine zl_callX hE dL_law_349 lV_L_32 (c_X11_read  μX _ h) (fun ad v hv => by simp at hv; try (rcases hv with rfl | rfl | rfl | rfl | rfl <;> rfl); try (rcases hv with rfl | rfl | rfl | rfl <;> rfl); try (rcases hv with rfl | rfl | rfl <;> rfl); try (rcases hv with rfl | rfl <;> rfl); try (subst hv; rfl)) rfl (Nat.le_of_ble_eq_true rfl) (by decide) rfl (fun _ μX1 h => ?_)
  obtain ⟨r1, rfl, h⟩ := h
  refine zl_aload_n hE dL_law_352 rfl 1 rfl ?_
  refine zl_callM hE dL_law_353 lV_L_36 (c_X12_read  μM _ h) (fun ad v hv => by simp at hv; try (rcases hv with rfl | rfl | rfl | rfl | rfl <;> rfl); try (rcases hv with rfl | rfl | rfl | rfl <;> rfl); try (rcases hv with rfl | rfl | rfl <;> rfl); try (rcases hv with rfl | rfl <;> rfl); try (subst hv; rfl)) rfl (Nat.le_of_ble_eq_true rfl) (by decide) rfl (fun _ μM1 h => ?_)
  obtain ⟨r2, rfl, h⟩ := h
  refine zl_eqI (tgt := 1542) hE dL_law_356 (by decide) h.1 ?_
  exact kk _ _ h.2
def zOp_form (Rel : ZMem → ZMem → Prop) : Prop := ∀ μX μM : ZMem, Rel μX μM → ∀ (a1 : Int32) (a2 : Int32), w_X11_form a1 a2 μX (fun (r : Int64) (μX1 : ZMem) => w_X12_form a1 a2 μM (fun (r2 : Int64) (μM1 : ZMem) => r = r2 ∧ Rel μX1 μM1))
theorem lc_5 {E : LCx} (hE : zLOk E) {Rel : ZMem → ZMem → Prop} (hop : zOp_form Rel) {x3 : Int32} {μX μM : ZMem} (hR : Rel μX μM) (h1 : vp_in (x3 + 1) E.L) (h2 : vp_in (x3 + 2) E.L) (h3 : vp_in (x3 + 3) E.L) (h4 : vp_in (x3 + 4) E.L) (h5 : vp_in (x3 + 5) E.L) (kk : ∀ μX1 μM1, Rel μX1 μM1 → zL E 1542 [(3, .int x3), (2, .ref (E.a + 94 + 0)), (1, .ref (E.a + 0)), (0, .ref E.b)] [] μX1 μM1) : zL E 361 [(3, .int x3), (2, .ref (E.a + 94 + 0)), (1, .ref (E.a + 0)), (0, .ref E.b)] [] μX μM := by
  refine zl_aload_n hE dL_law_361 rfl 2 rfl ?_
  refine zl_aload_n hE dL_law_362 rfl 3 rfl ?_
  refine zl_iload_n hE dL_law_363 rfl 0 rfl ?_
  refine zl_iconst (v := 1) hE dL_law_364 (by decide) ?_
  refine zl_iadd hE dL_law_365 ?_
  refine zl_sld hE dL_law_366 h1 ?_
  refine zl_aload_n hE dL_law_367 rfl 3 rfl ?_
  refine zl_iload_n hE dL_law_368 rfl 0 rfl ?_
  refine zl_iconst (v := 2) hE dL_law_369 (by decide) ?_
  refine zl_iadd hE dL_law_370 ?_
  refine zl_sld hE dL_law_371 h2 ?_
  have h := hop μX μM hR (E.xs (x3 + 1).toNatClampNeg) (E.xs (x3 + 2).toNatClampNeg)
  refine zl_callX hE dL_law_372 lV_L_37 (c_X11_form _ _ μX _ h) (fun ad v hv => by simp at hv; try (rcases hv with rfl | rfl | rfl | rfl | rfl <;> rfl); try (rcases hv with rfl | rfl | rfl | rfl <;> rfl); try (rcases hv with rfl | rfl | rfl <;> rfl); try (rcases hv with rfl | rfl <;> rfl); try (subst hv; rfl)) rfl (Nat.le_of_ble_eq_true rfl) (by decide) rfl (fun _ μX1 h => ?_)
  obtain ⟨r1, rfl, h⟩ := h
  refine zl_aload_n hE dL_law_375 rfl 1 rfl ?_
  refine zl_aload_n hE dL_law_376 rfl 3 rfl ?_
  refine zl_iload_n hE dL_law_377 rfl 0 rfl ?_
  refine zl_iconst (v := 1) hE dL_law_378 (by decide) ?_
  refine zl_iadd hE dL_law_379 ?_
  refine zl_sld hE dL_law_380 h1 ?_
  refine zl_aload_n hE dL_law_381 rfl 3 rfl ?_
  refine zl_iload_n hE dL_law_382 rfl 0 rfl ?_
  refine zl_iconst (v := 2) hE dL_law_383 (by decide) ?_
  refine zl_iadd hE dL_law_384 ?_
  refine zl_sld hE dL_law_385 h2 ?_
  refine zl_callM hE dL_law_386 lV_L_40 (c_X12_form _ _ μM _ h) (fun ad v hv => by simp at hv; try (rcases hv with rfl | rfl | rfl | rfl | rfl <;> rfl); try (rcases hv with rfl | rfl | rfl | rfl <;> rfl); try (rcases hv with rfl | rfl | rfl <;> rfl); try (rcases hv with rfl | rfl <;> rfl); try (subst hv; rfl)) rfl (Nat.le_of_ble_eq_true rfl) (by decide) rfl (fun _ μM1 h => ?_)
  obtain ⟨r2, rfl, h⟩ := h
  refine zl_eqJ (tgt := 1542) hE dL_law_389 dL_law_390 (by decide) h.1 ?_
  exact kk _ _ h.2
def zOp_degree (Rel : ZMem → ZMem → Prop) : Prop := ∀ μX μM : ZMem, Rel μX μM → ∀ (a1 : Int32) (a2 : Int32), w_X11_degree a1 a2 μX (fun (r : Int32) (μX1 : ZMem) => w_X12_degree a1 a2 μM (fun (r2 : Int32) (μM1 : ZMem) => r = r2 ∧ Rel μX1 μM1))
theorem lc_6 {E : LCx} (hE : zLOk E) {Rel : ZMem → ZMem → Prop} (hop : zOp_degree Rel) {x3 : Int32} {μX μM : ZMem} (hR : Rel μX μM) (h1 : vp_in (x3 + 1) E.L) (h2 : vp_in (x3 + 2) E.L) (h3 : vp_in (x3 + 3) E.L) (h4 : vp_in (x3 + 4) E.L) (h5 : vp_in (x3 + 5) E.L) (kk : ∀ μX1 μM1, Rel μX1 μM1 → zL E 1542 [(3, .int x3), (2, .ref (E.a + 94 + 0)), (1, .ref (E.a + 0)), (0, .ref E.b)] [] μX1 μM1) : zL E 395 [(3, .int x3), (2, .ref (E.a + 94 + 0)), (1, .ref (E.a + 0)), (0, .ref E.b)] [] μX μM := by
  refine zl_aload_n hE dL_law_395 rfl 2 rfl ?_
  refine zl_aload_n hE dL_law_396 rfl 3 rfl ?_
  refine zl_iload_n hE dL_law_397 rfl 0 rfl ?_
  refine zl_iconst (v := 1) hE dL_law_398 (by decide) ?_
  refine zl_iadd hE dL_law_399 ?_
  refine zl_sld hE dL_law_400 h1 ?_
  refine zl_aload_n hE dL_law_401 rfl 3 rfl ?_
  refine zl_iload_n hE dL_law_402 rfl 0 rfl ?_
  refine zl_iconst (v := 2) hE dL_law_403 (by decide) ?_
  refine zl_iadd hE dL_law_404 ?_
  refine zl_sld hE dL_law_405 h2 ?_
  have h := hop μX μM hR (E.xs (x3 + 1).toNatClampNeg) (E.xs (x3 + 2).toNatClampNeg)
  refine zl_callX hE dL_law_406 lV_L_41 (c_X11_degree _ _ μX _ h) (fun ad v hv => by simp at hv; try (rcases hv with rfl | rfl | rfl | rfl | rfl <;> rfl); try (rcases hv with rfl | rfl | rfl | rfl <;> rfl); try (rcases hv with rfl | rfl | rfl <;> rfl); try (rcases hv with rfl | rfl <;> rfl); try (subst hv; rfl)) rfl (Nat.le_of_ble_eq_true rfl) (by decide) rfl (fun _ μX1 h => ?_)
  obtain ⟨r1, rfl, h⟩ := h
  refine zl_aload_n hE dL_law_409 rfl 1 rfl ?_
  refine zl_aload_n hE dL_law_410 rfl 3 rfl ?_
  refine zl_iload_n hE dL_law_411 rfl 0 rfl ?_
  refine zl_iconst (v := 1) hE dL_law_412 (by decide) ?_
  refine zl_iadd hE dL_law_413 ?_
  refine zl_sld hE dL_law_414 h1 ?_
  refine zl_aload_n hE dL_law_415 rfl 3 rfl ?_
  refine zl_iload_n hE dL_law_416 rfl 0 rfl ?_
  refine zl_iconst (v := 2) hE dL_law_417 (by decide) ?_
  refine zl_iadd hE dL_law_418 ?_
  refine zl_sld hE dL_law_419 h2 ?_
  refine zl_callM hE dL_law_420 lV_L_45 (c_X12_degree _ _ μM _ h) (fun ad v hv => by simp at hv; try (rcases hv with rfl | rfl | rfl | rfl | rfl <;> rfl); try (rcases hv with rfl | rfl | rfl | rfl <;> rfl); try (rcases hv with rfl | rfl | rfl <;> rfl); try (rcases hv with rfl | rfl <;> rfl); try (subst hv; rfl)) rfl (Nat.le_of_ble_eq_true rfl) (by decide) rfl (fun _ μM1 h => ?_)
  obtain ⟨r2, rfl, h⟩ := h
  refine zl_eqI (tgt := 1542) hE dL_law_423 (by decide) h.1 ?_
  exact kk _ _ h.2
def zOp_row (Rel : ZMem → ZMem → Prop) : Prop := ∀ μX μM : ZMem, Rel μX μM → ∀ (a1 : Int32) (a2 : Int32) (a3 : Int32), w_X11_row a1 a2 a3 μX (fun (r : Int64) (μX1 : ZMem) => w_X12_row a1 a2 a3 μM (fun (r2 : Int64) (μM1 : ZMem) => r = r2 ∧ Rel μX1 μM1))
theorem lc_7 {E : LCx} (hE : zLOk E) {Rel : ZMem → ZMem → Prop} (hop : zOp_row Rel) {x3 : Int32} {μX μM : ZMem} (hR : Rel μX μM) (h1 : vp_in (x3 + 1) E.L) (h2 : vp_in (x3 + 2) E.L) (h3 : vp_in (x3 + 3) E.L) (h4 : vp_in (x3 + 4) E.L) (h5 : vp_in (x3 + 5) E.L) (kk : ∀ μX1 μM1, Rel μX1 μM1 → zL E 1542 [(3, .int x3), (2, .ref (E.a + 94 + 0)), (1, .ref (E.a + 0)), (0, .ref E.b)] [] μX1 μM1) : zL E 428 [(3, .int x3), (2, .ref (E.a + 94 + 0)), (1, .ref (E.a + 0)), (0, .ref E.b)] [] μX μM := by
  refine zl_aload_n hE dL_law_428 rfl 2 rfl ?_
  refine zl_aload_n hE dL_law_429 rfl 3 rfl ?_
  refine zl_iload_n hE dL_law_430 rfl 0 rfl ?_
  refine zl_iconst (v := 1) hE dL_law_431 (by decide) ?_
  refine zl_iadd hE dL_law_432 ?_
  refine zl_sld hE dL_law_433 h1 ?_
  refine zl_aload_n hE dL_law_434 rfl 3 rfl ?_
  refine zl_iload_n hE dL_law_435 rfl 0 rfl ?_
  refine zl_iconst (v := 2) hE dL_law_436 (by decide) ?_
  refine zl_iadd hE dL_law_437 ?_
  refine zl_sld hE dL_law_438 h2 ?_
  refine zl_aload_n hE dL_law_439 rfl 3 rfl ?_
  refine zl_iload_n hE dL_law_440 rfl 0 rfl ?_
  refine zl_iconst (v := 3) hE dL_law_441 (by decide) ?_
  refine zl_iadd hE dL_law_442 ?_
  refine zl_sld hE dL_law_443 h3 ?_
  have h := hop μX μM hR (E.xs (x3 + 1).toNatClampNeg) (E.xs (x3 + 2).toNatClampNeg) (E.xs (x3 + 3).toNatClampNeg)
  refine zl_callX hE dL_law_444 lV_L_46 (c_X11_row _ _ _ μX _ h) (fun ad v hv => by simp at hv; try (rcases hv with rfl | rfl | rfl | rfl | rfl <;> rfl); try (rcases hv with rfl | rfl | rfl | rfl <;> rfl); try (rcases hv with rfl | rfl | rfl <;> rfl); try (rcases hv with rfl | rfl <;> rfl); try (subst hv; rfl)) rfl (Nat.le_of_ble_eq_true rfl) (by decide) rfl (fun _ μX1 h => ?_)
  obtain ⟨r1, rfl, h⟩ := h
  refine zl_aload_n hE dL_law_447 rfl 1 rfl ?_
  refine zl_aload_n hE dL_law_448 rfl 3 rfl ?_
  refine zl_iload_n hE dL_law_449 rfl 0 rfl ?_
  refine zl_iconst (v := 1) hE dL_law_450 (by decide) ?_
  refine zl_iadd hE dL_law_451 ?_
  refine zl_sld hE dL_law_452 h1 ?_
  refine zl_aload_n hE dL_law_453 rfl 3 rfl ?_
  refine zl_iload_n hE dL_law_454 rfl 0 rfl ?_
  refine zl_iconst (v := 2) hE dL_law_455 (by decide) ?_
  refine zl_iadd hE dL_law_456 ?_
  refine zl_sld hE dL_law_457 h2 ?_
  refine zl_aload_n hE dL_law_458 rfl 3 rfl ?_
  refine zl_iload_n hE dL_law_459 rfl 0 rfl ?_
  refine zl_iconst (v := 3) hE dL_law_460 (by decide) ?_
  refine zl_iadd hE dL_law_461 ?_
  refine zl_sld hE dL_law_462 h3 ?_
  refine zl_callM hE dL_law_463 lV_L_49 (c_X12_row _ _ _ μM _ h) (fun ad v hv => by simp at hv; try (rcases hv with rfl | rfl | rfl | rfl | rfl <;> rfl); try (rcases hv with rfl | rfl | rfl | rfl <;> rfl); try (rcases hv with rfl | rfl | rfl <;> rfl); try (rcases hv with rfl | rfl <;> rfl); try (subst hv; rfl)) rfl (Nat.le_of_ble_eq_true rfl) (by decide) rfl (fun _ μM1 h => ?_)
  obtain ⟨r2, rfl, h⟩ := h
  refine zl_eqJ (tgt := 1542) hE dL_law_466 dL_law_467 (by decide) h.1 ?_
  exact kk _ _ h.2
def zOp_caseOf (Rel : ZMem → ZMem → Prop) : Prop := ∀ μX μM : ZMem, Rel μX μM → ∀ (a1 : Int32) (a2 : Int32), w_X11_caseOf a1 a2 μX (fun (r : Int32) (μX1 : ZMem) => w_X12_caseOf a1 a2 μM (fun (r2 : Int32) (μM1 : ZMem) => r = r2 ∧ Rel μX1 μM1))
theorem lc_8 {E : LCx} (hE : zLOk E) {Rel : ZMem → ZMem → Prop} (hop : zOp_caseOf Rel) {x3 : Int32} {μX μM : ZMem} (hR : Rel μX μM) (h1 : vp_in (x3 + 1) E.L) (h2 : vp_in (x3 + 2) E.L) (h3 : vp_in (x3 + 3) E.L) (h4 : vp_in (x3 + 4) E.L) (h5 : vp_in (x3 + 5) E.L) (kk : ∀ μX1 μM1, Rel μX1 μM1 → zL E 1542 [(3, .int x3), (2, .ref (E.a + 94 + 0)), (1, .ref (E.a + 0)), (0, .ref E.b)] [] μX1 μM1) : zL E 472 [(3, .int x3), (2, .ref (E.a + 94 + 0)), (1, .ref (E.a + 0)), (0, .ref E.b)] [] μX μM := by
  refine zl_aload_n hE dL_law_472 rfl 2 rfl ?_
  refine zl_aload_n hE dL_law_473 rfl 3 rfl ?_
  refine zl_iload_n hE dL_law_474 rfl 0 rfl ?_
  refine zl_iconst (v := 1) hE dL_law_475 (by decide) ?_
  refine zl_iadd hE dL_law_476 ?_
  refine zl_sld hE dL_law_477 h1 ?_
  refine zl_aload_n hE dL_law_478 rfl 3 rfl ?_
  refine zl_iload_n hE dL_law_479 rfl 0 rfl ?_
  refine zl_iconst (v := 2) hE dL_law_480 (by decide) ?_
  refine zl_iadd hE dL_law_481 ?_
  refine zl_sld hE dL_law_482 h2 ?_
  have h := hop μX μM hR (E.xs (x3 + 1).toNatClampNeg) (E.xs (x3 + 2).toNatClampNeg)
  refine zl_callX hE dL_law_483 lV_L_50 (c_X11_caseOf _ _ μX _ h) (fun ad v hv => by simp at hv; try (rcases hv with rfl | rfl | rfl | rfl | rfl <;> rfl); try (rcases hv with rfl | rfl | rfl | rfl <;> rfl); try (rcases hv with rfl | rfl | rfl <;> rfl); try (rcases hv with rfl | rfl <;> rfl); try (subst hv; rfl)) rfl (Nat.le_of_ble_eq_true rfl) (by decide) rfl (fun _ μX1 h => ?_)
  obtain ⟨r1, rfl, h⟩ := h
  refine zl_aload_n hE dL_law_486 rfl 1 rfl ?_
  refine zl_aload_n hE dL_law_487 rfl 3 rfl ?_
  refine zl_iload_n hE dL_law_488 rfl 0 rfl ?_
  refine zl_iconst (v := 1) hE dL_law_489 (by decide) ?_
  refine zl_iadd hE dL_law_490 ?_
  refine zl_sld hE dL_law_491 h1 ?_
  refine zl_aload_n hE dL_law_492 rfl 3 rfl ?_
  refine zl_iload_n hE dL_law_493 rfl 0 rfl ?_
  refine zl_iconst (v := 2) hE dL_law_494 (by decide) ?_
  refine zl_iadd hE dL_law_495 ?_
  refine zl_sld hE dL_law_496 h2 ?_
  refine zl_callM hE dL_law_497 lV_L_53 (c_X12_caseOf _ _ μM _ h) (fun ad v hv => by simp at hv; try (rcases hv with rfl | rfl | rfl | rfl | rfl <;> rfl); try (rcases hv with rfl | rfl | rfl | rfl <;> rfl); try (rcases hv with rfl | rfl | rfl <;> rfl); try (rcases hv with rfl | rfl <;> rfl); try (subst hv; rfl)) rfl (Nat.le_of_ble_eq_true rfl) (by decide) rfl (fun _ μM1 h => ?_)
  obtain ⟨r2, rfl, h⟩ := h
  refine zl_eqI (tgt := 1542) hE dL_law_500 (by decide) h.1 ?_
  exact kk _ _ h.2
def zOp_roots (Rel : ZMem → ZMem → Prop) : Prop := ∀ μX μM : ZMem, Rel μX μM → ∀ (a1 : Int32) (a2 : Int32), w_X11_roots a1 a2 μX (fun (r : Int32) (μX1 : ZMem) => w_X12_roots a1 a2 μM (fun (r2 : Int32) (μM1 : ZMem) => r = r2 ∧ Rel μX1 μM1))
theorem lc_9 {E : LCx} (hE : zLOk E) {Rel : ZMem → ZMem → Prop} (hop : zOp_roots Rel) {x3 : Int32} {μX μM : ZMem} (hR : Rel μX μM) (h1 : vp_in (x3 + 1) E.L) (h2 : vp_in (x3 + 2) E.L) (h3 : vp_in (x3 + 3) E.L) (h4 : vp_in (x3 + 4) E.L) (h5 : vp_in (x3 + 5) E.L) (kk : ∀ μX1 μM1, Rel μX1 μM1 → zL E 1542 [(3, .int x3), (2, .ref (E.a + 94 + 0)), (1, .ref (E.a + 0)), (0, .ref E.b)] [] μX1 μM1) : zL E 505 [(3, .int x3), (2, .ref (E.a + 94 + 0)), (1, .ref (E.a + 0)), (0, .ref E.b)] [] μX μM := by
  refine zl_aload_n hE dL_law_505 rfl 2 rfl ?_
  refine zl_aload_n hE dL_law_506 rfl 3 rfl ?_
  refine zl_iload_n hE dL_law_507 rfl 0 rfl ?_
  refine zl_iconst (v := 1) hE dL_law_508 (by decide) ?_
  refine zl_iadd hE dL_law_509 ?_
  refine zl_sld hE dL_law_510 h1 ?_
  refine zl_aload_n hE dL_law_511 rfl 3 rfl ?_
  refine zl_iload_n hE dL_law_512 rfl 0 rfl ?_
  refine zl_iconst (v := 2) hE dL_law_513 (by decide) ?_
  refine zl_iadd hE dL_law_514 ?_
  refine zl_sld hE dL_law_515 h2 ?_
  have h := hop μX μM hR (E.xs (x3 + 1).toNatClampNeg) (E.xs (x3 + 2).toNatClampNeg)
  refine zl_callX hE dL_law_516 lV_L_54 (c_X11_roots _ _ μX _ h) (fun ad v hv => by simp at hv; try (rcases hv with rfl | rfl | rfl | rfl | rfl <;> rfl); try (rcases hv with rfl | rfl | rfl | rfl <;> rfl); try (rcases hv with rfl | rfl | rfl <;> rfl); try (rcases hv with rfl | rfl <;> rfl); try (subst hv; rfl)) rfl (Nat.le_of_ble_eq_true rfl) (by decide) rfl (fun _ μX1 h => ?_)
  obtain ⟨r1, rfl, h⟩ := h
  refine zl_aload_n hE dL_law_519 rfl 1 rfl ?_
  refine zl_aload_n hE dL_law_520 rfl 3 rfl ?_
  refine zl_iload_n hE dL_law_521 rfl 0 rfl ?_
  refine zl_iconst (v := 1) hE dL_law_522 (by decide) ?_
  refine zl_iadd hE dL_law_523 ?_
  refine zl_sld hE dL_law_524 h1 ?_
  refine zl_aload_n hE dL_law_525 rfl 3 rfl ?_
  refine zl_iload_n hE dL_law_526 rfl 0 rfl ?_
  refine zl_iconst (v := 2) hE dL_law_527 (by decide) ?_
  refine zl_iadd hE dL_law_528 ?_
  refine zl_sld hE dL_law_529 h2 ?_
  refine zl_callM hE dL_law_530 lV_L_57 (c_X12_roots _ _ μM _ h) (fun ad v hv => by simp at hv; try (rcases hv with rfl | rfl | rfl | rfl | rfl <;> rfl); try (rcases hv with rfl | rfl | rfl | rfl <;> rfl); try (rcases hv with rfl | rfl | rfl <;> rfl); try (rcases hv with rfl | rfl <;> rfl); try (subst hv; rfl)) rfl (Nat.le_of_ble_eq_true rfl) (by decide) rfl (fun _ μM1 h => ?_)
  obtain ⟨r2, rfl, h⟩ := h
  refine zl_eqI (tgt := 1542) hE dL_law_533 (by decide) h.1 ?_
  exact kk _ _ h.2
def zOp_changes (Rel : ZMem → ZMem → Prop) : Prop := ∀ μX μM : ZMem, Rel μX μM → ∀ (a1 : Int32) (a2 : Int32) (a3 : Int32), w_X11_changes a1 a2 a3 μX (fun (r : Int32) (μX1 : ZMem) => w_X12_changes a1 a2 a3 μM (fun (r2 : Int32) (μM1 : ZMem) => r = r2 ∧ Rel μX1 μM1))
theorem lc_10 {E : LCx} (hE : zLOk E) {Rel : ZMem → ZMem → Prop} (hop : zOp_changes Rel) {x3 : Int32} {μX μM : ZMem} (hR : Rel μX μM) (h1 : vp_in (x3 + 1) E.L) (h2 : vp_in (x3 + 2) E.L) (h3 : vp_in (x3 + 3) E.L) (h4 : vp_in (x3 + 4) E.L) (h5 : vp_in (x3 + 5) E.L) (kk : ∀ μX1 μM1, Rel μX1 μM1 → zL E 1542 [(3, .int x3), (2, .ref (E.a + 94 + 0)), (1, .ref (E.a + 0)), (0, .ref E.b)] [] μX1 μM1) : zL E 538 [(3, .int x3), (2, .ref (E.a + 94 + 0)), (1, .ref (E.a + 0)), (0, .ref E.b)] [] μX μM := by
  refine zl_aload_n hE dL_law_538 rfl 2 rfl ?_
  refine zl_aload_n hE dL_law_539 rfl 3 rfl ?_
  refine zl_iload_n hE dL_law_540 rfl 0 rfl ?_
  refine zl_iconst (v := 1) hE dL_law_541 (by decide) ?_
  refine zl_iadd hE dL_law_542 ?_
  refine zl_sld hE dL_law_543 h1 ?_
  refine zl_aload_n hE dL_law_544 rfl 3 rfl ?_
  refine zl_iload_n hE dL_law_545 rfl 0 rfl ?_
  refine zl_iconst (v := 2) hE dL_law_546 (by decide) ?_
  refine zl_iadd hE dL_law_547 ?_
  refine zl_sld hE dL_law_548 h2 ?_
  refine zl_aload_n hE dL_law_549 rfl 3 rfl ?_
  refine zl_iload_n hE dL_law_550 rfl 0 rfl ?_
  refine zl_iconst (v := 3) hE dL_law_551 (by decide) ?_
  refine zl_iadd hE dL_law_552 ?_
  refine zl_sld hE dL_law_553 h3 ?_
  have h := hop μX μM hR (E.xs (x3 + 1).toNatClampNeg) (E.xs (x3 + 2).toNatClampNeg) (E.xs (x3 + 3).toNatClampNeg)
  refine zl_callX hE dL_law_554 lV_L_58 (c_X11_changes _ _ _ μX _ h) (fun ad v hv => by simp at hv; try (rcases hv with rfl | rfl | rfl | rfl | rfl <;> rfl); try (rcases hv with rfl | rfl | rfl | rfl <;> rfl); try (rcases hv with rfl | rfl | rfl <;> rfl); try (rcases hv with rfl | rfl <;> rfl); try (subst hv; rfl)) rfl (Nat.le_of_ble_eq_true rfl) (by decide) rfl (fun _ μX1 h => ?_)
  obtain ⟨r1, rfl, h⟩ := h
  refine zl_aload_n hE dL_law_557 rfl 1 rfl ?_
  refine zl_aload_n hE dL_law_558 rfl 3 rfl ?_
  refine zl_iload_n hE dL_law_559 rfl 0 rfl ?_
  refine zl_iconst (v := 1) hE dL_law_560 (by decide) ?_
  refine zl_iadd hE dL_law_561 ?_
  refine zl_sld hE dL_law_562 h1 ?_
  refine zl_aload_n hE dL_law_563 rfl 3 rfl ?_
  refine zl_iload_n hE dL_law_564 rfl 0 rfl ?_
  refine zl_iconst (v := 2) hE dL_law_565 (by decide) ?_
  refine zl_iadd hE dL_law_566 ?_
  refine zl_sld hE dL_law_567 h2 ?_
  refine zl_aload_n hE dL_law_568 rfl 3 rfl ?_
  refine zl_iload_n hE dL_law_569 rfl 0 rfl ?_
  refine zl_iconst (v := 3) hE dL_law_570 (by decide) ?_
  refine zl_iadd hE dL_law_571 ?_
  refine zl_sld hE dL_law_572 h3 ?_
  refine zl_callM hE dL_law_573 lV_L_62 (c_X12_changes _ _ _ μM _ h) (fun ad v hv => by simp at hv; try (rcases hv with rfl | rfl | rfl | rfl | rfl <;> rfl); try (rcases hv with rfl | rfl | rfl | rfl <;> rfl); try (rcases hv with rfl | rfl | rfl <;> rfl); try (rcases hv with rfl | rfl <;> rfl); try (subst hv; rfl)) rfl (Nat.le_of_ble_eq_true rfl) (by decide) rfl (fun _ μM1 h => ?_)
  obtain ⟨r2, rfl, h⟩ := h
  refine zl_eqI (tgt := 1542) hE dL_law_576 (by decide) h.1 ?_
  exact kk _ _ h.2
def zOp_strip (Rel : ZMem → ZMem → Prop) : Prop := ∀ μX μM : ZMem, Rel μX μM → ∀ (a1 : Int32) (a2 : Int32), w_X11_strip a1 a2 μX (fun (r : Int32) (μX1 : ZMem) => w_X12_strip a1 a2 μM (fun (r2 : Int32) (μM1 : ZMem) => r = r2 ∧ Rel μX1 μM1))
theorem lc_11 {E : LCx} (hE : zLOk E) {Rel : ZMem → ZMem → Prop} (hop : zOp_strip Rel) {x3 : Int32} {μX μM : ZMem} (hR : Rel μX μM) (h1 : vp_in (x3 + 1) E.L) (h2 : vp_in (x3 + 2) E.L) (h3 : vp_in (x3 + 3) E.L) (h4 : vp_in (x3 + 4) E.L) (h5 : vp_in (x3 + 5) E.L) (kk : ∀ μX1 μM1, Rel μX1 μM1 → zL E 1542 [(3, .int x3), (2, .ref (E.a + 94 + 0)), (1, .ref (E.a + 0)), (0, .ref E.b)] [] μX1 μM1) : zL E 581 [(3, .int x3), (2, .ref (E.a + 94 + 0)), (1, .ref (E.a + 0)), (0, .ref E.b)] [] μX μM := by
  refine zl_aload_n hE dL_law_581 rfl 2 rfl ?_
  refine zl_aload_n hE dL_law_582 rfl 3 rfl ?_
  refine zl_iload_n hE dL_law_583 rfl 0 rfl ?_
  refine zl_iconst (v := 1) hE dL_law_584 (by decide) ?_
  refine zl_iadd hE dL_law_585 ?_
  refine zl_sld hE dL_law_586 h1 ?_
  refine zl_aload_n hE dL_law_587 rfl 3 rfl ?_
  refine zl_iload_n hE dL_law_588 rfl 0 rfl ?_
  refine zl_iconst (v := 2) hE dL_law_589 (by decide) ?_
  refine zl_iadd hE dL_law_590 ?_
  refine zl_sld hE dL_law_591 h2 ?_
  have h := hop μX μM hR (E.xs (x3 + 1).toNatClampNeg) (E.xs (x3 + 2).toNatClampNeg)
  refine zl_callX hE dL_law_592 lV_L_63 (c_X11_strip _ _ μX _ h) (fun ad v hv => by simp at hv; try (rcases hv with rfl | rfl | rfl | rfl | rfl <;> rfl); try (rcases hv with rfl | rfl | rfl | rfl <;> rfl); try (rcases hv with rfl | rfl | rfl <;> rfl); try (rcases hv with rfl | rfl <;> rfl); try (subst hv; rfl)) rfl (Nat.le_of_ble_eq_true rfl) (by decide) rfl (fun _ μX1 h => ?_)
  obtain ⟨r1, rfl, h⟩ := h
  refine zl_aload_n hE dL_law_595 rfl 1 rfl ?_
  refine zl_aload_n hE dL_law_596 rfl 3 rfl ?_
  refine zl_iload_n hE dL_law_597 rfl 0 rfl ?_
  refine zl_iconst (v := 1) hE dL_law_598 (by decide) ?_
  refine zl_iadd hE dL_law_599 ?_
  refine zl_sld hE dL_law_600 h1 ?_
  refine zl_aload_n hE dL_law_601 rfl 3 rfl ?_
  refine zl_iload_n hE dL_law_602 rfl 0 rfl ?_
  refine zl_iconst (v := 2) hE dL_law_603 (by decide) ?_
  refine zl_iadd hE dL_law_604 ?_
  refine zl_sld hE dL_law_605 h2 ?_
  refine zl_callM hE dL_law_606 lV_L_66 (c_X12_strip _ _ μM _ h) (fun ad v hv => by simp at hv; try (rcases hv with rfl | rfl | rfl | rfl | rfl <;> rfl); try (rcases hv with rfl | rfl | rfl | rfl <;> rfl); try (rcases hv with rfl | rfl | rfl <;> rfl); try (rcases hv with rfl | rfl <;> rfl); try (subst hv; rfl)) rfl (Nat.le_of_ble_eq_true rfl) (by decide) rfl (fun _ μM1 h => ?_)
  obtain ⟨r2, rfl, h⟩ := h
  refine zl_eqI (tgt := 1542) hE dL_law_609 (by decide) h.1 ?_
  exact kk _ _ h.2
def zOp_reach (Rel : ZMem → ZMem → Prop) : Prop := ∀ μX μM : ZMem, Rel μX μM → w_X11_reach μX (fun (r : Int32) (μX1 : ZMem) => w_X12_reach μM (fun (r2 : Int32) (μM1 : ZMem) => r = r2 ∧ Rel μX1 μM1))
theorem lc_12 {E : LCx} (hE : zLOk E) {Rel : ZMem → ZMem → Prop} (hop : zOp_reach Rel) {x3 : Int32} {μX μM : ZMem} (hR : Rel μX μM) (h1 : vp_in (x3 + 1) E.L) (h2 : vp_in (x3 + 2) E.L) (h3 : vp_in (x3 + 3) E.L) (h4 : vp_in (x3 + 4) E.L) (h5 : vp_in (x3 + 5) E.L) (kk : ∀ μX1 μM1, Rel μX1 μM1 → zL E 1542 [(3, .int x3), (2, .ref (E.a + 94 + 0)), (1, .ref (E.a + 0)), (0, .ref E.b)] [] μX1 μM1) : zL E 614 [(3, .int x3), (2, .ref (E.a + 94 + 0)), (1, .ref (E.a + 0)), (0, .ref E.b)] [] μX μM := by
  refine zl_aload_n hE dL_law_614 rfl 2 rfl ?_
  have h := hop μX μM hR 
  refine zl_callX hE dL_law_615 lV_L_67 (c_X11_reach  μX _ h) (fun ad v hv => by simp at hv; try (rcases hv with rfl | rfl | rfl | rfl | rfl <;> rfl); try (rcases hv with rfl | rfl | rfl | rfl <;> rfl); try (rcases hv with rfl | rfl | rfl <;> rfl); try (rcases hv with rfl | rfl <;> rfl); try (subst hv; rfl)) rfl (Nat.le_of_ble_eq_true rfl) (by decide) rfl (fun _ μX1 h => ?_)
  obtain ⟨r1, rfl, h⟩ := h
  refine zl_aload_n hE dL_law_618 rfl 1 rfl ?_
  refine zl_callM hE dL_law_619 lV_L_70 (c_X12_reach  μM _ h) (fun ad v hv => by simp at hv; try (rcases hv with rfl | rfl | rfl | rfl | rfl <;> rfl); try (rcases hv with rfl | rfl | rfl | rfl <;> rfl); try (rcases hv with rfl | rfl | rfl <;> rfl); try (rcases hv with rfl | rfl <;> rfl); try (subst hv; rfl)) rfl (Nat.le_of_ble_eq_true rfl) (by decide) rfl (fun _ μM1 h => ?_)
  obtain ⟨r2, rfl, h⟩ := h
  refine zl_eqI (tgt := 1542) hE dL_law_622 (by decide) h.1 ?_
  exact kk _ _ h.2
def zOp_steady (Rel : ZMem → ZMem → Prop) : Prop := ∀ μX μM : ZMem, Rel μX μM → ∀ (a1 : Int32) (a2 : Int32) (a3 : Int32), w_X11_steady a1 a2 a3 μX (fun (r : Int32) (μX1 : ZMem) => w_X12_steady a1 a2 a3 μM (fun (r2 : Int32) (μM1 : ZMem) => r = r2 ∧ Rel μX1 μM1))
theorem lc_13 {E : LCx} (hE : zLOk E) {Rel : ZMem → ZMem → Prop} (hop : zOp_steady Rel) {x3 : Int32} {μX μM : ZMem} (hR : Rel μX μM) (h1 : vp_in (x3 + 1) E.L) (h2 : vp_in (x3 + 2) E.L) (h3 : vp_in (x3 + 3) E.L) (h4 : vp_in (x3 + 4) E.L) (h5 : vp_in (x3 + 5) E.L) (kk : ∀ μX1 μM1, Rel μX1 μM1 → zL E 1542 [(3, .int x3), (2, .ref (E.a + 94 + 0)), (1, .ref (E.a + 0)), (0, .ref E.b)] [] μX1 μM1) : zL E 627 [(3, .int x3), (2, .ref (E.a + 94 + 0)), (1, .ref (E.a + 0)), (0, .ref E.b)] [] μX μM := by
  refine zl_aload_n hE dL_law_627 rfl 2 rfl ?_
  refine zl_aload_n hE dL_law_628 rfl 3 rfl ?_
  refine zl_iload_n hE dL_law_629 rfl 0 rfl ?_
  refine zl_iconst (v := 1) hE dL_law_630 (by decide) ?_
  refine zl_iadd hE dL_law_631 ?_
  refine zl_sld hE dL_law_632 h1 ?_
  refine zl_aload_n hE dL_law_633 rfl 3 rfl ?_
  refine zl_iload_n hE dL_law_634 rfl 0 rfl ?_
  refine zl_iconst (v := 2) hE dL_law_635 (by decide) ?_
  refine zl_iadd hE dL_law_636 ?_
  refine zl_sld hE dL_law_637 h2 ?_
  refine zl_aload_n hE dL_law_638 rfl 3 rfl ?_
  refine zl_iload_n hE dL_law_639 rfl 0 rfl ?_
  refine zl_iconst (v := 3) hE dL_law_640 (by decide) ?_
  refine zl_iadd hE dL_law_641 ?_
  refine zl_sld hE dL_law_642 h3 ?_
  have h := hop μX μM hR (E.xs (x3 + 1).toNatClampNeg) (E.xs (x3 + 2).toNatClampNeg) (E.xs (x3 + 3).toNatClampNeg)
  refine zl_callX hE dL_law_643 lV_L_71 (c_X11_steady _ _ _ μX _ h) (fun ad v hv => by simp at hv; try (rcases hv with rfl | rfl | rfl | rfl | rfl <;> rfl); try (rcases hv with rfl | rfl | rfl | rfl <;> rfl); try (rcases hv with rfl | rfl | rfl <;> rfl); try (rcases hv with rfl | rfl <;> rfl); try (subst hv; rfl)) rfl (Nat.le_of_ble_eq_true rfl) (by decide) rfl (fun _ μX1 h => ?_)
  obtain ⟨r1, rfl, h⟩ := h
  refine zl_aload_n hE dL_law_646 rfl 1 rfl ?_
  refine zl_aload_n hE dL_law_647 rfl 3 rfl ?_
  refine zl_iload_n hE dL_law_648 rfl 0 rfl ?_
  refine zl_iconst (v := 1) hE dL_law_649 (by decide) ?_
  refine zl_iadd hE dL_law_650 ?_
  refine zl_sld hE dL_law_651 h1 ?_
  refine zl_aload_n hE dL_law_652 rfl 3 rfl ?_
  refine zl_iload_n hE dL_law_653 rfl 0 rfl ?_
  refine zl_iconst (v := 2) hE dL_law_654 (by decide) ?_
  refine zl_iadd hE dL_law_655 ?_
  refine zl_sld hE dL_law_656 h2 ?_
  refine zl_aload_n hE dL_law_657 rfl 3 rfl ?_
  refine zl_iload_n hE dL_law_658 rfl 0 rfl ?_
  refine zl_iconst (v := 3) hE dL_law_659 (by decide) ?_
  refine zl_iadd hE dL_law_660 ?_
  refine zl_sld hE dL_law_661 h3 ?_
  refine zl_callM hE dL_law_662 lV_L_74 (c_X12_steady _ _ _ μM _ h) (fun ad v hv => by simp at hv; try (rcases hv with rfl | rfl | rfl | rfl | rfl <;> rfl); try (rcases hv with rfl | rfl | rfl | rfl <;> rfl); try (rcases hv with rfl | rfl | rfl <;> rfl); try (rcases hv with rfl | rfl <;> rfl); try (subst hv; rfl)) rfl (Nat.le_of_ble_eq_true rfl) (by decide) rfl (fun _ μM1 h => ?_)
  obtain ⟨r2, rfl, h⟩ := h
  refine zl_eqI (tgt := 1542) hE dL_law_665 (by decide) h.1 ?_
  exact kk _ _ h.2
def zOp_spans (Rel : ZMem → ZMem → Prop) : Prop := ∀ μX μM : ZMem, Rel μX μM → ∀ (a1 : Int32), w_X11_spans a1 μX (fun (r : Int32) (μX1 : ZMem) => w_X12_spans a1 μM (fun (r2 : Int32) (μM1 : ZMem) => r = r2 ∧ Rel μX1 μM1))
theorem lc_14 {E : LCx} (hE : zLOk E) {Rel : ZMem → ZMem → Prop} (hop : zOp_spans Rel) {x3 : Int32} {μX μM : ZMem} (hR : Rel μX μM) (h1 : vp_in (x3 + 1) E.L) (h2 : vp_in (x3 + 2) E.L) (h3 : vp_in (x3 + 3) E.L) (h4 : vp_in (x3 + 4) E.L) (h5 : vp_in (x3 + 5) E.L) (kk : ∀ μX1 μM1, Rel μX1 μM1 → zL E 1542 [(3, .int x3), (2, .ref (E.a + 94 + 0)), (1, .ref (E.a + 0)), (0, .ref E.b)] [] μX1 μM1) : zL E 670 [(3, .int x3), (2, .ref (E.a + 94 + 0)), (1, .ref (E.a + 0)), (0, .ref E.b)] [] μX μM := by
  refine zl_aload_n hE dL_law_670 rfl 2 rfl ?_
  refine zl_aload_n hE dL_law_671 rfl 3 rfl ?_
  refine zl_iload_n hE dL_law_672 rfl 0 rfl ?_
  refine zl_iconst (v := 1) hE dL_law_673 (by decide) ?_
  refine zl_iadd hE dL_law_674 ?_
  refine zl_sld hE dL_law_675 h1 ?_
  have h := hop μX μM hR (E.xs (x3 + 1).toNatClampNeg)
  refine zl_callX hE dL_law_676 lV_L_75 (c_X11_spans _ μX _ h) (fun ad v hv => by simp at hv; try (rcases hv with rfl | rfl | rfl | rfl | rfl <;> rfl); try (rcases hv with rfl | rfl | rfl | rfl <;> rfl); try (rcases hv with rfl | rfl | rfl <;> rfl); try (rcases hv with rfl | rfl <;> rfl); try (subst hv; rfl)) rfl (Nat.le_of_ble_eq_true rfl) (by decide) rfl (fun _ μX1 h => ?_)
  obtain ⟨r1, rfl, h⟩ := h
  refine zl_aload_n hE dL_law_679 rfl 1 rfl ?_
  refine zl_aload_n hE dL_law_680 rfl 3 rfl ?_
  refine zl_iload_n hE dL_law_681 rfl 0 rfl ?_
  refine zl_iconst (v := 1) hE dL_law_682 (by decide) ?_
  refine zl_iadd hE dL_law_683 ?_
  refine zl_sld hE dL_law_684 h1 ?_
  refine zl_callM hE dL_law_685 lV_L_78 (c_X12_spans _ μM _ h) (fun ad v hv => by simp at hv; try (rcases hv with rfl | rfl | rfl | rfl | rfl <;> rfl); try (rcases hv with rfl | rfl | rfl | rfl <;> rfl); try (rcases hv with rfl | rfl | rfl <;> rfl); try (rcases hv with rfl | rfl <;> rfl); try (subst hv; rfl)) rfl (Nat.le_of_ble_eq_true rfl) (by decide) rfl (fun _ μM1 h => ?_)
  obtain ⟨r2, rfl, h⟩ := h
  refine zl_eqI (tgt := 1542) hE dL_law_688 (by decide) h.1 ?_
  exact kk _ _ h.2
def zOp_span (Rel : ZMem → ZMem → Prop) : Prop := ∀ μX μM : ZMem, Rel μX μM → ∀ (a1 : Int32) (a2 : Int32) (a3 : Int32), w_X11_span a1 a2 a3 μX (fun (r : Int32) (μX1 : ZMem) => w_X12_span a1 a2 a3 μM (fun (r2 : Int32) (μM1 : ZMem) => r = r2 ∧ Rel μX1 μM1))
theorem lc_15 {E : LCx} (hE : zLOk E) {Rel : ZMem → ZMem → Prop} (hop : zOp_span Rel) {x3 : Int32} {μX μM : ZMem} (hR : Rel μX μM) (h1 : vp_in (x3 + 1) E.L) (h2 : vp_in (x3 + 2) E.L) (h3 : vp_in (x3 + 3) E.L) (h4 : vp_in (x3 + 4) E.L) (h5 : vp_in (x3 + 5) E.L) (kk : ∀ μX1 μM1, Rel μX1 μM1 → zL E 1542 [(3, .int x3), (2, .ref (E.a + 94 + 0)), (1, .ref (E.a + 0)), (0, .ref E.b)] [] μX1 μM1) : zL E 693 [(3, .int x3), (2, .ref (E.a + 94 + 0)), (1, .ref (E.a + 0)), (0, .ref E.b)] [] μX μM := by
  refine zl_aload_n hE dL_law_693 rfl 2 rfl ?_
  refine zl_aload_n hE dL_law_694 rfl 3 rfl ?_
  refine zl_iload_n hE dL_law_695 rfl 0 rfl ?_
  refine zl_iconst (v := 1) hE dL_law_696 (by decide) ?_
  refine zl_iadd hE dL_law_697 ?_
  refine zl_sld hE dL_law_698 h1 ?_
  refine zl_aload_n hE dL_law_699 rfl 3 rfl ?_
  refine zl_iload_n hE dL_law_700 rfl 0 rfl ?_
  refine zl_iconst (v := 2) hE dL_law_701 (by decide) ?_
  refine zl_iadd hE dL_law_702 ?_
  refine zl_sld hE dL_law_703 h2 ?_
  refine zl_aload_n hE dL_law_704 rfl 3 rfl ?_
  refine zl_iload_n hE dL_law_705 rfl 0 rfl ?_
  refine zl_iconst (v := 3) hE dL_law_706 (by decide) ?_
  refine zl_iadd hE dL_law_707 ?_
  refine zl_sld hE dL_law_708 h3 ?_
  have h := hop μX μM hR (E.xs (x3 + 1).toNatClampNeg) (E.xs (x3 + 2).toNatClampNeg) (E.xs (x3 + 3).toNatClampNeg)
  refine zl_callX hE dL_law_709 lV_L_79 (c_X11_span _ _ _ μX _ h) (fun ad v hv => by simp at hv; try (rcases hv with rfl | rfl | rfl | rfl | rfl <;> rfl); try (rcases hv with rfl | rfl | rfl | rfl <;> rfl); try (rcases hv with rfl | rfl | rfl <;> rfl); try (rcases hv with rfl | rfl <;> rfl); try (subst hv; rfl)) rfl (Nat.le_of_ble_eq_true rfl) (by decide) rfl (fun _ μX1 h => ?_)
  obtain ⟨r1, rfl, h⟩ := h
  refine zl_aload_n hE dL_law_712 rfl 1 rfl ?_
  refine zl_aload_n hE dL_law_713 rfl 3 rfl ?_
  refine zl_iload_n hE dL_law_714 rfl 0 rfl ?_
  refine zl_iconst (v := 1) hE dL_law_715 (by decide) ?_
  refine zl_iadd hE dL_law_716 ?_
  refine zl_sld hE dL_law_717 h1 ?_
  refine zl_aload_n hE dL_law_718 rfl 3 rfl ?_
  refine zl_iload_n hE dL_law_719 rfl 0 rfl ?_
  refine zl_iconst (v := 2) hE dL_law_720 (by decide) ?_
  refine zl_iadd hE dL_law_721 ?_
  refine zl_sld hE dL_law_722 h2 ?_
  refine zl_aload_n hE dL_law_723 rfl 3 rfl ?_
  refine zl_iload_n hE dL_law_724 rfl 0 rfl ?_
  refine zl_iconst (v := 3) hE dL_law_725 (by decide) ?_
  refine zl_iadd hE dL_law_726 ?_
  refine zl_sld hE dL_law_727 h3 ?_
  refine zl_callM hE dL_law_728 lV_L_82 (c_X12_span _ _ _ μM _ h) (fun ad v hv => by simp at hv; try (rcases hv with rfl | rfl | rfl | rfl | rfl <;> rfl); try (rcases hv with rfl | rfl | rfl | rfl <;> rfl); try (rcases hv with rfl | rfl | rfl <;> rfl); try (rcases hv with rfl | rfl <;> rfl); try (subst hv; rfl)) rfl (Nat.le_of_ble_eq_true rfl) (by decide) rfl (fun _ μM1 h => ?_)
  obtain ⟨r2, rfl, h⟩ := h
  refine zl_eqI (tgt := 1542) hE dL_law_731 (by decide) h.1 ?_
  exact kk _ _ h.2
def zOp_nearest (Rel : ZMem → ZMem → Prop) : Prop := ∀ μX μM : ZMem, Rel μX μM → ∀ (a1 : Int32) (a2 : Int32), w_X11_nearest a1 a2 μX (fun (r : Int32) (μX1 : ZMem) => w_X12_nearest a1 a2 μM (fun (r2 : Int32) (μM1 : ZMem) => r = r2 ∧ Rel μX1 μM1))
theorem lc_16 {E : LCx} (hE : zLOk E) {Rel : ZMem → ZMem → Prop} (hop : zOp_nearest Rel) {x3 : Int32} {μX μM : ZMem} (hR : Rel μX μM) (h1 : vp_in (x3 + 1) E.L) (h2 : vp_in (x3 + 2) E.L) (h3 : vp_in (x3 + 3) E.L) (h4 : vp_in (x3 + 4) E.L) (h5 : vp_in (x3 + 5) E.L) (kk : ∀ μX1 μM1, Rel μX1 μM1 → zL E 1542 [(3, .int x3), (2, .ref (E.a + 94 + 0)), (1, .ref (E.a + 0)), (0, .ref E.b)] [] μX1 μM1) : zL E 736 [(3, .int x3), (2, .ref (E.a + 94 + 0)), (1, .ref (E.a + 0)), (0, .ref E.b)] [] μX μM := by
  refine zl_aload_n hE dL_law_736 rfl 2 rfl ?_
  refine zl_aload_n hE dL_law_737 rfl 3 rfl ?_
  refine zl_iload_n hE dL_law_738 rfl 0 rfl ?_
  refine zl_iconst (v := 1) hE dL_law_739 (by decide) ?_
  refine zl_iadd hE dL_law_740 ?_
  refine zl_sld hE dL_law_741 h1 ?_
  refine zl_aload_n hE dL_law_742 rfl 3 rfl ?_
  refine zl_iload_n hE dL_law_743 rfl 0 rfl ?_
  refine zl_iconst (v := 2) hE dL_law_744 (by decide) ?_
  refine zl_iadd hE dL_law_745 ?_
  refine zl_sld hE dL_law_746 h2 ?_
  have h := hop μX μM hR (E.xs (x3 + 1).toNatClampNeg) (E.xs (x3 + 2).toNatClampNeg)
  refine zl_callX hE dL_law_747 lV_L_83 (c_X11_nearest _ _ μX _ h) (fun ad v hv => by simp at hv; try (rcases hv with rfl | rfl | rfl | rfl | rfl <;> rfl); try (rcases hv with rfl | rfl | rfl | rfl <;> rfl); try (rcases hv with rfl | rfl | rfl <;> rfl); try (rcases hv with rfl | rfl <;> rfl); try (subst hv; rfl)) rfl (Nat.le_of_ble_eq_true rfl) (by decide) rfl (fun _ μX1 h => ?_)
  obtain ⟨r1, rfl, h⟩ := h
  refine zl_aload_n hE dL_law_750 rfl 1 rfl ?_
  refine zl_aload_n hE dL_law_751 rfl 3 rfl ?_
  refine zl_iload_n hE dL_law_752 rfl 0 rfl ?_
  refine zl_iconst (v := 1) hE dL_law_753 (by decide) ?_
  refine zl_iadd hE dL_law_754 ?_
  refine zl_sld hE dL_law_755 h1 ?_
  refine zl_aload_n hE dL_law_756 rfl 3 rfl ?_
  refine zl_iload_n hE dL_law_757 rfl 0 rfl ?_
  refine zl_iconst (v := 2) hE dL_law_758 (by decide) ?_
  refine zl_iadd hE dL_law_759 ?_
  refine zl_sld hE dL_law_760 h2 ?_
  refine zl_callM hE dL_law_761 lV_L_86 (c_X12_nearest _ _ μM _ h) (fun ad v hv => by simp at hv; try (rcases hv with rfl | rfl | rfl | rfl | rfl <;> rfl); try (rcases hv with rfl | rfl | rfl | rfl <;> rfl); try (rcases hv with rfl | rfl | rfl <;> rfl); try (rcases hv with rfl | rfl <;> rfl); try (subst hv; rfl)) rfl (Nat.le_of_ble_eq_true rfl) (by decide) rfl (fun _ μM1 h => ?_)
  obtain ⟨r2, rfl, h⟩ := h
  refine zl_eqI (tgt := 1542) hE dL_law_764 (by decide) h.1 ?_
  exact kk _ _ h.2
def zOp_links (Rel : ZMem → ZMem → Prop) : Prop := ∀ μX μM : ZMem, Rel μX μM → w_X11_links μX (fun (r : Int32) (μX1 : ZMem) => w_X12_links μM (fun (r2 : Int32) (μM1 : ZMem) => r = r2 ∧ Rel μX1 μM1))
theorem lc_17 {E : LCx} (hE : zLOk E) {Rel : ZMem → ZMem → Prop} (hop : zOp_links Rel) {x3 : Int32} {μX μM : ZMem} (hR : Rel μX μM) (h1 : vp_in (x3 + 1) E.L) (h2 : vp_in (x3 + 2) E.L) (h3 : vp_in (x3 + 3) E.L) (h4 : vp_in (x3 + 4) E.L) (h5 : vp_in (x3 + 5) E.L) (kk : ∀ μX1 μM1, Rel μX1 μM1 → zL E 1542 [(3, .int x3), (2, .ref (E.a + 94 + 0)), (1, .ref (E.a + 0)), (0, .ref E.b)] [] μX1 μM1) : zL E 769 [(3, .int x3), (2, .ref (E.a + 94 + 0)), (1, .ref (E.a + 0)), (0, .ref E.b)] [] μX μM := by
  refine zl_aload_n hE dL_law_769 rfl 2 rfl ?_
  have h := hop μX μM hR 
  refine zl_callX hE dL_law_770 lV_L_87 (c_X11_links  μX _ h) (fun ad v hv => by simp at hv; try (rcases hv with rfl | rfl | rfl | rfl | rfl <;> rfl); try (rcases hv with rfl | rfl | rfl | rfl <;> rfl); try (rcases hv with rfl | rfl | rfl <;> rfl); try (rcases hv with rfl | rfl <;> rfl); try (subst hv; rfl)) rfl (Nat.le_of_ble_eq_true rfl) (by decide) rfl (fun _ μX1 h => ?_)
  obtain ⟨r1, rfl, h⟩ := h
  refine zl_aload_n hE dL_law_773 rfl 1 rfl ?_
  refine zl_callM hE dL_law_774 lV_L_90 (c_X12_links  μM _ h) (fun ad v hv => by simp at hv; try (rcases hv with rfl | rfl | rfl | rfl | rfl <;> rfl); try (rcases hv with rfl | rfl | rfl | rfl <;> rfl); try (rcases hv with rfl | rfl | rfl <;> rfl); try (rcases hv with rfl | rfl <;> rfl); try (subst hv; rfl)) rfl (Nat.le_of_ble_eq_true rfl) (by decide) rfl (fun _ μM1 h => ?_)
  obtain ⟨r2, rfl, h⟩ := h
  refine zl_eqI (tgt := 1542) hE dL_law_777 (by decide) h.1 ?_
  exact kk _ _ h.2
def zOp_link (Rel : ZMem → ZMem → Prop) : Prop := ∀ μX μM : ZMem, Rel μX μM → ∀ (a1 : Int32) (a2 : Int32), w_X11_link a1 a2 μX (fun (r : Int64) (μX1 : ZMem) => w_X12_link a1 a2 μM (fun (r2 : Int64) (μM1 : ZMem) => r = r2 ∧ Rel μX1 μM1))
theorem lc_18 {E : LCx} (hE : zLOk E) {Rel : ZMem → ZMem → Prop} (hop : zOp_link Rel) {x3 : Int32} {μX μM : ZMem} (hR : Rel μX μM) (h1 : vp_in (x3 + 1) E.L) (h2 : vp_in (x3 + 2) E.L) (h3 : vp_in (x3 + 3) E.L) (h4 : vp_in (x3 + 4) E.L) (h5 : vp_in (x3 + 5) E.L) (kk : ∀ μX1 μM1, Rel μX1 μM1 → zL E 1542 [(3, .int x3), (2, .ref (E.a + 94 + 0)), (1, .ref (E.a + 0)), (0, .ref E.b)] [] μX1 μM1) : zL E 782 [(3, .int x3), (2, .ref (E.a + 94 + 0)), (1, .ref (E.a + 0)), (0, .ref E.b)] [] μX μM := by
  refine zl_aload_n hE dL_law_782 rfl 2 rfl ?_
  refine zl_aload_n hE dL_law_783 rfl 3 rfl ?_
  refine zl_iload_n hE dL_law_784 rfl 0 rfl ?_
  refine zl_iconst (v := 1) hE dL_law_785 (by decide) ?_
  refine zl_iadd hE dL_law_786 ?_
  refine zl_sld hE dL_law_787 h1 ?_
  refine zl_aload_n hE dL_law_788 rfl 3 rfl ?_
  refine zl_iload_n hE dL_law_789 rfl 0 rfl ?_
  refine zl_iconst (v := 2) hE dL_law_790 (by decide) ?_
  refine zl_iadd hE dL_law_791 ?_
  refine zl_sld hE dL_law_792 h2 ?_
  have h := hop μX μM hR (E.xs (x3 + 1).toNatClampNeg) (E.xs (x3 + 2).toNatClampNeg)
  refine zl_callX hE dL_law_793 lV_L_91 (c_X11_link _ _ μX _ h) (fun ad v hv => by simp at hv; try (rcases hv with rfl | rfl | rfl | rfl | rfl <;> rfl); try (rcases hv with rfl | rfl | rfl | rfl <;> rfl); try (rcases hv with rfl | rfl | rfl <;> rfl); try (rcases hv with rfl | rfl <;> rfl); try (subst hv; rfl)) rfl (Nat.le_of_ble_eq_true rfl) (by decide) rfl (fun _ μX1 h => ?_)
  obtain ⟨r1, rfl, h⟩ := h
  refine zl_aload_n hE dL_law_796 rfl 1 rfl ?_
  refine zl_aload_n hE dL_law_797 rfl 3 rfl ?_
  refine zl_iload_n hE dL_law_798 rfl 0 rfl ?_
  refine zl_iconst (v := 1) hE dL_law_799 (by decide) ?_
  refine zl_iadd hE dL_law_800 ?_
  refine zl_sld hE dL_law_801 h1 ?_
  refine zl_aload_n hE dL_law_802 rfl 3 rfl ?_
  refine zl_iload_n hE dL_law_803 rfl 0 rfl ?_
  refine zl_iconst (v := 2) hE dL_law_804 (by decide) ?_
  refine zl_iadd hE dL_law_805 ?_
  refine zl_sld hE dL_law_806 h2 ?_
  refine zl_callM hE dL_law_807 lV_L_94 (c_X12_link _ _ μM _ h) (fun ad v hv => by simp at hv; try (rcases hv with rfl | rfl | rfl | rfl | rfl <;> rfl); try (rcases hv with rfl | rfl | rfl | rfl <;> rfl); try (rcases hv with rfl | rfl | rfl <;> rfl); try (rcases hv with rfl | rfl <;> rfl); try (subst hv; rfl)) rfl (Nat.le_of_ble_eq_true rfl) (by decide) rfl (fun _ μM1 h => ?_)
  obtain ⟨r2, rfl, h⟩ := h
  refine zl_eqJ (tgt := 1542) hE dL_law_810 dL_law_811 (by decide) h.1 ?_
  exact kk _ _ h.2
def zOp_chain (Rel : ZMem → ZMem → Prop) : Prop := ∀ μX μM : ZMem, Rel μX μM → ∀ (a1 : Int32), w_X11_chain a1 μX (fun (r : Int32) (μX1 : ZMem) => w_X12_chain a1 μM (fun (r2 : Int32) (μM1 : ZMem) => r = r2 ∧ Rel μX1 μM1))
theorem lc_19 {E : LCx} (hE : zLOk E) {Rel : ZMem → ZMem → Prop} (hop : zOp_chain Rel) {x3 : Int32} {μX μM : ZMem} (hR : Rel μX μM) (h1 : vp_in (x3 + 1) E.L) (h2 : vp_in (x3 + 2) E.L) (h3 : vp_in (x3 + 3) E.L) (h4 : vp_in (x3 + 4) E.L) (h5 : vp_in (x3 + 5) E.L) (kk : ∀ μX1 μM1, Rel μX1 μM1 → zL E 1542 [(3, .int x3), (2, .ref (E.a + 94 + 0)), (1, .ref (E.a + 0)), (0, .ref E.b)] [] μX1 μM1) : zL E 816 [(3, .int x3), (2, .ref (E.a + 94 + 0)), (1, .ref (E.a + 0)), (0, .ref E.b)] [] μX μM := by
  refine zl_aload_n hE dL_law_816 rfl 2 rfl ?_
  refine zl_aload_n hE dL_law_817 rfl 3 rfl ?_
  refine zl_iload_n hE dL_law_818 rfl 0 rfl ?_
  refine zl_iconst (v := 1) hE dL_law_819 (by decide) ?_
  refine zl_iadd hE dL_law_820 ?_
  refine zl_sld hE dL_law_821 h1 ?_
  have h := hop μX μM hR (E.xs (x3 + 1).toNatClampNeg)
  refine zl_callX hE dL_law_822 lV_L_95 (c_X11_chain _ μX _ h) (fun ad v hv => by simp at hv; try (rcases hv with rfl | rfl | rfl | rfl | rfl <;> rfl); try (rcases hv with rfl | rfl | rfl | rfl <;> rfl); try (rcases hv with rfl | rfl | rfl <;> rfl); try (rcases hv with rfl | rfl <;> rfl); try (subst hv; rfl)) rfl (Nat.le_of_ble_eq_true rfl) (by decide) rfl (fun _ μX1 h => ?_)
  obtain ⟨r1, rfl, h⟩ := h
  refine zl_aload_n hE dL_law_825 rfl 1 rfl ?_
  refine zl_aload_n hE dL_law_826 rfl 3 rfl ?_
  refine zl_iload_n hE dL_law_827 rfl 0 rfl ?_
  refine zl_iconst (v := 1) hE dL_law_828 (by decide) ?_
  refine zl_iadd hE dL_law_829 ?_
  refine zl_sld hE dL_law_830 h1 ?_
  refine zl_callM hE dL_law_831 lV_L_98 (c_X12_chain _ μM _ h) (fun ad v hv => by simp at hv; try (rcases hv with rfl | rfl | rfl | rfl | rfl <;> rfl); try (rcases hv with rfl | rfl | rfl | rfl <;> rfl); try (rcases hv with rfl | rfl | rfl <;> rfl); try (rcases hv with rfl | rfl <;> rfl); try (subst hv; rfl)) rfl (Nat.le_of_ble_eq_true rfl) (by decide) rfl (fun _ μM1 h => ?_)
  obtain ⟨r2, rfl, h⟩ := h
  refine zl_eqI (tgt := 1542) hE dL_law_834 (by decide) h.1 ?_
  exact kk _ _ h.2
def zOp_real (Rel : ZMem → ZMem → Prop) : Prop := ∀ μX μM : ZMem, Rel μX μM → ∀ (a1 : Int32) (a2 : Int32), w_X11_real a1 a2 μX (fun (r : Int32) (μX1 : ZMem) => w_X12_real a1 a2 μM (fun (r2 : Int32) (μM1 : ZMem) => r = r2 ∧ Rel μX1 μM1))
theorem lc_20 {E : LCx} (hE : zLOk E) {Rel : ZMem → ZMem → Prop} (hop : zOp_real Rel) {x3 : Int32} {μX μM : ZMem} (hR : Rel μX μM) (h1 : vp_in (x3 + 1) E.L) (h2 : vp_in (x3 + 2) E.L) (h3 : vp_in (x3 + 3) E.L) (h4 : vp_in (x3 + 4) E.L) (h5 : vp_in (x3 + 5) E.L) (kk : ∀ μX1 μM1, Rel μX1 μM1 → zL E 1542 [(3, .int x3), (2, .ref (E.a + 94 + 0)), (1, .ref (E.a + 0)), (0, .ref E.b)] [] μX1 μM1) : zL E 839 [(3, .int x3), (2, .ref (E.a + 94 + 0)), (1, .ref (E.a + 0)), (0, .ref E.b)] [] μX μM := by
  refine zl_aload_n hE dL_law_839 rfl 2 rfl ?_
  refine zl_aload_n hE dL_law_840 rfl 3 rfl ?_
  refine zl_iload_n hE dL_law_841 rfl 0 rfl ?_
  refine zl_iconst (v := 1) hE dL_law_842 (by decide) ?_
  refine zl_iadd hE dL_law_843 ?_
  refine zl_sld hE dL_law_844 h1 ?_
  refine zl_aload_n hE dL_law_845 rfl 3 rfl ?_
  refine zl_iload_n hE dL_law_846 rfl 0 rfl ?_
  refine zl_iconst (v := 2) hE dL_law_847 (by decide) ?_
  refine zl_iadd hE dL_law_848 ?_
  refine zl_sld hE dL_law_849 h2 ?_
  have h := hop μX μM hR (E.xs (x3 + 1).toNatClampNeg) (E.xs (x3 + 2).toNatClampNeg)
  refine zl_callX hE dL_law_850 lV_L_99 (c_X11_real _ _ μX _ h) (fun ad v hv => by simp at hv; try (rcases hv with rfl | rfl | rfl | rfl | rfl <;> rfl); try (rcases hv with rfl | rfl | rfl | rfl <;> rfl); try (rcases hv with rfl | rfl | rfl <;> rfl); try (rcases hv with rfl | rfl <;> rfl); try (subst hv; rfl)) rfl (Nat.le_of_ble_eq_true rfl) (by decide) rfl (fun _ μX1 h => ?_)
  obtain ⟨r1, rfl, h⟩ := h
  refine zl_aload_n hE dL_law_853 rfl 1 rfl ?_
  refine zl_aload_n hE dL_law_854 rfl 3 rfl ?_
  refine zl_iload_n hE dL_law_855 rfl 0 rfl ?_
  refine zl_iconst (v := 1) hE dL_law_856 (by decide) ?_
  refine zl_iadd hE dL_law_857 ?_
  refine zl_sld hE dL_law_858 h1 ?_
  refine zl_aload_n hE dL_law_859 rfl 3 rfl ?_
  refine zl_iload_n hE dL_law_860 rfl 0 rfl ?_
  refine zl_iconst (v := 2) hE dL_law_861 (by decide) ?_
  refine zl_iadd hE dL_law_862 ?_
  refine zl_sld hE dL_law_863 h2 ?_
  refine zl_callM hE dL_law_864 lV_L_102 (c_X12_real _ _ μM _ h) (fun ad v hv => by simp at hv; try (rcases hv with rfl | rfl | rfl | rfl | rfl <;> rfl); try (rcases hv with rfl | rfl | rfl | rfl <;> rfl); try (rcases hv with rfl | rfl | rfl <;> rfl); try (rcases hv with rfl | rfl <;> rfl); try (subst hv; rfl)) rfl (Nat.le_of_ble_eq_true rfl) (by decide) rfl (fun _ μM1 h => ?_)
  obtain ⟨r2, rfl, h⟩ := h
  refine zl_eqI (tgt := 1542) hE dL_law_867 (by decide) h.1 ?_
  exact kk _ _ h.2
def zOp_await (Rel : ZMem → ZMem → Prop) : Prop := ∀ μX μM : ZMem, Rel μX μM → ∀ (a1 : Int32), w_X11_await a1 μX (fun (r : Int32) (μX1 : ZMem) => w_X12_await a1 μM (fun (r2 : Int32) (μM1 : ZMem) => r = r2 ∧ Rel μX1 μM1))
theorem lc_21 {E : LCx} (hE : zLOk E) {Rel : ZMem → ZMem → Prop} (hop : zOp_await Rel) {x3 : Int32} {μX μM : ZMem} (hR : Rel μX μM) (h1 : vp_in (x3 + 1) E.L) (h2 : vp_in (x3 + 2) E.L) (h3 : vp_in (x3 + 3) E.L) (h4 : vp_in (x3 + 4) E.L) (h5 : vp_in (x3 + 5) E.L) (kk : ∀ μX1 μM1, Rel μX1 μM1 → zL E 1542 [(3, .int x3), (2, .ref (E.a + 94 + 0)), (1, .ref (E.a + 0)), (0, .ref E.b)] [] μX1 μM1) : zL E 872 [(3, .int x3), (2, .ref (E.a + 94 + 0)), (1, .ref (E.a + 0)), (0, .ref E.b)] [] μX μM := by
  refine zl_aload_n hE dL_law_872 rfl 2 rfl ?_
  refine zl_aload_n hE dL_law_873 rfl 3 rfl ?_
  refine zl_iload_n hE dL_law_874 rfl 0 rfl ?_
  refine zl_iconst (v := 1) hE dL_law_875 (by decide) ?_
  refine zl_iadd hE dL_law_876 ?_
  refine zl_sld hE dL_law_877 h1 ?_
  have h := hop μX μM hR (E.xs (x3 + 1).toNatClampNeg)
  refine zl_callX hE dL_law_878 lV_L_103 (c_X11_await _ μX _ h) (fun ad v hv => by simp at hv; try (rcases hv with rfl | rfl | rfl | rfl | rfl <;> rfl); try (rcases hv with rfl | rfl | rfl | rfl <;> rfl); try (rcases hv with rfl | rfl | rfl <;> rfl); try (rcases hv with rfl | rfl <;> rfl); try (subst hv; rfl)) rfl (Nat.le_of_ble_eq_true rfl) (by decide) rfl (fun _ μX1 h => ?_)
  obtain ⟨r1, rfl, h⟩ := h
  refine zl_aload_n hE dL_law_881 rfl 1 rfl ?_
  refine zl_aload_n hE dL_law_882 rfl 3 rfl ?_
  refine zl_iload_n hE dL_law_883 rfl 0 rfl ?_
  refine zl_iconst (v := 1) hE dL_law_884 (by decide) ?_
  refine zl_iadd hE dL_law_885 ?_
  refine zl_sld hE dL_law_886 h1 ?_
  refine zl_callM hE dL_law_887 lV_L_106 (c_X12_await _ μM _ h) (fun ad v hv => by simp at hv; try (rcases hv with rfl | rfl | rfl | rfl | rfl <;> rfl); try (rcases hv with rfl | rfl | rfl | rfl <;> rfl); try (rcases hv with rfl | rfl | rfl <;> rfl); try (rcases hv with rfl | rfl <;> rfl); try (subst hv; rfl)) rfl (Nat.le_of_ble_eq_true rfl) (by decide) rfl (fun _ μM1 h => ?_)
  obtain ⟨r2, rfl, h⟩ := h
  refine zl_eqI (tgt := 1542) hE dL_law_890 (by decide) h.1 ?_
  exact kk _ _ h.2
def zOp_next (Rel : ZMem → ZMem → Prop) : Prop := ∀ μX μM : ZMem, Rel μX μM → w_X11_next μX (fun (r : Int32) (μX1 : ZMem) => w_X12_next μM (fun (r2 : Int32) (μM1 : ZMem) => r = r2 ∧ Rel μX1 μM1))
theorem lc_22 {E : LCx} (hE : zLOk E) {Rel : ZMem → ZMem → Prop} (hop : zOp_next Rel) {x3 : Int32} {μX μM : ZMem} (hR : Rel μX μM) (h1 : vp_in (x3 + 1) E.L) (h2 : vp_in (x3 + 2) E.L) (h3 : vp_in (x3 + 3) E.L) (h4 : vp_in (x3 + 4) E.L) (h5 : vp_in (x3 + 5) E.L) (kk : ∀ μX1 μM1, Rel μX1 μM1 → zL E 1542 [(3, .int x3), (2, .ref (E.a + 94 + 0)), (1, .ref (E.a + 0)), (0, .ref E.b)] [] μX1 μM1) : zL E 895 [(3, .int x3), (2, .ref (E.a + 94 + 0)), (1, .ref (E.a + 0)), (0, .ref E.b)] [] μX μM := by
  refine zl_aload_n hE dL_law_895 rfl 2 rfl ?_
  have h := hop μX μM hR 
  refine zl_callX hE dL_law_896 lV_L_107 (c_X11_next  μX _ h) (fun ad v hv => by simp at hv; try (rcases hv with rfl | rfl | rfl | rfl | rfl <;> rfl); try (rcases hv with rfl | rfl | rfl | rfl <;> rfl); try (rcases hv with rfl | rfl | rfl <;> rfl); try (rcases hv with rfl | rfl <;> rfl); try (subst hv; rfl)) rfl (Nat.le_of_ble_eq_true rfl) (by decide) rfl (fun _ μX1 h => ?_)
  obtain ⟨r1, rfl, h⟩ := h
  refine zl_aload_n hE dL_law_899 rfl 1 rfl ?_
  refine zl_callM hE dL_law_900 lV_L_110 (c_X12_next  μM _ h) (fun ad v hv => by simp at hv; try (rcases hv with rfl | rfl | rfl | rfl | rfl <;> rfl); try (rcases hv with rfl | rfl | rfl | rfl <;> rfl); try (rcases hv with rfl | rfl | rfl <;> rfl); try (rcases hv with rfl | rfl <;> rfl); try (subst hv; rfl)) rfl (Nat.le_of_ble_eq_true rfl) (by decide) rfl (fun _ μM1 h => ?_)
  obtain ⟨r2, rfl, h⟩ := h
  refine zl_eqI (tgt := 1542) hE dL_law_903 (by decide) h.1 ?_
  exact kk _ _ h.2
def zOp_waiting (Rel : ZMem → ZMem → Prop) : Prop := ∀ μX μM : ZMem, Rel μX μM → ∀ (a1 : Int32), w_X11_waiting a1 μX (fun (r : Int32) => w_X12_waiting a1 μM (fun (r2 : Int32) => r = r2 ∧ Rel μX μM))
theorem lc_23 {E : LCx} (hE : zLOk E) {Rel : ZMem → ZMem → Prop} (hop : zOp_waiting Rel) {x3 : Int32} {μX μM : ZMem} (hR : Rel μX μM) (h1 : vp_in (x3 + 1) E.L) (h2 : vp_in (x3 + 2) E.L) (h3 : vp_in (x3 + 3) E.L) (h4 : vp_in (x3 + 4) E.L) (h5 : vp_in (x3 + 5) E.L) (kk : ∀ μX1 μM1, Rel μX1 μM1 → zL E 1542 [(3, .int x3), (2, .ref (E.a + 94 + 0)), (1, .ref (E.a + 0)), (0, .ref E.b)] [] μX1 μM1) : zL E 908 [(3, .int x3), (2, .ref (E.a + 94 + 0)), (1, .ref (E.a + 0)), (0, .ref E.b)] [] μX μM := by
  refine zl_aload_n hE dL_law_908 rfl 2 rfl ?_
  refine zl_aload_n hE dL_law_909 rfl 3 rfl ?_
  refine zl_iload_n hE dL_law_910 rfl 0 rfl ?_
  refine zl_iconst (v := 1) hE dL_law_911 (by decide) ?_
  refine zl_iadd hE dL_law_912 ?_
  refine zl_sld hE dL_law_913 h1 ?_
  have h := hop μX μM hR (E.xs (x3 + 1).toNatClampNeg)
  refine zl_callX hE dL_law_914 lV_L_111 (c_X11_waiting _ μX _ h) (fun ad v hv => by simp at hv; try (rcases hv with rfl | rfl | rfl | rfl | rfl <;> rfl); try (rcases hv with rfl | rfl | rfl | rfl <;> rfl); try (rcases hv with rfl | rfl | rfl <;> rfl); try (rcases hv with rfl | rfl <;> rfl); try (subst hv; rfl)) rfl (Nat.le_of_ble_eq_true rfl) (by decide) rfl (fun _ μX1 h => ?_)
  obtain ⟨r1, rfl, rfl, h⟩ := h
  refine zl_aload_n hE dL_law_917 rfl 1 rfl ?_
  refine zl_aload_n hE dL_law_918 rfl 3 rfl ?_
  refine zl_iload_n hE dL_law_919 rfl 0 rfl ?_
  refine zl_iconst (v := 1) hE dL_law_920 (by decide) ?_
  refine zl_iadd hE dL_law_921 ?_
  refine zl_sld hE dL_law_922 h1 ?_
  refine zl_callM hE dL_law_923 lV_L_114 (c_X12_waiting _ μM _ h) (fun ad v hv => by simp at hv; try (rcases hv with rfl | rfl | rfl | rfl | rfl <;> rfl); try (rcases hv with rfl | rfl | rfl | rfl <;> rfl); try (rcases hv with rfl | rfl | rfl <;> rfl); try (rcases hv with rfl | rfl <;> rfl); try (subst hv; rfl)) rfl (Nat.le_of_ble_eq_true rfl) (by decide) rfl (fun _ μM1 h => ?_)
  obtain ⟨r2, rfl, rfl, h⟩ := h
  refine zl_eqI (tgt := 1542) hE dL_law_926 (by decide) h.1 ?_
  exact kk _ _ h.2
def zOp_weed (Rel : ZMem → ZMem → Prop) : Prop := ∀ μX μM : ZMem, Rel μX μM → ∀ (a1 : Int32) (a2 : Int32), w_X11_weed a1 a2 μX (fun (r : Int32) (μX1 : ZMem) => w_X12_weed a1 a2 μM (fun (r2 : Int32) (μM1 : ZMem) => r = r2 ∧ Rel μX1 μM1))
theorem lc_24 {E : LCx} (hE : zLOk E) {Rel : ZMem → ZMem → Prop} (hop : zOp_weed Rel) {x3 : Int32} {μX μM : ZMem} (hR : Rel μX μM) (h1 : vp_in (x3 + 1) E.L) (h2 : vp_in (x3 + 2) E.L) (h3 : vp_in (x3 + 3) E.L) (h4 : vp_in (x3 + 4) E.L) (h5 : vp_in (x3 + 5) E.L) (kk : ∀ μX1 μM1, Rel μX1 μM1 → zL E 1542 [(3, .int x3), (2, .ref (E.a + 94 + 0)), (1, .ref (E.a + 0)), (0, .ref E.b)] [] μX1 μM1) : zL E 931 [(3, .int x3), (2, .ref (E.a + 94 + 0)), (1, .ref (E.a + 0)), (0, .ref E.b)] [] μX μM := by
  refine zl_aload_n hE dL_law_931 rfl 2 rfl ?_
  refine zl_aload_n hE dL_law_932 rfl 3 rfl ?_
  refine zl_iload_n hE dL_law_933 rfl 0 rfl ?_
  refine zl_iconst (v := 1) hE dL_law_934 (by decide) ?_
  refine zl_iadd hE dL_law_935 ?_
  refine zl_sld hE dL_law_936 h1 ?_
  refine zl_aload_n hE dL_law_937 rfl 3 rfl ?_
  refine zl_iload_n hE dL_law_938 rfl 0 rfl ?_
  refine zl_iconst (v := 2) hE dL_law_939 (by decide) ?_
  refine zl_iadd hE dL_law_940 ?_
  refine zl_sld hE dL_law_941 h2 ?_
  have h := hop μX μM hR (E.xs (x3 + 1).toNatClampNeg) (E.xs (x3 + 2).toNatClampNeg)
  refine zl_callX hE dL_law_942 lV_L_115 (c_X11_weed _ _ μX _ h) (fun ad v hv => by simp at hv; try (rcases hv with rfl | rfl | rfl | rfl | rfl <;> rfl); try (rcases hv with rfl | rfl | rfl | rfl <;> rfl); try (rcases hv with rfl | rfl | rfl <;> rfl); try (rcases hv with rfl | rfl <;> rfl); try (subst hv; rfl)) rfl (Nat.le_of_ble_eq_true rfl) (by decide) rfl (fun _ μX1 h => ?_)
  obtain ⟨r1, rfl, h⟩ := h
  refine zl_aload_n hE dL_law_945 rfl 1 rfl ?_
  refine zl_aload_n hE dL_law_946 rfl 3 rfl ?_
  refine zl_iload_n hE dL_law_947 rfl 0 rfl ?_
  refine zl_iconst (v := 1) hE dL_law_948 (by decide) ?_
  refine zl_iadd hE dL_law_949 ?_
  refine zl_sld hE dL_law_950 h1 ?_
  refine zl_aload_n hE dL_law_951 rfl 3 rfl ?_
  refine zl_iload_n hE dL_law_952 rfl 0 rfl ?_
  refine zl_iconst (v := 2) hE dL_law_953 (by decide) ?_
  refine zl_iadd hE dL_law_954 ?_
  refine zl_sld hE dL_law_955 h2 ?_
  refine zl_callM hE dL_law_956 lV_L_118 (c_X12_weed _ _ μM _ h) (fun ad v hv => by simp at hv; try (rcases hv with rfl | rfl | rfl | rfl | rfl <;> rfl); try (rcases hv with rfl | rfl | rfl | rfl <;> rfl); try (rcases hv with rfl | rfl | rfl <;> rfl); try (rcases hv with rfl | rfl <;> rfl); try (subst hv; rfl)) rfl (Nat.le_of_ble_eq_true rfl) (by decide) rfl (fun _ μM1 h => ?_)
  obtain ⟨r2, rfl, h⟩ := h
  refine zl_eqI (tgt := 1542) hE dL_law_959 (by decide) h.1 ?_
  exact kk _ _ h.2
def zOp_swap (Rel : ZMem → ZMem → Prop) : Prop := ∀ μX μM : ZMem, Rel μX μM → ∀ (a1 : Int32), w_X11_swap a1 μX (fun (r : Int32) (μX1 : ZMem) => w_X12_swap a1 μM (fun (r2 : Int32) (μM1 : ZMem) => r = r2 ∧ Rel μX1 μM1))
theorem lc_25 {E : LCx} (hE : zLOk E) {Rel : ZMem → ZMem → Prop} (hop : zOp_swap Rel) {x3 : Int32} {μX μM : ZMem} (hR : Rel μX μM) (h1 : vp_in (x3 + 1) E.L) (h2 : vp_in (x3 + 2) E.L) (h3 : vp_in (x3 + 3) E.L) (h4 : vp_in (x3 + 4) E.L) (h5 : vp_in (x3 + 5) E.L) (kk : ∀ μX1 μM1, Rel μX1 μM1 → zL E 1542 [(3, .int x3), (2, .ref (E.a + 94 + 0)), (1, .ref (E.a + 0)), (0, .ref E.b)] [] μX1 μM1) : zL E 964 [(3, .int x3), (2, .ref (E.a + 94 + 0)), (1, .ref (E.a + 0)), (0, .ref E.b)] [] μX μM := by
  refine zl_aload_n hE dL_law_964 rfl 2 rfl ?_
  refine zl_aload_n hE dL_law_965 rfl 3 rfl ?_
  refine zl_iload_n hE dL_law_966 rfl 0 rfl ?_
  refine zl_iconst (v := 1) hE dL_law_967 (by decide) ?_
  refine zl_iadd hE dL_law_968 ?_
  refine zl_sld hE dL_law_969 h1 ?_
  have h := hop μX μM hR (E.xs (x3 + 1).toNatClampNeg)
  refine zl_callX hE dL_law_970 lV_L_119 (c_X11_swap _ μX _ h) (fun ad v hv => by simp at hv; try (rcases hv with rfl | rfl | rfl | rfl | rfl <;> rfl); try (rcases hv with rfl | rfl | rfl | rfl <;> rfl); try (rcases hv with rfl | rfl | rfl <;> rfl); try (rcases hv with rfl | rfl <;> rfl); try (subst hv; rfl)) rfl (Nat.le_of_ble_eq_true rfl) (by decide) rfl (fun _ μX1 h => ?_)
  obtain ⟨r1, rfl, h⟩ := h
  refine zl_aload_n hE dL_law_973 rfl 1 rfl ?_
  refine zl_aload_n hE dL_law_974 rfl 3 rfl ?_
  refine zl_iload_n hE dL_law_975 rfl 0 rfl ?_
  refine zl_iconst (v := 1) hE dL_law_976 (by decide) ?_
  refine zl_iadd hE dL_law_977 ?_
  refine zl_sld hE dL_law_978 h1 ?_
  refine zl_callM hE dL_law_979 lV_L_122 (c_X12_swap _ μM _ h) (fun ad v hv => by simp at hv; try (rcases hv with rfl | rfl | rfl | rfl | rfl <;> rfl); try (rcases hv with rfl | rfl | rfl | rfl <;> rfl); try (rcases hv with rfl | rfl | rfl <;> rfl); try (rcases hv with rfl | rfl <;> rfl); try (subst hv; rfl)) rfl (Nat.le_of_ble_eq_true rfl) (by decide) rfl (fun _ μM1 h => ?_)
  obtain ⟨r2, rfl, h⟩ := h
  refine zl_eqI (tgt := 1542) hE dL_law_982 (by decide) h.1 ?_
  exact kk _ _ h.2
def zOp_factor (Rel : ZMem → ZMem → Prop) : Prop := ∀ μX μM : ZMem, Rel μX μM → ∀ (a1 : Int32) (a2 : Int32) (a3 : Int32), w_X11_factor a1 a2 a3 μX (fun (r : Int32) (μX1 : ZMem) => w_X12_factor a1 a2 a3 μM (fun (r2 : Int32) (μM1 : ZMem) => r = r2 ∧ Rel μX1 μM1))
theorem lc_26 {E : LCx} (hE : zLOk E) {Rel : ZMem → ZMem → Prop} (hop : zOp_factor Rel) {x3 : Int32} {μX μM : ZMem} (hR : Rel μX μM) (h1 : vp_in (x3 + 1) E.L) (h2 : vp_in (x3 + 2) E.L) (h3 : vp_in (x3 + 3) E.L) (h4 : vp_in (x3 + 4) E.L) (h5 : vp_in (x3 + 5) E.L) (kk : ∀ μX1 μM1, Rel μX1 μM1 → zL E 1542 [(3, .int x3), (2, .ref (E.a + 94 + 0)), (1, .ref (E.a + 0)), (0, .ref E.b)] [] μX1 μM1) : zL E 987 [(3, .int x3), (2, .ref (E.a + 94 + 0)), (1, .ref (E.a + 0)), (0, .ref E.b)] [] μX μM := by
  refine zl_aload_n hE dL_law_987 rfl 2 rfl ?_
  refine zl_aload_n hE dL_law_988 rfl 3 rfl ?_
  refine zl_iload_n hE dL_law_989 rfl 0 rfl ?_
  refine zl_iconst (v := 1) hE dL_law_990 (by decide) ?_
  refine zl_iadd hE dL_law_991 ?_
  refine zl_sld hE dL_law_992 h1 ?_
  refine zl_aload_n hE dL_law_993 rfl 3 rfl ?_
  refine zl_iload_n hE dL_law_994 rfl 0 rfl ?_
  refine zl_iconst (v := 2) hE dL_law_995 (by decide) ?_
  refine zl_iadd hE dL_law_996 ?_
  refine zl_sld hE dL_law_997 h2 ?_
  refine zl_aload_n hE dL_law_998 rfl 3 rfl ?_
  refine zl_iload_n hE dL_law_999 rfl 0 rfl ?_
  refine zl_iconst (v := 3) hE dL_law_1000 (by decide) ?_
  refine zl_iadd hE dL_law_1001 ?_
  refine zl_sld hE dL_law_1002 h3 ?_
  have h := hop μX μM hR (E.xs (x3 + 1).toNatClampNeg) (E.xs (x3 + 2).toNatClampNeg) (E.xs (x3 + 3).toNatClampNeg)
  refine zl_callX hE dL_law_1003 lV_L_123 (c_X11_factor _ _ _ μX _ h) (fun ad v hv => by simp at hv; try (rcases hv with rfl | rfl | rfl | rfl | rfl <;> rfl); try (rcases hv with rfl | rfl | rfl | rfl <;> rfl); try (rcases hv with rfl | rfl | rfl <;> rfl); try (rcases hv with rfl | rfl <;> rfl); try (subst hv; rfl)) rfl (Nat.le_of_ble_eq_true rfl) (by decide) rfl (fun _ μX1 h => ?_)
  obtain ⟨r1, rfl, h⟩ := h
  refine zl_aload_n hE dL_law_1006 rfl 1 rfl ?_
  refine zl_aload_n hE dL_law_1007 rfl 3 rfl ?_
  refine zl_iload_n hE dL_law_1008 rfl 0 rfl ?_
  refine zl_iconst (v := 1) hE dL_law_1009 (by decide) ?_
  refine zl_iadd hE dL_law_1010 ?_
  refine zl_sld hE dL_law_1011 h1 ?_
  refine zl_aload_n hE dL_law_1012 rfl 3 rfl ?_
  refine zl_iload_n hE dL_law_1013 rfl 0 rfl ?_
  refine zl_iconst (v := 2) hE dL_law_1014 (by decide) ?_
  refine zl_iadd hE dL_law_1015 ?_
  refine zl_sld hE dL_law_1016 h2 ?_
  refine zl_aload_n hE dL_law_1017 rfl 3 rfl ?_
  refine zl_iload_n hE dL_law_1018 rfl 0 rfl ?_
  refine zl_iconst (v := 3) hE dL_law_1019 (by decide) ?_
  refine zl_iadd hE dL_law_1020 ?_
  refine zl_sld hE dL_law_1021 h3 ?_
  refine zl_callM hE dL_law_1022 lV_L_126 (c_X12_factor _ _ _ μM _ h) (fun ad v hv => by simp at hv; try (rcases hv with rfl | rfl | rfl | rfl | rfl <;> rfl); try (rcases hv with rfl | rfl | rfl | rfl <;> rfl); try (rcases hv with rfl | rfl | rfl <;> rfl); try (rcases hv with rfl | rfl <;> rfl); try (subst hv; rfl)) rfl (Nat.le_of_ble_eq_true rfl) (by decide) rfl (fun _ μM1 h => ?_)
  obtain ⟨r2, rfl, h⟩ := h
  refine zl_eqI (tgt := 1542) hE dL_law_1025 (by decide) h.1 ?_
  exact kk _ _ h.2
def zOp_factored (Rel : ZMem → ZMem → Prop) : Prop := ∀ μX μM : ZMem, Rel μX μM → ∀ (a1 : Int32) (a2 : Int32), w_X11_factored a1 a2 μX (fun (r : Int32) (μX1 : ZMem) => w_X12_factored a1 a2 μM (fun (r2 : Int32) (μM1 : ZMem) => r = r2 ∧ Rel μX1 μM1))
theorem lc_27 {E : LCx} (hE : zLOk E) {Rel : ZMem → ZMem → Prop} (hop : zOp_factored Rel) {x3 : Int32} {μX μM : ZMem} (hR : Rel μX μM) (h1 : vp_in (x3 + 1) E.L) (h2 : vp_in (x3 + 2) E.L) (h3 : vp_in (x3 + 3) E.L) (h4 : vp_in (x3 + 4) E.L) (h5 : vp_in (x3 + 5) E.L) (kk : ∀ μX1 μM1, Rel μX1 μM1 → zL E 1542 [(3, .int x3), (2, .ref (E.a + 94 + 0)), (1, .ref (E.a + 0)), (0, .ref E.b)] [] μX1 μM1) : zL E 1030 [(3, .int x3), (2, .ref (E.a + 94 + 0)), (1, .ref (E.a + 0)), (0, .ref E.b)] [] μX μM := by
  refine zl_aload_n hE dL_law_1030 rfl 2 rfl ?_
  refine zl_aload_n hE dL_law_1031 rfl 3 rfl ?_
  refine zl_iload_n hE dL_law_1032 rfl 0 rfl ?_
  refine zl_iconst (v := 1) hE dL_law_1033 (by decide) ?_
  refine zl_iadd hE dL_law_1034 ?_
  refine zl_sld hE dL_law_1035 h1 ?_
  refine zl_aload_n hE dL_law_1036 rfl 3 rfl ?_
  refine zl_iload_n hE dL_law_1037 rfl 0 rfl ?_
  refine zl_iconst (v := 2) hE dL_law_1038 (by decide) ?_
  refine zl_iadd hE dL_law_1039 ?_
  refine zl_sld hE dL_law_1040 h2 ?_
  have h := hop μX μM hR (E.xs (x3 + 1).toNatClampNeg) (E.xs (x3 + 2).toNatClampNeg)
  refine zl_callX hE dL_law_1041 lV_L_127 (c_X11_factored _ _ μX _ h) (fun ad v hv => by simp at hv; try (rcases hv with rfl | rfl | rfl | rfl | rfl <;> rfl); try (rcases hv with rfl | rfl | rfl | rfl <;> rfl); try (rcases hv with rfl | rfl | rfl <;> rfl); try (rcases hv with rfl | rfl <;> rfl); try (subst hv; rfl)) rfl (Nat.le_of_ble_eq_true rfl) (by decide) rfl (fun _ μX1 h => ?_)
  obtain ⟨r1, rfl, h⟩ := h
  refine zl_aload_n hE dL_law_1044 rfl 1 rfl ?_
  refine zl_aload_n hE dL_law_1045 rfl 3 rfl ?_
  refine zl_iload_n hE dL_law_1046 rfl 0 rfl ?_
  refine zl_iconst (v := 1) hE dL_law_1047 (by decide) ?_
  refine zl_iadd hE dL_law_1048 ?_
  refine zl_sld hE dL_law_1049 h1 ?_
  refine zl_aload_n hE dL_law_1050 rfl 3 rfl ?_
  refine zl_iload_n hE dL_law_1051 rfl 0 rfl ?_
  refine zl_iconst (v := 2) hE dL_law_1052 (by decide) ?_
  refine zl_iadd hE dL_law_1053 ?_
  refine zl_sld hE dL_law_1054 h2 ?_
  refine zl_callM hE dL_law_1055 lV_L_130 (c_X12_factored _ _ μM _ h) (fun ad v hv => by simp at hv; try (rcases hv with rfl | rfl | rfl | rfl | rfl <;> rfl); try (rcases hv with rfl | rfl | rfl | rfl <;> rfl); try (rcases hv with rfl | rfl | rfl <;> rfl); try (rcases hv with rfl | rfl <;> rfl); try (subst hv; rfl)) rfl (Nat.le_of_ble_eq_true rfl) (by decide) rfl (fun _ μM1 h => ?_)
  obtain ⟨r2, rfl, h⟩ := h
  refine zl_eqI (tgt := 1542) hE dL_law_1058 (by decide) h.1 ?_
  exact kk _ _ h.2
def zOp_unfactor (Rel : ZMem → ZMem → Prop) : Prop := ∀ μX μM : ZMem, Rel μX μM → ∀ (a1 : Int32), w_X11_unfactor a1 μX (fun (r : Int32) (μX1 : ZMem) => w_X12_unfactor a1 μM (fun (r2 : Int32) (μM1 : ZMem) => r = r2 ∧ Rel μX1 μM1))
theorem lc_28 {E : LCx} (hE : zLOk E) {Rel : ZMem → ZMem → Prop} (hop : zOp_unfactor Rel) {x3 : Int32} {μX μM : ZMem} (hR : Rel μX μM) (h1 : vp_in (x3 + 1) E.L) (h2 : vp_in (x3 + 2) E.L) (h3 : vp_in (x3 + 3) E.L) (h4 : vp_in (x3 + 4) E.L) (h5 : vp_in (x3 + 5) E.L) (kk : ∀ μX1 μM1, Rel μX1 μM1 → zL E 1542 [(3, .int x3), (2, .ref (E.a + 94 + 0)), (1, .ref (E.a + 0)), (0, .ref E.b)] [] μX1 μM1) : zL E 1063 [(3, .int x3), (2, .ref (E.a + 94 + 0)), (1, .ref (E.a + 0)), (0, .ref E.b)] [] μX μM := by
  refine zl_aload_n hE dL_law_1063 rfl 2 rfl ?_
  refine zl_aload_n hE dL_law_1064 rfl 3 rfl ?_
  refine zl_iload_n hE dL_law_1065 rfl 0 rfl ?_
  refine zl_iconst (v := 1) hE dL_law_1066 (by decide) ?_
  refine zl_iadd hE dL_law_1067 ?_
  refine zl_sld hE dL_law_1068 h1 ?_
  have h := hop μX μM hR (E.xs (x3 + 1).toNatClampNeg)
  refine zl_callX hE dL_law_1069 lV_L_131 (c_X11_unfactor _ μX _ h) (fun ad v hv => by simp at hv; try (rcases hv with rfl | rfl | rfl | rfl | rfl <;> rfl); try (rcases hv with rfl | rfl | rfl | rfl <;> rfl); try (rcases hv with rfl | rfl | rfl <;> rfl); try (rcases hv with rfl | rfl <;> rfl); try (subst hv; rfl)) rfl (Nat.le_of_ble_eq_true rfl) (by decide) rfl (fun _ μX1 h => ?_)
  obtain ⟨r1, rfl, h⟩ := h
  refine zl_aload_n hE dL_law_1072 rfl 1 rfl ?_
  refine zl_aload_n hE dL_law_1073 rfl 3 rfl ?_
  refine zl_iload_n hE dL_law_1074 rfl 0 rfl ?_
  refine zl_iconst (v := 1) hE dL_law_1075 (by decide) ?_
  refine zl_iadd hE dL_law_1076 ?_
  refine zl_sld hE dL_law_1077 h1 ?_
  refine zl_callM hE dL_law_1078 lV_L_134 (c_X12_unfactor _ μM _ h) (fun ad v hv => by simp at hv; try (rcases hv with rfl | rfl | rfl | rfl | rfl <;> rfl); try (rcases hv with rfl | rfl | rfl | rfl <;> rfl); try (rcases hv with rfl | rfl | rfl <;> rfl); try (rcases hv with rfl | rfl <;> rfl); try (subst hv; rfl)) rfl (Nat.le_of_ble_eq_true rfl) (by decide) rfl (fun _ μM1 h => ?_)
  obtain ⟨r2, rfl, h⟩ := h
  refine zl_eqI (tgt := 1542) hE dL_law_1081 (by decide) h.1 ?_
  exact kk _ _ h.2
def zOp_known (Rel : ZMem → ZMem → Prop) : Prop := ∀ μX μM : ZMem, Rel μX μM → ∀ (a1 : Int32), w_X11_known a1 μX (fun (r : Int32) => w_X12_known a1 μM (fun (r2 : Int32) => r = r2 ∧ Rel μX μM))
theorem lc_29 {E : LCx} (hE : zLOk E) {Rel : ZMem → ZMem → Prop} (hop : zOp_known Rel) {x3 : Int32} {μX μM : ZMem} (hR : Rel μX μM) (h1 : vp_in (x3 + 1) E.L) (h2 : vp_in (x3 + 2) E.L) (h3 : vp_in (x3 + 3) E.L) (h4 : vp_in (x3 + 4) E.L) (h5 : vp_in (x3 + 5) E.L) (kk : ∀ μX1 μM1, Rel μX1 μM1 → zL E 1542 [(3, .int x3), (2, .ref (E.a + 94 + 0)), (1, .ref (E.a + 0)), (0, .ref E.b)] [] μX1 μM1) : zL E 1086 [(3, .int x3), (2, .ref (E.a + 94 + 0)), (1, .ref (E.a + 0)), (0, .ref E.b)] [] μX μM := by
  refine zl_aload_n hE dL_law_1086 rfl 2 rfl ?_
  refine zl_aload_n hE dL_law_1087 rfl 3 rfl ?_
  refine zl_iload_n hE dL_law_1088 rfl 0 rfl ?_
  refine zl_iconst (v := 1) hE dL_law_1089 (by decide) ?_
  refine zl_iadd hE dL_law_1090 ?_
  refine zl_sld hE dL_law_1091 h1 ?_
  have h := hop μX μM hR (E.xs (x3 + 1).toNatClampNeg)
  refine zl_callX hE dL_law_1092 lV_L_135 (c_X11_known _ μX _ h) (fun ad v hv => by simp at hv; try (rcases hv with rfl | rfl | rfl | rfl | rfl <;> rfl); try (rcases hv with rfl | rfl | rfl | rfl <;> rfl); try (rcases hv with rfl | rfl | rfl <;> rfl); try (rcases hv with rfl | rfl <;> rfl); try (subst hv; rfl)) rfl (Nat.le_of_ble_eq_true rfl) (by decide) rfl (fun _ μX1 h => ?_)
  obtain ⟨r1, rfl, rfl, h⟩ := h
  refine zl_aload_n hE dL_law_1095 rfl 1 rfl ?_
  refine zl_aload_n hE dL_law_1096 rfl 3 rfl ?_
  refine zl_iload_n hE dL_law_1097 rfl 0 rfl ?_
  refine zl_iconst (v := 1) hE dL_law_1098 (by decide) ?_
  refine zl_iadd hE dL_law_1099 ?_
  refine zl_sld hE dL_law_1100 h1 ?_
  refine zl_callM hE dL_law_1101 lV_L_138 (c_X12_known _ μM _ h) (fun ad v hv => by simp at hv; try (rcases hv with rfl | rfl | rfl | rfl | rfl <;> rfl); try (rcases hv with rfl | rfl | rfl | rfl <;> rfl); try (rcases hv with rfl | rfl | rfl <;> rfl); try (rcases hv with rfl | rfl <;> rfl); try (subst hv; rfl)) rfl (Nat.le_of_ble_eq_true rfl) (by decide) rfl (fun _ μM1 h => ?_)
  obtain ⟨r2, rfl, rfl, h⟩ := h
  refine zl_eqI (tgt := 1542) hE dL_law_1104 (by decide) h.1 ?_
  exact kk _ _ h.2
def zOp_multiply (Rel : ZMem → ZMem → Prop) : Prop := ∀ μX μM : ZMem, Rel μX μM → w_X11_multiply μX (fun (r : Int32) (μX1 : ZMem) => w_X12_multiply μM (fun (r2 : Int32) (μM1 : ZMem) => r = r2 ∧ Rel μX1 μM1))
theorem lc_30 {E : LCx} (hE : zLOk E) {Rel : ZMem → ZMem → Prop} (hop : zOp_multiply Rel) {x3 : Int32} {μX μM : ZMem} (hR : Rel μX μM) (h1 : vp_in (x3 + 1) E.L) (h2 : vp_in (x3 + 2) E.L) (h3 : vp_in (x3 + 3) E.L) (h4 : vp_in (x3 + 4) E.L) (h5 : vp_in (x3 + 5) E.L) (kk : ∀ μX1 μM1, Rel μX1 μM1 → zL E 1542 [(3, .int x3), (2, .ref (E.a + 94 + 0)), (1, .ref (E.a + 0)), (0, .ref E.b)] [] μX1 μM1) : zL E 1109 [(3, .int x3), (2, .ref (E.a + 94 + 0)), (1, .ref (E.a + 0)), (0, .ref E.b)] [] μX μM := by
  refine zl_aload_n hE dL_law_1109 rfl 2 rfl ?_
  have h := hop μX μM hR 
  refine zl_callX hE dL_law_1110 lV_L_139 (c_X11_multiply  μX _ h) (fun ad v hv => by simp at hv; try (rcases hv with rfl | rfl | rfl | rfl | rfl <;> rfl); try (rcases hv with rfl | rfl | rfl | rfl <;> rfl); try (rcases hv with rfl | rfl | rfl <;> rfl); try (rcases hv with rfl | rfl <;> rfl); try (subst hv; rfl)) rfl (Nat.le_of_ble_eq_true rfl) (by decide) rfl (fun _ μX1 h => ?_)
  obtain ⟨r1, rfl, h⟩ := h
  refine zl_aload_n hE dL_law_1113 rfl 1 rfl ?_
  refine zl_callM hE dL_law_1114 lV_L_142 (c_X12_multiply  μM _ h) (fun ad v hv => by simp at hv; try (rcases hv with rfl | rfl | rfl | rfl | rfl <;> rfl); try (rcases hv with rfl | rfl | rfl | rfl <;> rfl); try (rcases hv with rfl | rfl | rfl <;> rfl); try (rcases hv with rfl | rfl <;> rfl); try (subst hv; rfl)) rfl (Nat.le_of_ble_eq_true rfl) (by decide) rfl (fun _ μM1 h => ?_)
  obtain ⟨r2, rfl, h⟩ := h
  refine zl_eqI (tgt := 1542) hE dL_law_1117 (by decide) h.1 ?_
  exact kk _ _ h.2
def zOp_rights (Rel : ZMem → ZMem → Prop) : Prop := ∀ μX μM : ZMem, Rel μX μM → ∀ (a1 : Int32), w_X11_rights a1 μX (fun (r : Int32) (μX1 : ZMem) => w_X12_rights a1 μM (fun (r2 : Int32) (μM1 : ZMem) => r = r2 ∧ Rel μX1 μM1))
theorem lc_31 {E : LCx} (hE : zLOk E) {Rel : ZMem → ZMem → Prop} (hop : zOp_rights Rel) {x3 : Int32} {μX μM : ZMem} (hR : Rel μX μM) (h1 : vp_in (x3 + 1) E.L) (h2 : vp_in (x3 + 2) E.L) (h3 : vp_in (x3 + 3) E.L) (h4 : vp_in (x3 + 4) E.L) (h5 : vp_in (x3 + 5) E.L) (kk : ∀ μX1 μM1, Rel μX1 μM1 → zL E 1542 [(3, .int x3), (2, .ref (E.a + 94 + 0)), (1, .ref (E.a + 0)), (0, .ref E.b)] [] μX1 μM1) : zL E 1122 [(3, .int x3), (2, .ref (E.a + 94 + 0)), (1, .ref (E.a + 0)), (0, .ref E.b)] [] μX μM := by
  refine zl_aload_n hE dL_law_1122 rfl 2 rfl ?_
  refine zl_aload_n hE dL_law_1123 rfl 3 rfl ?_
  refine zl_iload_n hE dL_law_1124 rfl 0 rfl ?_
  refine zl_iconst (v := 1) hE dL_law_1125 (by decide) ?_
  refine zl_iadd hE dL_law_1126 ?_
  refine zl_sld hE dL_law_1127 h1 ?_
  have h := hop μX μM hR (E.xs (x3 + 1).toNatClampNeg)
  refine zl_callX hE dL_law_1128 lV_L_143 (c_X11_rights _ μX _ h) (fun ad v hv => by simp at hv; try (rcases hv with rfl | rfl | rfl | rfl | rfl <;> rfl); try (rcases hv with rfl | rfl | rfl | rfl <;> rfl); try (rcases hv with rfl | rfl | rfl <;> rfl); try (rcases hv with rfl | rfl <;> rfl); try (subst hv; rfl)) rfl (Nat.le_of_ble_eq_true rfl) (by decide) rfl (fun _ μX1 h => ?_)
  obtain ⟨r1, rfl, h⟩ := h
  refine zl_aload_n hE dL_law_1131 rfl 1 rfl ?_
  refine zl_aload_n hE dL_law_1132 rfl 3 rfl ?_
  refine zl_iload_n hE dL_law_1133 rfl 0 rfl ?_
  refine zl_iconst (v := 1) hE dL_law_1134 (by decide) ?_
  refine zl_iadd hE dL_law_1135 ?_
  refine zl_sld hE dL_law_1136 h1 ?_
  refine zl_callM hE dL_law_1137 lV_L_146 (c_X12_rights _ μM _ h) (fun ad v hv => by simp at hv; try (rcases hv with rfl | rfl | rfl | rfl | rfl <;> rfl); try (rcases hv with rfl | rfl | rfl | rfl <;> rfl); try (rcases hv with rfl | rfl | rfl <;> rfl); try (rcases hv with rfl | rfl <;> rfl); try (subst hv; rfl)) rfl (Nat.le_of_ble_eq_true rfl) (by decide) rfl (fun _ μM1 h => ?_)
  obtain ⟨r2, rfl, h⟩ := h
  refine zl_eqI (tgt := 1542) hE dL_law_1140 (by decide) h.1 ?_
  exact kk _ _ h.2
def zOp_jumps (Rel : ZMem → ZMem → Prop) : Prop := ∀ μX μM : ZMem, Rel μX μM → w_X11_jumps μX (fun (r : Int32) (μX1 : ZMem) => w_X12_jumps μM (fun (r2 : Int32) (μM1 : ZMem) => r = r2 ∧ Rel μX1 μM1))
theorem lc_32 {E : LCx} (hE : zLOk E) {Rel : ZMem → ZMem → Prop} (hop : zOp_jumps Rel) {x3 : Int32} {μX μM : ZMem} (hR : Rel μX μM) (h1 : vp_in (x3 + 1) E.L) (h2 : vp_in (x3 + 2) E.L) (h3 : vp_in (x3 + 3) E.L) (h4 : vp_in (x3 + 4) E.L) (h5 : vp_in (x3 + 5) E.L) (kk : ∀ μX1 μM1, Rel μX1 μM1 → zL E 1542 [(3, .int x3), (2, .ref (E.a + 94 + 0)), (1, .ref (E.a + 0)), (0, .ref E.b)] [] μX1 μM1) : zL E 1145 [(3, .int x3), (2, .ref (E.a + 94 + 0)), (1, .ref (E.a + 0)), (0, .ref E.b)] [] μX μM := by
  refine zl_aload_n hE dL_law_1145 rfl 2 rfl ?_
  have h := hop μX μM hR 
  refine zl_callX hE dL_law_1146 lV_L_147 (c_X11_jumps  μX _ h) (fun ad v hv => by simp at hv; try (rcases hv with rfl | rfl | rfl | rfl | rfl <;> rfl); try (rcases hv with rfl | rfl | rfl | rfl <;> rfl); try (rcases hv with rfl | rfl | rfl <;> rfl); try (rcases hv with rfl | rfl <;> rfl); try (subst hv; rfl)) rfl (Nat.le_of_ble_eq_true rfl) (by decide) rfl (fun _ μX1 h => ?_)
  obtain ⟨r1, rfl, h⟩ := h
  refine zl_aload_n hE dL_law_1149 rfl 1 rfl ?_
  refine zl_callM hE dL_law_1150 lV_L_150 (c_X12_jumps  μM _ h) (fun ad v hv => by simp at hv; try (rcases hv with rfl | rfl | rfl | rfl | rfl <;> rfl); try (rcases hv with rfl | rfl | rfl | rfl <;> rfl); try (rcases hv with rfl | rfl | rfl <;> rfl); try (rcases hv with rfl | rfl <;> rfl); try (subst hv; rfl)) rfl (Nat.le_of_ble_eq_true rfl) (by decide) rfl (fun _ μM1 h => ?_)
  obtain ⟨r2, rfl, h⟩ := h
  refine zl_eqI (tgt := 1542) hE dL_law_1153 (by decide) h.1 ?_
  exact kk _ _ h.2
def zOp_jump (Rel : ZMem → ZMem → Prop) : Prop := ∀ μX μM : ZMem, Rel μX μM → ∀ (a1 : Int32), w_X11_jump a1 μX (fun (r : Int32) (μX1 : ZMem) => w_X12_jump a1 μM (fun (r2 : Int32) (μM1 : ZMem) => r = r2 ∧ Rel μX1 μM1))
theorem lc_33 {E : LCx} (hE : zLOk E) {Rel : ZMem → ZMem → Prop} (hop : zOp_jump Rel) {x3 : Int32} {μX μM : ZMem} (hR : Rel μX μM) (h1 : vp_in (x3 + 1) E.L) (h2 : vp_in (x3 + 2) E.L) (h3 : vp_in (x3 + 3) E.L) (h4 : vp_in (x3 + 4) E.L) (h5 : vp_in (x3 + 5) E.L) (kk : ∀ μX1 μM1, Rel μX1 μM1 → zL E 1542 [(3, .int x3), (2, .ref (E.a + 94 + 0)), (1, .ref (E.a + 0)), (0, .ref E.b)] [] μX1 μM1) : zL E 1158 [(3, .int x3), (2, .ref (E.a + 94 + 0)), (1, .ref (E.a + 0)), (0, .ref E.b)] [] μX μM := by
  refine zl_aload_n hE dL_law_1158 rfl 2 rfl ?_
  refine zl_aload_n hE dL_law_1159 rfl 3 rfl ?_
  refine zl_iload_n hE dL_law_1160 rfl 0 rfl ?_
  refine zl_iconst (v := 1) hE dL_law_1161 (by decide) ?_
  refine zl_iadd hE dL_law_1162 ?_
  refine zl_sld hE dL_law_1163 h1 ?_
  have h := hop μX μM hR (E.xs (x3 + 1).toNatClampNeg)
  refine zl_callX hE dL_law_1164 lV_L_151 (c_X11_jump _ μX _ h) (fun ad v hv => by simp at hv; try (rcases hv with rfl | rfl | rfl | rfl | rfl <;> rfl); try (rcases hv with rfl | rfl | rfl | rfl <;> rfl); try (rcases hv with rfl | rfl | rfl <;> rfl); try (rcases hv with rfl | rfl <;> rfl); try (subst hv; rfl)) rfl (Nat.le_of_ble_eq_true rfl) (by decide) rfl (fun _ μX1 h => ?_)
  obtain ⟨r1, rfl, h⟩ := h
  refine zl_aload_n hE dL_law_1167 rfl 1 rfl ?_
  refine zl_aload_n hE dL_law_1168 rfl 3 rfl ?_
  refine zl_iload_n hE dL_law_1169 rfl 0 rfl ?_
  refine zl_iconst (v := 1) hE dL_law_1170 (by decide) ?_
  refine zl_iadd hE dL_law_1171 ?_
  refine zl_sld hE dL_law_1172 h1 ?_
  refine zl_callM hE dL_law_1173 lV_L_154 (c_X12_jump _ μM _ h) (fun ad v hv => by simp at hv; try (rcases hv with rfl | rfl | rfl | rfl | rfl <;> rfl); try (rcases hv with rfl | rfl | rfl | rfl <;> rfl); try (rcases hv with rfl | rfl | rfl <;> rfl); try (rcases hv with rfl | rfl <;> rfl); try (subst hv; rfl)) rfl (Nat.le_of_ble_eq_true rfl) (by decide) rfl (fun _ μM1 h => ?_)
  obtain ⟨r2, rfl, h⟩ := h
  refine zl_eqI (tgt := 1542) hE dL_law_1176 (by decide) h.1 ?_
  exact kk _ _ h.2
def zOp_best (Rel : ZMem → ZMem → Prop) : Prop := ∀ μX μM : ZMem, Rel μX μM → w_X11_best μX (fun (r : Int32) (μX1 : ZMem) => w_X12_best μM (fun (r2 : Int32) (μM1 : ZMem) => r = r2 ∧ Rel μX1 μM1))
theorem lc_34 {E : LCx} (hE : zLOk E) {Rel : ZMem → ZMem → Prop} (hop : zOp_best Rel) {x3 : Int32} {μX μM : ZMem} (hR : Rel μX μM) (h1 : vp_in (x3 + 1) E.L) (h2 : vp_in (x3 + 2) E.L) (h3 : vp_in (x3 + 3) E.L) (h4 : vp_in (x3 + 4) E.L) (h5 : vp_in (x3 + 5) E.L) (kk : ∀ μX1 μM1, Rel μX1 μM1 → zL E 1542 [(3, .int x3), (2, .ref (E.a + 94 + 0)), (1, .ref (E.a + 0)), (0, .ref E.b)] [] μX1 μM1) : zL E 1181 [(3, .int x3), (2, .ref (E.a + 94 + 0)), (1, .ref (E.a + 0)), (0, .ref E.b)] [] μX μM := by
  refine zl_aload_n hE dL_law_1181 rfl 2 rfl ?_
  have h := hop μX μM hR 
  refine zl_callX hE dL_law_1182 lV_L_155 (c_X11_best  μX _ h) (fun ad v hv => by simp at hv; try (rcases hv with rfl | rfl | rfl | rfl | rfl <;> rfl); try (rcases hv with rfl | rfl | rfl | rfl <;> rfl); try (rcases hv with rfl | rfl | rfl <;> rfl); try (rcases hv with rfl | rfl <;> rfl); try (subst hv; rfl)) rfl (Nat.le_of_ble_eq_true rfl) (by decide) rfl (fun _ μX1 h => ?_)
  obtain ⟨r1, rfl, h⟩ := h
  refine zl_aload_n hE dL_law_1185 rfl 1 rfl ?_
  refine zl_callM hE dL_law_1186 lV_L_158 (c_X12_best  μM _ h) (fun ad v hv => by simp at hv; try (rcases hv with rfl | rfl | rfl | rfl | rfl <;> rfl); try (rcases hv with rfl | rfl | rfl | rfl <;> rfl); try (rcases hv with rfl | rfl | rfl <;> rfl); try (rcases hv with rfl | rfl <;> rfl); try (subst hv; rfl)) rfl (Nat.le_of_ble_eq_true rfl) (by decide) rfl (fun _ μM1 h => ?_)
  obtain ⟨r2, rfl, h⟩ := h
  refine zl_eqI (tgt := 1542) hE dL_law_1189 (by decide) h.1 ?_
  exact kk _ _ h.2
def zOp_tray (Rel : ZMem → ZMem → Prop) : Prop := ∀ μX μM : ZMem, Rel μX μM → ∀ (a1 : Int32) (a2 : Int32) (a3 : Int32), w_X11_tray a1 a2 a3 μX (fun (r : Int32) (μX1 : ZMem) => w_X12_tray a1 a2 a3 μM (fun (r2 : Int32) (μM1 : ZMem) => r = r2 ∧ Rel μX1 μM1))
theorem lc_35 {E : LCx} (hE : zLOk E) {Rel : ZMem → ZMem → Prop} (hop : zOp_tray Rel) {x3 : Int32} {μX μM : ZMem} (hR : Rel μX μM) (h1 : vp_in (x3 + 1) E.L) (h2 : vp_in (x3 + 2) E.L) (h3 : vp_in (x3 + 3) E.L) (h4 : vp_in (x3 + 4) E.L) (h5 : vp_in (x3 + 5) E.L) (kk : ∀ μX1 μM1, Rel μX1 μM1 → zL E 1542 [(3, .int x3), (2, .ref (E.a + 94 + 0)), (1, .ref (E.a + 0)), (0, .ref E.b)] [] μX1 μM1) : zL E 1194 [(3, .int x3), (2, .ref (E.a + 94 + 0)), (1, .ref (E.a + 0)), (0, .ref E.b)] [] μX μM := by
  refine zl_aload_n hE dL_law_1194 rfl 2 rfl ?_
  refine zl_aload_n hE dL_law_1195 rfl 3 rfl ?_
  refine zl_iload_n hE dL_law_1196 rfl 0 rfl ?_
  refine zl_iconst (v := 1) hE dL_law_1197 (by decide) ?_
  refine zl_iadd hE dL_law_1198 ?_
  refine zl_sld hE dL_law_1199 h1 ?_
  refine zl_aload_n hE dL_law_1200 rfl 3 rfl ?_
  refine zl_iload_n hE dL_law_1201 rfl 0 rfl ?_
  refine zl_iconst (v := 2) hE dL_law_1202 (by decide) ?_
  refine zl_iadd hE dL_law_1203 ?_
  refine zl_sld hE dL_law_1204 h2 ?_
  refine zl_aload_n hE dL_law_1205 rfl 3 rfl ?_
  refine zl_iload_n hE dL_law_1206 rfl 0 rfl ?_
  refine zl_iconst (v := 3) hE dL_law_1207 (by decide) ?_
  refine zl_iadd hE dL_law_1208 ?_
  refine zl_sld hE dL_law_1209 h3 ?_
  have h := hop μX μM hR (E.xs (x3 + 1).toNatClampNeg) (E.xs (x3 + 2).toNatClampNeg) (E.xs (x3 + 3).toNatClampNeg)
  refine zl_callX hE dL_law_1210 lV_L_159 (c_X11_tray _ _ _ μX _ h) (fun ad v hv => by simp at hv; try (rcases hv with rfl | rfl | rfl | rfl | rfl <;> rfl); try (rcases hv with rfl | rfl | rfl | rfl <;> rfl); try (rcases hv with rfl | rfl | rfl <;> rfl); try (rcases hv with rfl | rfl <;> rfl); try (subst hv; rfl)) rfl (Nat.le_of_ble_eq_true rfl) (by decide) rfl (fun _ μX1 h => ?_)
  obtain ⟨r1, rfl, h⟩ := h
  refine zl_aload_n hE dL_law_1213 rfl 1 rfl ?_
  refine zl_aload_n hE dL_law_1214 rfl 3 rfl ?_
  refine zl_iload_n hE dL_law_1215 rfl 0 rfl ?_
  refine zl_iconst (v := 1) hE dL_law_1216 (by decide) ?_
  refine zl_iadd hE dL_law_1217 ?_
  refine zl_sld hE dL_law_1218 h1 ?_
  refine zl_aload_n hE dL_law_1219 rfl 3 rfl ?_
  refine zl_iload_n hE dL_law_1220 rfl 0 rfl ?_
  refine zl_iconst (v := 2) hE dL_law_1221 (by decide) ?_
  refine zl_iadd hE dL_law_1222 ?_
  refine zl_sld hE dL_law_1223 h2 ?_
  refine zl_aload_n hE dL_law_1224 rfl 3 rfl ?_
  refine zl_iload_n hE dL_law_1225 rfl 0 rfl ?_
  refine zl_iconst (v := 3) hE dL_law_1226 (by decide) ?_
  refine zl_iadd hE dL_law_1227 ?_
  refine zl_sld hE dL_law_1228 h3 ?_
  refine zl_callM hE dL_law_1229 lV_L_162 (c_X12_tray _ _ _ μM _ h) (fun ad v hv => by simp at hv; try (rcases hv with rfl | rfl | rfl | rfl | rfl <;> rfl); try (rcases hv with rfl | rfl | rfl | rfl <;> rfl); try (rcases hv with rfl | rfl | rfl <;> rfl); try (rcases hv with rfl | rfl <;> rfl); try (subst hv; rfl)) rfl (Nat.le_of_ble_eq_true rfl) (by decide) rfl (fun _ μM1 h => ?_)
  obtain ⟨r2, rfl, h⟩ := h
  refine zl_eqI (tgt := 1542) hE dL_law_1232 (by decide) h.1 ?_
  exact kk _ _ h.2
def zOp_put (Rel : ZMem → ZMem → Prop) : Prop := ∀ μX μM : ZMem, Rel μX μM → ∀ (a1 : Int32) (a2 : Int32) (a3 : Int64), w_X11_put a1 a2 a3 μX (fun (r : Int32) (μX1 : ZMem) => w_X12_put a1 a2 a3 μM (fun (r2 : Int32) (μM1 : ZMem) => r = r2 ∧ Rel μX1 μM1))
theorem lc_36 {E : LCx} (hE : zLOk E) {Rel : ZMem → ZMem → Prop} (hop : zOp_put Rel) {x3 : Int32} {μX μM : ZMem} (hR : Rel μX μM) (h1 : vp_in (x3 + 1) E.L) (h2 : vp_in (x3 + 2) E.L) (h3 : vp_in (x3 + 3) E.L) (h4 : vp_in (x3 + 4) E.L) (h5 : vp_in (x3 + 5) E.L) (kk : ∀ μX1 μM1, Rel μX1 μM1 → zL E 1542 [(3, .int x3), (2, .ref (E.a + 94 + 0)), (1, .ref (E.a + 0)), (0, .ref E.b)] [] μX1 μM1) : zL E 1237 [(3, .int x3), (2, .ref (E.a + 94 + 0)), (1, .ref (E.a + 0)), (0, .ref E.b)] [] μX μM := by
  refine zl_aload_n hE dL_law_1237 rfl 2 rfl ?_
  refine zl_aload_n hE dL_law_1238 rfl 3 rfl ?_
  refine zl_iload_n hE dL_law_1239 rfl 0 rfl ?_
  refine zl_iconst (v := 1) hE dL_law_1240 (by decide) ?_
  refine zl_iadd hE dL_law_1241 ?_
  refine zl_sld hE dL_law_1242 h1 ?_
  refine zl_aload_n hE dL_law_1243 rfl 3 rfl ?_
  refine zl_iload_n hE dL_law_1244 rfl 0 rfl ?_
  refine zl_iconst (v := 2) hE dL_law_1245 (by decide) ?_
  refine zl_iadd hE dL_law_1246 ?_
  refine zl_sld hE dL_law_1247 h2 ?_
  refine zl_aload_n hE dL_law_1248 rfl 3 rfl ?_
  refine zl_iload_n hE dL_law_1249 rfl 0 rfl ?_
  refine zl_iconst (v := 3) hE dL_law_1250 (by decide) ?_
  refine zl_iadd hE dL_law_1251 ?_
  refine zl_sld hE dL_law_1252 h3 ?_
  refine zl_i2l hE dL_law_1253 ?_
  refine zl_bipush (v := 32) hE dL_law_1254 (by decide) ?_
  refine zl_lshl hE dL_law_1256 ?_
  refine zl_aload_n hE dL_law_1257 rfl 3 rfl ?_
  refine zl_iload_n hE dL_law_1258 rfl 0 rfl ?_
  refine zl_iconst (v := 4) hE dL_law_1259 (by decide) ?_
  refine zl_iadd hE dL_law_1260 ?_
  refine zl_sld hE dL_law_1261 h4 ?_
  refine zl_i2l hE dL_law_1262 ?_
  refine zl_ldc2 (v := 4294967295) hE dL_law_1263 (List.mem_of_getElem? (i := 1507) (by decide +kernel)) ?_
  refine zl_land hE dL_law_1266 ?_
  refine zl_lor hE dL_law_1267 ?_
  have h := hop μX μM hR (E.xs (x3 + 1).toNatClampNeg) (E.xs (x3 + 2).toNatClampNeg) (((Int32.toInt64 (E.xs (x3 + 3).toNatClampNeg)) <<< ((32 : Int32).toInt64 &&& 63)) ||| ((Int32.toInt64 (E.xs (x3 + 4).toNatClampNeg)) &&& (4294967295 : Int64)))
  refine zl_callX hE dL_law_1268 lV_L_165 (c_X11_put _ _ _ μX _ h) (fun ad v hv => by simp at hv; try (rcases hv with rfl | rfl | rfl | rfl | rfl <;> rfl); try (rcases hv with rfl | rfl | rfl | rfl <;> rfl); try (rcases hv with rfl | rfl | rfl <;> rfl); try (rcases hv with rfl | rfl <;> rfl); try (subst hv; rfl)) rfl (Nat.le_of_ble_eq_true rfl) (by decide) rfl (fun _ μX1 h => ?_)
  obtain ⟨r1, rfl, h⟩ := h
  refine zl_aload_n hE dL_law_1271 rfl 1 rfl ?_
  refine zl_aload_n hE dL_law_1272 rfl 3 rfl ?_
  refine zl_iload_n hE dL_law_1273 rfl 0 rfl ?_
  refine zl_iconst (v := 1) hE dL_law_1274 (by decide) ?_
  refine zl_iadd hE dL_law_1275 ?_
  refine zl_sld hE dL_law_1276 h1 ?_
  refine zl_aload_n hE dL_law_1277 rfl 3 rfl ?_
  refine zl_iload_n hE dL_law_1278 rfl 0 rfl ?_
  refine zl_iconst (v := 2) hE dL_law_1279 (by decide) ?_
  refine zl_iadd hE dL_law_1280 ?_
  refine zl_sld hE dL_law_1281 h2 ?_
  refine zl_aload_n hE dL_law_1282 rfl 3 rfl ?_
  refine zl_iload_n hE dL_law_1283 rfl 0 rfl ?_
  refine zl_iconst (v := 3) hE dL_law_1284 (by decide) ?_
  refine zl_iadd hE dL_law_1285 ?_
  refine zl_sld hE dL_law_1286 h3 ?_
  refine zl_i2l hE dL_law_1287 ?_
  refine zl_bipush (v := 32) hE dL_law_1288 (by decide) ?_
  refine zl_lshl hE dL_law_1290 ?_
  refine zl_aload_n hE dL_law_1291 rfl 3 rfl ?_
  refine zl_iload_n hE dL_law_1292 rfl 0 rfl ?_
  refine zl_iconst (v := 4) hE dL_law_1293 (by decide) ?_
  refine zl_iadd hE dL_law_1294 ?_
  refine zl_sld hE dL_law_1295 h4 ?_
  refine zl_i2l hE dL_law_1296 ?_
  refine zl_ldc2 (v := 4294967295) hE dL_law_1297 (List.mem_of_getElem? (i := 1507) (by decide +kernel)) ?_
  refine zl_land hE dL_law_1300 ?_
  refine zl_lor hE dL_law_1301 ?_
  refine zl_callM hE dL_law_1302 lV_L_169 (c_X12_put _ _ _ μM _ h) (fun ad v hv => by simp at hv; try (rcases hv with rfl | rfl | rfl | rfl | rfl <;> rfl); try (rcases hv with rfl | rfl | rfl | rfl <;> rfl); try (rcases hv with rfl | rfl | rfl <;> rfl); try (rcases hv with rfl | rfl <;> rfl); try (subst hv; rfl)) rfl (Nat.le_of_ble_eq_true rfl) (by decide) rfl (fun _ μM1 h => ?_)
  obtain ⟨r2, rfl, h⟩ := h
  refine zl_eqI (tgt := 1542) hE dL_law_1305 (by decide) h.1 ?_
  exact kk _ _ h.2
def zOp_get (Rel : ZMem → ZMem → Prop) : Prop := ∀ μX μM : ZMem, Rel μX μM → ∀ (a1 : Int32) (a2 : Int32), w_X11_get a1 a2 μX (fun (r : Int64) => w_X12_get a1 a2 μM (fun (r2 : Int64) => r = r2 ∧ Rel μX μM))
theorem lc_37 {E : LCx} (hE : zLOk E) {Rel : ZMem → ZMem → Prop} (hop : zOp_get Rel) {x3 : Int32} {μX μM : ZMem} (hR : Rel μX μM) (h1 : vp_in (x3 + 1) E.L) (h2 : vp_in (x3 + 2) E.L) (h3 : vp_in (x3 + 3) E.L) (h4 : vp_in (x3 + 4) E.L) (h5 : vp_in (x3 + 5) E.L) (kk : ∀ μX1 μM1, Rel μX1 μM1 → zL E 1542 [(3, .int x3), (2, .ref (E.a + 94 + 0)), (1, .ref (E.a + 0)), (0, .ref E.b)] [] μX1 μM1) : zL E 1310 [(3, .int x3), (2, .ref (E.a + 94 + 0)), (1, .ref (E.a + 0)), (0, .ref E.b)] [] μX μM := by
  refine zl_aload_n hE dL_law_1310 rfl 2 rfl ?_
  refine zl_aload_n hE dL_law_1311 rfl 3 rfl ?_
  refine zl_iload_n hE dL_law_1312 rfl 0 rfl ?_
  refine zl_iconst (v := 1) hE dL_law_1313 (by decide) ?_
  refine zl_iadd hE dL_law_1314 ?_
  refine zl_sld hE dL_law_1315 h1 ?_
  refine zl_aload_n hE dL_law_1316 rfl 3 rfl ?_
  refine zl_iload_n hE dL_law_1317 rfl 0 rfl ?_
  refine zl_iconst (v := 2) hE dL_law_1318 (by decide) ?_
  refine zl_iadd hE dL_law_1319 ?_
  refine zl_sld hE dL_law_1320 h2 ?_
  have h := hop μX μM hR (E.xs (x3 + 1).toNatClampNeg) (E.xs (x3 + 2).toNatClampNeg)
  refine zl_callX hE dL_law_1321 lV_L_170 (c_X11_get _ _ μX _ h) (fun ad v hv => by simp at hv; try (rcases hv with rfl | rfl | rfl | rfl | rfl <;> rfl); try (rcases hv with rfl | rfl | rfl | rfl <;> rfl); try (rcases hv with rfl | rfl | rfl <;> rfl); try (rcases hv with rfl | rfl <;> rfl); try (subst hv; rfl)) rfl (Nat.le_of_ble_eq_true rfl) (by decide) rfl (fun _ μX1 h => ?_)
  obtain ⟨r1, rfl, rfl, h⟩ := h
  refine zl_aload_n hE dL_law_1324 rfl 1 rfl ?_
  refine zl_aload_n hE dL_law_1325 rfl 3 rfl ?_
  refine zl_iload_n hE dL_law_1326 rfl 0 rfl ?_
  refine zl_iconst (v := 1) hE dL_law_1327 (by decide) ?_
  refine zl_iadd hE dL_law_1328 ?_
  refine zl_sld hE dL_law_1329 h1 ?_
  refine zl_aload_n hE dL_law_1330 rfl 3 rfl ?_
  refine zl_iload_n hE dL_law_1331 rfl 0 rfl ?_
  refine zl_iconst (v := 2) hE dL_law_1332 (by decide) ?_
  refine zl_iadd hE dL_law_1333 ?_
  refine zl_sld hE dL_law_1334 h2 ?_
  refine zl_callM hE dL_law_1335 lV_L_173 (c_X12_get _ _ μM _ h) (fun ad v hv => by simp at hv; try (rcases hv with rfl | rfl | rfl | rfl | rfl <;> rfl); try (rcases hv with rfl | rfl | rfl | rfl <;> rfl); try (rcases hv with rfl | rfl | rfl <;> rfl); try (rcases hv with rfl | rfl <;> rfl); try (subst hv; rfl)) rfl (Nat.le_of_ble_eq_true rfl) (by decide) rfl (fun _ μM1 h => ?_)
  obtain ⟨r2, rfl, rfl, h⟩ := h
  refine zl_eqJ (tgt := 1542) hE dL_law_1338 dL_law_1339 (by decide) h.1 ?_
  exact kk _ _ h.2
def zOp_fill (Rel : ZMem → ZMem → Prop) : Prop := ∀ μX μM : ZMem, Rel μX μM → ∀ (a1 : Int32) (a2 : Int32) (a3 : Int32), w_X11_fill a1 a2 a3 μX (fun (r : Int32) (μX1 : ZMem) => w_X12_fill a1 a2 a3 μM (fun (r2 : Int32) (μM1 : ZMem) => r = r2 ∧ Rel μX1 μM1))
theorem lc_38 {E : LCx} (hE : zLOk E) {Rel : ZMem → ZMem → Prop} (hop : zOp_fill Rel) {x3 : Int32} {μX μM : ZMem} (hR : Rel μX μM) (h1 : vp_in (x3 + 1) E.L) (h2 : vp_in (x3 + 2) E.L) (h3 : vp_in (x3 + 3) E.L) (h4 : vp_in (x3 + 4) E.L) (h5 : vp_in (x3 + 5) E.L) (kk : ∀ μX1 μM1, Rel μX1 μM1 → zL E 1542 [(3, .int x3), (2, .ref (E.a + 94 + 0)), (1, .ref (E.a + 0)), (0, .ref E.b)] [] μX1 μM1) : zL E 1344 [(3, .int x3), (2, .ref (E.a + 94 + 0)), (1, .ref (E.a + 0)), (0, .ref E.b)] [] μX μM := by
  refine zl_aload_n hE dL_law_1344 rfl 2 rfl ?_
  refine zl_aload_n hE dL_law_1345 rfl 3 rfl ?_
  refine zl_iload_n hE dL_law_1346 rfl 0 rfl ?_
  refine zl_iconst (v := 1) hE dL_law_1347 (by decide) ?_
  refine zl_iadd hE dL_law_1348 ?_
  refine zl_sld hE dL_law_1349 h1 ?_
  refine zl_aload_n hE dL_law_1350 rfl 3 rfl ?_
  refine zl_iload_n hE dL_law_1351 rfl 0 rfl ?_
  refine zl_iconst (v := 2) hE dL_law_1352 (by decide) ?_
  refine zl_iadd hE dL_law_1353 ?_
  refine zl_sld hE dL_law_1354 h2 ?_
  refine zl_aload_n hE dL_law_1355 rfl 3 rfl ?_
  refine zl_iload_n hE dL_law_1356 rfl 0 rfl ?_
  refine zl_iconst (v := 3) hE dL_law_1357 (by decide) ?_
  refine zl_iadd hE dL_law_1358 ?_
  refine zl_sld hE dL_law_1359 h3 ?_
  have h := hop μX μM hR (E.xs (x3 + 1).toNatClampNeg) (E.xs (x3 + 2).toNatClampNeg) (E.xs (x3 + 3).toNatClampNeg)
  refine zl_callX hE dL_law_1360 lV_L_174 (c_X11_fill _ _ _ μX _ h) (fun ad v hv => by simp at hv; try (rcases hv with rfl | rfl | rfl | rfl | rfl <;> rfl); try (rcases hv with rfl | rfl | rfl | rfl <;> rfl); try (rcases hv with rfl | rfl | rfl <;> rfl); try (rcases hv with rfl | rfl <;> rfl); try (subst hv; rfl)) rfl (Nat.le_of_ble_eq_true rfl) (by decide) rfl (fun _ μX1 h => ?_)
  obtain ⟨r1, rfl, h⟩ := h
  refine zl_aload_n hE dL_law_1363 rfl 1 rfl ?_
  refine zl_aload_n hE dL_law_1364 rfl 3 rfl ?_
  refine zl_iload_n hE dL_law_1365 rfl 0 rfl ?_
  refine zl_iconst (v := 1) hE dL_law_1366 (by decide) ?_
  refine zl_iadd hE dL_law_1367 ?_
  refine zl_sld hE dL_law_1368 h1 ?_
  refine zl_aload_n hE dL_law_1369 rfl 3 rfl ?_
  refine zl_iload_n hE dL_law_1370 rfl 0 rfl ?_
  refine zl_iconst (v := 2) hE dL_law_1371 (by decide) ?_
  refine zl_iadd hE dL_law_1372 ?_
  refine zl_sld hE dL_law_1373 h2 ?_
  refine zl_aload_n hE dL_law_1374 rfl 3 rfl ?_
  refine zl_iload_n hE dL_law_1375 rfl 0 rfl ?_
  refine zl_iconst (v := 3) hE dL_law_1376 (by decide) ?_
  refine zl_iadd hE dL_law_1377 ?_
  refine zl_sld hE dL_law_1378 h3 ?_
  refine zl_callM hE dL_law_1379 lV_L_177 (c_X12_fill _ _ _ μM _ h) (fun ad v hv => by simp at hv; try (rcases hv with rfl | rfl | rfl | rfl | rfl <;> rfl); try (rcases hv with rfl | rfl | rfl | rfl <;> rfl); try (rcases hv with rfl | rfl | rfl <;> rfl); try (rcases hv with rfl | rfl <;> rfl); try (subst hv; rfl)) rfl (Nat.le_of_ble_eq_true rfl) (by decide) rfl (fun _ μM1 h => ?_)
  obtain ⟨r2, rfl, h⟩ := h
  refine zl_eqI (tgt := 1542) hE dL_law_1382 (by decide) h.1 ?_
  exact kk _ _ h.2
def zOp_judge (Rel : ZMem → ZMem → Prop) : Prop := ∀ μX μM : ZMem, Rel μX μM → ∀ (a1 : Int32) (a2 : Int32) (a3 : Int32), w_X11_judge a1 a2 a3 μX (fun (r : Int32) (μX1 : ZMem) => w_X12_judge a1 a2 a3 μM (fun (r2 : Int32) (μM1 : ZMem) => r = r2 ∧ Rel μX1 μM1))
theorem lc_39 {E : LCx} (hE : zLOk E) {Rel : ZMem → ZMem → Prop} (hop : zOp_judge Rel) {x3 : Int32} {μX μM : ZMem} (hR : Rel μX μM) (h1 : vp_in (x3 + 1) E.L) (h2 : vp_in (x3 + 2) E.L) (h3 : vp_in (x3 + 3) E.L) (h4 : vp_in (x3 + 4) E.L) (h5 : vp_in (x3 + 5) E.L) (kk : ∀ μX1 μM1, Rel μX1 μM1 → zL E 1542 [(3, .int x3), (2, .ref (E.a + 94 + 0)), (1, .ref (E.a + 0)), (0, .ref E.b)] [] μX1 μM1) : zL E 1387 [(3, .int x3), (2, .ref (E.a + 94 + 0)), (1, .ref (E.a + 0)), (0, .ref E.b)] [] μX μM := by
  refine zl_aload_n hE dL_law_1387 rfl 2 rfl ?_
  refine zl_aload_n hE dL_law_1388 rfl 3 rfl ?_
  refine zl_iload_n hE dL_law_1389 rfl 0 rfl ?_
  refine zl_iconst (v := 1) hE dL_law_1390 (by decide) ?_
  refine zl_iadd hE dL_law_1391 ?_
  refine zl_sld hE dL_law_1392 h1 ?_
  refine zl_aload_n hE dL_law_1393 rfl 3 rfl ?_
  refine zl_iload_n hE dL_law_1394 rfl 0 rfl ?_
  refine zl_iconst (v := 2) hE dL_law_1395 (by decide) ?_
  refine zl_iadd hE dL_law_1396 ?_
  refine zl_sld hE dL_law_1397 h2 ?_
  refine zl_aload_n hE dL_law_1398 rfl 3 rfl ?_
  refine zl_iload_n hE dL_law_1399 rfl 0 rfl ?_
  refine zl_iconst (v := 3) hE dL_law_1400 (by decide) ?_
  refine zl_iadd hE dL_law_1401 ?_
  refine zl_sld hE dL_law_1402 h3 ?_
  have h := hop μX μM hR (E.xs (x3 + 1).toNatClampNeg) (E.xs (x3 + 2).toNatClampNeg) (E.xs (x3 + 3).toNatClampNeg)
  refine zl_callX hE dL_law_1403 lV_L_178 (c_X11_judge _ _ _ μX _ h) (fun ad v hv => by simp at hv; try (rcases hv with rfl | rfl | rfl | rfl | rfl <;> rfl); try (rcases hv with rfl | rfl | rfl | rfl <;> rfl); try (rcases hv with rfl | rfl | rfl <;> rfl); try (rcases hv with rfl | rfl <;> rfl); try (subst hv; rfl)) rfl (Nat.le_of_ble_eq_true rfl) (by decide) rfl (fun _ μX1 h => ?_)
  obtain ⟨r1, rfl, h⟩ := h
  refine zl_aload_n hE dL_law_1406 rfl 1 rfl ?_
  refine zl_aload_n hE dL_law_1407 rfl 3 rfl ?_
  refine zl_iload_n hE dL_law_1408 rfl 0 rfl ?_
  refine zl_iconst (v := 1) hE dL_law_1409 (by decide) ?_
  refine zl_iadd hE dL_law_1410 ?_
  refine zl_sld hE dL_law_1411 h1 ?_
  refine zl_aload_n hE dL_law_1412 rfl 3 rfl ?_
  refine zl_iload_n hE dL_law_1413 rfl 0 rfl ?_
  refine zl_iconst (v := 2) hE dL_law_1414 (by decide) ?_
  refine zl_iadd hE dL_law_1415 ?_
  refine zl_sld hE dL_law_1416 h2 ?_
  refine zl_aload_n hE dL_law_1417 rfl 3 rfl ?_
  refine zl_iload_n hE dL_law_1418 rfl 0 rfl ?_
  refine zl_iconst (v := 3) hE dL_law_1419 (by decide) ?_
  refine zl_iadd hE dL_law_1420 ?_
  refine zl_sld hE dL_law_1421 h3 ?_
  refine zl_callM hE dL_law_1422 lV_L_181 (c_X12_judge _ _ _ μM _ h) (fun ad v hv => by simp at hv; try (rcases hv with rfl | rfl | rfl | rfl | rfl <;> rfl); try (rcases hv with rfl | rfl | rfl | rfl <;> rfl); try (rcases hv with rfl | rfl | rfl <;> rfl); try (rcases hv with rfl | rfl <;> rfl); try (subst hv; rfl)) rfl (Nat.le_of_ble_eq_true rfl) (by decide) rfl (fun _ μM1 h => ?_)
  obtain ⟨r2, rfl, h⟩ := h
  refine zl_eqI (tgt := 1542) hE dL_law_1425 (by decide) h.1 ?_
  exact kk _ _ h.2
def zOp_copy (Rel : ZMem → ZMem → Prop) : Prop := ∀ μX μM : ZMem, Rel μX μM → ∀ (a1 : Int32) (a2 : Int32) (a3 : Int32) (a4 : Int32) (a5 : Int32), w_X11_copy a1 a2 a3 a4 a5 μX (fun (r : Int32) (μX1 : ZMem) => w_X12_copy a1 a2 a3 a4 a5 μM (fun (r2 : Int32) (μM1 : ZMem) => r = r2 ∧ Rel μX1 μM1))
theorem lc_40 {E : LCx} (hE : zLOk E) {Rel : ZMem → ZMem → Prop} (hop : zOp_copy Rel) {x3 : Int32} {μX μM : ZMem} (hR : Rel μX μM) (h1 : vp_in (x3 + 1) E.L) (h2 : vp_in (x3 + 2) E.L) (h3 : vp_in (x3 + 3) E.L) (h4 : vp_in (x3 + 4) E.L) (h5 : vp_in (x3 + 5) E.L) (kk : ∀ μX1 μM1, Rel μX1 μM1 → zL E 1542 [(3, .int x3), (2, .ref (E.a + 94 + 0)), (1, .ref (E.a + 0)), (0, .ref E.b)] [] μX1 μM1) : zL E 1430 [(3, .int x3), (2, .ref (E.a + 94 + 0)), (1, .ref (E.a + 0)), (0, .ref E.b)] [] μX μM := by
  refine zl_aload_n hE dL_law_1430 rfl 2 rfl ?_
  refine zl_aload_n hE dL_law_1431 rfl 3 rfl ?_
  refine zl_iload_n hE dL_law_1432 rfl 0 rfl ?_
  refine zl_iconst (v := 1) hE dL_law_1433 (by decide) ?_
  refine zl_iadd hE dL_law_1434 ?_
  refine zl_sld hE dL_law_1435 h1 ?_
  refine zl_aload_n hE dL_law_1436 rfl 3 rfl ?_
  refine zl_iload_n hE dL_law_1437 rfl 0 rfl ?_
  refine zl_iconst (v := 2) hE dL_law_1438 (by decide) ?_
  refine zl_iadd hE dL_law_1439 ?_
  refine zl_sld hE dL_law_1440 h2 ?_
  refine zl_aload_n hE dL_law_1441 rfl 3 rfl ?_
  refine zl_iload_n hE dL_law_1442 rfl 0 rfl ?_
  refine zl_iconst (v := 3) hE dL_law_1443 (by decide) ?_
  refine zl_iadd hE dL_law_1444 ?_
  refine zl_sld hE dL_law_1445 h3 ?_
  refine zl_aload_n hE dL_law_1446 rfl 3 rfl ?_
  refine zl_iload_n hE dL_law_1447 rfl 0 rfl ?_
  refine zl_iconst (v := 4) hE dL_law_1448 (by decide) ?_
  refine zl_iadd hE dL_law_1449 ?_
  refine zl_sld hE dL_law_1450 h4 ?_
  refine zl_aload_n hE dL_law_1451 rfl 3 rfl ?_
  refine zl_iload_n hE dL_law_1452 rfl 0 rfl ?_
  refine zl_iconst (v := 5) hE dL_law_1453 (by decide) ?_
  refine zl_iadd hE dL_law_1454 ?_
  refine zl_sld hE dL_law_1455 h5 ?_
  have h := hop μX μM hR (E.xs (x3 + 1).toNatClampNeg) (E.xs (x3 + 2).toNatClampNeg) (E.xs (x3 + 3).toNatClampNeg) (E.xs (x3 + 4).toNatClampNeg) (E.xs (x3 + 5).toNatClampNeg)
  refine zl_callX hE dL_law_1456 lV_L_182 (c_X11_copy _ _ _ _ _ μX _ h) (fun ad v hv => by simp at hv; try (rcases hv with rfl | rfl | rfl | rfl | rfl <;> rfl); try (rcases hv with rfl | rfl | rfl | rfl <;> rfl); try (rcases hv with rfl | rfl | rfl <;> rfl); try (rcases hv with rfl | rfl <;> rfl); try (subst hv; rfl)) rfl (Nat.le_of_ble_eq_true rfl) (by decide) rfl (fun _ μX1 h => ?_)
  obtain ⟨r1, rfl, h⟩ := h
  refine zl_aload_n hE dL_law_1459 rfl 1 rfl ?_
  refine zl_aload_n hE dL_law_1460 rfl 3 rfl ?_
  refine zl_iload_n hE dL_law_1461 rfl 0 rfl ?_
  refine zl_iconst (v := 1) hE dL_law_1462 (by decide) ?_
  refine zl_iadd hE dL_law_1463 ?_
  refine zl_sld hE dL_law_1464 h1 ?_
  refine zl_aload_n hE dL_law_1465 rfl 3 rfl ?_
  refine zl_iload_n hE dL_law_1466 rfl 0 rfl ?_
  refine zl_iconst (v := 2) hE dL_law_1467 (by decide) ?_
  refine zl_iadd hE dL_law_1468 ?_
  refine zl_sld hE dL_law_1469 h2 ?_
  refine zl_aload_n hE dL_law_1470 rfl 3 rfl ?_
  refine zl_iload_n hE dL_law_1471 rfl 0 rfl ?_
  refine zl_iconst (v := 3) hE dL_law_1472 (by decide) ?_
  refine zl_iadd hE dL_law_1473 ?_
  refine zl_sld hE dL_law_1474 h3 ?_
  refine zl_aload_n hE dL_law_1475 rfl 3 rfl ?_
  refine zl_iload_n hE dL_law_1476 rfl 0 rfl ?_
  refine zl_iconst (v := 4) hE dL_law_1477 (by decide) ?_
  refine zl_iadd hE dL_law_1478 ?_
  refine zl_sld hE dL_law_1479 h4 ?_
  refine zl_aload_n hE dL_law_1480 rfl 3 rfl ?_
  refine zl_iload_n hE dL_law_1481 rfl 0 rfl ?_
  refine zl_iconst (v := 5) hE dL_law_1482 (by decide) ?_
  refine zl_iadd hE dL_law_1483 ?_
  refine zl_sld hE dL_law_1484 h5 ?_
  refine zl_callM hE dL_law_1485 lV_L_186 (c_X12_copy _ _ _ _ _ μM _ h) (fun ad v hv => by simp at hv; try (rcases hv with rfl | rfl | rfl | rfl | rfl <;> rfl); try (rcases hv with rfl | rfl | rfl | rfl <;> rfl); try (rcases hv with rfl | rfl | rfl <;> rfl); try (rcases hv with rfl | rfl <;> rfl); try (subst hv; rfl)) rfl (Nat.le_of_ble_eq_true rfl) (by decide) rfl (fun _ μM1 h => ?_)
  obtain ⟨r2, rfl, h⟩ := h
  refine zl_eqI (tgt := 1542) hE dL_law_1488 (by decide) h.1 ?_
  exact kk _ _ h.2
def zOp_count (Rel : ZMem → ZMem → Prop) : Prop := ∀ μX μM : ZMem, Rel μX μM → ∀ (a1 : Int32), w_X11_count a1 μX (fun (r : Int32) (μX1 : ZMem) => w_X12_count a1 μM (fun (r2 : Int32) (μM1 : ZMem) => r = r2 ∧ Rel μX1 μM1))
theorem lc_41 {E : LCx} (hE : zLOk E) {Rel : ZMem → ZMem → Prop} (hop : zOp_count Rel) {x3 : Int32} {μX μM : ZMem} (hR : Rel μX μM) (h1 : vp_in (x3 + 1) E.L) (h2 : vp_in (x3 + 2) E.L) (h3 : vp_in (x3 + 3) E.L) (h4 : vp_in (x3 + 4) E.L) (h5 : vp_in (x3 + 5) E.L) (kk : ∀ μX1 μM1, Rel μX1 μM1 → zL E 1542 [(3, .int x3), (2, .ref (E.a + 94 + 0)), (1, .ref (E.a + 0)), (0, .ref E.b)] [] μX1 μM1) : zL E 1493 [(3, .int x3), (2, .ref (E.a + 94 + 0)), (1, .ref (E.a + 0)), (0, .ref E.b)] [] μX μM := by
  refine zl_aload_n hE dL_law_1493 rfl 2 rfl ?_
  refine zl_aload_n hE dL_law_1494 rfl 3 rfl ?_
  refine zl_iload_n hE dL_law_1495 rfl 0 rfl ?_
  refine zl_iconst (v := 1) hE dL_law_1496 (by decide) ?_
  refine zl_iadd hE dL_law_1497 ?_
  refine zl_sld hE dL_law_1498 h1 ?_
  have h := hop μX μM hR (E.xs (x3 + 1).toNatClampNeg)
  refine zl_callX hE dL_law_1499 lV_L_187 (c_X11_count _ μX _ h) (fun ad v hv => by simp at hv; try (rcases hv with rfl | rfl | rfl | rfl | rfl <;> rfl); try (rcases hv with rfl | rfl | rfl | rfl <;> rfl); try (rcases hv with rfl | rfl | rfl <;> rfl); try (rcases hv with rfl | rfl <;> rfl); try (subst hv; rfl)) rfl (Nat.le_of_ble_eq_true rfl) (by decide) rfl (fun _ μX1 h => ?_)
  obtain ⟨r1, rfl, h⟩ := h
  refine zl_aload_n hE dL_law_1502 rfl 1 rfl ?_
  refine zl_aload_n hE dL_law_1503 rfl 3 rfl ?_
  refine zl_iload_n hE dL_law_1504 rfl 0 rfl ?_
  refine zl_iconst (v := 1) hE dL_law_1505 (by decide) ?_
  refine zl_iadd hE dL_law_1506 ?_
  refine zl_sld hE dL_law_1507 h1 ?_
  refine zl_callM hE dL_law_1508 lV_L_190 (c_X12_count _ μM _ h) (fun ad v hv => by simp at hv; try (rcases hv with rfl | rfl | rfl | rfl | rfl <;> rfl); try (rcases hv with rfl | rfl | rfl | rfl <;> rfl); try (rcases hv with rfl | rfl | rfl <;> rfl); try (rcases hv with rfl | rfl <;> rfl); try (subst hv; rfl)) rfl (Nat.le_of_ble_eq_true rfl) (by decide) rfl (fun _ μM1 h => ?_)
  obtain ⟨r2, rfl, h⟩ := h
  refine zl_eqI (tgt := 1542) hE dL_law_1511 (by decide) h.1 ?_
  exact kk _ _ h.2
def zOp_image (Rel : ZMem → ZMem → Prop) : Prop := ∀ μX μM : ZMem, Rel μX μM → w_X11_image μX (fun (r : Int32) (μX1 : ZMem) => w_X12_image μM (fun (r2 : Int32) (μM1 : ZMem) => r = r2 ∧ Rel μX1 μM1))
theorem lc_42 {E : LCx} (hE : zLOk E) {Rel : ZMem → ZMem → Prop} (hop : zOp_image Rel) {x3 : Int32} {μX μM : ZMem} (hR : Rel μX μM) (h1 : vp_in (x3 + 1) E.L) (h2 : vp_in (x3 + 2) E.L) (h3 : vp_in (x3 + 3) E.L) (h4 : vp_in (x3 + 4) E.L) (h5 : vp_in (x3 + 5) E.L) (kk : ∀ μX1 μM1, Rel μX1 μM1 → zL E 1542 [(3, .int x3), (2, .ref (E.a + 94 + 0)), (1, .ref (E.a + 0)), (0, .ref E.b)] [] μX1 μM1) : zL E 1516 [(3, .int x3), (2, .ref (E.a + 94 + 0)), (1, .ref (E.a + 0)), (0, .ref E.b)] [] μX μM := by
  refine zl_aload_n hE dL_law_1516 rfl 2 rfl ?_
  have h := hop μX μM hR 
  refine zl_callX hE dL_law_1517 lV_L_191 (c_X11_image  μX _ h) (fun ad v hv => by simp at hv; try (rcases hv with rfl | rfl | rfl | rfl | rfl <;> rfl); try (rcases hv with rfl | rfl | rfl | rfl <;> rfl); try (rcases hv with rfl | rfl | rfl <;> rfl); try (rcases hv with rfl | rfl <;> rfl); try (subst hv; rfl)) rfl (Nat.le_of_ble_eq_true rfl) (by decide) rfl (fun _ μX1 h => ?_)
  obtain ⟨r1, rfl, h⟩ := h
  refine zl_aload_n hE dL_law_1520 rfl 1 rfl ?_
  refine zl_callM hE dL_law_1521 lV_L_194 (c_X12_image  μM _ h) (fun ad v hv => by simp at hv; try (rcases hv with rfl | rfl | rfl | rfl | rfl <;> rfl); try (rcases hv with rfl | rfl | rfl | rfl <;> rfl); try (rcases hv with rfl | rfl | rfl <;> rfl); try (rcases hv with rfl | rfl <;> rfl); try (subst hv; rfl)) rfl (Nat.le_of_ble_eq_true rfl) (by decide) rfl (fun _ μM1 h => ?_)
  obtain ⟨r2, rfl, h⟩ := h
  refine zl_eqI (tgt := 1542) hE dL_law_1524 (by decide) h.1 ?_
  exact kk _ _ h.2
def zOp_undo (Rel : ZMem → ZMem → Prop) : Prop := ∀ μX μM : ZMem, Rel μX μM → w_X11_undo μX (fun (r : Int32) (μX1 : ZMem) => w_X12_undo μM (fun (r2 : Int32) (μM1 : ZMem) => r = r2 ∧ Rel μX1 μM1))
theorem lc_43 {E : LCx} (hE : zLOk E) {Rel : ZMem → ZMem → Prop} (hop : zOp_undo Rel) {x3 : Int32} {μX μM : ZMem} (hR : Rel μX μM) (h1 : vp_in (x3 + 1) E.L) (h2 : vp_in (x3 + 2) E.L) (h3 : vp_in (x3 + 3) E.L) (h4 : vp_in (x3 + 4) E.L) (h5 : vp_in (x3 + 5) E.L) (kk : ∀ μX1 μM1, Rel μX1 μM1 → zL E 1542 [(3, .int x3), (2, .ref (E.a + 94 + 0)), (1, .ref (E.a + 0)), (0, .ref E.b)] [] μX1 μM1) : zL E 1529 [(3, .int x3), (2, .ref (E.a + 94 + 0)), (1, .ref (E.a + 0)), (0, .ref E.b)] [] μX μM := by
  refine zl_aload_n hE dL_law_1529 rfl 2 rfl ?_
  have h := hop μX μM hR 
  refine zl_callX hE dL_law_1530 lV_L_195 (c_X11_undo  μX _ h) (fun ad v hv => by simp at hv; try (rcases hv with rfl | rfl | rfl | rfl | rfl <;> rfl); try (rcases hv with rfl | rfl | rfl | rfl <;> rfl); try (rcases hv with rfl | rfl | rfl <;> rfl); try (rcases hv with rfl | rfl <;> rfl); try (subst hv; rfl)) rfl (Nat.le_of_ble_eq_true rfl) (by decide) rfl (fun _ μX1 h => ?_)
  obtain ⟨r1, rfl, h⟩ := h
  refine zl_aload_n hE dL_law_1533 rfl 1 rfl ?_
  refine zl_callM hE dL_law_1534 lV_L_198 (c_X12_undo  μM _ h) (fun ad v hv => by simp at hv; try (rcases hv with rfl | rfl | rfl | rfl | rfl <;> rfl); try (rcases hv with rfl | rfl | rfl | rfl <;> rfl); try (rcases hv with rfl | rfl | rfl <;> rfl); try (rcases hv with rfl | rfl <;> rfl); try (subst hv; rfl)) rfl (Nat.le_of_ble_eq_true rfl) (by decide) rfl (fun _ μM1 h => ?_)
  obtain ⟨r2, rfl, h⟩ := h
  refine zl_eqI (tgt := 1542) hE dL_law_1537 (by decide) h.1 ?_
  exact kk _ _ h.2
def zOps (Rel : ZMem → ZMem → Prop) : Prop := zOp_set Rel ∧ zOp_of Rel ∧ zOp_gain Rel ∧ zOp_feed Rel ∧ zOp_read Rel ∧ zOp_form Rel ∧ zOp_degree Rel ∧ zOp_row Rel ∧ zOp_caseOf Rel ∧ zOp_roots Rel ∧ zOp_changes Rel ∧ zOp_strip Rel ∧ zOp_reach Rel ∧ zOp_steady Rel ∧ zOp_spans Rel ∧ zOp_span Rel ∧ zOp_nearest Rel ∧ zOp_links Rel ∧ zOp_link Rel ∧ zOp_chain Rel ∧ zOp_real Rel ∧ zOp_await Rel ∧ zOp_next Rel ∧ zOp_waiting Rel ∧ zOp_weed Rel ∧ zOp_swap Rel ∧ zOp_factor Rel ∧ zOp_factored Rel ∧ zOp_unfactor Rel ∧ zOp_known Rel ∧ zOp_multiply Rel ∧ zOp_rights Rel ∧ zOp_jumps Rel ∧ zOp_jump Rel ∧ zOp_best Rel ∧ zOp_tray Rel ∧ zOp_put Rel ∧ zOp_get Rel ∧ zOp_fill Rel ∧ zOp_judge Rel ∧ zOp_copy Rel ∧ zOp_count Rel ∧ zOp_image Rel ∧ zOp_undo Rel
theorem zl_44 {f : Nat → Prop} (h : f 0 ∧ f 1 ∧ f 2 ∧ f 3 ∧ f 4 ∧ f 5 ∧ f 6 ∧ f 7 ∧ f 8 ∧ f 9 ∧ f 10 ∧ f 11 ∧ f 12 ∧ f 13 ∧ f 14 ∧ f 15 ∧ f 16 ∧ f 17 ∧ f 18 ∧ f 19 ∧ f 20 ∧ f 21 ∧ f 22 ∧ f 23 ∧ f 24 ∧ f 25 ∧ f 26 ∧ f 27 ∧ f 28 ∧ f 29 ∧ f 30 ∧ f 31 ∧ f 32 ∧ f 33 ∧ f 34 ∧ f 35 ∧ f 36 ∧ f 37 ∧ f 38 ∧ f 39 ∧ f 40 ∧ f 41 ∧ f 42 ∧ f 43) : ∀ n, n < 44 → f n := by
  obtain ⟨h0, h1, h2, h3, h4, h5, h6, h7, h8, h9, h10, h11, h12, h13, h14, h15, h16, h17, h18, h19, h20, h21, h22, h23, h24, h25, h26, h27, h28, h29, h30, h31, h32, h33, h34, h35, h36, h37, h38, h39, h40, h41, h42, h43⟩ := h
  intro n hn
  match n, hn with
  | 0, _ => exact h0
  | 1, _ => exact h1
  | 2, _ => exact h2
  | 3, _ => exact h3
  | 4, _ => exact h4
  | 5, _ => exact h5
  | 6, _ => exact h6
  | 7, _ => exact h7
  | 8, _ => exact h8
  | 9, _ => exact h9
  | 10, _ => exact h10
  | 11, _ => exact h11
  | 12, _ => exact h12
  | 13, _ => exact h13
  | 14, _ => exact h14
  | 15, _ => exact h15
  | 16, _ => exact h16
  | 17, _ => exact h17
  | 18, _ => exact h18
  | 19, _ => exact h19
  | 20, _ => exact h20
  | 21, _ => exact h21
  | 22, _ => exact h22
  | 23, _ => exact h23
  | 24, _ => exact h24
  | 25, _ => exact h25
  | 26, _ => exact h26
  | 27, _ => exact h27
  | 28, _ => exact h28
  | 29, _ => exact h29
  | 30, _ => exact h30
  | 31, _ => exact h31
  | 32, _ => exact h32
  | 33, _ => exact h33
  | 34, _ => exact h34
  | 35, _ => exact h35
  | 36, _ => exact h36
  | 37, _ => exact h37
  | 38, _ => exact h38
  | 39, _ => exact h39
  | 40, _ => exact h40
  | 41, _ => exact h41
  | 42, _ => exact h42
  | 43, _ => exact h43
  | n + 44, hn => exact absurd hn (by omega)
theorem zl_loop {E : LCx} (hE : zLOk E) {Rel : ZMem → ZMem → Prop} (hops : zOps Rel) : ∀ (n i : Nat) (x3 : Int32) (μX μM : ZMem), i ≤ E.L + 6 → E.L + 12 ≤ i + n → x3 = nI i → Rel μX μM → zL E 18 [(3, .int x3), (2, .ref (E.a + 94 + 0)), (1, .ref (E.a + 0)), (0, .ref E.b)] [] μX μM := by
  obtain ⟨h_0, h_1, h_2, h_3, h_4, h_5, h_6, h_7, h_8, h_9, h_10, h_11, h_12, h_13, h_14, h_15, h_16, h_17, h_18, h_19, h_20, h_21, h_22, h_23, h_24, h_25, h_26, h_27, h_28, h_29, h_30, h_31, h_32, h_33, h_34, h_35, h_36, h_37, h_38, h_39, h_40, h_41, h_42, h_43⟩ := hops
  intro n
  induction n with
  | zero => intro i x3 μX μM h1 h2; exact absurd h2 (by omega)
  | succ n ih =>
    intro i x3 μX μM hi hin ex hR
    have hL := hE.2.2.2
    refine zl_iload_n hE dL_law_18 rfl 0 rfl ?_
    refine zl_aload_n hE dL_law_19 rfl 3 rfl ?_
    intro H locs ls hX hM hS hl
    refine va_slen hE.1.1 hE.1.2.1 hE.1.2.2.2.2.2.2.1 hE.1.2.2.2.2.2.2.2.1 (zl_bA hE) hS dL_law_20 ?_
    refine lv_bipush (v := 6) hE.1.1 hE.1.2.1 dL_law_21 (by decide) ?_
    refine lv_isub hE.1.1 hE.1.2.1 dL_law_23 ?_
    refine lv_icmp_gt (tgt := 1548) hE.1.1 hE.1.2.1 dL_law_24 (by decide) (fun c1 => ?_) (fun c1 => ?_)
    · refine lv_iconst (v := 1) hE.1.1 hE.1.2.1 dL_law_1548 (by decide) ?_
      refine va_forget (fun q hq => hS.2.2 q hq) ?_
      refine W.widen (k := 600000) (n := 7302249) (by omega) (by omega) ?_
      exact lw_ret hE.1.1 hE.1.2.1 hE.1.2.2.1 hE.1.2.2.2.2.2.2.2.2.1 dL_law_1549
    · have hlt : i + 6 ≤ E.L := by
        have e6 : (nI E.L - 6).toInt = (E.L : Int) - 6 := pk_sub_toInt (a := E.L) (b := 6) (by omega) (by omega)
        have e7 : x3.toInt = (i : Int) := by rw [ex]; exact nI_toInt (by omega)
        have c2 : ¬ (nI E.L - 6).toInt < x3.toInt := fun q => c1 (Int32.lt_iff_toInt_lt.mpr q)
        omega
      have hb : ∀ k, k < 6 → vp_in (x3 + nI k) E.L := fun k hk => by rw [ex, nI_add]; exact vp_in_nI (by omega) (by omega)
      have h0 : vp_in x3 E.L := by rw [ex]; exact vp_in_nI (by omega) (by omega)
      have h1 : vp_in (x3 + 1) E.L := hb 1 (by omega)
      have h2 : vp_in (x3 + 2) E.L := hb 2 (by omega)
      have h3 : vp_in (x3 + 3) E.L := hb 3 (by omega)
      have h4 : vp_in (x3 + 4) E.L := hb 4 (by omega)
      have h5 : vp_in (x3 + 5) E.L := hb 5 (by omega)
      have kk : ∀ μX1 μM1, Rel μX1 μM1 → zL E 1542 [(3, .int x3), (2, .ref (E.a + 94 + 0)), (1, .ref (E.a + 0)), (0, .ref E.b)] [] μX1 μM1 := by
        intro μX1 μM1 hR1 H locs ls hX hM hS hl
        refine lv_iinc (k := 0) (v := x3 + 6) (lv' := [(3, .int (x3 + 6)), (2, .ref (E.a + 94 + 0)), (1, .ref (E.a + 0)), (0, .ref E.b)]) hE.1.1 hE.1.2.1 dL_law_1542 hl rfl (by rfl) (by decide) rfl (fun ls hl => ?_)
        refine lv_goto (tgt := 18) hE.1.1 hE.1.2.1 dL_law_1545 (by decide) ?_
        exact ih (i + 6) (x3 + 6) μX1 μM1 (by omega) (by omega) (by rw [ex]; exact nI_add i 6) hR1 H locs ls hX hM hS hl
      revert hX hM hS hl
      revert H locs ls
      show zL E 27 [(3, .int x3), (2, .ref (E.a + 94 + 0)), (1, .ref (E.a + 0)), (0, .ref E.b)] [] μX μM
      refine zl_aload_n hE dL_law_27 rfl 3 rfl ?_
      refine zl_iload_n hE dL_law_28 rfl 0 rfl ?_
      refine zl_sld hE dL_law_29 h0 ?_
      refine zl_bipush (v := 63) hE dL_law_30 (by decide) ?_
      refine zl_iand hE dL_law_32 ?_
      generalize E.xs x3.toNatClampNeg &&& 63 = x
      by_cases hd : x.toInt < 0 ∨ 43 < x.toInt
      · refine zl_swOut (tgt := 1542) hE dL_law_33 hd (by decide) ?_
        exact kk _ _ hR
      · have hx : ∃ j : Nat, j < 44 ∧ x = nI j := by
          refine ⟨x.toInt.toNat, by omega, ?_⟩
          apply Int32.toInt_inj.mp
          rw [nI_toInt (by omega)]
          omega
        obtain ⟨j, hj, ej⟩ := hx
        revert ej
        refine zl_44 (f := fun j => x = nI j → zL E 33 [(3, .int x3), (2, .ref (E.a + 94 + 0)), (1, .ref (E.a + 0)), (0, .ref E.b)] [.int x] μX μM) ⟨?_, ?_, ?_, ?_, ?_, ?_, ?_, ?_, ?_, ?_, ?_, ?_, ?_, ?_, ?_, ?_, ?_, ?_, ?_, ?_, ?_, ?_, ?_, ?_, ?_, ?_, ?_, ?_, ?_, ?_, ?_, ?_, ?_, ?_, ?_, ?_, ?_, ?_, ?_, ?_, ?_, ?_, ?_, ?_⟩ j hj
        · intro ej; exact zl_swIn (tgt := 224) hE dL_law_33 (by rw [ej]; decide) (by rw [ej]; decide) (by rw [ej]; rfl) (by decide) (lc_0 hE h_0 hR h1 h2 h3 h4 h5 kk)
        · intro ej; exact zl_swIn (tgt := 268) hE dL_law_33 (by rw [ej]; decide) (by rw [ej]; decide) (by rw [ej]; rfl) (by decide) (lc_1 hE h_1 hR h1 h2 h3 h4 h5 kk)
        · intro ej; exact zl_swIn (tgt := 302) hE dL_law_33 (by rw [ej]; decide) (by rw [ej]; decide) (by rw [ej]; rfl) (by decide) (lc_2 hE h_2 hR h1 h2 h3 h4 h5 kk)
        · intro ej; exact zl_swIn (tgt := 325) hE dL_law_33 (by rw [ej]; decide) (by rw [ej]; decide) (by rw [ej]; rfl) (by decide) (lc_3 hE h_3 hR h1 h2 h3 h4 h5 kk)
        · intro ej; exact zl_swIn (tgt := 348) hE dL_law_33 (by rw [ej]; decide) (by rw [ej]; decide) (by rw [ej]; rfl) (by decide) (lc_4 hE h_4 hR h1 h2 h3 h4 h5 kk)
        · intro ej; exact zl_swIn (tgt := 361) hE dL_law_33 (by rw [ej]; decide) (by rw [ej]; decide) (by rw [ej]; rfl) (by decide) (lc_5 hE h_5 hR h1 h2 h3 h4 h5 kk)
        · intro ej; exact zl_swIn (tgt := 395) hE dL_law_33 (by rw [ej]; decide) (by rw [ej]; decide) (by rw [ej]; rfl) (by decide) (lc_6 hE h_6 hR h1 h2 h3 h4 h5 kk)
        · intro ej; exact zl_swIn (tgt := 428) hE dL_law_33 (by rw [ej]; decide) (by rw [ej]; decide) (by rw [ej]; rfl) (by decide) (lc_7 hE h_7 hR h1 h2 h3 h4 h5 kk)
        · intro ej; exact zl_swIn (tgt := 472) hE dL_law_33 (by rw [ej]; decide) (by rw [ej]; decide) (by rw [ej]; rfl) (by decide) (lc_8 hE h_8 hR h1 h2 h3 h4 h5 kk)
        · intro ej; exact zl_swIn (tgt := 505) hE dL_law_33 (by rw [ej]; decide) (by rw [ej]; decide) (by rw [ej]; rfl) (by decide) (lc_9 hE h_9 hR h1 h2 h3 h4 h5 kk)
        · intro ej; exact zl_swIn (tgt := 538) hE dL_law_33 (by rw [ej]; decide) (by rw [ej]; decide) (by rw [ej]; rfl) (by decide) (lc_10 hE h_10 hR h1 h2 h3 h4 h5 kk)
        · intro ej; exact zl_swIn (tgt := 581) hE dL_law_33 (by rw [ej]; decide) (by rw [ej]; decide) (by rw [ej]; rfl) (by decide) (lc_11 hE h_11 hR h1 h2 h3 h4 h5 kk)
        · intro ej; exact zl_swIn (tgt := 614) hE dL_law_33 (by rw [ej]; decide) (by rw [ej]; decide) (by rw [ej]; rfl) (by decide) (lc_12 hE h_12 hR h1 h2 h3 h4 h5 kk)
        · intro ej; exact zl_swIn (tgt := 627) hE dL_law_33 (by rw [ej]; decide) (by rw [ej]; decide) (by rw [ej]; rfl) (by decide) (lc_13 hE h_13 hR h1 h2 h3 h4 h5 kk)
        · intro ej; exact zl_swIn (tgt := 670) hE dL_law_33 (by rw [ej]; decide) (by rw [ej]; decide) (by rw [ej]; rfl) (by decide) (lc_14 hE h_14 hR h1 h2 h3 h4 h5 kk)
        · intro ej; exact zl_swIn (tgt := 693) hE dL_law_33 (by rw [ej]; decide) (by rw [ej]; decide) (by rw [ej]; rfl) (by decide) (lc_15 hE h_15 hR h1 h2 h3 h4 h5 kk)
        · intro ej; exact zl_swIn (tgt := 736) hE dL_law_33 (by rw [ej]; decide) (by rw [ej]; decide) (by rw [ej]; rfl) (by decide) (lc_16 hE h_16 hR h1 h2 h3 h4 h5 kk)
        · intro ej; exact zl_swIn (tgt := 769) hE dL_law_33 (by rw [ej]; decide) (by rw [ej]; decide) (by rw [ej]; rfl) (by decide) (lc_17 hE h_17 hR h1 h2 h3 h4 h5 kk)
        · intro ej; exact zl_swIn (tgt := 782) hE dL_law_33 (by rw [ej]; decide) (by rw [ej]; decide) (by rw [ej]; rfl) (by decide) (lc_18 hE h_18 hR h1 h2 h3 h4 h5 kk)
        · intro ej; exact zl_swIn (tgt := 816) hE dL_law_33 (by rw [ej]; decide) (by rw [ej]; decide) (by rw [ej]; rfl) (by decide) (lc_19 hE h_19 hR h1 h2 h3 h4 h5 kk)
        · intro ej; exact zl_swIn (tgt := 839) hE dL_law_33 (by rw [ej]; decide) (by rw [ej]; decide) (by rw [ej]; rfl) (by decide) (lc_20 hE h_20 hR h1 h2 h3 h4 h5 kk)
        · intro ej; exact zl_swIn (tgt := 872) hE dL_law_33 (by rw [ej]; decide) (by rw [ej]; decide) (by rw [ej]; rfl) (by decide) (lc_21 hE h_21 hR h1 h2 h3 h4 h5 kk)
        · intro ej; exact zl_swIn (tgt := 895) hE dL_law_33 (by rw [ej]; decide) (by rw [ej]; decide) (by rw [ej]; rfl) (by decide) (lc_22 hE h_22 hR h1 h2 h3 h4 h5 kk)
        · intro ej; exact zl_swIn (tgt := 908) hE dL_law_33 (by rw [ej]; decide) (by rw [ej]; decide) (by rw [ej]; rfl) (by decide) (lc_23 hE h_23 hR h1 h2 h3 h4 h5 kk)
        · intro ej; exact zl_swIn (tgt := 931) hE dL_law_33 (by rw [ej]; decide) (by rw [ej]; decide) (by rw [ej]; rfl) (by decide) (lc_24 hE h_24 hR h1 h2 h3 h4 h5 kk)
        · intro ej; exact zl_swIn (tgt := 964) hE dL_law_33 (by rw [ej]; decide) (by rw [ej]; decide) (by rw [ej]; rfl) (by decide) (lc_25 hE h_25 hR h1 h2 h3 h4 h5 kk)
        · intro ej; exact zl_swIn (tgt := 987) hE dL_law_33 (by rw [ej]; decide) (by rw [ej]; decide) (by rw [ej]; rfl) (by decide) (lc_26 hE h_26 hR h1 h2 h3 h4 h5 kk)
        · intro ej; exact zl_swIn (tgt := 1030) hE dL_law_33 (by rw [ej]; decide) (by rw [ej]; decide) (by rw [ej]; rfl) (by decide) (lc_27 hE h_27 hR h1 h2 h3 h4 h5 kk)
        · intro ej; exact zl_swIn (tgt := 1063) hE dL_law_33 (by rw [ej]; decide) (by rw [ej]; decide) (by rw [ej]; rfl) (by decide) (lc_28 hE h_28 hR h1 h2 h3 h4 h5 kk)
        · intro ej; exact zl_swIn (tgt := 1086) hE dL_law_33 (by rw [ej]; decide) (by rw [ej]; decide) (by rw [ej]; rfl) (by decide) (lc_29 hE h_29 hR h1 h2 h3 h4 h5 kk)
        · intro ej; exact zl_swIn (tgt := 1109) hE dL_law_33 (by rw [ej]; decide) (by rw [ej]; decide) (by rw [ej]; rfl) (by decide) (lc_30 hE h_30 hR h1 h2 h3 h4 h5 kk)
        · intro ej; exact zl_swIn (tgt := 1122) hE dL_law_33 (by rw [ej]; decide) (by rw [ej]; decide) (by rw [ej]; rfl) (by decide) (lc_31 hE h_31 hR h1 h2 h3 h4 h5 kk)
        · intro ej; exact zl_swIn (tgt := 1145) hE dL_law_33 (by rw [ej]; decide) (by rw [ej]; decide) (by rw [ej]; rfl) (by decide) (lc_32 hE h_32 hR h1 h2 h3 h4 h5 kk)
        · intro ej; exact zl_swIn (tgt := 1158) hE dL_law_33 (by rw [ej]; decide) (by rw [ej]; decide) (by rw [ej]; rfl) (by decide) (lc_33 hE h_33 hR h1 h2 h3 h4 h5 kk)
        · intro ej; exact zl_swIn (tgt := 1181) hE dL_law_33 (by rw [ej]; decide) (by rw [ej]; decide) (by rw [ej]; rfl) (by decide) (lc_34 hE h_34 hR h1 h2 h3 h4 h5 kk)
        · intro ej; exact zl_swIn (tgt := 1194) hE dL_law_33 (by rw [ej]; decide) (by rw [ej]; decide) (by rw [ej]; rfl) (by decide) (lc_35 hE h_35 hR h1 h2 h3 h4 h5 kk)
        · intro ej; exact zl_swIn (tgt := 1237) hE dL_law_33 (by rw [ej]; decide) (by rw [ej]; decide) (by rw [ej]; rfl) (by decide) (lc_36 hE h_36 hR h1 h2 h3 h4 h5 kk)
        · intro ej; exact zl_swIn (tgt := 1310) hE dL_law_33 (by rw [ej]; decide) (by rw [ej]; decide) (by rw [ej]; rfl) (by decide) (lc_37 hE h_37 hR h1 h2 h3 h4 h5 kk)
        · intro ej; exact zl_swIn (tgt := 1344) hE dL_law_33 (by rw [ej]; decide) (by rw [ej]; decide) (by rw [ej]; rfl) (by decide) (lc_38 hE h_38 hR h1 h2 h3 h4 h5 kk)
        · intro ej; exact zl_swIn (tgt := 1387) hE dL_law_33 (by rw [ej]; decide) (by rw [ej]; decide) (by rw [ej]; rfl) (by decide) (lc_39 hE h_39 hR h1 h2 h3 h4 h5 kk)
        · intro ej; exact zl_swIn (tgt := 1430) hE dL_law_33 (by rw [ej]; decide) (by rw [ej]; decide) (by rw [ej]; rfl) (by decide) (lc_40 hE h_40 hR h1 h2 h3 h4 h5 kk)
        · intro ej; exact zl_swIn (tgt := 1493) hE dL_law_33 (by rw [ej]; decide) (by rw [ej]; decide) (by rw [ej]; rfl) (by decide) (lc_41 hE h_41 hR h1 h2 h3 h4 h5 kk)
        · intro ej; exact zl_swIn (tgt := 1516) hE dL_law_33 (by rw [ej]; decide) (by rw [ej]; decide) (by rw [ej]; rfl) (by decide) (lc_42 hE h_42 hR h1 h2 h3 h4 h5 kk)
        · intro ej; exact zl_swIn (tgt := 1529) hE dL_law_33 (by rw [ej]; decide) (by rw [ej]; decide) (by rw [ej]; rfl) (by decide) (lc_43 hE h_43 hR h1 h2 h3 h4 h5 kk)
