/-! calls -/
def zz_CB (own : String) (index : Nat) (y : MethodName) (bytes : ByteArray) (maxL : Nat) (ret : Option FieldType) (n : Nat) : Prop := Cond.methodLink own index y ∈ zz_tbl ∧ Cond.initialized y.cls ∈ zz_tbl ∧ Cond.code y bytes maxL ret ∈ zz_tbl ∧ (y.cls ≠ "java/lang/invoke/MethodHandle" ∧ y.cls ≠ "java/lang/invoke/VarHandle" ∧ (parseMethodDescriptor y.desc).map (fun d => d.parameters.length) = some n) ∧ maxL ≤ 13
def zz_CV (own : String) (index : Nat) (y : MethodName) (bytes : ByteArray) (maxL : Nat) (ret : Option FieldType) (n ci : Nat) : Prop := zz_CB own index y bytes maxL ret n ∧ Cond.instanceMethod y ∈ zz_tbl ∧ Cond.selects y.cls y y ∈ zz_tbl ∧ ∃ (T : u_T) (N : Nat), vwCl[ci]? = some (y.cls, T, N)
def zz_CS (own : String) (index : Nat) (y : MethodName) (bytes : ByteArray) (maxL : Nat) (ret : Option FieldType) (n : Nat) : Prop := zz_CB own index y bytes maxL ret n ∧ Cond.static y ∈ zz_tbl
theorem zz_good : ∀ w ∈ zz_tbl, goodWord w = true := fun w h => (List.mem_filter.mp h).2
theorem zz_goodIn {y : MethodName} {bytes : ByteArray} {maxL : Nat} {ret : Option FieldType} (h : Cond.code y bytes maxL ret ∈ zz_tbl) : GoodIn zz_tbl (zz_ws y bytes maxL ret) := fun w hw => (List.mem_cons.mp hw).elim (fun e => by subst e; exact ⟨h, good_of_word (zz_good _ h)⟩) (fun h => ⟨h, good_of_word (zz_good _ h)⟩)
theorem zz_callB {R : Room} {s : State} {args : Array Value} {own : String} {index : Nat} {y : MethodName} {bytes : ByteArray} {maxL : Nat} {ret : Option FieldType} {n d' d : Nat} (hC : zz_CB own index y bytes maxL ret n) (hts : ∀ w ∈ zz_tbl, w.before args s = true) (hR : R = zz_rm d) (hd : d' + 1 ≤ d) : CallB R s args own index y bytes maxL ret (zz_ws y bytes maxL ret) (zz_rm d') 0 0 n := by
  obtain ⟨h1, h2, h3, h4, h5⟩ := hC
  refine callB_of (ws' := zz_tbl) n hts (zz_goodIn h3) rfl rfl rfl (hts _ h2) (hts _ h1) h4 ?_
  rw [hR]
  show d' + 1 + 1 ≤ d + 1 ∧ 8 + (maxL + 11) + (40 + 32 * d') ≤ 40 + 32 * d
  omega
theorem zz_pre {E : ZCx} {cc : ByteArray} {nL : Nat} {own : String} {rt : Option FieldType} {d : Nat} {S : List ZShp} {μ : ZMem} (hE : zz_Ok E cc nL own rt d S) {H : Heap} (hP : va_P E.D vwCl (zz_wld E.S E.cy E.ad μ) H) (As : List Value) : FrameBlind (va_Pc (As.map (zz_tr E.ad)) (fun U => va_P E.D vwCl (zz_wld S E.cy E.ad μ) U.heap ∧ va_K E.D vwCl (zz_tys E.cy) U ∧ va_D (fun _ => True) (zz_wld S E.cy E.ad μ))) ∧ ∀ U : State, U.heap = H → E.s.WarmedH U.vm → va_Pc (As.map (zz_tr E.ad)) (fun U => va_P E.D vwCl (zz_wld S E.cy E.ad μ) U.heap ∧ va_K E.D vwCl (zz_tys E.cy) U ∧ va_D (fun _ => True) (zz_wld S E.cy E.ad μ)) (As.map (zz_tr E.ad)).toArray U := by
  have hS := hE.2.2.2.2.2.2.2.2.1
  refine ⟨fun a U g mk q => ⟨q.1, q.2.1, va_K.moved (u := U) (U := U.calling g mk a) (Vm.Alike.refl U.vm) q.2.2.1, q.2.2.2⟩, fun U hU hW => ⟨rfl, ?_, va_K.moved hW.alike hE.2.2.2.2.2.2.2.2.2.1, ?_⟩⟩
  · rw [hU, ← hS]; exact hP
  · rw [← hS]; exact zz_wld_D (hE.2.2.2.2.2.2.2.2.2.2 μ) (fun _ _ => trivial)
theorem zz_goon {E : ZCx} {Φ Ψ : Option Value → ZMem → Prop} {pc : Nat} {lv : List (Nat × Value)} {st : List Value} {a : Array Value} {st0 : List Value} {H : Heap} {locs : List Loc} {ls : Array Slot} (hr : va_Run E.p E.l E.e E.R E.s E.m E.args E.below E.meth E.c H locs 0 0 0 0 (F0 E.m pc ls st0) (st.map (zz_tr E.ad)) (zz_Q E.D E.cy E.ad E.S Ψ a) (zz_A E.S E.ad)) (hS : va_S (zz_A E.S E.ad) E.s.heap H locs) (hl : lv_has ls E.c.maxLocals (lv.map fun q => (q.1, zz_tr E.ad q.2))) (k : ∀ r μ', Ψ r μ' → zZ E Φ (pc + 3) lv (r.toList ++ st) μ') : W E.p E.l E.e E.R E.s E.m E.args E.below E.meth E.c H locs 0 0 (MQ E.below (zz_Q E.D E.cy E.ad E.S Φ) E.args E.s 0 0 (zz_A E.S E.ad)) (F0 E.m pc ls st0) := by
  intro T hT X
  obtain ⟨v, st₀, t, T', L, h0, X', hL, e1, e2, ⟨⟨r, μ', hv, hΨ, hP'⟩, hz, hk⟩, stp⟩ := hr T hT X
  have hv' : v = r.map (zz_tr E.ad) := by injection hv
  subst hv'
  rw [h0] at hz hk
  obtain ⟨t2, a1, b1⟩ := k r μ' hΨ T'.heap (locs ++ L) ls (by rw [e1]; exact hP') ⟨Nat.le_trans hS.1 (by rw [e1]; exact hz), fun q h1 h2 => by rw [e1, hk q (Nat.lt_of_lt_of_le h1 hS.1) h2]; exact hS.2.1 q h1 h2, fun q hq => by
      rcases List.mem_append.mp hq with h | h
      · exact hS.2.2 q h
      · exact hL q h⟩ hl T' rfl X'
  refine ⟨t2, stp t2 ?_, b1⟩
  have e : (r.map (zz_tr E.ad)).toList ++ st.map (zz_tr E.ad) = (r.toList ++ st).map (zz_tr E.ad) := by cases r <;> rfl
  rw [e]
  exact a1
theorem z_callV {E : ZCx} {cc : ByteArray} {nL : Nat} {own : String} {rt : Option FieldType} {d : Nat} {S : List ZShp} {Φ : Option Value → ZMem → Prop} {pc : Nat} {lv : List (Nat × Value)} {st : List Value} {μ : ZMem} (hE : zz_Ok E cc nL own rt d S) {i n ci k d' maxL : Nat} {y : MethodName} {bytes : ByteArray} {ret : Option FieldType} {As st0 : List Value} {rs : List (Option Nat)} {Ψ : Option Value → ZMem → Prop} (hd : decode cc pc = .ok (.invokevirtual i, 3)) (hC : zz_CV own i y bytes maxL ret n ci) (hM : zM S y bytes maxL ret d' (.ref k :: As) μ Ψ) (hs : S[k]? = some (0, ci, rs)) (hn : As.length = n) (hst : (st.map fun v => v.category).sum ≤ 8) (hdd : d' + 1 ≤ d) (h0 : As.reverse ++ .ref k :: st = st0) (kk : ∀ r μ', Ψ r μ' → zZ E Φ (pc + 3) lv (r.toList ++ st) μ') : zZ E Φ pc lv st0 μ := by
  intro H locs ls hP hS hl
  subst h0
  have hES := hE.2.2.2.2.2.2.2.2.1
  obtain ⟨T, N, hcl⟩ := hC.2.2.2
  have hp := zz_pre hE hP (.ref k :: As)
  have hs' : E.S[k]? = some (0, ci, rs) := zz_sh hE hs
  have hrv := va_recv hE.2.2.2.2.2.2.2.2.2.1 hP hcl (zz_wld_get hs')
  subst hES
  refine zz_goon (Ψ := Ψ) (va_runV (As := As.map (zz_tr E.ad)) (rest := st.map (zz_tr E.ad)) (n := n) ⟨hE.1, hE.2.1, rfl, hE.2.2.2.1, hE.2.2.2.2.1⟩ (hM E.l E.D E.cy E.ad) ⟨zz_callB hC.1 hE.2.2.2.2.1 hE.2.2.2.2.2.2.2.1 hdd, hE.2.2.2.2.1 _ hC.2.1, hE.2.2.2.2.1 _ hC.2.2.1⟩ ⟨hp.1, hrv, hp.2⟩ rfl (by rw [List.length_map]; exact hn) hl.1 ?_ (lv_room (by rw [zz_tr_sum]; exact hst)) hd (by rw [hE.2.2.2.2.2.2.2.1]; exact ⟨Nat.le_refl _, Nat.le_refl _⟩)) hS hl kk
  show (As.reverse ++ .ref k :: st).map (zz_tr E.ad) = _
  rw [List.map_append, List.map_reverse]; rfl
theorem z_callS {E : ZCx} {cc : ByteArray} {nL : Nat} {own : String} {rt : Option FieldType} {d : Nat} {S : List ZShp} {Φ : Option Value → ZMem → Prop} {pc : Nat} {lv : List (Nat × Value)} {st : List Value} {μ : ZMem} (hE : zz_Ok E cc nL own rt d S) {i n d' maxL : Nat} {y : MethodName} {bytes : ByteArray} {ret : Option FieldType} {As st0 : List Value} {Ψ : Option Value → ZMem → Prop} (hd : decode cc pc = .ok (.invokestatic i, 3)) (hC : zz_CS own i y bytes maxL ret n) (hM : zM S y bytes maxL ret d' As μ Ψ) (hn : As.length = n) (hst : (st.map fun v => v.category).sum ≤ 8) (hdd : d' + 1 ≤ d) (h0 : As.reverse ++ st = st0) (kk : ∀ r μ', Ψ r μ' → zZ E Φ (pc + 3) lv (r.toList ++ st) μ') : zZ E Φ pc lv st0 μ := by
  intro H locs ls hP hS hl
  subst h0
  have hES := hE.2.2.2.2.2.2.2.2.1
  have hp := zz_pre hE hP As
  subst hES
  refine zz_goon (Ψ := Ψ) (va_runS (As := As.map (zz_tr E.ad)) (rest := st.map (zz_tr E.ad)) (n := n) ⟨hE.1, hE.2.1, rfl, hE.2.2.2.1, hE.2.2.2.2.1⟩ (hM E.l E.D E.cy E.ad) ⟨zz_callB hC.1 hE.2.2.2.2.1 hE.2.2.2.2.2.2.2.1 hdd, hE.2.2.2.2.1 _ hC.2⟩ hp rfl (by rw [List.length_map]; exact hn) hl.1 ?_ (lv_room (by rw [zz_tr_sum]; exact hst)) hd (by rw [hE.2.2.2.2.2.2.2.1]; exact ⟨Nat.le_refl _, Nat.le_refl _⟩)) hS hl kk
  show (As.reverse ++ st).map (zz_tr E.ad) = _
  rw [List.map_append, List.map_reverse]
/-! what a method's end says, by its type; loops; names -/
def zzI (Φ : Int32 → ZMem → Prop) : Option Value → ZMem → Prop := fun r μ => ∃ v, r = some (.int v) ∧ Φ v μ
def zzJ (Φ : Int64 → ZMem → Prop) : Option Value → ZMem → Prop := fun r μ => ∃ v, r = some (.long v) ∧ Φ v μ
def zzV (Φ : ZMem → Prop) : Option Value → ZMem → Prop := fun r μ => r = none ∧ Φ μ
def zzR (Φ : Nat → ZMem → Prop) : Option Value → ZMem → Prop := fun r μ => ∃ a, r = some (.ref a) ∧ Φ a μ
theorem zk_I {E : ZCx} {Φ : Option Value → ZMem → Prop} {pc : Nat} {lv : List (Nat × Value)} {st : List Value} {Ψ : Int32 → ZMem → Prop} (k : ∀ v μ, Ψ v μ → zZ E Φ pc lv (.int v :: st) μ) : ∀ r μ', zzI Ψ r μ' → zZ E Φ pc lv (r.toList ++ st) μ' := by
  rintro r μ' ⟨v, rfl, h⟩
  exact k v μ' h
theorem zk_J {E : ZCx} {Φ : Option Value → ZMem → Prop} {pc : Nat} {lv : List (Nat × Value)} {st : List Value} {Ψ : Int64 → ZMem → Prop} (k : ∀ v μ, Ψ v μ → zZ E Φ pc lv (.long v :: st) μ) : ∀ r μ', zzJ Ψ r μ' → zZ E Φ pc lv (r.toList ++ st) μ' := by
  rintro r μ' ⟨v, rfl, h⟩
  exact k v μ' h
theorem zk_V {E : ZCx} {Φ : Option Value → ZMem → Prop} {pc : Nat} {lv : List (Nat × Value)} {st : List Value} {Ψ : ZMem → Prop} (k : ∀ μ, Ψ μ → zZ E Φ pc lv st μ) : ∀ r μ', zzV Ψ r μ' → zZ E Φ pc lv (r.toList ++ st) μ' := by
  rintro r μ' ⟨rfl, h⟩
  exact k μ' h
theorem zk_R {E : ZCx} {Φ : Option Value → ZMem → Prop} {pc : Nat} {lv : List (Nat × Value)} {st : List Value} {Ψ : Nat → ZMem → Prop} (k : ∀ v μ, Ψ v μ → zZ E Φ pc lv (.ref v :: st) μ) : ∀ r μ', zzR Ψ r μ' → zZ E Φ pc lv (r.toList ++ st) μ' := by
  rintro r μ' ⟨v, rfl, h⟩
  exact k v μ' h
/-- a value's name -/
def nm {α : Type} (e : α) (F : α → Prop) : Prop := F e
def lpz1 {A : Type} (body : A → (A → Prop) → Prop) : Nat → A → Prop
  | 0 => fun _ => False
  | n + 1 => fun a => body a (lpz1 body n)
def lpz2 {A B : Type} (body : A → B → (A → B → Prop) → Prop) : Nat → A → B → Prop
  | 0 => fun _ _ => False
  | n + 1 => fun a b => body a b (lpz2 body n)
def lpz3 {A B C : Type} (body : A → B → C → (A → B → C → Prop) → Prop) : Nat → A → B → C → Prop
  | 0 => fun _ _ _ => False
  | n + 1 => fun a b c => body a b c (lpz3 body n)
def lpz4 {A B C D : Type} (body : A → B → C → D → (A → B → C → D → Prop) → Prop) : Nat → A → B → C → D → Prop
  | 0 => fun _ _ _ _ => False
  | n + 1 => fun a b c d => body a b c d (lpz4 body n)
def lpz5 {A B C D E : Type} (body : A → B → C → D → E → (A → B → C → D → E → Prop) → Prop) : Nat → A → B → C → D → E → Prop
  | 0 => fun _ _ _ _ _ => False
  | n + 1 => fun a b c d e => body a b c d e (lpz5 body n)
def lpz6 {A B C D E F : Type} (body : A → B → C → D → E → F → (A → B → C → D → E → F → Prop) → Prop) : Nat → A → B → C → D → E → F → Prop
  | 0 => fun _ _ _ _ _ _ => False
  | n + 1 => fun a b c d e f => body a b c d e f (lpz6 body n)
def lpz7 {A B C D E F G : Type} (body : A → B → C → D → E → F → G → (A → B → C → D → E → F → G → Prop) → Prop) : Nat → A → B → C → D → E → F → G → Prop
  | 0 => fun _ _ _ _ _ _ _ => False
  | n + 1 => fun a b c d e f g => body a b c d e f g (lpz7 body n)
def lpz8 {A B C D E F G H : Type} (body : A → B → C → D → E → F → G → H → (A → B → C → D → E → F → G → H → Prop) → Prop) : Nat → A → B → C → D → E → F → G → H → Prop
  | 0 => fun _ _ _ _ _ _ _ _ => False
  | n + 1 => fun a b c d e f g h => body a b c d e f g h (lpz8 body n)
