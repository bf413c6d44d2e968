/-! The core: an abstract world (cells by number, primitives in one memory, references fixed), the judgement zZ over it, a row an instruction. -/
def zz_tbl : List Cond := lw_tbl.filter goodWord
theorem zz_in (i : Nat) {w : Cond} (h : lw_tbl[i]? = some w) (hg : goodWord w = true) : w ∈ zz_tbl := List.mem_filter.mpr ⟨List.mem_of_getElem? h, hg⟩
abbrev ZShp : Type := Nat × Nat × List (Option Nat)
abbrev ZMem : Type := (Nat → Nat → Int32) × (Nat → Nat → Int64)
/-- an abstract value's own: a reference is the number of a cell -/
def zz_tr (ad : Nat → Nat) : Value → Value
  | .ref k => .ref (ad k)
  | v => v
def zz_fv (ad : Nat → Nat) (f : Nat → Int32) (j : Nat) : Option Nat → Value
  | some t => .ref (ad t)
  | none => .int (f j)
/-- the cell k of the shape sh: 0 object (class, slots), 1 ints, 2 longs, else references -/
def zz_cel (cy : Nat → ClassId) (ad : Nat → Nat) (μ : ZMem) (k : Nat) (sh : ZShp) : va_E :=
  match sh with
  | (0, ci, rs) => .inr (ci, rs.mapIdx (zz_fv ad (μ.1 k)))
  | (1, n, _) => .inl (cy 0, n, .inl (μ.1 k))
  | (2, n, _) => .inl (cy 1, n, .inr (.inl (μ.2 k)))
  | (_ + 3, w, rs) => .inl (cy w, rs.length, .inr (.inr (.inr (.inr (fun i => (rs.getD i none).map ad)))))
def zz_wld (S : List ZShp) (cy : Nat → ClassId) (ad : Nat → Nat) (μ : ZMem) : va_W := S.mapIdx (fun k sh => (ad k, zz_cel cy ad μ k sh))
def zz_tys (cy : Nat → ClassId) : List (ClassId × FieldType) := [(cy 0, .int), (cy 1, .long), (cy 2, .object "SignTables$Factor"), (cy 3, .object "SignTables$Tray"), (cy 4, .array .long)]
def zz_upI (μ : ZMem) (k i : Nat) (v : Int32) : ZMem := (fun a => if a = k then upd (μ.1 k) i v else μ.1 a, μ.2)
def zz_upJ (μ : ZMem) (k i : Nat) (v : Int64) : ZMem := (μ.1, fun a => if a = k then vp_updL (μ.2 k) i v else μ.2 a)
def zz_cpI (μ : ZMem) (k0 k1 sp dp n : Nat) : ZMem := (fun a => if a = k1 then va_cpy (μ.1 k0) (μ.1 k1) sp dp n else μ.1 a, μ.2)
def zz_cpJ (μ : ZMem) (k0 k1 sp dp n : Nat) : ZMem := (μ.1, fun a => if a = k1 then va_cpy (μ.2 k0) (μ.2 k1) sp dp n else μ.2 a)
/-- rows of references: b, b + 1, .. and b, b + 2, .. -/
def zz_rw1 (b n : Nat) : List (Option Nat) := (List.range n).map (fun i => some (b + i))
def zz_rw2 (b n : Nat) : List (Option Nat) := (List.range n).map (fun i => some (b + 2 * i))
theorem zz_tr_cat (ad : Nat → Nat) (v : Value) : (zz_tr ad v).category = v.category := by cases v <;> rfl
theorem zz_tr_sum (ad : Nat → Nat) (l : List Value) : ((l.map (zz_tr ad)).map fun v => v.category).sum = (l.map fun v => v.category).sum := by
  rw [List.map_map]
  congr 1
  apply List.map_congr_left
  intro v _
  exact zz_tr_cat ad v
theorem zz_wld_get {S : List ZShp} {cy : Nat → ClassId} {ad : Nat → Nat} {μ : ZMem} {k : Nat} {sh : ZShp} (h : S[k]? = some sh) : (zz_wld S cy ad μ)[k]? = some (ad k, zz_cel cy ad μ k sh) := by
  simp only [zz_wld, List.getElem?_mapIdx, h, Option.map_some]
theorem zz_wld_set {S : List ZShp} {cy : Nat → ClassId} {ad : Nat → Nat} {μ μ' : ZMem} {k : Nat} {e : va_E} {sh : ZShp} (h : S[k]? = some sh) (he : zz_cel cy ad μ' k sh = e) (h1 : ∀ j, j ≠ k → μ'.1 j = μ.1 j) (h2 : ∀ j, j ≠ k → μ'.2 j = μ.2 j) : (zz_wld S cy ad μ).set k (ad k, e) = zz_wld S cy ad μ' := by
  apply List.ext_getElem?
  intro j
  by_cases hj : j = k
  · subst hj
    have hl : j < (zz_wld S cy ad μ).length := by
      have := (List.getElem?_eq_some_iff.mp h).1
      simpa [zz_wld] using this
    rw [List.getElem?_set_self hl, zz_wld_get h, he]
  · rw [List.getElem?_set_ne (fun q => hj q.symm)]
    simp only [zz_wld, List.getElem?_mapIdx]
    cases hs : S[j]? with
    | none => rfl
    | some sj =>
      obtain ⟨tg, n, rs⟩ := sj
      simp only [Option.map_some]
      congr 2
      match tg with
      | 0 => simp only [zz_cel, h1 j hj]
      | 1 => simp only [zz_cel, h1 j hj]
      | 2 => simp only [zz_cel, h2 j hj]
      | _ + 3 => rfl
theorem zz_wld_D {S : List ZShp} {cy : Nat → ClassId} {ad : Nat → Nat} {μ μ' : ZMem} {A A' : Nat → Prop} (h : va_D A (zz_wld S cy ad μ)) (hA : ∀ k, k < S.length → A' (ad k)) : va_D A' (zz_wld S cy ad μ') := by
  have key : ∀ (i : Nat) (q : Nat × va_E), (zz_wld S cy ad μ')[i]? = some q → i < S.length ∧ q.1 = ad i ∧ ∃ e, (zz_wld S cy ad μ)[i]? = some (ad i, e) := by
    intro i q hq
    simp only [zz_wld, List.getElem?_mapIdx] at hq ⊢
    cases hs : S[i]? with
    | none => rw [hs] at hq; cases hq
    | some sh =>
      rw [hs] at hq
      cases hq
      exact ⟨(List.getElem?_eq_some_iff.mp hs).1, rfl, _, rfl⟩
  refine ⟨fun i j p q hi hj hpq => ?_, fun k q hk => ?_⟩
  · obtain ⟨-, e1, e2, g1⟩ := key i p hi
    obtain ⟨-, e3, e4, g2⟩ := key j q hj
    exact h.1 i j _ _ g1 g2 (by show ad i = ad j; rw [← e1, ← e3]; exact hpq)
  · obtain ⟨hl, e1, -⟩ := key k q hk
    rw [e1]
    exact hA k hl
def zz_A (S : List ZShp) (ad : Nat → Nat) : Nat → Prop := fun q => ∃ k, k < S.length ∧ q = ad k
theorem zz_A_of {S : List ZShp} {cy : Nat → ClassId} {ad : Nat → Nat} {μ μ' : ZMem} {A : Nat → Prop} (h : va_D A (zz_wld S cy ad μ)) : va_D (zz_A S ad) (zz_wld S cy ad μ') := zz_wld_D h (fun k hk => ⟨k, hk, rfl⟩)
/-- what is fixed while a method runs -/
def ZCx : Type := Program × Launch × Env × Room × State × MethodId × Array Value × List Frame × Method × Code × va_G × (Nat → ClassId) × (Nat → Nat) × List ZShp
def ZCx.p (E : ZCx) : Program := E.1
def ZCx.l (E : ZCx) : Launch := E.2.1
def ZCx.e (E : ZCx) : Env := E.2.2.1
def ZCx.R (E : ZCx) : Room := E.2.2.2.1
def ZCx.s (E : ZCx) : State := E.2.2.2.2.1
def ZCx.m (E : ZCx) : MethodId := E.2.2.2.2.2.1
def ZCx.args (E : ZCx) : Array Value := E.2.2.2.2.2.2.1
def ZCx.below (E : ZCx) : List Frame := E.2.2.2.2.2.2.2.1
def ZCx.meth (E : ZCx) : Method := E.2.2.2.2.2.2.2.2.1
def ZCx.c (E : ZCx) : Code := E.2.2.2.2.2.2.2.2.2.1
def ZCx.D (E : ZCx) : va_G := E.2.2.2.2.2.2.2.2.2.2.1
def ZCx.cy (E : ZCx) : Nat → ClassId := E.2.2.2.2.2.2.2.2.2.2.2.1
def ZCx.ad (E : ZCx) : Nat → Nat := E.2.2.2.2.2.2.2.2.2.2.2.2.1
def ZCx.S (E : ZCx) : List ZShp := E.2.2.2.2.2.2.2.2.2.2.2.2.2
/-- the room of a method over which at most d calls stand -/
def zz_rm (d : Nat) : Room := { frames := d + 1, cells := 0, slots := 0, locals := 40 + 32 * d }
/-- the context is a method's own: its bytes, its locals, its class, what it returns, its depth, the shapes -/
def zz_Ok (E : ZCx) (cc : ByteArray) (nL : Nat) (own : String) (rt : Option FieldType) (d : Nat) (S : List ZShp) : Prop :=
  E.p.tables.exec = Jvm.exec ∧ E.c.code = cc ∧ E.c.maxLocals = nL ∧ E.s.vm.findClass own = some E.m.cls ∧ (∀ w ∈ zz_tbl, w.before E.args E.s = true) ∧ E.meth.locks = false ∧ E.meth.sig.returnType = rt ∧ E.R = zz_rm d ∧ E.S = S ∧ va_K E.D vwCl (zz_tys E.cy) E.s ∧ ∀ μ, va_D (zz_A E.S E.ad) (zz_wld E.S E.cy E.ad μ)
/-- a contract's end -/
def zz_Q (D : va_G) (cy : Nat → ClassId) (ad : Nat → Nat) (S : List ZShp) (Φ : Option Value → ZMem → Prop) : Array Value → State → Outcome → State → Prop := fun _ st oc t =>
  (∃ (r : Option Value) (μ : ZMem), oc = .returned (r.map (zz_tr ad)) ∧ Φ r μ ∧ va_P D vwCl (zz_wld S cy ad μ) t.heap) ∧ va_F (zz_A S ad) st t
def zZ (E : ZCx) (Φ : Option Value → ZMem → Prop) (pc : Nat) (lv : List (Nat × Value)) (st : List Value) (μ : ZMem) : Prop :=
  ∀ (H : Heap) (locs : List Loc) (ls : Array Slot), va_P E.D vwCl (zz_wld E.S E.cy E.ad μ) H → va_S (zz_A E.S E.ad) E.s.heap H locs → lv_has ls E.c.maxLocals (lv.map fun q => (q.1, zz_tr E.ad q.2)) →
    W E.p E.l E.e E.R E.s E.m E.args E.below E.meth E.c H locs 0 0 (MQ E.below (zz_Q E.D E.cy E.ad E.S Φ) E.args E.s 0 0 (zz_A E.S E.ad)) (F0 E.m pc ls (st.map (zz_tr E.ad)))
def zz_ws (y : MethodName) (bytes : ByteArray) (maxL : Nat) (ret : Option FieldType) : List Cond := Cond.code y bytes maxL ret :: zz_tbl
/-- a method's contract -/
def zM (S : List ZShp) (y : MethodName) (bytes : ByteArray) (maxL : Nat) (ret : Option FieldType) (d : Nat) (As : List Value) (μ : ZMem) (Φ : Option Value → ZMem → Prop) : Prop :=
  ∀ (l : Launch) (D : va_G) (cy : Nat → ClassId) (ad : Nat → Nat), Met l y (zz_ws y bytes maxL ret) (zz_rm d)
    (va_Pc (As.map (zz_tr ad)) (fun U => va_P D vwCl (zz_wld S cy ad μ) U.heap ∧ va_K D vwCl (zz_tys cy) U ∧ va_D (fun _ => True) (zz_wld S cy ad μ))) (zz_Q D cy ad S Φ) 0 0 (zz_A S ad)
theorem zz_args (ad : Nat → Nat) (As : List Value) : ∀ n, (lv_args n As).map (fun q => (q.1, zz_tr ad q.2)) = lv_args n (As.map (zz_tr ad)) := by
  induction As with
  | nil => intro n; rfl
  | cons v vs ih =>
    intro n
    simp only [lv_args, List.map_cons, zz_tr_cat, ih]
theorem zM_intro {S : List ZShp} {y : MethodName} {bytes : ByteArray} {maxL : Nat} {ret : Option FieldType} {d : Nat} {As : List Value} {μ : ZMem} {Φ : Option Value → ZMem → Prop} (hy : plainName y.cls = true) (hlen : (lg_sl As).length ≤ maxL)
    (hb : ∀ E : ZCx, zz_Ok E bytes maxL y.cls ret d S → zZ E Φ 0 (lv_args 0 As) [] μ) : zM S y bytes maxL ret d As μ Φ := by
  intro l D cy ad
  refine Met.ofW (cc := bytes) (maxL := maxL) (ret := ret) hy rfl ?_
  intro p e s m args below meth c s₁ B hml hv
  obtain ⟨rfl, hP, hK, hD⟩ := hv
  have hts0 := atoms_spec (ws := zz_ws y bytes maxL ret) B.pre
  have hts : ∀ w ∈ zz_tbl, w.before (As.map (zz_tr ad)).toArray s = true := fun w hw => hts0 w (List.mem_cons_of_mem _ hw)
  have hown : s.vm.findClass y.cls = some m.cls := findClass_of_methodNamed B.named
  have hE : zz_Ok (p, l, e, zz_rm d, s, m, (As.map (zz_tr ad)).toArray, below, meth, c, D, cy, ad, S) bytes maxL y.cls ret d S :=
    ⟨B.exec, B.bytes, hml, hown, hts, B.notSynchronized, B.returns, rfl, rfl, hK, fun μ' => zz_A_of hD⟩
  have hlen2 : (lg_sl (As.map (zz_tr ad))).length ≤ maxL := by
    have e : ∀ l : List Value, (lg_sl (l.map (zz_tr ad))).length = (lg_sl l).length := by
      intro l
      induction l with
      | nil => rfl
      | cons v vs ih =>
        simp only [lg_sl, List.map_cons, List.flatMap_cons, List.length_append] at ih ⊢
        rw [ih, zz_tr_cat]
        congr 1
        split <;> rfl
    rw [e]; exact hlen
  have hl := lv_entry (As.map (zz_tr ad)) (n := maxL) hlen2
  rw [lg_entry_eq]
  refine hb _ hE s.heap [] _ hP va_S.rf ?_
  show lv_has _ c.maxLocals _
  rw [hml, zz_args]
  exact hl
