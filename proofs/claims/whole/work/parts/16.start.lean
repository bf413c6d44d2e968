theorem zl_ad (a : Nat) : zc_ad a (a + 1) = fun k => a + k := by
  funext k
  cases k with
  | zero => rfl
  | succ k => show a + 1 + k = a + (k + 1); omega
theorem zl_make {p : Program} {l : Launch} {e : Env} {s : State} {m : MethodId} {below : List Frame} {meth : Method} {c : Code} {b L : Nat} {xs : Nat → Int32} (C0 : lw_At p s m meth c b L xs) {D : va_G} {cy : Nat → ClassId} (hK : va_K D vwCl (zz_tys cy) s) (hbad : zc_bad s) {i1 i2 ci N pc maxL d mc ms nc ns : Nat} {C : String} {T : u_T} {ty : Nat → FieldType} {y : MethodName} {bytes : ByteArray} {S1 : List ZShp} {m1 : ZMem} {H : Heap} {locs : List Loc} {ls : Array Slot} {rest : List Value} {Q : State → Prop} (hd1 : decode code pc = .ok (.new i1, 3)) (hd2 : decode code (pc + 3) = .ok (.dup, 1)) (hd3 : decode code (pc + 3 + 1) = .ok (.invokespecial i2, 3)) (hcl : Cond.classLink R_law i1 C ∈ lw_tbl) (hinst : Cond.instantiable C N ∈ lw_tbl) (hini : Cond.initialized C ∈ lw_tbl) (hw : ∀ w ∈ u_ws C T N, w ∈ zz_tbl) (hty : ∀ k, k < N → parseFieldDescriptor (T k).2.2.1 = some (ty k)) (hc : vwCl[ci]? = some (C, T, N)) (hdf : ∀ j, j < N → defaultValue (ty j) = if (zc_pat ci).getD j false = true then .null else .int 0) (hk : zK y bytes maxL d [] ci N S1 m1 mc ms) (hC : zc_CI R_law i2 y bytes maxL 0) (hl0 : Cond.methodLink R_law i2 y ∈ lw_tbl) (hdd : d ≤ 7) (hfull : zc_full S1 = true) (hS : va_S (fun q => s.heap.size ≤ q) s.heap H locs) (hlsz : ls.size = 4) (hst : (rest.map fun v => v.category).sum ≤ 6) (h1 : nc + 1 + mc ≤ 600000) (h2 : ns + N + ms ≤ 7302249)
    (kk : ∀ (H1 : Heap) (locs1 : List Loc), H1.size = H.size + S1.length → va_P D vwCl (zz_wld S1 cy (fun k => H.size + k) m1) H1 → (∀ q, q < H.size → H1[q]? = H[q]?) → va_S (fun q => s.heap.size ≤ q) s.heap H1 locs1 → W p l e room_1 s m #[Value.ref b] below meth c H1 locs1 (nc + 1 + mc) (ns + N + ms) Q (F0 m (pc + 7) ls (.ref (H.size + 0) :: rest))) : W p l e room_1 s m #[Value.ref b] below meth c H locs nc ns Q (F0 m pc ls rest) := by
  obtain ⟨hx, hb, hr, hml, hown, hts, -⟩ := C0
  have hts2 : ∀ w ∈ zz_tbl, w.before #[Value.ref b] s = true := fun w hw => hts w (List.mem_filter.mp hw).1
  have hKn := hK.1 ci _ hc
  refine W.newcK hx hb hown (hts _ hcl) (hts _ hinst) (hts _ hini) rfl hd1 (by show nc + 1 ≤ 600000; omega) (by show ns + N ≤ 7302249; omega) hKn.2.1 rfl fun H1 kC hkC e1 z1 o1 => ?_
  refine lv_dup hx hb hd2 rfl ?_
  have hPl : va_P D vwCl (zc_wld [(0, ci, List.replicate N none)] cy (zc_ad H.size H1.size) zmem0) H1 := by
    apply zc_P_of
    intro k sh hk
    have hk0 : k < 1 := (List.getElem?_eq_some_iff.mp hk).1
    rw [show k = 0 by omega] at hk ⊢
    cases hk
    refine ⟨_, hc, (u_born ty hts2 hw hKn hkC e1 hty).to (fun j hj => ?_)⟩
    rw [hdf j hj]
    have e5 : ((List.replicate N none).mapIdx (zc_fv (zc_ad H.size H1.size) (zmem0.1 0) (zc_pat ci)))[j]? = some (zc_fv (zc_ad H.size H1.size) (zmem0.1 0) (zc_pat ci) j none) := by
      rw [List.getElem?_mapIdx, List.getElem?_replicate, if_pos hj]; rfl
    have e6 : List.getD ((List.replicate N none).mapIdx (zc_fv (zc_ad H.size H1.size) (zmem0.1 0) (zc_pat ci))) j Value.null = zc_fv (zc_ad H.size H1.size) (zmem0.1 0) (zc_pat ci) j none := by
      rw [List.getD_eq_getElem?_getD, e5]; rfl
    exact Eq.trans rfl e6.symm
  have hFB : FrameBlind (va_Pc (.ref H.size :: []) (fun U => U.heap.size = H1.size ∧ va_P D vwCl (zc_wld [(0, ci, List.replicate N none)] cy (zc_ad H.size H1.size) zmem0) U.heap ∧ va_K D vwCl (zz_tys cy) U ∧ zc_bad U)) := fun a2 U g mk q => ⟨q.1, q.2.1, q.2.2.1, va_K.moved (u := U) (U := U.calling g mk a2) (Vm.Alike.refl U.vm) q.2.2.2.1, zc_bad_same (u := U) (U := U.calling g mk a2) rfl q.2.2.2.2⟩
  have hPre : PreS s H1 (va_Pc (.ref H.size :: []) (fun U => U.heap.size = H1.size ∧ va_P D vwCl (zc_wld [(0, ci, List.replicate N none)] cy (zc_ad H.size H1.size) zmem0) U.heap ∧ va_K D vwCl (zz_tys cy) U ∧ zc_bad U)) (.ref H.size :: []) := ⟨hFB, fun U hU hW => ⟨rfl, by rw [hU], by rw [hU]; exact hPl, va_K.moved hW.alike hK, zc_bad_warm hW hbad⟩⟩
  have hRR : ({ frames := d + 1, cells := mc, slots := ms, locals := 40 + 32 * d } : Room).frames + 1 ≤ room_1.frames ∧ 8 + (maxL + 11) + ({ frames := d + 1, cells := mc, slots := ms, locals := 40 + 32 * d } : Room).locals ≤ room_1.locals := by
    have := hC.2.2.2.1
    show d + 1 + 1 ≤ 10 ∧ 8 + (maxL + 11) + (40 + 32 * d) ≤ 368
    omega
  have hlt : H.size < H1.size := by omega
  have hcat : ((Value.ref H.size :: rest).map fun v => v.category).sum ≤ 8 := by
    rw [List.map_cons, List.sum_cons]
    show 1 + _ ≤ 8
    omega
  have hrun : va_Run p l e room_1 s m #[Value.ref b] below meth c H1 locs (nc + 1) (ns + N) mc ms (F0 m (pc + 3 + 1) ls (.ref H.size :: .ref H.size :: rest)) (.ref H.size :: rest) (zc_Q D cy H.size H1.size (fun S μ => S = S1 ∧ μ = m1) (Value.ref H.size :: []).toArray) (zc_A H.size H1.size) :=
    va_runI (nL := 4) ⟨hx, hb, hml, hown, hts⟩ (hk l D cy _ _ hlt) ⟨callB_of (ws' := zz_tbl) 0 hts2 (zz_goodIn hC.2.1) rfl rfl rfl (hts2 _ hC.1) (hts _ hl0) hC.2.2.1 hRR, hC.2.2.2.2.1, hts2 _ hC.2.2.2.2.2.1⟩ hPre rfl rfl hlsz rfl (lv_room hcat) hd3 ⟨h1, h2⟩
  intro T0 hT0 X0
  obtain ⟨v, st₀, t, T', Lo, h00, X', hLo, e1', e2', ⟨⟨hv, S2, m2, ⟨rfl, rfl⟩, hP', hz'⟩, hzF, hkF⟩, stp⟩ := hrun T0 hT0 X0
  have hv' : v = none := by injection hv
  subst hv'
  rw [h00] at hzF hkF
  have hfree : ∀ q, zc_A H.size H1.size q → s.heap.size ≤ q := by
    rintro q (rfl | h)
    · exact hS.1
    · have := hS.1; omega
  have hold : ∀ q, q < H.size → T'.heap[q]? = H[q]? := fun q hq => by
    rw [e1', hkF q (by omega) (by rintro (h | h) <;> omega)]
    exact o1 q hq
  rw [zc_full_wld hfull, show zc_ad H.size H1.size = fun k => H.size + k by rw [z1]; exact zl_ad _] at hP'
  obtain ⟨t2, a1, b1⟩ := kk T'.heap (locs ++ Lo) (by rw [e1']; omega) (by rw [e1']; exact hP') hold ⟨Nat.le_trans hS.1 (by rw [e1']; omega), fun q h1 h2 => (hold q (Nat.lt_of_lt_of_le h1 hS.1)).trans (hS.2.1 q h1 h2), fun q hq => by
      rcases List.mem_append.mp hq with h | h
      · exact hS.2.2 q h
      · exact hfree _ (hLo q h)⟩ T' rfl X'
  exact ⟨t2, stp t2 a1, b1⟩
theorem zl_arr {s : State} {c : ClassId} {k : Class} {comp : ClassId} {ty : FieldType} (hk : s.vm.classes[c]? = some k) (h : k.kind = .array comp ty) : ArrOfT s c ty := fun n z => ⟨(fun q hq => by cases hq), k, hk, comp, h⟩
theorem zl_start {p : Program} {e : Env} {s : State} {m : MethodId} {below : List Frame} {meth : Method} {c : Code} (l : Launch) {b L : Nat} {xs : Nat → Int32} (hL : L ≤ 3072) (C0 : lw_At p s m meth c b L xs) {Rel : ZMem → ZMem → Prop} (hops : zOps Rel) (hR0 : Rel m_X11_init m_X12_init) : W p l e room_1 s m #[Value.ref b] below meth c s.heap [] 0 0 (lw_Z below #[Value.ref b] s) (entryFrame m ([Value.ref b] : List Value).toArray 4) := by
  obtain ⟨hx, hb, hr, hml, hown, hts, hX, hbl, hlocks, hgv⟩ := id C0
  obtain ⟨c0, iS0, hKn0⟩ := u_known (C := RX0) (T := TX0) (N := 4) (n := 4) hts (fun w hw => (List.mem_filter.mp (zw_X0 w hw)).1) (hts (.instantiable RX0 4) (List.mem_of_getElem? (i := 239) (by decide +kernel)))
  obtain ⟨c1, iS1, hKn1⟩ := u_known (C := RX2) (T := TX2) (N := 3) (n := 3) hts (fun w hw => (List.mem_filter.mp (zw_X2 w hw)).1) (hts (.instantiable RX2 3) (List.mem_of_getElem? (i := 110) (by decide +kernel)))
  obtain ⟨c2, iS2, hKn2⟩ := u_known (C := RX3) (T := TX3) (N := 7) (n := 7) hts (fun w hw => (List.mem_filter.mp (zw_X3 w hw)).1) (hts (.instantiable RX3 7) (List.mem_of_getElem? (i := 103) (by decide +kernel)))
  obtain ⟨c3, iS3, hKn3⟩ := u_known (C := RX5) (T := TX5) (N := 4) (n := 4) hts (fun w hw => (List.mem_filter.mp (zw_X5 w hw)).1) (hts (.instantiable RX5 4) (List.mem_of_getElem? (i := 302) (by decide +kernel)))
  obtain ⟨c4, iS4, hKn4⟩ := u_known (C := RX6) (T := TX6) (N := 5) (n := 5) hts (fun w hw => (List.mem_filter.mp (zw_X6 w hw)).1) (hts (.instantiable RX6 5) (List.mem_of_getElem? (i := 276) (by decide +kernel)))
  obtain ⟨c5, iS5, hKn5⟩ := u_known (C := RX7) (T := TX7) (N := 2) (n := 2) hts (fun w hw => (List.mem_filter.mp (zw_X7 w hw)).1) (hts (.instantiable RX7 2) (List.mem_of_getElem? (i := 261) (by decide +kernel)))
  obtain ⟨c6, iS6, hKn6⟩ := u_known (C := RX8) (T := TX8) (N := 7) (n := 7) hts (fun w hw => (List.mem_filter.mp (zw_X8 w hw)).1) (hts (.instantiable RX8 7) (List.mem_of_getElem? (i := 202) (by decide +kernel)))
  obtain ⟨c7, iS7, hKn7⟩ := u_known (C := RX9) (T := TX9) (N := 7) (n := 7) hts (fun w hw => (List.mem_filter.mp (zw_X9 w hw)).1) (hts (.instantiable RX9 7) (List.mem_of_getElem? (i := 167) (by decide +kernel)))
  obtain ⟨c8, iS8, hKn8⟩ := u_known (C := RX10) (T := TX10) (N := 3) (n := 3) hts (fun w hw => (List.mem_filter.mp (zw_X10 w hw)).1) (hts (.instantiable RX10 3) (List.mem_of_getElem? (i := 323) (by decide +kernel)))
  obtain ⟨c9, iS9, hKn9⟩ := u_known (C := RX11) (T := TX11) (N := 13) (n := 13) hts (fun w hw => (List.mem_filter.mp (zw_X11 w hw)).1) (hts (.instantiable RX11 13) (List.mem_of_getElem? (i := 95) (by decide +kernel)))
  obtain ⟨c10, iS10, hKn10⟩ := u_known (C := RX12) (T := TX12) (N := 32) (n := 32) hts (fun w hw => (List.mem_filter.mp (zw_X12 w hw)).1) (hts (.instantiable RX12 32) (List.mem_of_getElem? (i := 974) (by decide +kernel)))
  obtain ⟨dC, dI, hKc⟩ : ∃ (dC : Nat → ClassId) (dI : Nat → Nat → Nat), ∀ (k : Nat) (q : vw_C), vwCl[k]? = some q → u_Kn s q.1 q.2.1 q.2.2 (dC k) (dI k) := by
    refine ⟨fun k => [c0, c1, c2, c3, c4, c5, c6, c7, c8, c9, c10].getD k c0, fun k => [iS0, iS1, iS2, iS3, iS4, iS5, iS6, iS7, iS8, iS9, iS10].getD k iS0, ?_⟩
    intro k q hq
    match k, hq with
    | 0, hq => cases hq; exact hKn0
    | 1, hq => cases hq; exact hKn1
    | 2, hq => cases hq; exact hKn2
    | 3, hq => cases hq; exact hKn3
    | 4, hq => cases hq; exact hKn4
    | 5, hq => cases hq; exact hKn5
    | 6, hq => cases hq; exact hKn6
    | 7, hq => cases hq; exact hKn7
    | 8, hq => cases hq; exact hKn8
    | 9, hq => cases hq; exact hKn9
    | 10, hq => cases hq; exact hKn10
    | k + 11, hq => simp [vwCl] at hq
  have hoF : va_AO "SignTables$Factor" s := va_AO.of (hts (.arrayOver (.object "SignTables$Factor")) (List.mem_of_getElem? (i := 109) (by decide +kernel)))
  have hoT : va_AO "SignTables$Tray" s := va_AO.of (hts (.arrayOver (.object "SignTables$Tray")) (List.mem_of_getElem? (i := 200) (by decide +kernel)))
  have hoJ : zc_AOA s := hts (.arrayOver (.array .long)) (List.mem_of_getElem? (i := 208) (by decide +kernel))
  obtain ⟨y0, k0, p0, f0, g0, h0⟩ := Cond.arrayClass_spec (hts (.arrayClass .int) (List.mem_of_getElem? (i := 132) (by decide +kernel)))
  obtain ⟨y1, k1, p1, f1, g1, h1⟩ := Cond.arrayClass_spec (hts (.arrayClass .long) (List.mem_of_getElem? (i := 131) (by decide +kernel)))
  obtain ⟨p2, y2, k2, e2, -, g2, h2, f2⟩ := Cond.arrayOver_spec hoF
  obtain ⟨p3, y3, k3, e3, -, g3, h3, f3⟩ := Cond.arrayOver_spec hoT
  obtain ⟨p4, y4, k4, e4, g4, h4, f4⟩ := Cond.arrayOver_specA hoJ
  have hK : va_K (dC, dI) vwCl (zz_tys (fun k => [y0, y1, y2, y3, y4].getD k y0)) s := by
    refine ⟨hKc, fun k q hk => ?_⟩
    match k, hk with
    | 0, hk => cases hk; exact ⟨zl_arr g0 h0, f0⟩
    | 1, hk => cases hk; exact ⟨zl_arr g1 h1, f1⟩
    | 2, hk => cases hk; exact ⟨zl_arr g2 h2, k2, p2, g2, h2, e2, f2⟩
    | 3, hk => cases hk; exact ⟨zl_arr g3 h3, k3, p3, g3, h3, e3, f3⟩
    | 4, hk => cases hk; exact ⟨zl_arr g4 h4, f4⟩
    | k + 5, hk => simp [zz_tys] at hk
  generalize (fun k => [y0, y1, y2, y3, y4].getD k y0) = cy at hK
  have hbad : zc_bad s := by
    refine ⟨fun w hw => ?_, hoF, hoT, hoJ⟩
    have h1 := hts w (List.mem_filter.mp (List.mem_filter.mp hw).1).1
    have h2 := (List.mem_filter.mp hw).2
    cases w <;> first | (simp at h2; done) | exact va_Nw.of rfl h1
  have hl := lv_entry ([.ref b]) (n := 4) (Nat.le_of_ble_eq_true rfl)
  rw [lg_entry_eq]
  generalize (lg_sl ([.ref b]) ++ List.replicate (4 - (lg_sl ([.ref b])).length) Slot.unset).toArray = ls at hl ⊢
  have hl : lv_has ls 4 [(0, .ref b)] := hl
  refine zl_make (pc := 0) C0 hK hbad dL_law_0 dL_law_3 dL_law_4 (List.mem_of_getElem? (i := 94) (by decide +kernel)) (List.mem_of_getElem? (i := 95) (by decide +kernel)) (List.mem_of_getElem? (i := 79) (by decide +kernel)) zw_X11 tyX11_ok (ci := 9) rfl (by decide) k_X11_init ⟨zz_in 79 (by decide +kernel) (by decide +kernel), zz_in 98 (by decide +kernel) (by decide +kernel), by decide +kernel, by decide, rfl, zz_in 97 (by decide +kernel) (by decide +kernel), Or.inl (zz_in 96 (by decide +kernel) (by decide +kernel))⟩ (List.mem_of_getElem? (i := 96) (by decide +kernel)) (by decide) (by decide) va_S.rf hl.1 (by decide) (by decide) (by decide) (fun H1 locs1 z1 hX1 o1 hS1 => ?_)
  refine lv_astore_n (lv' := [(1, .ref (s.heap.size + 0)), (0, .ref b)]) hx hb dL_law_7 rfl hl (by decide) rfl (fun ls hl => ?_)
  refine zl_make (pc := 8) C0 hK hbad dL_law_8 dL_law_11 dL_law_12 (List.mem_of_getElem? (i := 973) (by decide +kernel)) (List.mem_of_getElem? (i := 974) (by decide +kernel)) (List.mem_of_getElem? (i := 89) (by decide +kernel)) zw_X12 tyX12_ok (ci := 10) rfl (by decide) k_X12_init ⟨zz_in 89 (by decide +kernel) (by decide +kernel), zz_in 977 (by decide +kernel) (by decide +kernel), by decide +kernel, by decide, rfl, zz_in 976 (by decide +kernel) (by decide +kernel), Or.inl (zz_in 975 (by decide +kernel) (by decide +kernel))⟩ (List.mem_of_getElem? (i := 975) (by decide +kernel)) (by decide) (by decide) hS1 hl.1 (by decide) (by decide) (by decide) (fun H2 locs2 z2 hM2 o2 hS2 => ?_)
  refine lv_astore_n (lv' := [(2, .ref (H1.size + 0)), (1, .ref (s.heap.size + 0)), (0, .ref b)]) hx hb dL_law_15 rfl hl (by decide) rfl (fun ls hl => ?_)
  refine lv_iconst (v := 0) hx hb dL_law_16 (by decide) ?_
  refine lv_istore_n (lv' := [(3, .int 0), (2, .ref (H1.size + 0)), (1, .ref (s.heap.size + 0)), (0, .ref b)]) hx hb dL_law_17 rfl hl (by decide) rfl (fun ls hl => ?_)
  have hX2 : va_P (dC, dI) vwCl (zz_wld SX cy (fun k => s.heap.size + k) m_X11_init) H2 := zl_kept hX1 (fun k hk => o2 _ (zl_at_lt hX1 hk))
  have ez : H1.size = s.heap.size + 94 := z1
  rw [ez] at hM2 hl
  exact zl_loop (E := (p, l, e, s, m, below, meth, c, b, L, xs, (dC, dI), cy, s.heap.size)) ⟨C0, rfl, hK, hL⟩ hops (L + 12) 0 0 m_X11_init m_X12_init (by show 0 ≤ L + 6; omega) (by show L + 12 ≤ _; omega) nI_0.symm hR0 H2 locs2 ls hX2 hM2 hS2 hl
