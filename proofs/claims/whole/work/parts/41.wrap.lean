theorem twx_606 : (Jvm.Cond.codeWith ({ cls := "ConstraintTextLaw", name := "name", desc := "(LConstraintText;II[J)I" } : Jvm.MethodName) method_3_code (5 : Nat) (Option.some Jvm.ClassFile.FieldType.int) [((0 : Nat), (17 : Nat), (20 : Nat), (13 : Nat))]) ∈ gtb := tc_3 53 (by decide +kernel) rfl
theorem twx_685 : (Jvm.Cond.codeWith ({ cls := "ConstraintTextLaw", name := "clock", desc := "(LConstraintText;II[J)I" } : Jvm.MethodName) method_4_code (5 : Nat) (Option.some Jvm.ClassFile.FieldType.int) [((0 : Nat), (10 : Nat), (13 : Nat), (13 : Nat))]) ∈ gtb := tc_3 132 (by decide +kernel) rfl
theorem twx_708 : (Jvm.Cond.codeWith ({ cls := "ConstraintTextLaw", name := "edge", desc := "(LConstraintText;III[J)I" } : Jvm.MethodName) method_5_code (6 : Nat) (Option.some Jvm.ClassFile.FieldType.int) [((0 : Nat), (11 : Nat), (14 : Nat), (13 : Nat))]) ∈ gtb := tc_3 155 (by decide +kernel) rfl
theorem twx_725 : (Jvm.Cond.codeWith ({ cls := "ConstraintTextLaw", name := "distance", desc := "(LConstraintText;III[J)I" } : Jvm.MethodName) method_6_code (6 : Nat) (Option.some Jvm.ClassFile.FieldType.int) [((0 : Nat), (11 : Nat), (14 : Nat), (13 : Nat))]) ∈ gtb := tc_3 172 (by decide +kernel) rfl
theorem twx_745 : (Jvm.Cond.codeWith ({ cls := "ConstraintTextLaw", name := "exception", desc := "(LConstraintText;III[J)I" } : Jvm.MethodName) method_7_code (6 : Nat) (Option.some Jvm.ClassFile.FieldType.int) [((0 : Nat), (12 : Nat), (15 : Nat), (13 : Nat))]) ∈ gtb := tc_3 192 (by decide +kernel) rfl
theorem twx_775 : (Jvm.Cond.codeWith ({ cls := "ConstraintTextLaw", name := "row", desc := "(LConstraintText;II[J)I" } : Jvm.MethodName) method_8_code (5 : Nat) (Option.some Jvm.ClassFile.FieldType.int) [((0 : Nat), (10 : Nat), (13 : Nat), (13 : Nat))]) ∈ gtb := tc_3 222 (by decide +kernel) rfl
theorem twx_783 : (Jvm.Cond.codeWith ({ cls := "ConstraintTextLaw", name := "load", desc := "(LConstraintText;II[J)I" } : Jvm.MethodName) method_9_code (5 : Nat) (Option.some Jvm.ClassFile.FieldType.int) [((0 : Nat), (10 : Nat), (13 : Nat), (13 : Nat))]) ∈ gtb := tc_3 230 (by decide +kernel) rfl
theorem twx_795 : (Jvm.Cond.codeWith ({ cls := "ConstraintTextLaw", name := "unmatched", desc := "(LConstraintText;I[J)I" } : Jvm.MethodName) method_10_code (4 : Nat) (Option.some Jvm.ClassFile.FieldType.int) [((0 : Nat), (9 : Nat), (12 : Nat), (13 : Nat))]) ∈ gtb := tc_4 2 (by decide +kernel) rfl
theorem twx_811 : (Jvm.Cond.codeWith ({ cls := "ConstraintTextLaw", name := "clash", desc := "(LConstraintText;II[J)I" } : Jvm.MethodName) method_11_code (5 : Nat) (Option.some Jvm.ClassFile.FieldType.int) [((0 : Nat), (10 : Nat), (13 : Nat), (13 : Nat))]) ∈ gtb := tc_4 18 (by decide +kernel) rfl
theorem twx_830 : (Jvm.Cond.codeWith ({ cls := "ConstraintTextLaw", name := "write", desc := "(LConstraintText;I[J)I" } : Jvm.MethodName) method_12_code (4 : Nat) (Option.some Jvm.ClassFile.FieldType.int) [((0 : Nat), (9 : Nat), (12 : Nat), (13 : Nat))]) ∈ gtb := tc_4 37 (by decide +kernel) rfl
theorem twx_838 : (Jvm.Cond.codeWith ({ cls := "ConstraintTextLaw", name := "count", desc := "(LConstraintText;I[J)I" } : Jvm.MethodName) method_13_code (4 : Nat) (Option.some Jvm.ClassFile.FieldType.int) [((0 : Nat), (9 : Nat), (12 : Nat), (13 : Nat))]) ∈ gtb := tc_4 45 (by decide +kernel) rfl
/-! ===== the law's own methods: they catch (Lw) ===== -/
abbrev wsH (y : MethodName) (cc : ByteArray) (maxL : Nat) (ret : Option FieldType) (hh : List (Nat × Nat × Nat × Nat)) : List Cond := Cond.codeWith y cc maxL ret hh :: gtb
theorem gi_H {y : MethodName} {cc : ByteArray} {maxL : Nat} {ret : Option FieldType} {hh : List (Nat × Nat × Nat × Nat)} (hc : Cond.codeWith y cc maxL ret hh ∈ gtb) : GoodIn gtb (wsH y cc maxL ret hh) := by
  intro w h
  rcases List.mem_cons.mp h with e | h
  · rw [e]; exact ⟨hc, good_of_word (gtb_good hc)⟩
  · exact ⟨h, good_of_word (gtb_good h)⟩
def Lw (l : Launch) (y : MethodName) (cc : ByteArray) (maxL : Nat) (ret : Option FieldType) (hh : List (Nat × Nat × Nat × Nat)) (rm : Room) (D : va_G) (kA : Nat → ClassId) (av : List Value) (wc : va_W) (r : Option Value) (w1 : va_W) : Prop :=
  ∀ sz : Nat, Met l y (wsH y cc maxL ret hh) rm (rwP D kA av wc sz) (rwC D (va_A wc sz) r w1) 1 6 (va_A wc sz)
def lwQ (below : List Frame) (D : va_G) (A : Nat → Prop) (r : Option Value) (w1 : va_W) (args : Array Value) (s : State) : State → Prop := MQ below (rwC D A r w1) args s 1 6 A
theorem Lw.of {l : Launch} {y : MethodName} {cc : ByteArray} {maxL : Nat} {ret : Option FieldType} {hh : List (Nat × Nat × Nat × Nat)} {rm : Room} {D : va_G} {kA : Nat → ClassId} {av : List Value} {wc : va_W} {r : Option Value} {w1 : va_W} (hy : plainName y.cls = true) (hav : (lg_sl av).length ≤ maxL)
    (body : ∀ p e s m args below meth c (A : Nat → Prop), Fx p s m args meth c y.cls cc maxL ret A → c.exceptionTable.toList = tableOf hh → va_P D vwCl wc s.heap → va_D A wc → va_S A s.heap s.heap [] → (∀ q, s.heap.size ≤ q → A q) → va_K D vwCl (tyA kA) s → ∀ ls, lv_has ls maxL (lv_args 0 av) → W p l e rm s m args below meth c s.heap [] 0 0 (lwQ below D A r w1 args s) (F0 m 0 ls [])) : Lw l y cc maxL ret hh rm D kA av wc r w1 := by
  intro sz
  refine va_MetW (cc := cc) (maxL := maxL) (ret := ret) hy rfl ?_
  intro p e s m args below meth c s₁ B hml hv
  obtain ⟨rfl, hsz, hN, hP, hK, hD0⟩ := hv
  subst hsz
  have hts := atoms_spec (ws := wsH y cc maxL ret hh) B.pre
  have hl := lv_entry av (n := maxL) hav
  rw [lg_entry_eq]
  exact body p e s m _ below meth c _ ⟨B.exec, B.bytes, hml, findClass_of_methodNamed B.named, B.returns, B.notSynchronized, fun w h => hts w (List.mem_cons_of_mem _ h), hN⟩ (vx_table (x := y) B (hts _ List.mem_cons_self)) hP (hD0.self (sz := s.heap.size)) va_S.rf (fun q h => Or.inr h) hK _ hl
section LwRows
variable {p : Program} {l : Launch} {e : Env} {R : Room} {s : State} {m : MethodId} {args : Array Value} {below : List Frame} {meth : Method} {c : Code} {H : Heap} {locs : List Loc} {cells slots : Nat} {Q : State → Prop}
variable {cc bytes : ByteArray} {pc nL maxL index n : Nat} {ls : Array Slot} {rest st0 As : List Value} {D : va_G} {kA : Nat → ClassId} {A : Nat → Prop} {wb wc wr w1 : va_W} {own : String} {y : MethodName} {ret : Option FieldType} {rm : Room} {b : Addr} {ro : Option Value} {hh : List (Nat × Nat × Nat × Nat)} {res : Option (Option Value × va_W)}
theorem lw_ireturn {v : Int32} (hx : p.tables.exec = Jvm.exec) (hb : c.code = cc) (hr : meth.sig.returnType = some .int) (hk : meth.locks = false) (hdg : decode cc pc = .ok (.ireturn, 1)) (hP : va_P D vwCl w1 H) (hD : va_D A w1) (hS : va_S A s.heap H locs) : W p l e R s m args below meth c H locs (0 + 1) (0 + 6) (lwQ below D A (some (.int v)) w1 args s) (F0 m pc ls [.int v]) :=
  W.iret hx hb hr (fun t ht hW => ⟨⟨rfl, by rw [ht]; exact hP, hD⟩, hS.F ht⟩) hS.2.2 hdg hk
/-- a virtual call that may throw -/
theorem tx_V (hx : p.tables.exec = Jvm.exec) (hb : c.code = cc) (hml : c.maxLocals = nL) (hown : s.vm.findClass own = some m.cls) (hts : ∀ w ∈ gtb, w.before args s = true) (hN : NZ A s s.heap) (hS : va_S A s.heap H locs) (hK : va_K D vwCl (tyA kA) s) (hP : va_P D vwCl wb H) (hD : va_D A wb) (hA : ∀ q, s.heap.size ≤ q → A q)
    (hM : Tx l y bytes maxL ret rm D kA (.ref b :: As) wc res) (isC isR : List Nat) (hC : isC.map (fun i => wb[i]?) = wc.map some) (hCn : va_nd isC = true) (hR9 : isR.map (fun i => wb[i]?) = wr.map some) (hRn : va_nd isR = true) (hdis : ∀ i ∈ isR, i ∉ isC) (q0 ci : Nat) {q : vw_C} {fs : List Value} (he : wb[q0]? = some (b, .inr (ci, fs))) (hci : vwCl[ci]? = some q) (hq : q.1 = y.cls)
    (v1 : Cond.methodLink own index y ∈ gtb) (v2 : Cond.instanceMethod y ∈ gtb) (v3 : Cond.selects y.cls y y ∈ gtb) (v4 : Cond.initialized y.cls ∈ gtb) (v5 : Cond.code y bytes maxL ret ∈ gtb) (hrc : rm.cells = 1) (hrs : rm.slots = 6)
    (hd : (y.cls ≠ "java/lang/invoke/MethodHandle" ∧ y.cls ≠ "java/lang/invoke/VarHandle" ∧ (parseMethodDescriptor y.desc).map (fun d => d.parameters.length) = some n)) (hR : rm.frames + 1 ≤ R.frames ∧ 8 + (maxL + 11) + rm.locals ≤ R.locals)
    (hn : As.length = n) (hsize : ls.size = nL) (hst : st0 = As.reverse ++ .ref b :: rest) (hW : (rest.map fun v => v.category).sum ≤ 8) (hdg : decode cc pc = .ok (.invokevirtual index, 3)) (hcs : cells + 1 ≤ R.cells ∧ slots + 6 ≤ R.slots)
    (kx : res = none → ∀ (ce : Cell) (q9 : Addr) (H1 : Heap) (locs1 : List Loc), va_P D vwCl (wr ++ wc) H1 → va_D A (wr ++ wc) → va_S A s.heap H1 locs1 → H1[q9]? = some ce → ce.vm = .none → s.vm.findClass ioob = some ce.cls → vx_W p l e R s m args below meth c H1 locs1 (cells + 1) (slots + 6) Q (F0 m pc ls rest) q9)
    (kk : ∀ (r : Option Value) (w1 : va_W), res = some (r, w1) → ∀ (H1 : Heap) (locs1 : List Loc), va_P D vwCl (wr ++ w1) H1 → va_D A (wr ++ w1) → va_S A s.heap H1 locs1 → W p l e R s m args below meth c H1 locs1 (cells + 1) (slots + 6) Q (F0 m (pc + 3) ls (r.toList ++ rest))) : W p l e R s m args below meth c H locs cells slots Q (F0 m pc ls st0) := by
  have hF := va_free (wc := wc) hD hS hA isC hC
  have hcb : CallB R s args own index y bytes maxL ret (wsM y bytes maxL ret) rm 1 6 n := callB_of n hts (gi_M v5) rfl hrc hrs (hts _ v4) (hts _ v1) hd hR
  have hr := vx_runV (C := y.cls) (As := As) (rest := rest) (locs := locs) (cells := cells) (slots := slots) (H := H) (e := e) (below := below) (meth := meth) (g := F0 m pc ls st0) ⟨hx, hb, hml, hown, hts⟩ (hM H.size) ⟨hcb, hts _ v2, hts _ v3⟩ ⟨rwP_blind, (by
    obtain ⟨cell, h1, h2, h3⟩ := va_recv hK hP hci he
    exact ⟨cell, h1, h2, by rw [← hq]; exact h3⟩), fun U hU hW => ⟨rfl, by rw [hU], by rw [hU]; exact hN.step hW hS hF, by rw [hU]; exact hP.cut hC, va_K.moved hW.alike hK, (hD.sub isC hCn hC).weaken (fun _ _ _ _ => trivial)⟩⟩ rfl hn hsize hst (lv_room hW) hdg hcs
  intro T hT X
  rcases hr T hT X with ⟨v, st₀, t, T', L, h0, X', hL, e1, e2, ⟨⟨r, w1, hres, hv, hP1, hD1⟩, hFf⟩, st⟩ | ⟨q, st₀, t, T', L, E, ce, h0, X', hL, e1, e2, ⟨⟨hres, hE, hP1, hD1⟩, hFf⟩, hce, hcv, hcl, st⟩
  · cases hv
    obtain ⟨k1, k2, k3⟩ := vx_keep h0 e1 hS (fun q _ h => hF q h) hF hL hFf
    obtain ⟨hP2, hD2⟩ := va_join (w1 := w1) hP hD isC isR hC hR9 hRn hdis k2 hF (by rw [e1]; exact hP1) hD1
    obtain ⟨t2, a1, b1⟩ := kk _ w1 hres T'.heap (locs ++ L) hP2 hD2 k3 T' rfl X'
    exact ⟨t2, st t2 a1, b1⟩
  · subst hE
    obtain ⟨k1, k2, k3⟩ := vx_keep h0 e1 hS (fun q _ h => hF q h) hF hL hFf
    obtain ⟨hP2, hD2⟩ := va_join (w1 := wc) hP hD isC isR hC hR9 hRn hdis k2 hF (by rw [e1]; exact hP1) hD1
    obtain ⟨t2, a1, b1⟩ := kx hres ce q T'.heap (locs ++ L) hP2 hD2 k3 (by rw [e1]; exact hce) hcv hcl T' rfl X'
    exact ⟨t2, st.trans a1, b1⟩
/-- a static call of a method of the law that catches -/
theorem lw_S (hx : p.tables.exec = Jvm.exec) (hb : c.code = cc) (hml : c.maxLocals = nL) (hown : s.vm.findClass own = some m.cls) (hts : ∀ w ∈ gtb, w.before args s = true) (hN : NZ A s s.heap) (hS : va_S A s.heap H locs) (hK : va_K D vwCl (tyA kA) s) (hP : va_P D vwCl wb H) (hD : va_D A wb) (hA : ∀ q, s.heap.size ≤ q → A q)
    (hM : Lw l y bytes maxL ret hh rm D kA As wc ro w1) (isC isR : List Nat) (hC : isC.map (fun i => wb[i]?) = wc.map some) (hCn : va_nd isC = true) (hR9 : isR.map (fun i => wb[i]?) = wr.map some) (hRn : va_nd isR = true) (hdis : ∀ i ∈ isR, i ∉ isC)
    (v1 : Cond.methodLink own index y ∈ gtb) (v2 : Cond.static y ∈ gtb) (v4 : Cond.initialized y.cls ∈ gtb) (v5 : Cond.codeWith y bytes maxL ret hh ∈ gtb) (hrc : rm.cells = 1) (hrs : rm.slots = 6)
    (hd : (y.cls ≠ "java/lang/invoke/MethodHandle" ∧ y.cls ≠ "java/lang/invoke/VarHandle" ∧ (parseMethodDescriptor y.desc).map (fun d => d.parameters.length) = some n)) (hR : rm.frames + 1 ≤ R.frames ∧ 8 + (maxL + 11) + rm.locals ≤ R.locals)
    (hn : As.length = n) (hsize : ls.size = nL) (hst : st0 = As.reverse ++ rest) (hW : (rest.map fun v => v.category).sum ≤ 8) (hdg : decode cc pc = .ok (.invokestatic index, 3)) (hcs : cells + 1 ≤ R.cells ∧ slots + 6 ≤ R.slots)
    (kk : ∀ (H1 : Heap) (locs1 : List Loc), va_P D vwCl (wr ++ w1) H1 → va_D A (wr ++ w1) → va_S A s.heap H1 locs1 → W p l e R s m args below meth c H1 locs1 (cells + 1) (slots + 6) Q (F0 m (pc + 3) ls (ro.toList ++ rest))) : W p l e R s m args below meth c H locs cells slots Q (F0 m pc ls st0) := by
  have hF := va_free (wc := wc) hD hS hA isC hC
  have hcw : vx_CSW R s args own index y bytes maxL ret hh (wsH y bytes maxL ret hh) rm 1 6 n := by
    refine ⟨⟨hrc, hrs, hR.1, hR.2, pay_in hts (gi_H v5), List.mem_cons_self⟩, hts _ v5, hts _ v4, ⟨hd.1, hd.2.1⟩, fun sig h => ?_, hts _ v1, hts _ v2⟩
    have h2 := hd.2.2
    rw [h] at h2
    exact (Option.some.inj h2).symm
  have hr := vx_runSW (As := As) (rest := rest) (locs := locs) (cells := cells) (slots := slots) (H := H) (e := e) (below := below) (meth := meth) (g := F0 m pc ls st0) ⟨hx, hb, hml, hown, hts⟩ (hM H.size) hcw ⟨rwP_blind, fun U hU hW => ⟨rfl, by rw [hU], by rw [hU]; exact hN.step hW hS hF, by rw [hU]; exact hP.cut hC, va_K.moved hW.alike hK, (hD.sub isC hCn hC).weaken (fun _ _ _ _ => trivial)⟩⟩ rfl hn hsize hst (lv_room hW) hdg hcs
  intro T hT X
  obtain ⟨v, st₀, t, T', L, h0, X', hL, e1, e2, ⟨⟨hv, hP1, hD1⟩, hz, hk⟩, st⟩ := hr T hT X
  cases hv
  rw [h0] at hz hk
  have hk1 : ∀ q : Nat, q < H.size → ¬ va_A wc H.size q → T'.heap[q]? = H[q]? := fun q h1 h2 => by rw [e1]; exact hk q h1 h2
  obtain ⟨hP2, hD2⟩ := va_join (w1 := w1) hP hD isC isR hC hR9 hRn hdis hk1 hF (by rw [e1]; exact hP1) hD1
  obtain ⟨t2, a1, b1⟩ := kk T'.heap (locs ++ L) hP2 hD2
    ⟨Nat.le_trans hS.1 (by rw [e1]; exact hz), fun q h1 h2 => by rw [hk1 q (Nat.lt_of_lt_of_le h1 hS.1) (fun z => h2 (hF q z))]; exact hS.2.1 q h1 h2, fun q hq => by
      rcases List.mem_append.mp hq with h | h
      · exact hS.2.2 q h
      · exact hF _ (hL q h)⟩ T' rfl X'
  exact ⟨t2, st t2 a1, b1⟩
end LwRows
abbrev rmL_name : Room := { frames := 7, cells := 1, slots := 6, locals := 136 }
set_option maxHeartbeats 4000000 in
set_option maxRecDepth 100000 in
theorem cL_name_c (l : Launch) (hl9 : l.stackTraces = false) (D : va_G) (kA : Nat → ClassId) (a_ct : Nat → Nat) (a_pn : Nat → Nat) (a_sh : Nat → Nat) (a_tp : Nat → Nat) (a_rd : Nat → Nat) (a_ck : Nat → Nat) (a_o : Nat → Nat) (F : Nat) (p1 : Int32) (p2 : Int32) (pn : T1) (sh : T3) (ot : T50) (res : Int32 × T1 × T3 × T50) (h : fL_name F p1 p2 pn sh ot = some res) : Lw l yL_name cL_name 5 (some .int) [(0, 17, 20, 13)] rmL_name D kA [.ref (a_ct 0), .int p1, .int p2, .ref (a_o 1)] [(a_ct 0, .inr (5, [.ref (a_tp 0), .ref (a_pn 0), .ref (a_rd 0), .ref (a_sh 0)])), (a_pn 0, .inr (1, [.ref (a_pn 1), .ref (a_pn 2)])), (a_pn 1, .inl (kA 1, 640, .inl pn.1)), (a_pn 2, .inl (kA 0, 40, .inl pn.2)), (a_sh 0, .inr (3, [.ref (a_sh 1), .ref (a_sh 2), .ref (a_sh 3), .ref (a_sh 4), .ref (a_sh 5), .ref (a_sh 6), .ref (a_sh 7), .ref (a_ck 0), .int sh.2.2.2.2.2.2.2.1, .int sh.2.2.2.2.2.2.2.2])), (a_sh 1, .inl (kA 0, 40, .inl sh.1)), (a_sh 2, .inl (kA 0, 40, .inl sh.2.1)), (a_sh 3, .inl (kA 0, 80, .inl sh.2.2.1)), (a_sh 4, .inl (kA 0, 120, .inl sh.2.2.2.1)), (a_sh 5, .inl (kA 0, 120, .inl sh.2.2.2.2.1)), (a_sh 6, .inl (kA 2, 120, .inr (.inl sh.2.2.2.2.2.1))), (a_sh 7, .inl (kA 1, 1240, .inl sh.2.2.2.2.2.2.1)), (a_o 1, .inl (kA 2, 1, .inr (.inl ot)))] (some (.int res.1)) [(a_ct 0, .inr (5, [.ref (a_tp 0), .ref (a_pn 0), .ref (a_rd 0), .ref (a_sh 0)])), (a_pn 0, .inr (1, [.ref (a_pn 1), .ref (a_pn 2)])), (a_pn 1, .inl (kA 1, 640, .inl res.2.1.1)), (a_pn 2, .inl (kA 0, 40, .inl res.2.1.2)), (a_sh 0, .inr (3, [.ref (a_sh 1), .ref (a_sh 2), .ref (a_sh 3), .ref (a_sh 4), .ref (a_sh 5), .ref (a_sh 6), .ref (a_sh 7), .ref (a_ck 0), .int res.2.2.1.2.2.2.2.2.2.2.1, .int res.2.2.1.2.2.2.2.2.2.2.2])), (a_sh 1, .inl (kA 0, 40, .inl res.2.2.1.1)), (a_sh 2, .inl (kA 0, 40, .inl res.2.2.1.2.1)), (a_sh 3, .inl (kA 0, 80, .inl res.2.2.1.2.2.1)), (a_sh 4, .inl (kA 0, 120, .inl res.2.2.1.2.2.2.1)), (a_sh 5, .inl (kA 0, 120, .inl res.2.2.1.2.2.2.2.1)), (a_sh 6, .inl (kA 2, 120, .inr (.inl res.2.2.1.2.2.2.2.2.1))), (a_sh 7, .inl (kA 1, 1240, .inl res.2.2.1.2.2.2.2.2.2.1)), (a_o 1, .inl (kA 2, 1, .inr (.inl res.2.2.2)))] := by
  refine Lw.of (by decide) (Nat.le_of_ble_eq_true rfl) ?_
  intro p e s m args below meth c A hF hex hP hD hS hA hK ls hl
  obtain ⟨hx, hb, hml, hown, hr, hk, hts, hN⟩ := hF
  have hl : lv_has ls 5 [(0, .ref (a_ct 0)), (1, .int p1), (2, .int p2), (3, .ref (a_o 1))] := hl
  unfold fL_name at h
  refine lv_aload_n hx hb dL_name_0 rfl (lv_at hl 3 rfl) ?_
  refine lv_iconst (v := 0) hx hb dL_name_1 (by decide) ?_
  refine lv_aload_n hx hb dL_name_2 rfl (lv_at hl 0 rfl) ?_
  refine lv_iload_n hx hb dL_name_3 rfl (lv_at hl 1 rfl) ?_
  refine lv_iload_n hx hb dL_name_4 rfl (lv_at hl 2 rfl) ?_
  obtain ⟨u, hc, h⟩ := bnd_some h
  cases u with
  | none =>
    have h : some ((1 : Int32), pn, sh, ot) = some res := h
    obtain rfl := Option.some.inj h
    refine tx_V (wr := [(a_o 1, .inl (kA 2, 1, .inr (.inl ot)))]) (n := 2) (As := [.int p1, .int p2]) (rest := [.int 0, .ref (a_o 1)]) hx hb hml hown hts hN hS hK hP hD hA (c5_name l hl9 D kA a_ct a_pn a_sh a_tp a_rd a_ck F p1 p2 pn sh none hc) [0, 1, 2, 3, 4, 5, 6, 7, 8, 9, 10, 11] [12] rfl (by decide) rfl (by decide) (by decide) 0 5 rfl rfl rfl tw_608 tw_609 tw_610 tw_74 tw_611 rfl rfl (by decide) ⟨Nat.le_of_ble_eq_true rfl, Nat.le_of_ble_eq_true rfl⟩ rfl hl.1 rfl (Nat.le_of_ble_eq_true rfl) dL_name_5 ⟨Nat.le_of_ble_eq_true rfl, Nat.le_of_ble_eq_true rfl⟩ ?_ ?_
    · intro hres ce q9 H locs hP hD hS hcell hv hcl
      refine vx_catch (own := "ConstraintTextLaw") (name := ioob) (E := ioob) hown [] ⟨0, 17, 20, 13⟩ [] hex (fun z hz => by cases hz) (by decide) (by decide) (hts _ tw_607) (va_Nw.use rfl (hN.1 _ nw_615)) hcell hv hcl ?_
      refine lv_astore (lv' := [(4, .ref q9), (0, .ref (a_ct 0)), (1, .int p1), (2, .int p2), (3, .ref (a_o 1))]) hx hb dL_name_20 hl (by decide) rfl (fun ls hl => ?_)
      refine lv_iconst (v := 1) hx hb dL_name_22 (by decide) ?_
      exact lw_ireturn hx hb hr hk dL_name_23 (hP.sub [1, 2, 3, 4, 5, 6, 7, 8, 9, 10, 11, 12, 0] rfl) (hD.sub [1, 2, 3, 4, 5, 6, 7, 8, 9, 10, 11, 12, 0] (by decide) rfl) hS
    · intro r w1 hres; cases hres
  | some r =>
    refine tx_V (wr := [(a_o 1, .inl (kA 2, 1, .inr (.inl ot)))]) (n := 2) (As := [.int p1, .int p2]) (rest := [.int 0, .ref (a_o 1)]) hx hb hml hown hts hN hS hK hP hD hA (c5_name l hl9 D kA a_ct a_pn a_sh a_tp a_rd a_ck F p1 p2 pn sh (some r) hc) [0, 1, 2, 3, 4, 5, 6, 7, 8, 9, 10, 11] [12] rfl (by decide) rfl (by decide) (by decide) 0 5 rfl rfl rfl tw_608 tw_609 tw_610 tw_74 tw_611 rfl rfl (by decide) ⟨Nat.le_of_ble_eq_true rfl, Nat.le_of_ble_eq_true rfl⟩ rfl hl.1 rfl (Nat.le_of_ble_eq_true rfl) dL_name_5 ⟨Nat.le_of_ble_eq_true rfl, Nat.le_of_ble_eq_true rfl⟩ ?_ ?_
    · intro hres; cases hres
    · intro r9 w9 hres H locs hP hD hS
      obtain ⟨rfl, rfl⟩ := Prod.mk.inj (Option.some.inj hres)
      have hP : va_P D vwCl [(a_o 1, .inl (kA 2, 1, .inr (.inl ot))), (a_ct 0, .inr (5, [.ref (a_tp 0), .ref (a_pn 0), .ref (a_rd 0), .ref (a_sh 0)])), (a_pn 0, .inr (1, [.ref (a_pn 1), .ref (a_pn 2)])), (a_pn 1, .inl (kA 1, 640, .inl r.2.1.1)), (a_pn 2, .inl (kA 0, 40, .inl r.2.1.2)), (a_sh 0, .inr (3, [.ref (a_sh 1), .ref (a_sh 2), .ref (a_sh 3), .ref (a_sh 4), .ref (a_sh 5), .ref (a_sh 6), .ref (a_sh 7), .ref (a_ck 0), .int r.2.2.2.2.2.2.2.2.2.1, .int r.2.2.2.2.2.2.2.2.2.2])), (a_sh 1, .inl (kA 0, 40, .inl r.2.2.1)), (a_sh 2, .inl (kA 0, 40, .inl r.2.2.2.1)), (a_sh 3, .inl (kA 0, 80, .inl r.2.2.2.2.1)), (a_sh 4, .inl (kA 0, 120, .inl r.2.2.2.2.2.1)), (a_sh 5, .inl (kA 0, 120, .inl r.2.2.2.2.2.2.1)), (a_sh 6, .inl (kA 2, 120, .inr (.inl r.2.2.2.2.2.2.2.1))), (a_sh 7, .inl (kA 1, 1240, .inl r.2.2.2.2.2.2.2.2.1))] H := hP
      have hD : va_D A [(a_o 1, .inl (kA 2, 1, .inr (.inl ot))), (a_ct 0, .inr (5, [.ref (a_tp 0), .ref (a_pn 0), .ref (a_rd 0), .ref (a_sh 0)])), (a_pn 0, .inr (1, [.ref (a_pn 1), .ref (a_pn 2)])), (a_pn 1, .inl (kA 1, 640, .inl r.2.1.1)), (a_pn 2, .inl (kA 0, 40, .inl r.2.1.2)), (a_sh 0, .inr (3, [.ref (a_sh 1), .ref (a_sh 2), .ref (a_sh 3), .ref (a_sh 4), .ref (a_sh 5), .ref (a_sh 6), .ref (a_sh 7), .ref (a_ck 0), .int r.2.2.2.2.2.2.2.2.2.1, .int r.2.2.2.2.2.2.2.2.2.2])), (a_sh 1, .inl (kA 0, 40, .inl r.2.2.1)), (a_sh 2, .inl (kA 0, 40, .inl r.2.2.2.1)), (a_sh 3, .inl (kA 0, 80, .inl r.2.2.2.2.1)), (a_sh 4, .inl (kA 0, 120, .inl r.2.2.2.2.2.1)), (a_sh 5, .inl (kA 0, 120, .inl r.2.2.2.2.2.2.1)), (a_sh 6, .inl (kA 2, 120, .inr (.inl r.2.2.2.2.2.2.2.1))), (a_sh 7, .inl (kA 1, 1240, .inl r.2.2.2.2.2.2.2.2.1))] := hD
      refine lv_if_eq (tgt := 15) hx hb dL_name_8 (by decide) (fun bc => ?_) (fun bc => ?_)
      · have h := ite_t (c := r.1 = (0 : Int32)) bc h
        refine lv_lconst (v := 0) hx hb dL_name_15 (by decide) ?_
        refine va_last hx hb hK hP hD hS 0 2 rfl rfl (inb_in (by decide)) dL_name_16 (fun H locs hP hD hS => ?_)
        refine lv_goto (tgt := 24) hx hb dL_name_17 (by decide) ?_
        obtain rfl := Option.some.inj h
        refine lv_iconst (v := 0) hx hb dL_name_24 (by decide) ?_
        exact lw_ireturn hx hb hr hk dL_name_25 (hP.sub [1, 2, 3, 4, 5, 6, 7, 8, 9, 10, 11, 12, 0] rfl) (hD.sub [1, 2, 3, 4, 5, 6, 7, 8, 9, 10, 11, 12, 0] (by decide) rfl) hS
      · have h := ite_f (c := r.1 = (0 : Int32)) bc h
        refine lv_lconst (v := 1) hx hb dL_name_11 (by decide) ?_
        refine lv_goto (tgt := 16) hx hb dL_name_12 (by decide) ?_
        refine va_last hx hb hK hP hD hS 0 2 rfl rfl (inb_in (by decide)) dL_name_16 (fun H locs hP hD hS => ?_)
        refine lv_goto (tgt := 24) hx hb dL_name_17 (by decide) ?_
        obtain rfl := Option.some.inj h
        refine lv_iconst (v := 0) hx hb dL_name_24 (by decide) ?_
        exact lw_ireturn hx hb hr hk dL_name_25 (hP.sub [1, 2, 3, 4, 5, 6, 7, 8, 9, 10, 11, 12, 0] rfl) (hD.sub [1, 2, 3, 4, 5, 6, 7, 8, 9, 10, 11, 12, 0] (by decide) rfl) hS

abbrev rmL_clock : Room := { frames := 7, cells := 1, slots := 6, locals := 104 }
set_option maxHeartbeats 4000000 in
set_option maxRecDepth 100000 in
theorem cL_clock_c (l : Launch) (hl9 : l.stackTraces = false) (D : va_G) (kA : Nat → ClassId) (a_ct : Nat → Nat) (a_sh : Nat → Nat) (a_ck : Nat → Nat) (a_tp : Nat → Nat) (a_pn : Nat → Nat) (a_rd : Nat → Nat) (a_o : Nat → Nat) (p1 : Int32) (p2 : Int32) (sh : T3) (ck : T0) (ot : T50) (res : Int32 × T50) (h : fL_clock p1 p2 sh ck ot = some res) : Lw l yL_clock cL_clock 5 (some .int) [(0, 10, 13, 13)] rmL_clock D kA [.ref (a_ct 0), .int p1, .int p2, .ref (a_o 1)] [(a_ct 0, .inr (5, [.ref (a_tp 0), .ref (a_pn 0), .ref (a_rd 0), .ref (a_sh 0)])), (a_sh 0, .inr (3, [.ref (a_sh 1), .ref (a_sh 2), .ref (a_sh 3), .ref (a_sh 4), .ref (a_sh 5), .ref (a_sh 6), .ref (a_sh 7), .ref (a_ck 0), .int sh.2.2.2.2.2.2.2.1, .int sh.2.2.2.2.2.2.2.2])), (a_sh 1, .inl (kA 0, 40, .inl sh.1)), (a_sh 2, .inl (kA 0, 40, .inl sh.2.1)), (a_sh 3, .inl (kA 0, 80, .inl sh.2.2.1)), (a_sh 4, .inl (kA 0, 120, .inl sh.2.2.2.1)), (a_sh 5, .inl (kA 0, 120, .inl sh.2.2.2.2.1)), (a_sh 6, .inl (kA 2, 120, .inr (.inl sh.2.2.2.2.2.1))), (a_sh 7, .inl (kA 1, 1240, .inl sh.2.2.2.2.2.2.1)), (a_ck 0, .inr (0, [.ref (a_ck 1), .ref (a_ck 2), .ref (a_ck 3), .ref (a_ck 4), .ref (a_ck 5), .ref (a_ck 6), .ref (a_ck 7), .ref (a_ck 8), .ref (a_ck 9), .ref (a_ck 10), .ref (a_ck 11), .int ck.2.2.2.2.2.2.2.2.2.2.2])), (a_ck 1, .inl (kA 0, 12, .inl ck.1)), (a_ck 2, .inl (kA 0, 12, .inl ck.2.1)), (a_ck 3, .inl (kA 3, 12, .inl ck.2.2.1)), (a_ck 4, .inl (kA 0, 12, .inl ck.2.2.2.1)), (a_ck 5, .inl (kA 0, 12, .inl ck.2.2.2.2.1)), (a_ck 6, .inl (kA 2, 12, .inr (.inl ck.2.2.2.2.2.1))), (a_ck 7, .inl (kA 2, 12, .inr (.inl ck.2.2.2.2.2.2.1))), (a_ck 8, .inl (kA 2, 12, .inr (.inl ck.2.2.2.2.2.2.2.1))), (a_ck 9, .inl (kA 2, 12, .inr (.inl ck.2.2.2.2.2.2.2.2.1))), (a_ck 10, .inl (kA 3, 12, .inl ck.2.2.2.2.2.2.2.2.2.1)), (a_ck 11, .inl (kA 3, 12, .inl ck.2.2.2.2.2.2.2.2.2.2.1)), (a_o 1, .inl (kA 2, 1, .inr (.inl ot)))] (some (.int res.1)) [(a_ct 0, .inr (5, [.ref (a_tp 0), .ref (a_pn 0), .ref (a_rd 0), .ref (a_sh 0)])), (a_sh 0, .inr (3, [.ref (a_sh 1), .ref (a_sh 2), .ref (a_sh 3), .ref (a_sh 4), .ref (a_sh 5), .ref (a_sh 6), .ref (a_sh 7), .ref (a_ck 0), .int sh.2.2.2.2.2.2.2.1, .int sh.2.2.2.2.2.2.2.2])), (a_sh 1, .inl (kA 0, 40, .inl sh.1)), (a_sh 2, .inl (kA 0, 40, .inl sh.2.1)), (a_sh 3, .inl (kA 0, 80, .inl sh.2.2.1)), (a_sh 4, .inl (kA 0, 120, .inl sh.2.2.2.1)), (a_sh 5, .inl (kA 0, 120, .inl sh.2.2.2.2.1)), (a_sh 6, .inl (kA 2, 120, .inr (.inl sh.2.2.2.2.2.1))), (a_sh 7, .inl (kA 1, 1240, .inl sh.2.2.2.2.2.2.1)), (a_ck 0, .inr (0, [.ref (a_ck 1), .ref (a_ck 2), .ref (a_ck 3), .ref (a_ck 4), .ref (a_ck 5), .ref (a_ck 6), .ref (a_ck 7), .ref (a_ck 8), .ref (a_ck 9), .ref (a_ck 10), .ref (a_ck 11), .int ck.2.2.2.2.2.2.2.2.2.2.2])), (a_ck 1, .inl (kA 0, 12, .inl ck.1)), (a_ck 2, .inl (kA 0, 12, .inl ck.2.1)), (a_ck 3, .inl (kA 3, 12, .inl ck.2.2.1)), (a_ck 4, .inl (kA 0, 12, .inl ck.2.2.2.1)), (a_ck 5, .inl (kA 0, 12, .inl ck.2.2.2.2.1)), (a_ck 6, .inl (kA 2, 12, .inr (.inl ck.2.2.2.2.2.1))), (a_ck 7, .inl (kA 2, 12, .inr (.inl ck.2.2.2.2.2.2.1))), (a_ck 8, .inl (kA 2, 12, .inr (.inl ck.2.2.2.2.2.2.2.1))), (a_ck 9, .inl (kA 2, 12, .inr (.inl ck.2.2.2.2.2.2.2.2.1))), (a_ck 10, .inl (kA 3, 12, .inl ck.2.2.2.2.2.2.2.2.2.1)), (a_ck 11, .inl (kA 3, 12, .inl ck.2.2.2.2.2.2.2.2.2.2.1)), (a_o 1, .inl (kA 2, 1, .inr (.inl res.2)))] := by
  refine Lw.of (by decide) (Nat.le_of_ble_eq_true rfl) ?_
  intro p e s m args below meth c A hF hex hP hD hS hA hK ls hl
  obtain ⟨hx, hb, hml, hown, hr, hk, hts, hN⟩ := hF
  have hl : lv_has ls 5 [(0, .ref (a_ct 0)), (1, .int p1), (2, .int p2), (3, .ref (a_o 1))] := hl
  unfold fL_clock at h
  refine lv_aload_n hx hb dL_clock_0 rfl (lv_at hl 3 rfl) ?_
  refine lv_iconst (v := 0) hx hb dL_clock_1 (by decide) ?_
  refine lv_aload_n hx hb dL_clock_2 rfl (lv_at hl 0 rfl) ?_
  refine lv_iload_n hx hb dL_clock_3 rfl (lv_at hl 1 rfl) ?_
  refine lv_iload_n hx hb dL_clock_4 rfl (lv_at hl 2 rfl) ?_
  obtain ⟨u, hc, h⟩ := bnd_some h
  cases u with
  | none =>
    have h : some ((1 : Int32), ot) = some res := h
    obtain rfl := Option.some.inj h
    refine tx_V (wr := [(a_o 1, .inl (kA 2, 1, .inr (.inl ot)))]) (n := 2) (As := [.int p1, .int p2]) (rest := [.int 0, .ref (a_o 1)]) hx hb hml hown hts hN hS hK hP hD hA (c5_clock l hl9 D kA a_ct a_sh a_ck a_tp a_pn a_rd p1 p2 sh ck none hc) [0, 1, 2, 3, 4, 5, 6, 7, 8, 9, 10, 11, 12, 13, 14, 15, 16, 17, 18, 19, 20] [21] rfl (by decide) rfl (by decide) (by decide) 0 5 rfl rfl rfl tw_686 tw_687 tw_688 tw_74 tw_689 rfl rfl (by decide) ⟨Nat.le_of_ble_eq_true rfl, Nat.le_of_ble_eq_true rfl⟩ rfl hl.1 rfl (Nat.le_of_ble_eq_true rfl) dL_clock_5 ⟨Nat.le_of_ble_eq_true rfl, Nat.le_of_ble_eq_true rfl⟩ ?_ ?_
    · intro hres ce q9 H locs hP hD hS hcell hv hcl
      refine vx_catch (own := "ConstraintTextLaw") (name := ioob) (E := ioob) hown [] ⟨0, 10, 13, 13⟩ [] hex (fun z hz => by cases hz) (by decide) (by decide) (hts _ tw_607) (va_Nw.use rfl (hN.1 _ nw_615)) hcell hv hcl ?_
      refine lv_astore (lv' := [(4, .ref q9), (0, .ref (a_ct 0)), (1, .int p1), (2, .int p2), (3, .ref (a_o 1))]) hx hb dL_clock_13 hl (by decide) rfl (fun ls hl => ?_)
      refine lv_iconst (v := 1) hx hb dL_clock_15 (by decide) ?_
      exact lw_ireturn hx hb hr hk dL_clock_16 (hP.sub [1, 2, 3, 4, 5, 6, 7, 8, 9, 10, 11, 12, 13, 14, 15, 16, 17, 18, 19, 20, 21, 0] rfl) (hD.sub [1, 2, 3, 4, 5, 6, 7, 8, 9, 10, 11, 12, 13, 14, 15, 16, 17, 18, 19, 20, 21, 0] (by decide) rfl) hS
    · intro r w1 hres; cases hres
  | some r =>
    refine tx_V (wr := [(a_o 1, .inl (kA 2, 1, .inr (.inl ot)))]) (n := 2) (As := [.int p1, .int p2]) (rest := [.int 0, .ref (a_o 1)]) hx hb hml hown hts hN hS hK hP hD hA (c5_clock l hl9 D kA a_ct a_sh a_ck a_tp a_pn a_rd p1 p2 sh ck (some r) hc) [0, 1, 2, 3, 4, 5, 6, 7, 8, 9, 10, 11, 12, 13, 14, 15, 16, 17, 18, 19, 20] [21] rfl (by decide) rfl (by decide) (by decide) 0 5 rfl rfl rfl tw_686 tw_687 tw_688 tw_74 tw_689 rfl rfl (by decide) ⟨Nat.le_of_ble_eq_true rfl, Nat.le_of_ble_eq_true rfl⟩ rfl hl.1 rfl (Nat.le_of_ble_eq_true rfl) dL_clock_5 ⟨Nat.le_of_ble_eq_true rfl, Nat.le_of_ble_eq_true rfl⟩ ?_ ?_
    · intro hres; cases hres
    · intro r9 w9 hres H locs hP hD hS
      obtain ⟨rfl, rfl⟩ := Prod.mk.inj (Option.some.inj hres)
      have hP : va_P D vwCl [(a_o 1, .inl (kA 2, 1, .inr (.inl ot))), (a_ct 0, .inr (5, [.ref (a_tp 0), .ref (a_pn 0), .ref (a_rd 0), .ref (a_sh 0)])), (a_sh 0, .inr (3, [.ref (a_sh 1), .ref (a_sh 2), .ref (a_sh 3), .ref (a_sh 4), .ref (a_sh 5), .ref (a_sh 6), .ref (a_sh 7), .ref (a_ck 0), .int sh.2.2.2.2.2.2.2.1, .int sh.2.2.2.2.2.2.2.2])), (a_sh 1, .inl (kA 0, 40, .inl sh.1)), (a_sh 2, .inl (kA 0, 40, .inl sh.2.1)), (a_sh 3, .inl (kA 0, 80, .inl sh.2.2.1)), (a_sh 4, .inl (kA 0, 120, .inl sh.2.2.2.1)), (a_sh 5, .inl (kA 0, 120, .inl sh.2.2.2.2.1)), (a_sh 6, .inl (kA 2, 120, .inr (.inl sh.2.2.2.2.2.1))), (a_sh 7, .inl (kA 1, 1240, .inl sh.2.2.2.2.2.2.1)), (a_ck 0, .inr (0, [.ref (a_ck 1), .ref (a_ck 2), .ref (a_ck 3), .ref (a_ck 4), .ref (a_ck 5), .ref (a_ck 6), .ref (a_ck 7), .ref (a_ck 8), .ref (a_ck 9), .ref (a_ck 10), .ref (a_ck 11), .int ck.2.2.2.2.2.2.2.2.2.2.2])), (a_ck 1, .inl (kA 0, 12, .inl ck.1)), (a_ck 2, .inl (kA 0, 12, .inl ck.2.1)), (a_ck 3, .inl (kA 3, 12, .inl ck.2.2.1)), (a_ck 4, .inl (kA 0, 12, .inl ck.2.2.2.1)), (a_ck 5, .inl (kA 0, 12, .inl ck.2.2.2.2.1)), (a_ck 6, .inl (kA 2, 12, .inr (.inl ck.2.2.2.2.2.1))), (a_ck 7, .inl (kA 2, 12, .inr (.inl ck.2.2.2.2.2.2.1))), (a_ck 8, .inl (kA 2, 12, .inr (.inl ck.2.2.2.2.2.2.2.1))), (a_ck 9, .inl (kA 2, 12, .inr (.inl ck.2.2.2.2.2.2.2.2.1))), (a_ck 10, .inl (kA 3, 12, .inl ck.2.2.2.2.2.2.2.2.2.1)), (a_ck 11, .inl (kA 3, 12, .inl ck.2.2.2.2.2.2.2.2.2.2.1))] H := hP
      have hD : va_D A [(a_o 1, .inl (kA 2, 1, .inr (.inl ot))), (a_ct 0, .inr (5, [.ref (a_tp 0), .ref (a_pn 0), .ref (a_rd 0), .ref (a_sh 0)])), (a_sh 0, .inr (3, [.ref (a_sh 1), .ref (a_sh 2), .ref (a_sh 3), .ref (a_sh 4), .ref (a_sh 5), .ref (a_sh 6), .ref (a_sh 7), .ref (a_ck 0), .int sh.2.2.2.2.2.2.2.1, .int sh.2.2.2.2.2.2.2.2])), (a_sh 1, .inl (kA 0, 40, .inl sh.1)), (a_sh 2, .inl (kA 0, 40, .inl sh.2.1)), (a_sh 3, .inl (kA 0, 80, .inl sh.2.2.1)), (a_sh 4, .inl (kA 0, 120, .inl sh.2.2.2.1)), (a_sh 5, .inl (kA 0, 120, .inl sh.2.2.2.2.1)), (a_sh 6, .inl (kA 2, 120, .inr (.inl sh.2.2.2.2.2.1))), (a_sh 7, .inl (kA 1, 1240, .inl sh.2.2.2.2.2.2.1)), (a_ck 0, .inr (0, [.ref (a_ck 1), .ref (a_ck 2), .ref (a_ck 3), .ref (a_ck 4), .ref (a_ck 5), .ref (a_ck 6), .ref (a_ck 7), .ref (a_ck 8), .ref (a_ck 9), .ref (a_ck 10), .ref (a_ck 11), .int ck.2.2.2.2.2.2.2.2.2.2.2])), (a_ck 1, .inl (kA 0, 12, .inl ck.1)), (a_ck 2, .inl (kA 0, 12, .inl ck.2.1)), (a_ck 3, .inl (kA 3, 12, .inl ck.2.2.1)), (a_ck 4, .inl (kA 0, 12, .inl ck.2.2.2.1)), (a_ck 5, .inl (kA 0, 12, .inl ck.2.2.2.2.1)), (a_ck 6, .inl (kA 2, 12, .inr (.inl ck.2.2.2.2.2.1))), (a_ck 7, .inl (kA 2, 12, .inr (.inl ck.2.2.2.2.2.2.1))), (a_ck 8, .inl (kA 2, 12, .inr (.inl ck.2.2.2.2.2.2.2.1))), (a_ck 9, .inl (kA 2, 12, .inr (.inl ck.2.2.2.2.2.2.2.2.1))), (a_ck 10, .inl (kA 3, 12, .inl ck.2.2.2.2.2.2.2.2.2.1)), (a_ck 11, .inl (kA 3, 12, .inl ck.2.2.2.2.2.2.2.2.2.2.1))] := hD
      refine lv_i2l (v := r.toInt64) hx hb dL_clock_8 rfl ?_
      have h : some ((0 : Int32), (vp_updL ot 0 r.toInt64)) = some res := h
      refine va_last hx hb hK hP hD hS 0 2 rfl rfl (inb_in (by decide)) dL_clock_9 (fun H locs hP hD hS => ?_)
      refine lv_goto (tgt := 17) hx hb dL_clock_10 (by decide) ?_
      obtain rfl := Option.some.inj h
      refine lv_iconst (v := 0) hx hb dL_clock_17 (by decide) ?_
      exact lw_ireturn hx hb hr hk dL_clock_18 (hP.sub [1, 2, 3, 4, 5, 6, 7, 8, 9, 10, 11, 12, 13, 14, 15, 16, 17, 18, 19, 20, 21, 0] rfl) (hD.sub [1, 2, 3, 4, 5, 6, 7, 8, 9, 10, 11, 12, 13, 14, 15, 16, 17, 18, 19, 20, 21, 0] (by decide) rfl) hS

abbrev rmL_edge : Room := { frames := 7, cells := 1, slots := 6, locals := 106 }
set_option maxHeartbeats 4000000 in
set_option maxRecDepth 100000 in
theorem cL_edge_c (l : Launch) (hl9 : l.stackTraces = false) (D : va_G) (kA : Nat → ClassId) (a_ct : Nat → Nat) (a_sh : Nat → Nat) (a_ck : Nat → Nat) (a_tp : Nat → Nat) (a_pn : Nat → Nat) (a_rd : Nat → Nat) (a_o : Nat → Nat) (F : Nat) (p1 : Int32) (p2 : Int32) (p3 : Int32) (sh : T3) (ck : T0) (ot : T50) (res : Int32 × T50) (h : fL_edge F p1 p2 p3 sh ck ot = some res) : Lw l yL_edge cL_edge 6 (some .int) [(0, 11, 14, 13)] rmL_edge D kA [.ref (a_ct 0), .int p1, .int p2, .int p3, .ref (a_o 1)] [(a_ct 0, .inr (5, [.ref (a_tp 0), .ref (a_pn 0), .ref (a_rd 0), .ref (a_sh 0)])), (a_sh 0, .inr (3, [.ref (a_sh 1), .ref (a_sh 2), .ref (a_sh 3), .ref (a_sh 4), .ref (a_sh 5), .ref (a_sh 6), .ref (a_sh 7), .ref (a_ck 0), .int sh.2.2.2.2.2.2.2.1, .int sh.2.2.2.2.2.2.2.2])), (a_sh 1, .inl (kA 0, 40, .inl sh.1)), (a_sh 2, .inl (kA 0, 40, .inl sh.2.1)), (a_sh 3, .inl (kA 0, 80, .inl sh.2.2.1)), (a_sh 4, .inl (kA 0, 120, .inl sh.2.2.2.1)), (a_sh 5, .inl (kA 0, 120, .inl sh.2.2.2.2.1)), (a_sh 6, .inl (kA 2, 120, .inr (.inl sh.2.2.2.2.2.1))), (a_sh 7, .inl (kA 1, 1240, .inl sh.2.2.2.2.2.2.1)), (a_ck 0, .inr (0, [.ref (a_ck 1), .ref (a_ck 2), .ref (a_ck 3), .ref (a_ck 4), .ref (a_ck 5), .ref (a_ck 6), .ref (a_ck 7), .ref (a_ck 8), .ref (a_ck 9), .ref (a_ck 10), .ref (a_ck 11), .int ck.2.2.2.2.2.2.2.2.2.2.2])), (a_ck 1, .inl (kA 0, 12, .inl ck.1)), (a_ck 2, .inl (kA 0, 12, .inl ck.2.1)), (a_ck 3, .inl (kA 3, 12, .inl ck.2.2.1)), (a_ck 4, .inl (kA 0, 12, .inl ck.2.2.2.1)), (a_ck 5, .inl (kA 0, 12, .inl ck.2.2.2.2.1)), (a_ck 6, .inl (kA 2, 12, .inr (.inl ck.2.2.2.2.2.1))), (a_ck 7, .inl (kA 2, 12, .inr (.inl ck.2.2.2.2.2.2.1))), (a_ck 8, .inl (kA 2, 12, .inr (.inl ck.2.2.2.2.2.2.2.1))), (a_ck 9, .inl (kA 2, 12, .inr (.inl ck.2.2.2.2.2.2.2.2.1))), (a_ck 10, .inl (kA 3, 12, .inl ck.2.2.2.2.2.2.2.2.2.1)), (a_ck 11, .inl (kA 3, 12, .inl ck.2.2.2.2.2.2.2.2.2.2.1)), (a_o 1, .inl (kA 2, 1, .inr (.inl ot)))] (some (.int res.1)) [(a_ct 0, .inr (5, [.ref (a_tp 0), .ref (a_pn 0), .ref (a_rd 0), .ref (a_sh 0)])), (a_sh 0, .inr (3, [.ref (a_sh 1), .ref (a_sh 2), .ref (a_sh 3), .ref (a_sh 4), .ref (a_sh 5), .ref (a_sh 6), .ref (a_sh 7), .ref (a_ck 0), .int sh.2.2.2.2.2.2.2.1, .int sh.2.2.2.2.2.2.2.2])), (a_sh 1, .inl (kA 0, 40, .inl sh.1)), (a_sh 2, .inl (kA 0, 40, .inl sh.2.1)), (a_sh 3, .inl (kA 0, 80, .inl sh.2.2.1)), (a_sh 4, .inl (kA 0, 120, .inl sh.2.2.2.1)), (a_sh 5, .inl (kA 0, 120, .inl sh.2.2.2.2.1)), (a_sh 6, .inl (kA 2, 120, .inr (.inl sh.2.2.2.2.2.1))), (a_sh 7, .inl (kA 1, 1240, .inl sh.2.2.2.2.2.2.1)), (a_ck 0, .inr (0, [.ref (a_ck 1), .ref (a_ck 2), .ref (a_ck 3), .ref (a_ck 4), .ref (a_ck 5), .ref (a_ck 6), .ref (a_ck 7), .ref (a_ck 8), .ref (a_ck 9), .ref (a_ck 10), .ref (a_ck 11), .int ck.2.2.2.2.2.2.2.2.2.2.2])), (a_ck 1, .inl (kA 0, 12, .inl ck.1)), (a_ck 2, .inl (kA 0, 12, .inl ck.2.1)), (a_ck 3, .inl (kA 3, 12, .inl ck.2.2.1)), (a_ck 4, .inl (kA 0, 12, .inl ck.2.2.2.1)), (a_ck 5, .inl (kA 0, 12, .inl ck.2.2.2.2.1)), (a_ck 6, .inl (kA 2, 12, .inr (.inl ck.2.2.2.2.2.1))), (a_ck 7, .inl (kA 2, 12, .inr (.inl ck.2.2.2.2.2.2.1))), (a_ck 8, .inl (kA 2, 12, .inr (.inl ck.2.2.2.2.2.2.2.1))), (a_ck 9, .inl (kA 2, 12, .inr (.inl ck.2.2.2.2.2.2.2.2.1))), (a_ck 10, .inl (kA 3, 12, .inl ck.2.2.2.2.2.2.2.2.2.1)), (a_ck 11, .inl (kA 3, 12, .inl ck.2.2.2.2.2.2.2.2.2.2.1)), (a_o 1, .inl (kA 2, 1, .inr (.inl res.2)))] := by
  refine Lw.of (by decide) (Nat.le_of_ble_eq_true rfl) ?_
  intro p e s m args below meth c A hF hex hP hD hS hA hK ls hl
  obtain ⟨hx, hb, hml, hown, hr, hk, hts, hN⟩ := hF
  have hl : lv_has ls 6 [(0, .ref (a_ct 0)), (1, .int p1), (2, .int p2), (3, .int p3), (4, .ref (a_o 1))] := hl
  unfold fL_edge at h
  refine lv_aload hx hb dL_edge_0 (lv_at hl 4 rfl) ?_
  refine lv_iconst (v := 0) hx hb dL_edge_2 (by decide) ?_
  refine lv_aload_n hx hb dL_edge_3 rfl (lv_at hl 0 rfl) ?_
  refine lv_iload_n hx hb dL_edge_4 rfl (lv_at hl 1 rfl) ?_
  refine lv_iload_n hx hb dL_edge_5 rfl (lv_at hl 2 rfl) ?_
  refine lv_iload_n hx hb dL_edge_6 rfl (lv_at hl 3 rfl) ?_
  obtain ⟨u, hc, h⟩ := bnd_some h
  cases u with
  | none =>
    have h : some ((1 : Int32), ot) = some res := h
    obtain rfl := Option.some.inj h
    refine tx_V (wr := [(a_o 1, .inl (kA 2, 1, .inr (.inl ot)))]) (n := 3) (As := [.int p1, .int p2, .int p3]) (rest := [.int 0, .ref (a_o 1)]) hx hb hml hown hts hN hS hK hP hD hA (c5_edge l hl9 D kA a_ct a_sh a_ck a_tp a_pn a_rd F p1 p2 p3 sh ck none hc) [0, 1, 2, 3, 4, 5, 6, 7, 8, 9, 10, 11, 12, 13, 14, 15, 16, 17, 18, 19, 20] [21] rfl (by decide) rfl (by decide) (by decide) 0 5 rfl rfl rfl tw_709 tw_710 tw_711 tw_74 tw_712 rfl rfl (by decide) ⟨Nat.le_of_ble_eq_true rfl, Nat.le_of_ble_eq_true rfl⟩ rfl hl.1 rfl (Nat.le_of_ble_eq_true rfl) dL_edge_7 ⟨Nat.le_of_ble_eq_true rfl, Nat.le_of_ble_eq_true rfl⟩ ?_ ?_
    · intro hres ce q9 H locs hP hD hS hcell hv hcl
      refine vx_catch (own := "ConstraintTextLaw") (name := ioob) (E := ioob) hown [] ⟨0, 11, 14, 13⟩ [] hex (fun z hz => by cases hz) (by decide) (by decide) (hts _ tw_607) (va_Nw.use rfl (hN.1 _ nw_615)) hcell hv hcl ?_
      refine lv_astore (lv' := [(5, .ref q9), (0, .ref (a_ct 0)), (1, .int p1), (2, .int p2), (3, .int p3), (4, .ref (a_o 1))]) hx hb dL_edge_14 hl (by decide) rfl (fun ls hl => ?_)
      refine lv_iconst (v := 1) hx hb dL_edge_16 (by decide) ?_
      exact lw_ireturn hx hb hr hk dL_edge_17 (hP.sub [1, 2, 3, 4, 5, 6, 7, 8, 9, 10, 11, 12, 13, 14, 15, 16, 17, 18, 19, 20, 21, 0] rfl) (hD.sub [1, 2, 3, 4, 5, 6, 7, 8, 9, 10, 11, 12, 13, 14, 15, 16, 17, 18, 19, 20, 21, 0] (by decide) rfl) hS
    · intro r w1 hres; cases hres
  | some r =>
    refine tx_V (wr := [(a_o 1, .inl (kA 2, 1, .inr (.inl ot)))]) (n := 3) (As := [.int p1, .int p2, .int p3]) (rest := [.int 0, .ref (a_o 1)]) hx hb hml hown hts hN hS hK hP hD hA (c5_edge l hl9 D kA a_ct a_sh a_ck a_tp a_pn a_rd F p1 p2 p3 sh ck (some r) hc) [0, 1, 2, 3, 4, 5, 6, 7, 8, 9, 10, 11, 12, 13, 14, 15, 16, 17, 18, 19, 20] [21] rfl (by decide) rfl (by decide) (by decide) 0 5 rfl rfl rfl tw_709 tw_710 tw_711 tw_74 tw_712 rfl rfl (by decide) ⟨Nat.le_of_ble_eq_true rfl, Nat.le_of_ble_eq_true rfl⟩ rfl hl.1 rfl (Nat.le_of_ble_eq_true rfl) dL_edge_7 ⟨Nat.le_of_ble_eq_true rfl, Nat.le_of_ble_eq_true rfl⟩ ?_ ?_
    · intro hres; cases hres
    · intro r9 w9 hres H locs hP hD hS
      obtain ⟨rfl, rfl⟩ := Prod.mk.inj (Option.some.inj hres)
      have hP : va_P D vwCl [(a_o 1, .inl (kA 2, 1, .inr (.inl ot))), (a_ct 0, .inr (5, [.ref (a_tp 0), .ref (a_pn 0), .ref (a_rd 0), .ref (a_sh 0)])), (a_sh 0, .inr (3, [.ref (a_sh 1), .ref (a_sh 2), .ref (a_sh 3), .ref (a_sh 4), .ref (a_sh 5), .ref (a_sh 6), .ref (a_sh 7), .ref (a_ck 0), .int sh.2.2.2.2.2.2.2.1, .int sh.2.2.2.2.2.2.2.2])), (a_sh 1, .inl (kA 0, 40, .inl sh.1)), (a_sh 2, .inl (kA 0, 40, .inl sh.2.1)), (a_sh 3, .inl (kA 0, 80, .inl sh.2.2.1)), (a_sh 4, .inl (kA 0, 120, .inl sh.2.2.2.1)), (a_sh 5, .inl (kA 0, 120, .inl sh.2.2.2.2.1)), (a_sh 6, .inl (kA 2, 120, .inr (.inl sh.2.2.2.2.2.1))), (a_sh 7, .inl (kA 1, 1240, .inl sh.2.2.2.2.2.2.1)), (a_ck 0, .inr (0, [.ref (a_ck 1), .ref (a_ck 2), .ref (a_ck 3), .ref (a_ck 4), .ref (a_ck 5), .ref (a_ck 6), .ref (a_ck 7), .ref (a_ck 8), .ref (a_ck 9), .ref (a_ck 10), .ref (a_ck 11), .int ck.2.2.2.2.2.2.2.2.2.2.2])), (a_ck 1, .inl (kA 0, 12, .inl ck.1)), (a_ck 2, .inl (kA 0, 12, .inl ck.2.1)), (a_ck 3, .inl (kA 3, 12, .inl ck.2.2.1)), (a_ck 4, .inl (kA 0, 12, .inl ck.2.2.2.1)), (a_ck 5, .inl (kA 0, 12, .inl ck.2.2.2.2.1)), (a_ck 6, .inl (kA 2, 12, .inr (.inl ck.2.2.2.2.2.1))), (a_ck 7, .inl (kA 2, 12, .inr (.inl ck.2.2.2.2.2.2.1))), (a_ck 8, .inl (kA 2, 12, .inr (.inl ck.2.2.2.2.2.2.2.1))), (a_ck 9, .inl (kA 2, 12, .inr (.inl ck.2.2.2.2.2.2.2.2.1))), (a_ck 10, .inl (kA 3, 12, .inl ck.2.2.2.2.2.2.2.2.2.1)), (a_ck 11, .inl (kA 3, 12, .inl ck.2.2.2.2.2.2.2.2.2.2.1))] H := hP
      have hD : va_D A [(a_o 1, .inl (kA 2, 1, .inr (.inl ot))), (a_ct 0, .inr (5, [.ref (a_tp 0), .ref (a_pn 0), .ref (a_rd 0), .ref (a_sh 0)])), (a_sh 0, .inr (3, [.ref (a_sh 1), .ref (a_sh 2), .ref (a_sh 3), .ref (a_sh 4), .ref (a_sh 5), .ref (a_sh 6), .ref (a_sh 7), .ref (a_ck 0), .int sh.2.2.2.2.2.2.2.1, .int sh.2.2.2.2.2.2.2.2])), (a_sh 1, .inl (kA 0, 40, .inl sh.1)), (a_sh 2, .inl (kA 0, 40, .inl sh.2.1)), (a_sh 3, .inl (kA 0, 80, .inl sh.2.2.1)), (a_sh 4, .inl (kA 0, 120, .inl sh.2.2.2.1)), (a_sh 5, .inl (kA 0, 120, .inl sh.2.2.2.2.1)), (a_sh 6, .inl (kA 2, 120, .inr (.inl sh.2.2.2.2.2.1))), (a_sh 7, .inl (kA 1, 1240, .inl sh.2.2.2.2.2.2.1)), (a_ck 0, .inr (0, [.ref (a_ck 1), .ref (a_ck 2), .ref (a_ck 3), .ref (a_ck 4), .ref (a_ck 5), .ref (a_ck 6), .ref (a_ck 7), .ref (a_ck 8), .ref (a_ck 9), .ref (a_ck 10), .ref (a_ck 11), .int ck.2.2.2.2.2.2.2.2.2.2.2])), (a_ck 1, .inl (kA 0, 12, .inl ck.1)), (a_ck 2, .inl (kA 0, 12, .inl ck.2.1)), (a_ck 3, .inl (kA 3, 12, .inl ck.2.2.1)), (a_ck 4, .inl (kA 0, 12, .inl ck.2.2.2.1)), (a_ck 5, .inl (kA 0, 12, .inl ck.2.2.2.2.1)), (a_ck 6, .inl (kA 2, 12, .inr (.inl ck.2.2.2.2.2.1))), (a_ck 7, .inl (kA 2, 12, .inr (.inl ck.2.2.2.2.2.2.1))), (a_ck 8, .inl (kA 2, 12, .inr (.inl ck.2.2.2.2.2.2.2.1))), (a_ck 9, .inl (kA 2, 12, .inr (.inl ck.2.2.2.2.2.2.2.2.1))), (a_ck 10, .inl (kA 3, 12, .inl ck.2.2.2.2.2.2.2.2.2.1)), (a_ck 11, .inl (kA 3, 12, .inl ck.2.2.2.2.2.2.2.2.2.2.1))] := hD
      have h : some ((0 : Int32), (vp_updL ot 0 r)) = some res := h
      refine va_last hx hb hK hP hD hS 0 2 rfl rfl (inb_in (by decide)) dL_edge_10 (fun H locs hP hD hS => ?_)
      refine lv_goto (tgt := 18) hx hb dL_edge_11 (by decide) ?_
      obtain rfl := Option.some.inj h
      refine lv_iconst (v := 0) hx hb dL_edge_18 (by decide) ?_
      exact lw_ireturn hx hb hr hk dL_edge_19 (hP.sub [1, 2, 3, 4, 5, 6, 7, 8, 9, 10, 11, 12, 13, 14, 15, 16, 17, 18, 19, 20, 21, 0] rfl) (hD.sub [1, 2, 3, 4, 5, 6, 7, 8, 9, 10, 11, 12, 13, 14, 15, 16, 17, 18, 19, 20, 21, 0] (by decide) rfl) hS

abbrev rmL_distance : Room := { frames := 7, cells := 1, slots := 6, locals := 112 }
set_option maxHeartbeats 4000000 in
set_option maxRecDepth 100000 in
theorem cL_distance_c (l : Launch) (hl9 : l.stackTraces = false) (D : va_G) (kA : Nat → ClassId) (a_ct : Nat → Nat) (a_sh : Nat → Nat) (a_ck : Nat → Nat) (a_tp : Nat → Nat) (a_pn : Nat → Nat) (a_rd : Nat → Nat) (a_o : Nat → Nat) (F : Nat) (p1 : Int32) (p2 : Int32) (p3 : Int32) (sh : T3) (ck : T0) (ot : T50) (res : Int32 × T50) (h : fL_distance F p1 p2 p3 sh ck ot = some res) : Lw l yL_distance cL_distance 6 (some .int) [(0, 11, 14, 13)] rmL_distance D kA [.ref (a_ct 0), .int p1, .int p2, .int p3, .ref (a_o 1)] [(a_ct 0, .inr (5, [.ref (a_tp 0), .ref (a_pn 0), .ref (a_rd 0), .ref (a_sh 0)])), (a_sh 0, .inr (3, [.ref (a_sh 1), .ref (a_sh 2), .ref (a_sh 3), .ref (a_sh 4), .ref (a_sh 5), .ref (a_sh 6), .ref (a_sh 7), .ref (a_ck 0), .int sh.2.2.2.2.2.2.2.1, .int sh.2.2.2.2.2.2.2.2])), (a_sh 1, .inl (kA 0, 40, .inl sh.1)), (a_sh 2, .inl (kA 0, 40, .inl sh.2.1)), (a_sh 3, .inl (kA 0, 80, .inl sh.2.2.1)), (a_sh 4, .inl (kA 0, 120, .inl sh.2.2.2.1)), (a_sh 5, .inl (kA 0, 120, .inl sh.2.2.2.2.1)), (a_sh 6, .inl (kA 2, 120, .inr (.inl sh.2.2.2.2.2.1))), (a_sh 7, .inl (kA 1, 1240, .inl sh.2.2.2.2.2.2.1)), (a_ck 0, .inr (0, [.ref (a_ck 1), .ref (a_ck 2), .ref (a_ck 3), .ref (a_ck 4), .ref (a_ck 5), .ref (a_ck 6), .ref (a_ck 7), .ref (a_ck 8), .ref (a_ck 9), .ref (a_ck 10), .ref (a_ck 11), .int ck.2.2.2.2.2.2.2.2.2.2.2])), (a_ck 1, .inl (kA 0, 12, .inl ck.1)), (a_ck 2, .inl (kA 0, 12, .inl ck.2.1)), (a_ck 3, .inl (kA 3, 12, .inl ck.2.2.1)), (a_ck 4, .inl (kA 0, 12, .inl ck.2.2.2.1)), (a_ck 5, .inl (kA 0, 12, .inl ck.2.2.2.2.1)), (a_ck 6, .inl (kA 2, 12, .inr (.inl ck.2.2.2.2.2.1))), (a_ck 7, .inl (kA 2, 12, .inr (.inl ck.2.2.2.2.2.2.1))), (a_ck 8, .inl (kA 2, 12, .inr (.inl ck.2.2.2.2.2.2.2.1))), (a_ck 9, .inl (kA 2, 12, .inr (.inl ck.2.2.2.2.2.2.2.2.1))), (a_ck 10, .inl (kA 3, 12, .inl ck.2.2.2.2.2.2.2.2.2.1)), (a_ck 11, .inl (kA 3, 12, .inl ck.2.2.2.2.2.2.2.2.2.2.1)), (a_o 1, .inl (kA 2, 1, .inr (.inl ot)))] (some (.int res.1)) [(a_ct 0, .inr (5, [.ref (a_tp 0), .ref (a_pn 0), .ref (a_rd 0), .ref (a_sh 0)])), (a_sh 0, .inr (3, [.ref (a_sh 1), .ref (a_sh 2), .ref (a_sh 3), .ref (a_sh 4), .ref (a_sh 5), .ref (a_sh 6), .ref (a_sh 7), .ref (a_ck 0), .int sh.2.2.2.2.2.2.2.1, .int sh.2.2.2.2.2.2.2.2])), (a_sh 1, .inl (kA 0, 40, .inl sh.1)), (a_sh 2, .inl (kA 0, 40, .inl sh.2.1)), (a_sh 3, .inl (kA 0, 80, .inl sh.2.2.1)), (a_sh 4, .inl (kA 0, 120, .inl sh.2.2.2.1)), (a_sh 5, .inl (kA 0, 120, .inl sh.2.2.2.2.1)), (a_sh 6, .inl (kA 2, 120, .inr (.inl sh.2.2.2.2.2.1))), (a_sh 7, .inl (kA 1, 1240, .inl sh.2.2.2.2.2.2.1)), (a_ck 0, .inr (0, [.ref (a_ck 1), .ref (a_ck 2), .ref (a_ck 3), .ref (a_ck 4), .ref (a_ck 5), .ref (a_ck 6), .ref (a_ck 7), .ref (a_ck 8), .ref (a_ck 9), .ref (a_ck 10), .ref (a_ck 11), .int ck.2.2.2.2.2.2.2.2.2.2.2])), (a_ck 1, .inl (kA 0, 12, .inl ck.1)), (a_ck 2, .inl (kA 0, 12, .inl ck.2.1)), (a_ck 3, .inl (kA 3, 12, .inl ck.2.2.1)), (a_ck 4, .inl (kA 0, 12, .inl ck.2.2.2.1)), (a_ck 5, .inl (kA 0, 12, .inl ck.2.2.2.2.1)), (a_ck 6, .inl (kA 2, 12, .inr (.inl ck.2.2.2.2.2.1))), (a_ck 7, .inl (kA 2, 12, .inr (.inl ck.2.2.2.2.2.2.1))), (a_ck 8, .inl (kA 2, 12, .inr (.inl ck.2.2.2.2.2.2.2.1))), (a_ck 9, .inl (kA 2, 12, .inr (.inl ck.2.2.2.2.2.2.2.2.1))), (a_ck 10, .inl (kA 3, 12, .inl ck.2.2.2.2.2.2.2.2.2.1)), (a_ck 11, .inl (kA 3, 12, .inl ck.2.2.2.2.2.2.2.2.2.2.1)), (a_o 1, .inl (kA 2, 1, .inr (.inl res.2)))] := by
  refine Lw.of (by decide) (Nat.le_of_ble_eq_true rfl) ?_
  intro p e s m args below meth c A hF hex hP hD hS hA hK ls hl
  obtain ⟨hx, hb, hml, hown, hr, hk, hts, hN⟩ := hF
  have hl : lv_has ls 6 [(0, .ref (a_ct 0)), (1, .int p1), (2, .int p2), (3, .int p3), (4, .ref (a_o 1))] := hl
  unfold fL_distance at h
  refine lv_aload hx hb dL_distance_0 (lv_at hl 4 rfl) ?_
  refine lv_iconst (v := 0) hx hb dL_distance_2 (by decide) ?_
  refine lv_aload_n hx hb dL_distance_3 rfl (lv_at hl 0 rfl) ?_
  refine lv_iload_n hx hb dL_distance_4 rfl (lv_at hl 1 rfl) ?_
  refine lv_iload_n hx hb dL_distance_5 rfl (lv_at hl 2 rfl) ?_
  refine lv_iload_n hx hb dL_distance_6 rfl (lv_at hl 3 rfl) ?_
  obtain ⟨u, hc, h⟩ := bnd_some h
  cases u with
  | none =>
    have h : some ((1 : Int32), ot) = some res := h
    obtain rfl := Option.some.inj h
    refine tx_V (wr := [(a_o 1, .inl (kA 2, 1, .inr (.inl ot)))]) (n := 3) (As := [.int p1, .int p2, .int p3]) (rest := [.int 0, .ref (a_o 1)]) hx hb hml hown hts hN hS hK hP hD hA (c5_distance l hl9 D kA a_ct a_sh a_ck a_tp a_pn a_rd F p1 p2 p3 sh ck none hc) [0, 1, 2, 3, 4, 5, 6, 7, 8, 9, 10, 11, 12, 13, 14, 15, 16, 17, 18, 19, 20] [21] rfl (by decide) rfl (by decide) (by decide) 0 5 rfl rfl rfl tw_726 tw_727 tw_728 tw_74 tw_729 rfl rfl (by decide) ⟨Nat.le_of_ble_eq_true rfl, Nat.le_of_ble_eq_true rfl⟩ rfl hl.1 rfl (Nat.le_of_ble_eq_true rfl) dL_distance_7 ⟨Nat.le_of_ble_eq_true rfl, Nat.le_of_ble_eq_true rfl⟩ ?_ ?_
    · intro hres ce q9 H locs hP hD hS hcell hv hcl
      refine vx_catch (own := "ConstraintTextLaw") (name := ioob) (E := ioob) hown [] ⟨0, 11, 14, 13⟩ [] hex (fun z hz => by cases hz) (by decide) (by decide) (hts _ tw_607) (va_Nw.use rfl (hN.1 _ nw_615)) hcell hv hcl ?_
      refine lv_astore (lv' := [(5, .ref q9), (0, .ref (a_ct 0)), (1, .int p1), (2, .int p2), (3, .int p3), (4, .ref (a_o 1))]) hx hb dL_distance_14 hl (by decide) rfl (fun ls hl => ?_)
      refine lv_iconst (v := 1) hx hb dL_distance_16 (by decide) ?_
      exact lw_ireturn hx hb hr hk dL_distance_17 (hP.sub [1, 2, 3, 4, 5, 6, 7, 8, 9, 10, 11, 12, 13, 14, 15, 16, 17, 18, 19, 20, 21, 0] rfl) (hD.sub [1, 2, 3, 4, 5, 6, 7, 8, 9, 10, 11, 12, 13, 14, 15, 16, 17, 18, 19, 20, 21, 0] (by decide) rfl) hS
    · intro r w1 hres; cases hres
  | some r =>
    refine tx_V (wr := [(a_o 1, .inl (kA 2, 1, .inr (.inl ot)))]) (n := 3) (As := [.int p1, .int p2, .int p3]) (rest := [.int 0, .ref (a_o 1)]) hx hb hml hown hts hN hS hK hP hD hA (c5_distance l hl9 D kA a_ct a_sh a_ck a_tp a_pn a_rd F p1 p2 p3 sh ck (some r) hc) [0, 1, 2, 3, 4, 5, 6, 7, 8, 9, 10, 11, 12, 13, 14, 15, 16, 17, 18, 19, 20] [21] rfl (by decide) rfl (by decide) (by decide) 0 5 rfl rfl rfl tw_726 tw_727 tw_728 tw_74 tw_729 rfl rfl (by decide) ⟨Nat.le_of_ble_eq_true rfl, Nat.le_of_ble_eq_true rfl⟩ rfl hl.1 rfl (Nat.le_of_ble_eq_true rfl) dL_distance_7 ⟨Nat.le_of_ble_eq_true rfl, Nat.le_of_ble_eq_true rfl⟩ ?_ ?_
    · intro hres; cases hres
    · intro r9 w9 hres H locs hP hD hS
      obtain ⟨rfl, rfl⟩ := Prod.mk.inj (Option.some.inj hres)
      have hP : va_P D vwCl [(a_o 1, .inl (kA 2, 1, .inr (.inl ot))), (a_ct 0, .inr (5, [.ref (a_tp 0), .ref (a_pn 0), .ref (a_rd 0), .ref (a_sh 0)])), (a_sh 0, .inr (3, [.ref (a_sh 1), .ref (a_sh 2), .ref (a_sh 3), .ref (a_sh 4), .ref (a_sh 5), .ref (a_sh 6), .ref (a_sh 7), .ref (a_ck 0), .int sh.2.2.2.2.2.2.2.1, .int sh.2.2.2.2.2.2.2.2])), (a_sh 1, .inl (kA 0, 40, .inl sh.1)), (a_sh 2, .inl (kA 0, 40, .inl sh.2.1)), (a_sh 3, .inl (kA 0, 80, .inl sh.2.2.1)), (a_sh 4, .inl (kA 0, 120, .inl sh.2.2.2.1)), (a_sh 5, .inl (kA 0, 120, .inl sh.2.2.2.2.1)), (a_sh 6, .inl (kA 2, 120, .inr (.inl sh.2.2.2.2.2.1))), (a_sh 7, .inl (kA 1, 1240, .inl sh.2.2.2.2.2.2.1)), (a_ck 0, .inr (0, [.ref (a_ck 1), .ref (a_ck 2), .ref (a_ck 3), .ref (a_ck 4), .ref (a_ck 5), .ref (a_ck 6), .ref (a_ck 7), .ref (a_ck 8), .ref (a_ck 9), .ref (a_ck 10), .ref (a_ck 11), .int ck.2.2.2.2.2.2.2.2.2.2.2])), (a_ck 1, .inl (kA 0, 12, .inl ck.1)), (a_ck 2, .inl (kA 0, 12, .inl ck.2.1)), (a_ck 3, .inl (kA 3, 12, .inl ck.2.2.1)), (a_ck 4, .inl (kA 0, 12, .inl ck.2.2.2.1)), (a_ck 5, .inl (kA 0, 12, .inl ck.2.2.2.2.1)), (a_ck 6, .inl (kA 2, 12, .inr (.inl ck.2.2.2.2.2.1))), (a_ck 7, .inl (kA 2, 12, .inr (.inl ck.2.2.2.2.2.2.1))), (a_ck 8, .inl (kA 2, 12, .inr (.inl ck.2.2.2.2.2.2.2.1))), (a_ck 9, .inl (kA 2, 12, .inr (.inl ck.2.2.2.2.2.2.2.2.1))), (a_ck 10, .inl (kA 3, 12, .inl ck.2.2.2.2.2.2.2.2.2.1)), (a_ck 11, .inl (kA 3, 12, .inl ck.2.2.2.2.2.2.2.2.2.2.1))] H := hP
      have hD : va_D A [(a_o 1, .inl (kA 2, 1, .inr (.inl ot))), (a_ct 0, .inr (5, [.ref (a_tp 0), .ref (a_pn 0), .ref (a_rd 0), .ref (a_sh 0)])), (a_sh 0, .inr (3, [.ref (a_sh 1), .ref (a_sh 2), .ref (a_sh 3), .ref (a_sh 4), .ref (a_sh 5), .ref (a_sh 6), .ref (a_sh 7), .ref (a_ck 0), .int sh.2.2.2.2.2.2.2.1, .int sh.2.2.2.2.2.2.2.2])), (a_sh 1, .inl (kA 0, 40, .inl sh.1)), (a_sh 2, .inl (kA 0, 40, .inl sh.2.1)), (a_sh 3, .inl (kA 0, 80, .inl sh.2.2.1)), (a_sh 4, .inl (kA 0, 120, .inl sh.2.2.2.1)), (a_sh 5, .inl (kA 0, 120, .inl sh.2.2.2.2.1)), (a_sh 6, .inl (kA 2, 120, .inr (.inl sh.2.2.2.2.2.1))), (a_sh 7, .inl (kA 1, 1240, .inl sh.2.2.2.2.2.2.1)), (a_ck 0, .inr (0, [.ref (a_ck 1), .ref (a_ck 2), .ref (a_ck 3), .ref (a_ck 4), .ref (a_ck 5), .ref (a_ck 6), .ref (a_ck 7), .ref (a_ck 8), .ref (a_ck 9), .ref (a_ck 10), .ref (a_ck 11), .int ck.2.2.2.2.2.2.2.2.2.2.2])), (a_ck 1, .inl (kA 0, 12, .inl ck.1)), (a_ck 2, .inl (kA 0, 12, .inl ck.2.1)), (a_ck 3, .inl (kA 3, 12, .inl ck.2.2.1)), (a_ck 4, .inl (kA 0, 12, .inl ck.2.2.2.1)), (a_ck 5, .inl (kA 0, 12, .inl ck.2.2.2.2.1)), (a_ck 6, .inl (kA 2, 12, .inr (.inl ck.2.2.2.2.2.1))), (a_ck 7, .inl (kA 2, 12, .inr (.inl ck.2.2.2.2.2.2.1))), (a_ck 8, .inl (kA 2, 12, .inr (.inl ck.2.2.2.2.2.2.2.1))), (a_ck 9, .inl (kA 2, 12, .inr (.inl ck.2.2.2.2.2.2.2.2.1))), (a_ck 10, .inl (kA 3, 12, .inl ck.2.2.2.2.2.2.2.2.2.1)), (a_ck 11, .inl (kA 3, 12, .inl ck.2.2.2.2.2.2.2.2.2.2.1))] := hD
      have h : some ((0 : Int32), (vp_updL ot 0 r)) = some res := h
      refine va_last hx hb hK hP hD hS 0 2 rfl rfl (inb_in (by decide)) dL_distance_10 (fun H locs hP hD hS => ?_)
      refine lv_goto (tgt := 18) hx hb dL_distance_11 (by decide) ?_
      obtain rfl := Option.some.inj h
      refine lv_iconst (v := 0) hx hb dL_distance_18 (by decide) ?_
      exact lw_ireturn hx hb hr hk dL_distance_19 (hP.sub [1, 2, 3, 4, 5, 6, 7, 8, 9, 10, 11, 12, 13, 14, 15, 16, 17, 18, 19, 20, 21, 0] rfl) (hD.sub [1, 2, 3, 4, 5, 6, 7, 8, 9, 10, 11, 12, 13, 14, 15, 16, 17, 18, 19, 20, 21, 0] (by decide) rfl) hS

abbrev rmL_exception : Room := { frames := 7, cells := 1, slots := 6, locals := 144 }
set_option maxHeartbeats 4000000 in
set_option maxRecDepth 100000 in
theorem cL_exception_c (l : Launch) (hl9 : l.stackTraces = false) (D : va_G) (kA : Nat → ClassId) (a_ct : Nat → Nat) (a_sh : Nat → Nat) (a_tp : Nat → Nat) (a_pn : Nat → Nat) (a_rd : Nat → Nat) (a_ck : Nat → Nat) (a_o : Nat → Nat) (F : Nat) (p1 : Int32) (p2 : Int32) (p3 : Int32) (sh : T3) (ot : T50) (res : Int32 × T50) (h : fL_exception F p1 p2 p3 sh ot = some res) : Lw l yL_exception cL_exception 6 (some .int) [(0, 12, 15, 13)] rmL_exception D kA [.ref (a_ct 0), .int p1, .int p2, .int p3, .ref (a_o 1)] [(a_ct 0, .inr (5, [.ref (a_tp 0), .ref (a_pn 0), .ref (a_rd 0), .ref (a_sh 0)])), (a_sh 0, .inr (3, [.ref (a_sh 1), .ref (a_sh 2), .ref (a_sh 3), .ref (a_sh 4), .ref (a_sh 5), .ref (a_sh 6), .ref (a_sh 7), .ref (a_ck 0), .int sh.2.2.2.2.2.2.2.1, .int sh.2.2.2.2.2.2.2.2])), (a_sh 1, .inl (kA 0, 40, .inl sh.1)), (a_sh 2, .inl (kA 0, 40, .inl sh.2.1)), (a_sh 3, .inl (kA 0, 80, .inl sh.2.2.1)), (a_sh 4, .inl (kA 0, 120, .inl sh.2.2.2.1)), (a_sh 5, .inl (kA 0, 120, .inl sh.2.2.2.2.1)), (a_sh 6, .inl (kA 2, 120, .inr (.inl sh.2.2.2.2.2.1))), (a_sh 7, .inl (kA 1, 1240, .inl sh.2.2.2.2.2.2.1)), (a_o 1, .inl (kA 2, 1, .inr (.inl ot)))] (some (.int res.1)) [(a_ct 0, .inr (5, [.ref (a_tp 0), .ref (a_pn 0), .ref (a_rd 0), .ref (a_sh 0)])), (a_sh 0, .inr (3, [.ref (a_sh 1), .ref (a_sh 2), .ref (a_sh 3), .ref (a_sh 4), .ref (a_sh 5), .ref (a_sh 6), .ref (a_sh 7), .ref (a_ck 0), .int sh.2.2.2.2.2.2.2.1, .int sh.2.2.2.2.2.2.2.2])), (a_sh 1, .inl (kA 0, 40, .inl sh.1)), (a_sh 2, .inl (kA 0, 40, .inl sh.2.1)), (a_sh 3, .inl (kA 0, 80, .inl sh.2.2.1)), (a_sh 4, .inl (kA 0, 120, .inl sh.2.2.2.1)), (a_sh 5, .inl (kA 0, 120, .inl sh.2.2.2.2.1)), (a_sh 6, .inl (kA 2, 120, .inr (.inl sh.2.2.2.2.2.1))), (a_sh 7, .inl (kA 1, 1240, .inl sh.2.2.2.2.2.2.1)), (a_o 1, .inl (kA 2, 1, .inr (.inl res.2)))] := by
  refine Lw.of (by decide) (Nat.le_of_ble_eq_true rfl) ?_
  intro p e s m args below meth c A hF hex hP hD hS hA hK ls hl
  obtain ⟨hx, hb, hml, hown, hr, hk, hts, hN⟩ := hF
  have hl : lv_has ls 6 [(0, .ref (a_ct 0)), (1, .int p1), (2, .int p2), (3, .int p3), (4, .ref (a_o 1))] := hl
  unfold fL_exception at h
  refine lv_aload hx hb dL_exception_0 (lv_at hl 4 rfl) ?_
  refine lv_iconst (v := 0) hx hb dL_exception_2 (by decide) ?_
  refine lv_aload_n hx hb dL_exception_3 rfl (lv_at hl 0 rfl) ?_
  refine lv_iload_n hx hb dL_exception_4 rfl (lv_at hl 1 rfl) ?_
  refine lv_iload_n hx hb dL_exception_5 rfl (lv_at hl 2 rfl) ?_
  refine lv_iload_n hx hb dL_exception_6 rfl (lv_at hl 3 rfl) ?_
  obtain ⟨u, hc, h⟩ := bnd_some h
  cases u with
  | none =>
    have h : some ((1 : Int32), ot) = some res := h
    obtain rfl := Option.some.inj h
    refine tx_V (wr := [(a_o 1, .inl (kA 2, 1, .inr (.inl ot)))]) (n := 3) (As := [.int p1, .int p2, .int p3]) (rest := [.int 0, .ref (a_o 1)]) hx hb hml hown hts hN hS hK hP hD hA (c5_exception l hl9 D kA a_ct a_sh a_tp a_pn a_rd a_ck F p1 p2 p3 sh none hc) [0, 1, 2, 3, 4, 5, 6, 7, 8] [9] rfl (by decide) rfl (by decide) (by decide) 0 5 rfl rfl rfl tw_746 tw_747 tw_748 tw_74 tw_749 rfl rfl (by decide) ⟨Nat.le_of_ble_eq_true rfl, Nat.le_of_ble_eq_true rfl⟩ rfl hl.1 rfl (Nat.le_of_ble_eq_true rfl) dL_exception_7 ⟨Nat.le_of_ble_eq_true rfl, Nat.le_of_ble_eq_true rfl⟩ ?_ ?_
    · intro hres ce q9 H locs hP hD hS hcell hv hcl
      refine vx_catch (own := "ConstraintTextLaw") (name := ioob) (E := ioob) hown [] ⟨0, 12, 15, 13⟩ [] hex (fun z hz => by cases hz) (by decide) (by decide) (hts _ tw_607) (va_Nw.use rfl (hN.1 _ nw_615)) hcell hv hcl ?_
      refine lv_astore (lv' := [(5, .ref q9), (0, .ref (a_ct 0)), (1, .int p1), (2, .int p2), (3, .int p3), (4, .ref (a_o 1))]) hx hb dL_exception_15 hl (by decide) rfl (fun ls hl => ?_)
      refine lv_iconst (v := 1) hx hb dL_exception_17 (by decide) ?_
      exact lw_ireturn hx hb hr hk dL_exception_18 (hP.sub [1, 2, 3, 4, 5, 6, 7, 8, 9, 0] rfl) (hD.sub [1, 2, 3, 4, 5, 6, 7, 8, 9, 0] (by decide) rfl) hS
    · intro r w1 hres; cases hres
  | some r =>
    refine tx_V (wr := [(a_o 1, .inl (kA 2, 1, .inr (.inl ot)))]) (n := 3) (As := [.int p1, .int p2, .int p3]) (rest := [.int 0, .ref (a_o 1)]) hx hb hml hown hts hN hS hK hP hD hA (c5_exception l hl9 D kA a_ct a_sh a_tp a_pn a_rd a_ck F p1 p2 p3 sh (some r) hc) [0, 1, 2, 3, 4, 5, 6, 7, 8] [9] rfl (by decide) rfl (by decide) (by decide) 0 5 rfl rfl rfl tw_746 tw_747 tw_748 tw_74 tw_749 rfl rfl (by decide) ⟨Nat.le_of_ble_eq_true rfl, Nat.le_of_ble_eq_true rfl⟩ rfl hl.1 rfl (Nat.le_of_ble_eq_true rfl) dL_exception_7 ⟨Nat.le_of_ble_eq_true rfl, Nat.le_of_ble_eq_true rfl⟩ ?_ ?_
    · intro hres; cases hres
    · intro r9 w9 hres H locs hP hD hS
      obtain ⟨rfl, rfl⟩ := Prod.mk.inj (Option.some.inj hres)
      have hP : va_P D vwCl [(a_o 1, .inl (kA 2, 1, .inr (.inl ot))), (a_ct 0, .inr (5, [.ref (a_tp 0), .ref (a_pn 0), .ref (a_rd 0), .ref (a_sh 0)])), (a_sh 0, .inr (3, [.ref (a_sh 1), .ref (a_sh 2), .ref (a_sh 3), .ref (a_sh 4), .ref (a_sh 5), .ref (a_sh 6), .ref (a_sh 7), .ref (a_ck 0), .int sh.2.2.2.2.2.2.2.1, .int sh.2.2.2.2.2.2.2.2])), (a_sh 1, .inl (kA 0, 40, .inl sh.1)), (a_sh 2, .inl (kA 0, 40, .inl sh.2.1)), (a_sh 3, .inl (kA 0, 80, .inl sh.2.2.1)), (a_sh 4, .inl (kA 0, 120, .inl sh.2.2.2.1)), (a_sh 5, .inl (kA 0, 120, .inl sh.2.2.2.2.1)), (a_sh 6, .inl (kA 2, 120, .inr (.inl sh.2.2.2.2.2.1))), (a_sh 7, .inl (kA 1, 1240, .inl sh.2.2.2.2.2.2.1))] H := hP
      have hD : va_D A [(a_o 1, .inl (kA 2, 1, .inr (.inl ot))), (a_ct 0, .inr (5, [.ref (a_tp 0), .ref (a_pn 0), .ref (a_rd 0), .ref (a_sh 0)])), (a_sh 0, .inr (3, [.ref (a_sh 1), .ref (a_sh 2), .ref (a_sh 3), .ref (a_sh 4), .ref (a_sh 5), .ref (a_sh 6), .ref (a_sh 7), .ref (a_ck 0), .int sh.2.2.2.2.2.2.2.1, .int sh.2.2.2.2.2.2.2.2])), (a_sh 1, .inl (kA 0, 40, .inl sh.1)), (a_sh 2, .inl (kA 0, 40, .inl sh.2.1)), (a_sh 3, .inl (kA 0, 80, .inl sh.2.2.1)), (a_sh 4, .inl (kA 0, 120, .inl sh.2.2.2.1)), (a_sh 5, .inl (kA 0, 120, .inl sh.2.2.2.2.1)), (a_sh 6, .inl (kA 2, 120, .inr (.inl sh.2.2.2.2.2.1))), (a_sh 7, .inl (kA 1, 1240, .inl sh.2.2.2.2.2.2.1))] := hD
      refine lv_i2l (v := r.toInt64) hx hb dL_exception_10 rfl ?_
      have h : some ((0 : Int32), (vp_updL ot 0 r.toInt64)) = some res := h
      refine va_last hx hb hK hP hD hS 0 2 rfl rfl (inb_in (by decide)) dL_exception_11 (fun H locs hP hD hS => ?_)
      refine lv_goto (tgt := 19) hx hb dL_exception_12 (by decide) ?_
      obtain rfl := Option.some.inj h
      refine lv_iconst (v := 0) hx hb dL_exception_19 (by decide) ?_
      exact lw_ireturn hx hb hr hk dL_exception_20 (hP.sub [1, 2, 3, 4, 5, 6, 7, 8, 9, 0] rfl) (hD.sub [1, 2, 3, 4, 5, 6, 7, 8, 9, 0] (by decide) rfl) hS

abbrev rmL_row : Room := { frames := 7, cells := 1, slots := 6, locals := 104 }
set_option maxHeartbeats 4000000 in
set_option maxRecDepth 100000 in
theorem cL_row_c (l : Launch) (hl9 : l.stackTraces = false) (D : va_G) (kA : Nat → ClassId) (a_ct : Nat → Nat) (a_sh : Nat → Nat) (a_tp : Nat → Nat) (a_pn : Nat → Nat) (a_rd : Nat → Nat) (a_ck : Nat → Nat) (a_o : Nat → Nat) (p1 : Int32) (p2 : Int32) (sh : T3) (ot : T50) (res : Int32 × T50) (h : fL_row p1 p2 sh ot = some res) : Lw l yL_row cL_row 5 (some .int) [(0, 10, 13, 13)] rmL_row D kA [.ref (a_ct 0), .int p1, .int p2, .ref (a_o 1)] [(a_ct 0, .inr (5, [.ref (a_tp 0), .ref (a_pn 0), .ref (a_rd 0), .ref (a_sh 0)])), (a_sh 0, .inr (3, [.ref (a_sh 1), .ref (a_sh 2), .ref (a_sh 3), .ref (a_sh 4), .ref (a_sh 5), .ref (a_sh 6), .ref (a_sh 7), .ref (a_ck 0), .int sh.2.2.2.2.2.2.2.1, .int sh.2.2.2.2.2.2.2.2])), (a_sh 1, .inl (kA 0, 40, .inl sh.1)), (a_sh 2, .inl (kA 0, 40, .inl sh.2.1)), (a_sh 3, .inl (kA 0, 80, .inl sh.2.2.1)), (a_sh 4, .inl (kA 0, 120, .inl sh.2.2.2.1)), (a_sh 5, .inl (kA 0, 120, .inl sh.2.2.2.2.1)), (a_sh 6, .inl (kA 2, 120, .inr (.inl sh.2.2.2.2.2.1))), (a_sh 7, .inl (kA 1, 1240, .inl sh.2.2.2.2.2.2.1)), (a_o 1, .inl (kA 2, 1, .inr (.inl ot)))] (some (.int res.1)) [(a_ct 0, .inr (5, [.ref (a_tp 0), .ref (a_pn 0), .ref (a_rd 0), .ref (a_sh 0)])), (a_sh 0, .inr (3, [.ref (a_sh 1), .ref (a_sh 2), .ref (a_sh 3), .ref (a_sh 4), .ref (a_sh 5), .ref (a_sh 6), .ref (a_sh 7), .ref (a_ck 0), .int sh.2.2.2.2.2.2.2.1, .int sh.2.2.2.2.2.2.2.2])), (a_sh 1, .inl (kA 0, 40, .inl sh.1)), (a_sh 2, .inl (kA 0, 40, .inl sh.2.1)), (a_sh 3, .inl (kA 0, 80, .inl sh.2.2.1)), (a_sh 4, .inl (kA 0, 120, .inl sh.2.2.2.1)), (a_sh 5, .inl (kA 0, 120, .inl sh.2.2.2.2.1)), (a_sh 6, .inl (kA 2, 120, .inr (.inl sh.2.2.2.2.2.1))), (a_sh 7, .inl (kA 1, 1240, .inl sh.2.2.2.2.2.2.1)), (a_o 1, .inl (kA 2, 1, .inr (.inl res.2)))] := by
  refine Lw.of (by decide) (Nat.le_of_ble_eq_true rfl) ?_
  intro p e s m args below meth c A hF hex hP hD hS hA hK ls hl
  obtain ⟨hx, hb, hml, hown, hr, hk, hts, hN⟩ := hF
  have hl : lv_has ls 5 [(0, .ref (a_ct 0)), (1, .int p1), (2, .int p2), (3, .ref (a_o 1))] := hl
  unfold fL_row at h
  refine lv_aload_n hx hb dL_row_0 rfl (lv_at hl 3 rfl) ?_
  refine lv_iconst (v := 0) hx hb dL_row_1 (by decide) ?_
  refine lv_aload_n hx hb dL_row_2 rfl (lv_at hl 0 rfl) ?_
  refine lv_iload_n hx hb dL_row_3 rfl (lv_at hl 1 rfl) ?_
  refine lv_iload_n hx hb dL_row_4 rfl (lv_at hl 2 rfl) ?_
  obtain ⟨u, hc, h⟩ := bnd_some h
  cases u with
  | none =>
    have h : some ((1 : Int32), ot) = some res := h
    obtain rfl := Option.some.inj h
    refine tx_V (wr := [(a_o 1, .inl (kA 2, 1, .inr (.inl ot)))]) (n := 2) (As := [.int p1, .int p2]) (rest := [.int 0, .ref (a_o 1)]) hx hb hml hown hts hN hS hK hP hD hA (c5_row l hl9 D kA a_ct a_sh a_tp a_pn a_rd a_ck p1 p2 sh none hc) [0, 1, 2, 3, 4, 5, 6, 7, 8] [9] rfl (by decide) rfl (by decide) (by decide) 0 5 rfl rfl rfl tw_776 tw_777 tw_778 tw_74 tw_779 rfl rfl (by decide) ⟨Nat.le_of_ble_eq_true rfl, Nat.le_of_ble_eq_true rfl⟩ rfl hl.1 rfl (Nat.le_of_ble_eq_true rfl) dL_row_5 ⟨Nat.le_of_ble_eq_true rfl, Nat.le_of_ble_eq_true rfl⟩ ?_ ?_
    · intro hres ce q9 H locs hP hD hS hcell hv hcl
      refine vx_catch (own := "ConstraintTextLaw") (name := ioob) (E := ioob) hown [] ⟨0, 10, 13, 13⟩ [] hex (fun z hz => by cases hz) (by decide) (by decide) (hts _ tw_607) (va_Nw.use rfl (hN.1 _ nw_615)) hcell hv hcl ?_
      refine lv_astore (lv' := [(4, .ref q9), (0, .ref (a_ct 0)), (1, .int p1), (2, .int p2), (3, .ref (a_o 1))]) hx hb dL_row_13 hl (by decide) rfl (fun ls hl => ?_)
      refine lv_iconst (v := 1) hx hb dL_row_15 (by decide) ?_
      exact lw_ireturn hx hb hr hk dL_row_16 (hP.sub [1, 2, 3, 4, 5, 6, 7, 8, 9, 0] rfl) (hD.sub [1, 2, 3, 4, 5, 6, 7, 8, 9, 0] (by decide) rfl) hS
    · intro r w1 hres; cases hres
  | some r =>
    refine tx_V (wr := [(a_o 1, .inl (kA 2, 1, .inr (.inl ot)))]) (n := 2) (As := [.int p1, .int p2]) (rest := [.int 0, .ref (a_o 1)]) hx hb hml hown hts hN hS hK hP hD hA (c5_row l hl9 D kA a_ct a_sh a_tp a_pn a_rd a_ck p1 p2 sh (some r) hc) [0, 1, 2, 3, 4, 5, 6, 7, 8] [9] rfl (by decide) rfl (by decide) (by decide) 0 5 rfl rfl rfl tw_776 tw_777 tw_778 tw_74 tw_779 rfl rfl (by decide) ⟨Nat.le_of_ble_eq_true rfl, Nat.le_of_ble_eq_true rfl⟩ rfl hl.1 rfl (Nat.le_of_ble_eq_true rfl) dL_row_5 ⟨Nat.le_of_ble_eq_true rfl, Nat.le_of_ble_eq_true rfl⟩ ?_ ?_
    · intro hres; cases hres
    · intro r9 w9 hres H locs hP hD hS
      obtain ⟨rfl, rfl⟩ := Prod.mk.inj (Option.some.inj hres)
      have hP : va_P D vwCl [(a_o 1, .inl (kA 2, 1, .inr (.inl ot))), (a_ct 0, .inr (5, [.ref (a_tp 0), .ref (a_pn 0), .ref (a_rd 0), .ref (a_sh 0)])), (a_sh 0, .inr (3, [.ref (a_sh 1), .ref (a_sh 2), .ref (a_sh 3), .ref (a_sh 4), .ref (a_sh 5), .ref (a_sh 6), .ref (a_sh 7), .ref (a_ck 0), .int sh.2.2.2.2.2.2.2.1, .int sh.2.2.2.2.2.2.2.2])), (a_sh 1, .inl (kA 0, 40, .inl sh.1)), (a_sh 2, .inl (kA 0, 40, .inl sh.2.1)), (a_sh 3, .inl (kA 0, 80, .inl sh.2.2.1)), (a_sh 4, .inl (kA 0, 120, .inl sh.2.2.2.1)), (a_sh 5, .inl (kA 0, 120, .inl sh.2.2.2.2.1)), (a_sh 6, .inl (kA 2, 120, .inr (.inl sh.2.2.2.2.2.1))), (a_sh 7, .inl (kA 1, 1240, .inl sh.2.2.2.2.2.2.1))] H := hP
      have hD : va_D A [(a_o 1, .inl (kA 2, 1, .inr (.inl ot))), (a_ct 0, .inr (5, [.ref (a_tp 0), .ref (a_pn 0), .ref (a_rd 0), .ref (a_sh 0)])), (a_sh 0, .inr (3, [.ref (a_sh 1), .ref (a_sh 2), .ref (a_sh 3), .ref (a_sh 4), .ref (a_sh 5), .ref (a_sh 6), .ref (a_sh 7), .ref (a_ck 0), .int sh.2.2.2.2.2.2.2.1, .int sh.2.2.2.2.2.2.2.2])), (a_sh 1, .inl (kA 0, 40, .inl sh.1)), (a_sh 2, .inl (kA 0, 40, .inl sh.2.1)), (a_sh 3, .inl (kA 0, 80, .inl sh.2.2.1)), (a_sh 4, .inl (kA 0, 120, .inl sh.2.2.2.1)), (a_sh 5, .inl (kA 0, 120, .inl sh.2.2.2.2.1)), (a_sh 6, .inl (kA 2, 120, .inr (.inl sh.2.2.2.2.2.1))), (a_sh 7, .inl (kA 1, 1240, .inl sh.2.2.2.2.2.2.1))] := hD
      refine lv_i2l (v := r.toInt64) hx hb dL_row_8 rfl ?_
      have h : some ((0 : Int32), (vp_updL ot 0 r.toInt64)) = some res := h
      refine va_last hx hb hK hP hD hS 0 2 rfl rfl (inb_in (by decide)) dL_row_9 (fun H locs hP hD hS => ?_)
      refine lv_goto (tgt := 17) hx hb dL_row_10 (by decide) ?_
      obtain rfl := Option.some.inj h
      refine lv_iconst (v := 0) hx hb dL_row_17 (by decide) ?_
      exact lw_ireturn hx hb hr hk dL_row_18 (hP.sub [1, 2, 3, 4, 5, 6, 7, 8, 9, 0] rfl) (hD.sub [1, 2, 3, 4, 5, 6, 7, 8, 9, 0] (by decide) rfl) hS

abbrev rmL_load : Room := { frames := 7, cells := 1, slots := 6, locals := 114 }
set_option maxHeartbeats 4000000 in
set_option maxRecDepth 100000 in
theorem cL_load_c (l : Launch) (hl9 : l.stackTraces = false) (D : va_G) (kA : Nat → ClassId) (a_ct : Nat → Nat) (a_sh : Nat → Nat) (a_tp : Nat → Nat) (a_pn : Nat → Nat) (a_rd : Nat → Nat) (a_ck : Nat → Nat) (a_o : Nat → Nat) (F : Nat) (p1 : Int32) (p2 : Int32) (sh : T3) (ot : T50) (res : Int32 × T50) (h : fL_load F p1 p2 sh ot = some res) : Lw l yL_load cL_load 5 (some .int) [(0, 10, 13, 13)] rmL_load D kA [.ref (a_ct 0), .int p1, .int p2, .ref (a_o 1)] [(a_ct 0, .inr (5, [.ref (a_tp 0), .ref (a_pn 0), .ref (a_rd 0), .ref (a_sh 0)])), (a_sh 0, .inr (3, [.ref (a_sh 1), .ref (a_sh 2), .ref (a_sh 3), .ref (a_sh 4), .ref (a_sh 5), .ref (a_sh 6), .ref (a_sh 7), .ref (a_ck 0), .int sh.2.2.2.2.2.2.2.1, .int sh.2.2.2.2.2.2.2.2])), (a_sh 1, .inl (kA 0, 40, .inl sh.1)), (a_sh 2, .inl (kA 0, 40, .inl sh.2.1)), (a_sh 3, .inl (kA 0, 80, .inl sh.2.2.1)), (a_sh 4, .inl (kA 0, 120, .inl sh.2.2.2.1)), (a_sh 5, .inl (kA 0, 120, .inl sh.2.2.2.2.1)), (a_sh 6, .inl (kA 2, 120, .inr (.inl sh.2.2.2.2.2.1))), (a_sh 7, .inl (kA 1, 1240, .inl sh.2.2.2.2.2.2.1)), (a_o 1, .inl (kA 2, 1, .inr (.inl ot)))] (some (.int res.1)) [(a_ct 0, .inr (5, [.ref (a_tp 0), .ref (a_pn 0), .ref (a_rd 0), .ref (a_sh 0)])), (a_sh 0, .inr (3, [.ref (a_sh 1), .ref (a_sh 2), .ref (a_sh 3), .ref (a_sh 4), .ref (a_sh 5), .ref (a_sh 6), .ref (a_sh 7), .ref (a_ck 0), .int sh.2.2.2.2.2.2.2.1, .int sh.2.2.2.2.2.2.2.2])), (a_sh 1, .inl (kA 0, 40, .inl sh.1)), (a_sh 2, .inl (kA 0, 40, .inl sh.2.1)), (a_sh 3, .inl (kA 0, 80, .inl sh.2.2.1)), (a_sh 4, .inl (kA 0, 120, .inl sh.2.2.2.1)), (a_sh 5, .inl (kA 0, 120, .inl sh.2.2.2.2.1)), (a_sh 6, .inl (kA 2, 120, .inr (.inl sh.2.2.2.2.2.1))), (a_sh 7, .inl (kA 1, 1240, .inl sh.2.2.2.2.2.2.1)), (a_o 1, .inl (kA 2, 1, .inr (.inl res.2)))] := by
  refine Lw.of (by decide) (Nat.le_of_ble_eq_true rfl) ?_
  intro p e s m args below meth c A hF hex hP hD hS hA hK ls hl
  obtain ⟨hx, hb, hml, hown, hr, hk, hts, hN⟩ := hF
  have hl : lv_has ls 5 [(0, .ref (a_ct 0)), (1, .int p1), (2, .int p2), (3, .ref (a_o 1))] := hl
  unfold fL_load at h
  refine lv_aload_n hx hb dL_load_0 rfl (lv_at hl 3 rfl) ?_
  refine lv_iconst (v := 0) hx hb dL_load_1 (by decide) ?_
  refine lv_aload_n hx hb dL_load_2 rfl (lv_at hl 0 rfl) ?_
  refine lv_iload_n hx hb dL_load_3 rfl (lv_at hl 1 rfl) ?_
  refine lv_iload_n hx hb dL_load_4 rfl (lv_at hl 2 rfl) ?_
  obtain ⟨u, hc, h⟩ := bnd_some h
  cases u with
  | none =>
    have h : some ((1 : Int32), ot) = some res := h
    obtain rfl := Option.some.inj h
    refine tx_V (wr := [(a_o 1, .inl (kA 2, 1, .inr (.inl ot)))]) (n := 2) (As := [.int p1, .int p2]) (rest := [.int 0, .ref (a_o 1)]) hx hb hml hown hts hN hS hK hP hD hA (c5_load l hl9 D kA a_ct a_sh a_tp a_pn a_rd a_ck F p1 p2 sh none hc) [0, 1, 2, 3, 4, 5, 6, 7, 8] [9] rfl (by decide) rfl (by decide) (by decide) 0 5 rfl rfl rfl tw_784 tw_785 tw_786 tw_74 tw_787 rfl rfl (by decide) ⟨Nat.le_of_ble_eq_true rfl, Nat.le_of_ble_eq_true rfl⟩ rfl hl.1 rfl (Nat.le_of_ble_eq_true rfl) dL_load_5 ⟨Nat.le_of_ble_eq_true rfl, Nat.le_of_ble_eq_true rfl⟩ ?_ ?_
    · intro hres ce q9 H locs hP hD hS hcell hv hcl
      refine vx_catch (own := "ConstraintTextLaw") (name := ioob) (E := ioob) hown [] ⟨0, 10, 13, 13⟩ [] hex (fun z hz => by cases hz) (by decide) (by decide) (hts _ tw_607) (va_Nw.use rfl (hN.1 _ nw_615)) hcell hv hcl ?_
      refine lv_astore (lv' := [(4, .ref q9), (0, .ref (a_ct 0)), (1, .int p1), (2, .int p2), (3, .ref (a_o 1))]) hx hb dL_load_13 hl (by decide) rfl (fun ls hl => ?_)
      refine lv_iconst (v := 1) hx hb dL_load_15 (by decide) ?_
      exact lw_ireturn hx hb hr hk dL_load_16 (hP.sub [1, 2, 3, 4, 5, 6, 7, 8, 9, 0] rfl) (hD.sub [1, 2, 3, 4, 5, 6, 7, 8, 9, 0] (by decide) rfl) hS
    · intro r w1 hres; cases hres
  | some r =>
    refine tx_V (wr := [(a_o 1, .inl (kA 2, 1, .inr (.inl ot)))]) (n := 2) (As := [.int p1, .int p2]) (rest := [.int 0, .ref (a_o 1)]) hx hb hml hown hts hN hS hK hP hD hA (c5_load l hl9 D kA a_ct a_sh a_tp a_pn a_rd a_ck F p1 p2 sh (some r) hc) [0, 1, 2, 3, 4, 5, 6, 7, 8] [9] rfl (by decide) rfl (by decide) (by decide) 0 5 rfl rfl rfl tw_784 tw_785 tw_786 tw_74 tw_787 rfl rfl (by decide) ⟨Nat.le_of_ble_eq_true rfl, Nat.le_of_ble_eq_true rfl⟩ rfl hl.1 rfl (Nat.le_of_ble_eq_true rfl) dL_load_5 ⟨Nat.le_of_ble_eq_true rfl, Nat.le_of_ble_eq_true rfl⟩ ?_ ?_
    · intro hres; cases hres
    · intro r9 w9 hres H locs hP hD hS
      obtain ⟨rfl, rfl⟩ := Prod.mk.inj (Option.some.inj hres)
      have hP : va_P D vwCl [(a_o 1, .inl (kA 2, 1, .inr (.inl ot))), (a_ct 0, .inr (5, [.ref (a_tp 0), .ref (a_pn 0), .ref (a_rd 0), .ref (a_sh 0)])), (a_sh 0, .inr (3, [.ref (a_sh 1), .ref (a_sh 2), .ref (a_sh 3), .ref (a_sh 4), .ref (a_sh 5), .ref (a_sh 6), .ref (a_sh 7), .ref (a_ck 0), .int sh.2.2.2.2.2.2.2.1, .int sh.2.2.2.2.2.2.2.2])), (a_sh 1, .inl (kA 0, 40, .inl sh.1)), (a_sh 2, .inl (kA 0, 40, .inl sh.2.1)), (a_sh 3, .inl (kA 0, 80, .inl sh.2.2.1)), (a_sh 4, .inl (kA 0, 120, .inl sh.2.2.2.1)), (a_sh 5, .inl (kA 0, 120, .inl sh.2.2.2.2.1)), (a_sh 6, .inl (kA 2, 120, .inr (.inl sh.2.2.2.2.2.1))), (a_sh 7, .inl (kA 1, 1240, .inl sh.2.2.2.2.2.2.1))] H := hP
      have hD : va_D A [(a_o 1, .inl (kA 2, 1, .inr (.inl ot))), (a_ct 0, .inr (5, [.ref (a_tp 0), .ref (a_pn 0), .ref (a_rd 0), .ref (a_sh 0)])), (a_sh 0, .inr (3, [.ref (a_sh 1), .ref (a_sh 2), .ref (a_sh 3), .ref (a_sh 4), .ref (a_sh 5), .ref (a_sh 6), .ref (a_sh 7), .ref (a_ck 0), .int sh.2.2.2.2.2.2.2.1, .int sh.2.2.2.2.2.2.2.2])), (a_sh 1, .inl (kA 0, 40, .inl sh.1)), (a_sh 2, .inl (kA 0, 40, .inl sh.2.1)), (a_sh 3, .inl (kA 0, 80, .inl sh.2.2.1)), (a_sh 4, .inl (kA 0, 120, .inl sh.2.2.2.1)), (a_sh 5, .inl (kA 0, 120, .inl sh.2.2.2.2.1)), (a_sh 6, .inl (kA 2, 120, .inr (.inl sh.2.2.2.2.2.1))), (a_sh 7, .inl (kA 1, 1240, .inl sh.2.2.2.2.2.2.1))] := hD
      refine lv_i2l (v := r.toInt64) hx hb dL_load_8 rfl ?_
      have h : some ((0 : Int32), (vp_updL ot 0 r.toInt64)) = some res := h
      refine va_last hx hb hK hP hD hS 0 2 rfl rfl (inb_in (by decide)) dL_load_9 (fun H locs hP hD hS => ?_)
      refine lv_goto (tgt := 17) hx hb dL_load_10 (by decide) ?_
      obtain rfl := Option.some.inj h
      refine lv_iconst (v := 0) hx hb dL_load_17 (by decide) ?_
      exact lw_ireturn hx hb hr hk dL_load_18 (hP.sub [1, 2, 3, 4, 5, 6, 7, 8, 9, 0] rfl) (hD.sub [1, 2, 3, 4, 5, 6, 7, 8, 9, 0] (by decide) rfl) hS

abbrev rmL_unmatched : Room := { frames := 7, cells := 1, slots := 6, locals := 112 }
set_option maxHeartbeats 4000000 in
set_option maxRecDepth 100000 in
theorem cL_unmatched_c (l : Launch) (hl9 : l.stackTraces = false) (D : va_G) (kA : Nat → ClassId) (a_ct : Nat → Nat) (a_sh : Nat → Nat) (a_tp : Nat → Nat) (a_pn : Nat → Nat) (a_rd : Nat → Nat) (a_ck : Nat → Nat) (a_o : Nat → Nat) (F : Nat) (p1 : Int32) (sh : T3) (ot : T50) (res : Int32 × T50) (h : fL_unmatched F p1 sh ot = some res) : Lw l yL_unmatched cL_unmatched 4 (some .int) [(0, 9, 12, 13)] rmL_unmatched D kA [.ref (a_ct 0), .int p1, .ref (a_o 1)] [(a_ct 0, .inr (5, [.ref (a_tp 0), .ref (a_pn 0), .ref (a_rd 0), .ref (a_sh 0)])), (a_sh 0, .inr (3, [.ref (a_sh 1), .ref (a_sh 2), .ref (a_sh 3), .ref (a_sh 4), .ref (a_sh 5), .ref (a_sh 6), .ref (a_sh 7), .ref (a_ck 0), .int sh.2.2.2.2.2.2.2.1, .int sh.2.2.2.2.2.2.2.2])), (a_sh 1, .inl (kA 0, 40, .inl sh.1)), (a_sh 2, .inl (kA 0, 40, .inl sh.2.1)), (a_sh 3, .inl (kA 0, 80, .inl sh.2.2.1)), (a_sh 4, .inl (kA 0, 120, .inl sh.2.2.2.1)), (a_sh 5, .inl (kA 0, 120, .inl sh.2.2.2.2.1)), (a_sh 6, .inl (kA 2, 120, .inr (.inl sh.2.2.2.2.2.1))), (a_sh 7, .inl (kA 1, 1240, .inl sh.2.2.2.2.2.2.1)), (a_o 1, .inl (kA 2, 1, .inr (.inl ot)))] (some (.int res.1)) [(a_ct 0, .inr (5, [.ref (a_tp 0), .ref (a_pn 0), .ref (a_rd 0), .ref (a_sh 0)])), (a_sh 0, .inr (3, [.ref (a_sh 1), .ref (a_sh 2), .ref (a_sh 3), .ref (a_sh 4), .ref (a_sh 5), .ref (a_sh 6), .ref (a_sh 7), .ref (a_ck 0), .int sh.2.2.2.2.2.2.2.1, .int sh.2.2.2.2.2.2.2.2])), (a_sh 1, .inl (kA 0, 40, .inl sh.1)), (a_sh 2, .inl (kA 0, 40, .inl sh.2.1)), (a_sh 3, .inl (kA 0, 80, .inl sh.2.2.1)), (a_sh 4, .inl (kA 0, 120, .inl sh.2.2.2.1)), (a_sh 5, .inl (kA 0, 120, .inl sh.2.2.2.2.1)), (a_sh 6, .inl (kA 2, 120, .inr (.inl sh.2.2.2.2.2.1))), (a_sh 7, .inl (kA 1, 1240, .inl sh.2.2.2.2.2.2.1)), (a_o 1, .inl (kA 2, 1, .inr (.inl res.2)))] := by
  refine Lw.of (by decide) (Nat.le_of_ble_eq_true rfl) ?_
  intro p e s m args below meth c A hF hex hP hD hS hA hK ls hl
  obtain ⟨hx, hb, hml, hown, hr, hk, hts, hN⟩ := hF
  have hl : lv_has ls 4 [(0, .ref (a_ct 0)), (1, .int p1), (2, .ref (a_o 1))] := hl
  unfold fL_unmatched at h
  refine lv_aload_n hx hb dL_unmatched_0 rfl (lv_at hl 2 rfl) ?_
  refine lv_iconst (v := 0) hx hb dL_unmatched_1 (by decide) ?_
  refine lv_aload_n hx hb dL_unmatched_2 rfl (lv_at hl 0 rfl) ?_
  refine lv_iload_n hx hb dL_unmatched_3 rfl (lv_at hl 1 rfl) ?_
  obtain ⟨u, hc, h⟩ := bnd_some h
  cases u with
  | none =>
    have h : some ((1 : Int32), ot) = some res := h
    obtain rfl := Option.some.inj h
    refine tx_V (wr := [(a_o 1, .inl (kA 2, 1, .inr (.inl ot)))]) (n := 1) (As := [.int p1]) (rest := [.int 0, .ref (a_o 1)]) hx hb hml hown hts hN hS hK hP hD hA (c5_unmatched l hl9 D kA a_ct a_sh a_tp a_pn a_rd a_ck F p1 sh none hc) [0, 1, 2, 3, 4, 5, 6, 7, 8] [9] rfl (by decide) rfl (by decide) (by decide) 0 5 rfl rfl rfl tw_796 tw_797 tw_798 tw_74 tw_799 rfl rfl (by decide) ⟨Nat.le_of_ble_eq_true rfl, Nat.le_of_ble_eq_true rfl⟩ rfl hl.1 rfl (Nat.le_of_ble_eq_true rfl) dL_unmatched_4 ⟨Nat.le_of_ble_eq_true rfl, Nat.le_of_ble_eq_true rfl⟩ ?_ ?_
    · intro hres ce q9 H locs hP hD hS hcell hv hcl
      refine vx_catch (own := "ConstraintTextLaw") (name := ioob) (E := ioob) hown [] ⟨0, 9, 12, 13⟩ [] hex (fun z hz => by cases hz) (by decide) (by decide) (hts _ tw_607) (va_Nw.use rfl (hN.1 _ nw_615)) hcell hv hcl ?_
      refine lv_astore_n (lv' := [(3, .ref q9), (0, .ref (a_ct 0)), (1, .int p1), (2, .ref (a_o 1))]) hx hb dL_unmatched_12 rfl hl (by decide) rfl (fun ls hl => ?_)
      refine lv_iconst (v := 1) hx hb dL_unmatched_13 (by decide) ?_
      exact lw_ireturn hx hb hr hk dL_unmatched_14 (hP.sub [1, 2, 3, 4, 5, 6, 7, 8, 9, 0] rfl) (hD.sub [1, 2, 3, 4, 5, 6, 7, 8, 9, 0] (by decide) rfl) hS
    · intro r w1 hres; cases hres
  | some r =>
    refine tx_V (wr := [(a_o 1, .inl (kA 2, 1, .inr (.inl ot)))]) (n := 1) (As := [.int p1]) (rest := [.int 0, .ref (a_o 1)]) hx hb hml hown hts hN hS hK hP hD hA (c5_unmatched l hl9 D kA a_ct a_sh a_tp a_pn a_rd a_ck F p1 sh (some r) hc) [0, 1, 2, 3, 4, 5, 6, 7, 8] [9] rfl (by decide) rfl (by decide) (by decide) 0 5 rfl rfl rfl tw_796 tw_797 tw_798 tw_74 tw_799 rfl rfl (by decide) ⟨Nat.le_of_ble_eq_true rfl, Nat.le_of_ble_eq_true rfl⟩ rfl hl.1 rfl (Nat.le_of_ble_eq_true rfl) dL_unmatched_4 ⟨Nat.le_of_ble_eq_true rfl, Nat.le_of_ble_eq_true rfl⟩ ?_ ?_
    · intro hres; cases hres
    · intro r9 w9 hres H locs hP hD hS
      obtain ⟨rfl, rfl⟩ := Prod.mk.inj (Option.some.inj hres)
      have hP : va_P D vwCl [(a_o 1, .inl (kA 2, 1, .inr (.inl ot))), (a_ct 0, .inr (5, [.ref (a_tp 0), .ref (a_pn 0), .ref (a_rd 0), .ref (a_sh 0)])), (a_sh 0, .inr (3, [.ref (a_sh 1), .ref (a_sh 2), .ref (a_sh 3), .ref (a_sh 4), .ref (a_sh 5), .ref (a_sh 6), .ref (a_sh 7), .ref (a_ck 0), .int sh.2.2.2.2.2.2.2.1, .int sh.2.2.2.2.2.2.2.2])), (a_sh 1, .inl (kA 0, 40, .inl sh.1)), (a_sh 2, .inl (kA 0, 40, .inl sh.2.1)), (a_sh 3, .inl (kA 0, 80, .inl sh.2.2.1)), (a_sh 4, .inl (kA 0, 120, .inl sh.2.2.2.1)), (a_sh 5, .inl (kA 0, 120, .inl sh.2.2.2.2.1)), (a_sh 6, .inl (kA 2, 120, .inr (.inl sh.2.2.2.2.2.1))), (a_sh 7, .inl (kA 1, 1240, .inl sh.2.2.2.2.2.2.1))] H := hP
      have hD : va_D A [(a_o 1, .inl (kA 2, 1, .inr (.inl ot))), (a_ct 0, .inr (5, [.ref (a_tp 0), .ref (a_pn 0), .ref (a_rd 0), .ref (a_sh 0)])), (a_sh 0, .inr (3, [.ref (a_sh 1), .ref (a_sh 2), .ref (a_sh 3), .ref (a_sh 4), .ref (a_sh 5), .ref (a_sh 6), .ref (a_sh 7), .ref (a_ck 0), .int sh.2.2.2.2.2.2.2.1, .int sh.2.2.2.2.2.2.2.2])), (a_sh 1, .inl (kA 0, 40, .inl sh.1)), (a_sh 2, .inl (kA 0, 40, .inl sh.2.1)), (a_sh 3, .inl (kA 0, 80, .inl sh.2.2.1)), (a_sh 4, .inl (kA 0, 120, .inl sh.2.2.2.1)), (a_sh 5, .inl (kA 0, 120, .inl sh.2.2.2.2.1)), (a_sh 6, .inl (kA 2, 120, .inr (.inl sh.2.2.2.2.2.1))), (a_sh 7, .inl (kA 1, 1240, .inl sh.2.2.2.2.2.2.1))] := hD
      refine lv_i2l (v := r.toInt64) hx hb dL_unmatched_7 rfl ?_
      have h : some ((0 : Int32), (vp_updL ot 0 r.toInt64)) = some res := h
      refine va_last hx hb hK hP hD hS 0 2 rfl rfl (inb_in (by decide)) dL_unmatched_8 (fun H locs hP hD hS => ?_)
      refine lv_goto (tgt := 15) hx hb dL_unmatched_9 (by decide) ?_
      obtain rfl := Option.some.inj h
      refine lv_iconst (v := 0) hx hb dL_unmatched_15 (by decide) ?_
      exact lw_ireturn hx hb hr hk dL_unmatched_16 (hP.sub [1, 2, 3, 4, 5, 6, 7, 8, 9, 0] rfl) (hD.sub [1, 2, 3, 4, 5, 6, 7, 8, 9, 0] (by decide) rfl) hS

abbrev rmL_clash : Room := { frames := 7, cells := 1, slots := 6, locals := 119 }
set_option maxHeartbeats 4000000 in
set_option maxRecDepth 100000 in
theorem cL_clash_c (l : Launch) (hl9 : l.stackTraces = false) (D : va_G) (kA : Nat → ClassId) (a_ct : Nat → Nat) (a_sh : Nat → Nat) (a_tp : Nat → Nat) (a_pn : Nat → Nat) (a_rd : Nat → Nat) (a_ck : Nat → Nat) (a_o : Nat → Nat) (F : Nat) (p1 : Int32) (p2 : Int32) (sh : T3) (ot : T50) (res : Int32 × T50) (h : fL_clash F p1 p2 sh ot = some res) : Lw l yL_clash cL_clash 5 (some .int) [(0, 10, 13, 13)] rmL_clash D kA [.ref (a_ct 0), .int p1, .int p2, .ref (a_o 1)] [(a_ct 0, .inr (5, [.ref (a_tp 0), .ref (a_pn 0), .ref (a_rd 0), .ref (a_sh 0)])), (a_sh 0, .inr (3, [.ref (a_sh 1), .ref (a_sh 2), .ref (a_sh 3), .ref (a_sh 4), .ref (a_sh 5), .ref (a_sh 6), .ref (a_sh 7), .ref (a_ck 0), .int sh.2.2.2.2.2.2.2.1, .int sh.2.2.2.2.2.2.2.2])), (a_sh 1, .inl (kA 0, 40, .inl sh.1)), (a_sh 2, .inl (kA 0, 40, .inl sh.2.1)), (a_sh 3, .inl (kA 0, 80, .inl sh.2.2.1)), (a_sh 4, .inl (kA 0, 120, .inl sh.2.2.2.1)), (a_sh 5, .inl (kA 0, 120, .inl sh.2.2.2.2.1)), (a_sh 6, .inl (kA 2, 120, .inr (.inl sh.2.2.2.2.2.1))), (a_sh 7, .inl (kA 1, 1240, .inl sh.2.2.2.2.2.2.1)), (a_o 1, .inl (kA 2, 1, .inr (.inl ot)))] (some (.int res.1)) [(a_ct 0, .inr (5, [.ref (a_tp 0), .ref (a_pn 0), .ref (a_rd 0), .ref (a_sh 0)])), (a_sh 0, .inr (3, [.ref (a_sh 1), .ref (a_sh 2), .ref (a_sh 3), .ref (a_sh 4), .ref (a_sh 5), .ref (a_sh 6), .ref (a_sh 7), .ref (a_ck 0), .int sh.2.2.2.2.2.2.2.1, .int sh.2.2.2.2.2.2.2.2])), (a_sh 1, .inl (kA 0, 40, .inl sh.1)), (a_sh 2, .inl (kA 0, 40, .inl sh.2.1)), (a_sh 3, .inl (kA 0, 80, .inl sh.2.2.1)), (a_sh 4, .inl (kA 0, 120, .inl sh.2.2.2.1)), (a_sh 5, .inl (kA 0, 120, .inl sh.2.2.2.2.1)), (a_sh 6, .inl (kA 2, 120, .inr (.inl sh.2.2.2.2.2.1))), (a_sh 7, .inl (kA 1, 1240, .inl sh.2.2.2.2.2.2.1)), (a_o 1, .inl (kA 2, 1, .inr (.inl res.2)))] := by
  refine Lw.of (by decide) (Nat.le_of_ble_eq_true rfl) ?_
  intro p e s m args below meth c A hF hex hP hD hS hA hK ls hl
  obtain ⟨hx, hb, hml, hown, hr, hk, hts, hN⟩ := hF
  have hl : lv_has ls 5 [(0, .ref (a_ct 0)), (1, .int p1), (2, .int p2), (3, .ref (a_o 1))] := hl
  unfold fL_clash at h
  refine lv_aload_n hx hb dL_clash_0 rfl (lv_at hl 3 rfl) ?_
  refine lv_iconst (v := 0) hx hb dL_clash_1 (by decide) ?_
  refine lv_aload_n hx hb dL_clash_2 rfl (lv_at hl 0 rfl) ?_
  refine lv_iload_n hx hb dL_clash_3 rfl (lv_at hl 1 rfl) ?_
  refine lv_iload_n hx hb dL_clash_4 rfl (lv_at hl 2 rfl) ?_
  obtain ⟨u, hc, h⟩ := bnd_some h
  cases u with
  | none =>
    have h : some ((1 : Int32), ot) = some res := h
    obtain rfl := Option.some.inj h
    refine tx_V (wr := [(a_o 1, .inl (kA 2, 1, .inr (.inl ot)))]) (n := 2) (As := [.int p1, .int p2]) (rest := [.int 0, .ref (a_o 1)]) hx hb hml hown hts hN hS hK hP hD hA (c5_clash l hl9 D kA a_ct a_sh a_tp a_pn a_rd a_ck F p1 p2 sh none hc) [0, 1, 2, 3, 4, 5, 6, 7, 8] [9] rfl (by decide) rfl (by decide) (by decide) 0 5 rfl rfl rfl tw_812 tw_813 tw_814 tw_74 tw_815 rfl rfl (by decide) ⟨Nat.le_of_ble_eq_true rfl, Nat.le_of_ble_eq_true rfl⟩ rfl hl.1 rfl (Nat.le_of_ble_eq_true rfl) dL_clash_5 ⟨Nat.le_of_ble_eq_true rfl, Nat.le_of_ble_eq_true rfl⟩ ?_ ?_
    · intro hres ce q9 H locs hP hD hS hcell hv hcl
      refine vx_catch (own := "ConstraintTextLaw") (name := ioob) (E := ioob) hown [] ⟨0, 10, 13, 13⟩ [] hex (fun z hz => by cases hz) (by decide) (by decide) (hts _ tw_607) (va_Nw.use rfl (hN.1 _ nw_615)) hcell hv hcl ?_
      refine lv_astore (lv' := [(4, .ref q9), (0, .ref (a_ct 0)), (1, .int p1), (2, .int p2), (3, .ref (a_o 1))]) hx hb dL_clash_13 hl (by decide) rfl (fun ls hl => ?_)
      refine lv_iconst (v := 1) hx hb dL_clash_15 (by decide) ?_
      exact lw_ireturn hx hb hr hk dL_clash_16 (hP.sub [1, 2, 3, 4, 5, 6, 7, 8, 9, 0] rfl) (hD.sub [1, 2, 3, 4, 5, 6, 7, 8, 9, 0] (by decide) rfl) hS
    · intro r w1 hres; cases hres
  | some r =>
    refine tx_V (wr := [(a_o 1, .inl (kA 2, 1, .inr (.inl ot)))]) (n := 2) (As := [.int p1, .int p2]) (rest := [.int 0, .ref (a_o 1)]) hx hb hml hown hts hN hS hK hP hD hA (c5_clash l hl9 D kA a_ct a_sh a_tp a_pn a_rd a_ck F p1 p2 sh (some r) hc) [0, 1, 2, 3, 4, 5, 6, 7, 8] [9] rfl (by decide) rfl (by decide) (by decide) 0 5 rfl rfl rfl tw_812 tw_813 tw_814 tw_74 tw_815 rfl rfl (by decide) ⟨Nat.le_of_ble_eq_true rfl, Nat.le_of_ble_eq_true rfl⟩ rfl hl.1 rfl (Nat.le_of_ble_eq_true rfl) dL_clash_5 ⟨Nat.le_of_ble_eq_true rfl, Nat.le_of_ble_eq_true rfl⟩ ?_ ?_
    · intro hres; cases hres
    · intro r9 w9 hres H locs hP hD hS
      obtain ⟨rfl, rfl⟩ := Prod.mk.inj (Option.some.inj hres)
      have hP : va_P D vwCl [(a_o 1, .inl (kA 2, 1, .inr (.inl ot))), (a_ct 0, .inr (5, [.ref (a_tp 0), .ref (a_pn 0), .ref (a_rd 0), .ref (a_sh 0)])), (a_sh 0, .inr (3, [.ref (a_sh 1), .ref (a_sh 2), .ref (a_sh 3), .ref (a_sh 4), .ref (a_sh 5), .ref (a_sh 6), .ref (a_sh 7), .ref (a_ck 0), .int sh.2.2.2.2.2.2.2.1, .int sh.2.2.2.2.2.2.2.2])), (a_sh 1, .inl (kA 0, 40, .inl sh.1)), (a_sh 2, .inl (kA 0, 40, .inl sh.2.1)), (a_sh 3, .inl (kA 0, 80, .inl sh.2.2.1)), (a_sh 4, .inl (kA 0, 120, .inl sh.2.2.2.1)), (a_sh 5, .inl (kA 0, 120, .inl sh.2.2.2.2.1)), (a_sh 6, .inl (kA 2, 120, .inr (.inl sh.2.2.2.2.2.1))), (a_sh 7, .inl (kA 1, 1240, .inl sh.2.2.2.2.2.2.1))] H := hP
      have hD : va_D A [(a_o 1, .inl (kA 2, 1, .inr (.inl ot))), (a_ct 0, .inr (5, [.ref (a_tp 0), .ref (a_pn 0), .ref (a_rd 0), .ref (a_sh 0)])), (a_sh 0, .inr (3, [.ref (a_sh 1), .ref (a_sh 2), .ref (a_sh 3), .ref (a_sh 4), .ref (a_sh 5), .ref (a_sh 6), .ref (a_sh 7), .ref (a_ck 0), .int sh.2.2.2.2.2.2.2.1, .int sh.2.2.2.2.2.2.2.2])), (a_sh 1, .inl (kA 0, 40, .inl sh.1)), (a_sh 2, .inl (kA 0, 40, .inl sh.2.1)), (a_sh 3, .inl (kA 0, 80, .inl sh.2.2.1)), (a_sh 4, .inl (kA 0, 120, .inl sh.2.2.2.1)), (a_sh 5, .inl (kA 0, 120, .inl sh.2.2.2.2.1)), (a_sh 6, .inl (kA 2, 120, .inr (.inl sh.2.2.2.2.2.1))), (a_sh 7, .inl (kA 1, 1240, .inl sh.2.2.2.2.2.2.1))] := hD
      refine lv_i2l (v := r.toInt64) hx hb dL_clash_8 rfl ?_
      have h : some ((0 : Int32), (vp_updL ot 0 r.toInt64)) = some res := h
      refine va_last hx hb hK hP hD hS 0 2 rfl rfl (inb_in (by decide)) dL_clash_9 (fun H locs hP hD hS => ?_)
      refine lv_goto (tgt := 17) hx hb dL_clash_10 (by decide) ?_
      obtain rfl := Option.some.inj h
      refine lv_iconst (v := 0) hx hb dL_clash_17 (by decide) ?_
      exact lw_ireturn hx hb hr hk dL_clash_18 (hP.sub [1, 2, 3, 4, 5, 6, 7, 8, 9, 0] rfl) (hD.sub [1, 2, 3, 4, 5, 6, 7, 8, 9, 0] (by decide) rfl) hS

abbrev rmL_write : Room := { frames := 7, cells := 1, slots := 6, locals := 103 }
set_option maxHeartbeats 4000000 in
set_option maxRecDepth 100000 in
theorem cL_write_c (l : Launch) (hl9 : l.stackTraces = false) (D : va_G) (kA : Nat → ClassId) (a_ct : Nat → Nat) (a_sh : Nat → Nat) (a_tp : Nat → Nat) (a_pn : Nat → Nat) (a_rd : Nat → Nat) (a_ck : Nat → Nat) (a_o : Nat → Nat) (p1 : Int32) (sh : T3) (ot : T50) (res : Int32 × T50) (h : fL_write p1 sh ot = some res) : Lw l yL_write cL_write 4 (some .int) [(0, 9, 12, 13)] rmL_write D kA [.ref (a_ct 0), .int p1, .ref (a_o 1)] [(a_ct 0, .inr (5, [.ref (a_tp 0), .ref (a_pn 0), .ref (a_rd 0), .ref (a_sh 0)])), (a_sh 0, .inr (3, [.ref (a_sh 1), .ref (a_sh 2), .ref (a_sh 3), .ref (a_sh 4), .ref (a_sh 5), .ref (a_sh 6), .ref (a_sh 7), .ref (a_ck 0), .int sh.2.2.2.2.2.2.2.1, .int sh.2.2.2.2.2.2.2.2])), (a_sh 1, .inl (kA 0, 40, .inl sh.1)), (a_sh 2, .inl (kA 0, 40, .inl sh.2.1)), (a_sh 3, .inl (kA 0, 80, .inl sh.2.2.1)), (a_sh 4, .inl (kA 0, 120, .inl sh.2.2.2.1)), (a_sh 5, .inl (kA 0, 120, .inl sh.2.2.2.2.1)), (a_sh 6, .inl (kA 2, 120, .inr (.inl sh.2.2.2.2.2.1))), (a_sh 7, .inl (kA 1, 1240, .inl sh.2.2.2.2.2.2.1)), (a_o 1, .inl (kA 2, 1, .inr (.inl ot)))] (some (.int res.1)) [(a_ct 0, .inr (5, [.ref (a_tp 0), .ref (a_pn 0), .ref (a_rd 0), .ref (a_sh 0)])), (a_sh 0, .inr (3, [.ref (a_sh 1), .ref (a_sh 2), .ref (a_sh 3), .ref (a_sh 4), .ref (a_sh 5), .ref (a_sh 6), .ref (a_sh 7), .ref (a_ck 0), .int sh.2.2.2.2.2.2.2.1, .int sh.2.2.2.2.2.2.2.2])), (a_sh 1, .inl (kA 0, 40, .inl sh.1)), (a_sh 2, .inl (kA 0, 40, .inl sh.2.1)), (a_sh 3, .inl (kA 0, 80, .inl sh.2.2.1)), (a_sh 4, .inl (kA 0, 120, .inl sh.2.2.2.1)), (a_sh 5, .inl (kA 0, 120, .inl sh.2.2.2.2.1)), (a_sh 6, .inl (kA 2, 120, .inr (.inl sh.2.2.2.2.2.1))), (a_sh 7, .inl (kA 1, 1240, .inl sh.2.2.2.2.2.2.1)), (a_o 1, .inl (kA 2, 1, .inr (.inl res.2)))] := by
  refine Lw.of (by decide) (Nat.le_of_ble_eq_true rfl) ?_
  intro p e s m args below meth c A hF hex hP hD hS hA hK ls hl
  obtain ⟨hx, hb, hml, hown, hr, hk, hts, hN⟩ := hF
  have hl : lv_has ls 4 [(0, .ref (a_ct 0)), (1, .int p1), (2, .ref (a_o 1))] := hl
  unfold fL_write at h
  refine lv_aload_n hx hb dL_write_0 rfl (lv_at hl 2 rfl) ?_
  refine lv_iconst (v := 0) hx hb dL_write_1 (by decide) ?_
  refine lv_aload_n hx hb dL_write_2 rfl (lv_at hl 0 rfl) ?_
  refine lv_iload_n hx hb dL_write_3 rfl (lv_at hl 1 rfl) ?_
  obtain ⟨u, hc, h⟩ := bnd_some h
  cases u with
  | none =>
    have h : some ((1 : Int32), ot) = some res := h
    obtain rfl := Option.some.inj h
    refine tx_V (wr := [(a_o 1, .inl (kA 2, 1, .inr (.inl ot)))]) (n := 1) (As := [.int p1]) (rest := [.int 0, .ref (a_o 1)]) hx hb hml hown hts hN hS hK hP hD hA (c5_write l hl9 D kA a_ct a_sh a_tp a_pn a_rd a_ck p1 sh none hc) [0, 1, 2, 3, 4, 5, 6, 7, 8] [9] rfl (by decide) rfl (by decide) (by decide) 0 5 rfl rfl rfl tw_831 tw_832 tw_833 tw_74 tw_834 rfl rfl (by decide) ⟨Nat.le_of_ble_eq_true rfl, Nat.le_of_ble_eq_true rfl⟩ rfl hl.1 rfl (Nat.le_of_ble_eq_true rfl) dL_write_4 ⟨Nat.le_of_ble_eq_true rfl, Nat.le_of_ble_eq_true rfl⟩ ?_ ?_
    · intro hres ce q9 H locs hP hD hS hcell hv hcl
      refine vx_catch (own := "ConstraintTextLaw") (name := ioob) (E := ioob) hown [] ⟨0, 9, 12, 13⟩ [] hex (fun z hz => by cases hz) (by decide) (by decide) (hts _ tw_607) (va_Nw.use rfl (hN.1 _ nw_615)) hcell hv hcl ?_
      refine lv_astore_n (lv' := [(3, .ref q9), (0, .ref (a_ct 0)), (1, .int p1), (2, .ref (a_o 1))]) hx hb dL_write_12 rfl hl (by decide) rfl (fun ls hl => ?_)
      refine lv_iconst (v := 1) hx hb dL_write_13 (by decide) ?_
      exact lw_ireturn hx hb hr hk dL_write_14 (hP.sub [1, 2, 3, 4, 5, 6, 7, 8, 9, 0] rfl) (hD.sub [1, 2, 3, 4, 5, 6, 7, 8, 9, 0] (by decide) rfl) hS
    · intro r w1 hres; cases hres
  | some r =>
    refine tx_V (wr := [(a_o 1, .inl (kA 2, 1, .inr (.inl ot)))]) (n := 1) (As := [.int p1]) (rest := [.int 0, .ref (a_o 1)]) hx hb hml hown hts hN hS hK hP hD hA (c5_write l hl9 D kA a_ct a_sh a_tp a_pn a_rd a_ck p1 sh (some r) hc) [0, 1, 2, 3, 4, 5, 6, 7, 8] [9] rfl (by decide) rfl (by decide) (by decide) 0 5 rfl rfl rfl tw_831 tw_832 tw_833 tw_74 tw_834 rfl rfl (by decide) ⟨Nat.le_of_ble_eq_true rfl, Nat.le_of_ble_eq_true rfl⟩ rfl hl.1 rfl (Nat.le_of_ble_eq_true rfl) dL_write_4 ⟨Nat.le_of_ble_eq_true rfl, Nat.le_of_ble_eq_true rfl⟩ ?_ ?_
    · intro hres; cases hres
    · intro r9 w9 hres H locs hP hD hS
      obtain ⟨rfl, rfl⟩ := Prod.mk.inj (Option.some.inj hres)
      have hP : va_P D vwCl [(a_o 1, .inl (kA 2, 1, .inr (.inl ot))), (a_ct 0, .inr (5, [.ref (a_tp 0), .ref (a_pn 0), .ref (a_rd 0), .ref (a_sh 0)])), (a_sh 0, .inr (3, [.ref (a_sh 1), .ref (a_sh 2), .ref (a_sh 3), .ref (a_sh 4), .ref (a_sh 5), .ref (a_sh 6), .ref (a_sh 7), .ref (a_ck 0), .int sh.2.2.2.2.2.2.2.1, .int sh.2.2.2.2.2.2.2.2])), (a_sh 1, .inl (kA 0, 40, .inl sh.1)), (a_sh 2, .inl (kA 0, 40, .inl sh.2.1)), (a_sh 3, .inl (kA 0, 80, .inl sh.2.2.1)), (a_sh 4, .inl (kA 0, 120, .inl sh.2.2.2.1)), (a_sh 5, .inl (kA 0, 120, .inl sh.2.2.2.2.1)), (a_sh 6, .inl (kA 2, 120, .inr (.inl sh.2.2.2.2.2.1))), (a_sh 7, .inl (kA 1, 1240, .inl sh.2.2.2.2.2.2.1))] H := hP
      have hD : va_D A [(a_o 1, .inl (kA 2, 1, .inr (.inl ot))), (a_ct 0, .inr (5, [.ref (a_tp 0), .ref (a_pn 0), .ref (a_rd 0), .ref (a_sh 0)])), (a_sh 0, .inr (3, [.ref (a_sh 1), .ref (a_sh 2), .ref (a_sh 3), .ref (a_sh 4), .ref (a_sh 5), .ref (a_sh 6), .ref (a_sh 7), .ref (a_ck 0), .int sh.2.2.2.2.2.2.2.1, .int sh.2.2.2.2.2.2.2.2])), (a_sh 1, .inl (kA 0, 40, .inl sh.1)), (a_sh 2, .inl (kA 0, 40, .inl sh.2.1)), (a_sh 3, .inl (kA 0, 80, .inl sh.2.2.1)), (a_sh 4, .inl (kA 0, 120, .inl sh.2.2.2.1)), (a_sh 5, .inl (kA 0, 120, .inl sh.2.2.2.2.1)), (a_sh 6, .inl (kA 2, 120, .inr (.inl sh.2.2.2.2.2.1))), (a_sh 7, .inl (kA 1, 1240, .inl sh.2.2.2.2.2.2.1))] := hD
      refine lv_i2l (v := r.toInt64) hx hb dL_write_7 rfl ?_
      have h : some ((0 : Int32), (vp_updL ot 0 r.toInt64)) = some res := h
      refine va_last hx hb hK hP hD hS 0 2 rfl rfl (inb_in (by decide)) dL_write_8 (fun H locs hP hD hS => ?_)
      refine lv_goto (tgt := 15) hx hb dL_write_9 (by decide) ?_
      obtain rfl := Option.some.inj h
      refine lv_iconst (v := 0) hx hb dL_write_15 (by decide) ?_
      exact lw_ireturn hx hb hr hk dL_write_16 (hP.sub [1, 2, 3, 4, 5, 6, 7, 8, 9, 0] rfl) (hD.sub [1, 2, 3, 4, 5, 6, 7, 8, 9, 0] (by decide) rfl) hS

abbrev rmL_count : Room := { frames := 7, cells := 1, slots := 6, locals := 103 }
set_option maxHeartbeats 4000000 in
set_option maxRecDepth 100000 in
theorem cL_count_c (l : Launch) (hl9 : l.stackTraces = false) (D : va_G) (kA : Nat → ClassId) (a_ct : Nat → Nat) (a_sh : Nat → Nat) (a_tp : Nat → Nat) (a_ck : Nat → Nat) (a_pn : Nat → Nat) (a_rd : Nat → Nat) (a_o : Nat → Nat) (p1 : Int32) (sh : T3) (tp : T4) (ck : T0) (ot : T50) (res : Int32 × T50) (h : fL_count p1 sh tp ck ot = some res) : Lw l yL_count cL_count 4 (some .int) [(0, 9, 12, 13)] rmL_count D kA [.ref (a_ct 0), .int p1, .ref (a_o 1)] [(a_ct 0, .inr (5, [.ref (a_tp 0), .ref (a_pn 0), .ref (a_rd 0), .ref (a_sh 0)])), (a_sh 0, .inr (3, [.ref (a_sh 1), .ref (a_sh 2), .ref (a_sh 3), .ref (a_sh 4), .ref (a_sh 5), .ref (a_sh 6), .ref (a_sh 7), .ref (a_ck 0), .int sh.2.2.2.2.2.2.2.1, .int sh.2.2.2.2.2.2.2.2])), (a_sh 1, .inl (kA 0, 40, .inl sh.1)), (a_sh 2, .inl (kA 0, 40, .inl sh.2.1)), (a_sh 3, .inl (kA 0, 80, .inl sh.2.2.1)), (a_sh 4, .inl (kA 0, 120, .inl sh.2.2.2.1)), (a_sh 5, .inl (kA 0, 120, .inl sh.2.2.2.2.1)), (a_sh 6, .inl (kA 2, 120, .inr (.inl sh.2.2.2.2.2.1))), (a_sh 7, .inl (kA 1, 1240, .inl sh.2.2.2.2.2.2.1)), (a_tp 0, .inr (4, [.ref (a_tp 1), .int tp.2])), (a_tp 1, .inl (kA 1, 1200, .inl tp.1)), (a_ck 0, .inr (0, [.ref (a_ck 1), .ref (a_ck 2), .ref (a_ck 3), .ref (a_ck 4), .ref (a_ck 5), .ref (a_ck 6), .ref (a_ck 7), .ref (a_ck 8), .ref (a_ck 9), .ref (a_ck 10), .ref (a_ck 11), .int ck.2.2.2.2.2.2.2.2.2.2.2])), (a_ck 1, .inl (kA 0, 12, .inl ck.1)), (a_ck 2, .inl (kA 0, 12, .inl ck.2.1)), (a_ck 3, .inl (kA 3, 12, .inl ck.2.2.1)), (a_ck 4, .inl (kA 0, 12, .inl ck.2.2.2.1)), (a_ck 5, .inl (kA 0, 12, .inl ck.2.2.2.2.1)), (a_ck 6, .inl (kA 2, 12, .inr (.inl ck.2.2.2.2.2.1))), (a_ck 7, .inl (kA 2, 12, .inr (.inl ck.2.2.2.2.2.2.1))), (a_ck 8, .inl (kA 2, 12, .inr (.inl ck.2.2.2.2.2.2.2.1))), (a_ck 9, .inl (kA 2, 12, .inr (.inl ck.2.2.2.2.2.2.2.2.1))), (a_ck 10, .inl (kA 3, 12, .inl ck.2.2.2.2.2.2.2.2.2.1)), (a_ck 11, .inl (kA 3, 12, .inl ck.2.2.2.2.2.2.2.2.2.2.1)), (a_o 1, .inl (kA 2, 1, .inr (.inl ot)))] (some (.int res.1)) [(a_ct 0, .inr (5, [.ref (a_tp 0), .ref (a_pn 0), .ref (a_rd 0), .ref (a_sh 0)])), (a_sh 0, .inr (3, [.ref (a_sh 1), .ref (a_sh 2), .ref (a_sh 3), .ref (a_sh 4), .ref (a_sh 5), .ref (a_sh 6), .ref (a_sh 7), .ref (a_ck 0), .int sh.2.2.2.2.2.2.2.1, .int sh.2.2.2.2.2.2.2.2])), (a_sh 1, .inl (kA 0, 40, .inl sh.1)), (a_sh 2, .inl (kA 0, 40, .inl sh.2.1)), (a_sh 3, .inl (kA 0, 80, .inl sh.2.2.1)), (a_sh 4, .inl (kA 0, 120, .inl sh.2.2.2.1)), (a_sh 5, .inl (kA 0, 120, .inl sh.2.2.2.2.1)), (a_sh 6, .inl (kA 2, 120, .inr (.inl sh.2.2.2.2.2.1))), (a_sh 7, .inl (kA 1, 1240, .inl sh.2.2.2.2.2.2.1)), (a_tp 0, .inr (4, [.ref (a_tp 1), .int tp.2])), (a_tp 1, .inl (kA 1, 1200, .inl tp.1)), (a_ck 0, .inr (0, [.ref (a_ck 1), .ref (a_ck 2), .ref (a_ck 3), .ref (a_ck 4), .ref (a_ck 5), .ref (a_ck 6), .ref (a_ck 7), .ref (a_ck 8), .ref (a_ck 9), .ref (a_ck 10), .ref (a_ck 11), .int ck.2.2.2.2.2.2.2.2.2.2.2])), (a_ck 1, .inl (kA 0, 12, .inl ck.1)), (a_ck 2, .inl (kA 0, 12, .inl ck.2.1)), (a_ck 3, .inl (kA 3, 12, .inl ck.2.2.1)), (a_ck 4, .inl (kA 0, 12, .inl ck.2.2.2.1)), (a_ck 5, .inl (kA 0, 12, .inl ck.2.2.2.2.1)), (a_ck 6, .inl (kA 2, 12, .inr (.inl ck.2.2.2.2.2.1))), (a_ck 7, .inl (kA 2, 12, .inr (.inl ck.2.2.2.2.2.2.1))), (a_ck 8, .inl (kA 2, 12, .inr (.inl ck.2.2.2.2.2.2.2.1))), (a_ck 9, .inl (kA 2, 12, .inr (.inl ck.2.2.2.2.2.2.2.2.1))), (a_ck 10, .inl (kA 3, 12, .inl ck.2.2.2.2.2.2.2.2.2.1)), (a_ck 11, .inl (kA 3, 12, .inl ck.2.2.2.2.2.2.2.2.2.2.1)), (a_o 1, .inl (kA 2, 1, .inr (.inl res.2)))] := by
  refine Lw.of (by decide) (Nat.le_of_ble_eq_true rfl) ?_
  intro p e s m args below meth c A hF hex hP hD hS hA hK ls hl
  obtain ⟨hx, hb, hml, hown, hr, hk, hts, hN⟩ := hF
  have hl : lv_has ls 4 [(0, .ref (a_ct 0)), (1, .int p1), (2, .ref (a_o 1))] := hl
  unfold fL_count at h
  refine lv_aload_n hx hb dL_count_0 rfl (lv_at hl 2 rfl) ?_
  refine lv_iconst (v := 0) hx hb dL_count_1 (by decide) ?_
  refine lv_aload_n hx hb dL_count_2 rfl (lv_at hl 0 rfl) ?_
  refine lv_iload_n hx hb dL_count_3 rfl (lv_at hl 1 rfl) ?_
  obtain ⟨u, hc, h⟩ := bnd_some h
  cases u with
  | none =>
    have h : some ((1 : Int32), ot) = some res := h
    obtain rfl := Option.some.inj h
    refine tx_V (wr := [(a_o 1, .inl (kA 2, 1, .inr (.inl ot)))]) (n := 1) (As := [.int p1]) (rest := [.int 0, .ref (a_o 1)]) hx hb hml hown hts hN hS hK hP hD hA (c5_count l hl9 D kA a_ct a_sh a_tp a_ck a_pn a_rd p1 sh tp ck none hc) [0, 1, 2, 3, 4, 5, 6, 7, 8, 9, 10, 11, 12, 13, 14, 15, 16, 17, 18, 19, 20, 21, 22] [23] rfl (by decide) rfl (by decide) (by decide) 0 5 rfl rfl rfl tw_839 tw_840 tw_841 tw_74 tw_842 rfl rfl (by decide) ⟨Nat.le_of_ble_eq_true rfl, Nat.le_of_ble_eq_true rfl⟩ rfl hl.1 rfl (Nat.le_of_ble_eq_true rfl) dL_count_4 ⟨Nat.le_of_ble_eq_true rfl, Nat.le_of_ble_eq_true rfl⟩ ?_ ?_
    · intro hres ce q9 H locs hP hD hS hcell hv hcl
      refine vx_catch (own := "ConstraintTextLaw") (name := ioob) (E := ioob) hown [] ⟨0, 9, 12, 13⟩ [] hex (fun z hz => by cases hz) (by decide) (by decide) (hts _ tw_607) (va_Nw.use rfl (hN.1 _ nw_615)) hcell hv hcl ?_
      refine lv_astore_n (lv' := [(3, .ref q9), (0, .ref (a_ct 0)), (1, .int p1), (2, .ref (a_o 1))]) hx hb dL_count_12 rfl hl (by decide) rfl (fun ls hl => ?_)
      refine lv_iconst (v := 1) hx hb dL_count_13 (by decide) ?_
      exact lw_ireturn hx hb hr hk dL_count_14 (hP.sub [1, 2, 3, 4, 5, 6, 7, 8, 9, 10, 11, 12, 13, 14, 15, 16, 17, 18, 19, 20, 21, 22, 23, 0] rfl) (hD.sub [1, 2, 3, 4, 5, 6, 7, 8, 9, 10, 11, 12, 13, 14, 15, 16, 17, 18, 19, 20, 21, 22, 23, 0] (by decide) rfl) hS
    · intro r w1 hres; cases hres
  | some r =>
    refine tx_V (wr := [(a_o 1, .inl (kA 2, 1, .inr (.inl ot)))]) (n := 1) (As := [.int p1]) (rest := [.int 0, .ref (a_o 1)]) hx hb hml hown hts hN hS hK hP hD hA (c5_count l hl9 D kA a_ct a_sh a_tp a_ck a_pn a_rd p1 sh tp ck (some r) hc) [0, 1, 2, 3, 4, 5, 6, 7, 8, 9, 10, 11, 12, 13, 14, 15, 16, 17, 18, 19, 20, 21, 22] [23] rfl (by decide) rfl (by decide) (by decide) 0 5 rfl rfl rfl tw_839 tw_840 tw_841 tw_74 tw_842 rfl rfl (by decide) ⟨Nat.le_of_ble_eq_true rfl, Nat.le_of_ble_eq_true rfl⟩ rfl hl.1 rfl (Nat.le_of_ble_eq_true rfl) dL_count_4 ⟨Nat.le_of_ble_eq_true rfl, Nat.le_of_ble_eq_true rfl⟩ ?_ ?_
    · intro hres; cases hres
    · intro r9 w9 hres H locs hP hD hS
      obtain ⟨rfl, rfl⟩ := Prod.mk.inj (Option.some.inj hres)
      have hP : va_P D vwCl [(a_o 1, .inl (kA 2, 1, .inr (.inl ot))), (a_ct 0, .inr (5, [.ref (a_tp 0), .ref (a_pn 0), .ref (a_rd 0), .ref (a_sh 0)])), (a_sh 0, .inr (3, [.ref (a_sh 1), .ref (a_sh 2), .ref (a_sh 3), .ref (a_sh 4), .ref (a_sh 5), .ref (a_sh 6), .ref (a_sh 7), .ref (a_ck 0), .int sh.2.2.2.2.2.2.2.1, .int sh.2.2.2.2.2.2.2.2])), (a_sh 1, .inl (kA 0, 40, .inl sh.1)), (a_sh 2, .inl (kA 0, 40, .inl sh.2.1)), (a_sh 3, .inl (kA 0, 80, .inl sh.2.2.1)), (a_sh 4, .inl (kA 0, 120, .inl sh.2.2.2.1)), (a_sh 5, .inl (kA 0, 120, .inl sh.2.2.2.2.1)), (a_sh 6, .inl (kA 2, 120, .inr (.inl sh.2.2.2.2.2.1))), (a_sh 7, .inl (kA 1, 1240, .inl sh.2.2.2.2.2.2.1)), (a_tp 0, .inr (4, [.ref (a_tp 1), .int tp.2])), (a_tp 1, .inl (kA 1, 1200, .inl tp.1)), (a_ck 0, .inr (0, [.ref (a_ck 1), .ref (a_ck 2), .ref (a_ck 3), .ref (a_ck 4), .ref (a_ck 5), .ref (a_ck 6), .ref (a_ck 7), .ref (a_ck 8), .ref (a_ck 9), .ref (a_ck 10), .ref (a_ck 11), .int ck.2.2.2.2.2.2.2.2.2.2.2])), (a_ck 1, .inl (kA 0, 12, .inl ck.1)), (a_ck 2, .inl (kA 0, 12, .inl ck.2.1)), (a_ck 3, .inl (kA 3, 12, .inl ck.2.2.1)), (a_ck 4, .inl (kA 0, 12, .inl ck.2.2.2.1)), (a_ck 5, .inl (kA 0, 12, .inl ck.2.2.2.2.1)), (a_ck 6, .inl (kA 2, 12, .inr (.inl ck.2.2.2.2.2.1))), (a_ck 7, .inl (kA 2, 12, .inr (.inl ck.2.2.2.2.2.2.1))), (a_ck 8, .inl (kA 2, 12, .inr (.inl ck.2.2.2.2.2.2.2.1))), (a_ck 9, .inl (kA 2, 12, .inr (.inl ck.2.2.2.2.2.2.2.2.1))), (a_ck 10, .inl (kA 3, 12, .inl ck.2.2.2.2.2.2.2.2.2.1)), (a_ck 11, .inl (kA 3, 12, .inl ck.2.2.2.2.2.2.2.2.2.2.1))] H := hP
      have hD : va_D A [(a_o 1, .inl (kA 2, 1, .inr (.inl ot))), (a_ct 0, .inr (5, [.ref (a_tp 0), .ref (a_pn 0), .ref (a_rd 0), .ref (a_sh 0)])), (a_sh 0, .inr (3, [.ref (a_sh 1), .ref (a_sh 2), .ref (a_sh 3), .ref (a_sh 4), .ref (a_sh 5), .ref (a_sh 6), .ref (a_sh 7), .ref (a_ck 0), .int sh.2.2.2.2.2.2.2.1, .int sh.2.2.2.2.2.2.2.2])), (a_sh 1, .inl (kA 0, 40, .inl sh.1)), (a_sh 2, .inl (kA 0, 40, .inl sh.2.1)), (a_sh 3, .inl (kA 0, 80, .inl sh.2.2.1)), (a_sh 4, .inl (kA 0, 120, .inl sh.2.2.2.1)), (a_sh 5, .inl (kA 0, 120, .inl sh.2.2.2.2.1)), (a_sh 6, .inl (kA 2, 120, .inr (.inl sh.2.2.2.2.2.1))), (a_sh 7, .inl (kA 1, 1240, .inl sh.2.2.2.2.2.2.1)), (a_tp 0, .inr (4, [.ref (a_tp 1), .int tp.2])), (a_tp 1, .inl (kA 1, 1200, .inl tp.1)), (a_ck 0, .inr (0, [.ref (a_ck 1), .ref (a_ck 2), .ref (a_ck 3), .ref (a_ck 4), .ref (a_ck 5), .ref (a_ck 6), .ref (a_ck 7), .ref (a_ck 8), .ref (a_ck 9), .ref (a_ck 10), .ref (a_ck 11), .int ck.2.2.2.2.2.2.2.2.2.2.2])), (a_ck 1, .inl (kA 0, 12, .inl ck.1)), (a_ck 2, .inl (kA 0, 12, .inl ck.2.1)), (a_ck 3, .inl (kA 3, 12, .inl ck.2.2.1)), (a_ck 4, .inl (kA 0, 12, .inl ck.2.2.2.1)), (a_ck 5, .inl (kA 0, 12, .inl ck.2.2.2.2.1)), (a_ck 6, .inl (kA 2, 12, .inr (.inl ck.2.2.2.2.2.1))), (a_ck 7, .inl (kA 2, 12, .inr (.inl ck.2.2.2.2.2.2.1))), (a_ck 8, .inl (kA 2, 12, .inr (.inl ck.2.2.2.2.2.2.2.1))), (a_ck 9, .inl (kA 2, 12, .inr (.inl ck.2.2.2.2.2.2.2.2.1))), (a_ck 10, .inl (kA 3, 12, .inl ck.2.2.2.2.2.2.2.2.2.1)), (a_ck 11, .inl (kA 3, 12, .inl ck.2.2.2.2.2.2.2.2.2.2.1))] := hD
      refine lv_i2l (v := r.toInt64) hx hb dL_count_7 rfl ?_
      have h : some ((0 : Int32), (vp_updL ot 0 r.toInt64)) = some res := h
      refine va_last hx hb hK hP hD hS 0 2 rfl rfl (inb_in (by decide)) dL_count_8 (fun H locs hP hD hS => ?_)
      refine lv_goto (tgt := 15) hx hb dL_count_9 (by decide) ?_
      obtain rfl := Option.some.inj h
      refine lv_iconst (v := 0) hx hb dL_count_15 (by decide) ?_
      exact lw_ireturn hx hb hr hk dL_count_16 (hP.sub [1, 2, 3, 4, 5, 6, 7, 8, 9, 10, 11, 12, 13, 14, 15, 16, 17, 18, 19, 20, 21, 22, 23, 0] rfl) (hD.sub [1, 2, 3, 4, 5, 6, 7, 8, 9, 10, 11, 12, 13, 14, 15, 16, 17, 18, 19, 20, 21, 22, 23, 0] (by decide) rfl) hS
