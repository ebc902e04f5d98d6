/-! ===== contracts of methods that take or give a literal (Rs); static calls that write ===== -/
def rsC (ro : Option Value) : Array Value → State → Outcome → State → Prop := fun _ st o t => o = .returned ro ∧ t.heap = st.heap
def rsP (adK adV : Nat → Nat) (D : va_G) (kA : Nat → ClassId) (av : List Value) (wc : va_W) : Array Value → State → Prop := va_Pc av (fun U => NW U ∧ ZS adK adV (fun _ => False) U U.heap ∧ va_P D vwCl wc U.heap ∧ va_K D vwCl (tyA kA) U)
def Rs (l : Launch) (y : MethodName) (cc : ByteArray) (maxL : Nat) (ret : Option FieldType) (rm : Room) (adK adV : Nat → Nat) (D : va_G) (kA : Nat → ClassId) (av : List Value) (wc : va_W) (ro : Option Value) : Prop :=
  Met l y (wsM y cc maxL ret) rm (rsP adK adV D kA av wc) (rsC ro) 0 0 (fun _ => False)
def rsQ (below : List Frame) (ro : Option Value) (args : Array Value) (s : State) : State → Prop := MQ below (rsC ro) args s 0 0 (fun _ => False)
theorem Rs.of {l : Launch} {y : MethodName} {cc : ByteArray} {maxL : Nat} {ret : Option FieldType} {rm : Room} {adK adV : Nat → Nat} {D : va_G} {kA : Nat → ClassId} {av : List Value} {wc : va_W} {ro : Option Value} (hy : plainName y.cls = true) (hav : (lg_sl av).length ≤ maxL)
    (body : ∀ p e s m args below meth c, Fx p s m args meth c y.cls cc maxL ret (fun _ => False) → ZS adK adV (fun _ => False) s s.heap → va_P D vwCl wc s.heap → va_K D vwCl (tyA kA) s → ∀ ls, lv_has ls maxL (lv_args 0 av) → W p l e rm s m args below meth c s.heap [] 0 0 (rsQ below ro args s) (F0 m 0 ls [])) : Rs l y cc maxL ret rm adK adV D kA av wc ro := by
  refine Met.ofW (cc := cc) (maxL := maxL) (ret := ret) hy rfl ?_
  intro p e s m args below meth c s₁ B hml hv
  obtain ⟨rfl, hN, hZ, hP, hK⟩ := hv
  have hts := atoms_spec (ws := wsM y cc maxL ret) B.pre
  have hl := lv_entry av (n := maxL) hav
  rw [lg_entry_eq]
  exact body p e s m _ below meth c ⟨B.exec, B.bytes, hml, findClass_of_methodNamed B.named, B.returns, B.notSynchronized, fun w h => hts w (List.mem_cons_of_mem _ h), hN, adK, adV, hZ⟩ hZ hP hK _ hl
section RsRows
variable {p : Program} {l : Launch} {e : Env} {R : Room} {s : State} {m : MethodId} {args : Array Value} {below : List Frame} {meth : Method} {c : Code} {H : Heap} {locs : List Loc} {cells slots : Nat} {Q : State → Prop}
variable {cc bytes : ByteArray} {pc nL maxL index n : Nat} {ls : Array Slot} {rest st0 As : List Value} {adK adV : Nat → Nat} {D : va_G} {kA : Nat → ClassId} {A : Nat → Prop} {wb wc wr w1 : va_W} {own C host : String} {y : MethodName} {ret : Option FieldType} {rm : Room} {b : Addr} {ro : Option Value}
theorem rs_ireturn {v : Int32} (hx : p.tables.exec = Jvm.exec) (hb : c.code = cc) (hr : meth.sig.returnType = some .int) (hk : meth.locks = false) (hdg : decode cc pc = .ok (.ireturn, 1)) : W p l e R s m args below meth c s.heap [] 0 0 (rsQ below (some (.int v)) args s) (F0 m pc ls [.int v]) :=
  W.iret hx hb hr (fun t ht hW => ⟨rfl, ht⟩) (fun q h => by cases h) hdg hk
theorem rs_zreturn {v : Int32} {ty : FieldType} (hx : p.tables.exec = Jvm.exec) (hb : c.code = cc) (hr : meth.sig.returnType = some ty) (hk : meth.locks = false) (hn : narrow ty (.int v) = .int v) (hdg : decode cc pc = .ok (.ireturn, 1)) : W p l e R s m args below meth c s.heap [] 0 0 (rsQ below (some (.int v)) args s) (F0 m pc ls [.int v]) :=
  W.zret hx hb hr hn (fun t ht hW => ⟨rfl, ht⟩) (fun q h => by cases h) hdg hk
theorem rs_return (hx : p.tables.exec = Jvm.exec) (hb : c.code = cc) (hr : meth.sig.returnType = none) (hk : meth.locks = false) (hdg : decode cc pc = .ok (.return_, 1)) : W p l e R s m args below meth c s.heap [] 0 0 (rsQ below none args s) (F0 m pc ls []) :=
  W.vret hx hb hr (fun t ht hW => ⟨rfl, ht⟩) (fun q h => by cases h) hdg hk
theorem rs_areturn {a : Nat} {rt : String} (hx : p.tables.exec = Jvm.exec) (hb : c.code = cc) (hr : meth.sig.returnType = some (.object rt)) (hk : meth.locks = false) (hdg : decode cc pc = .ok (.areturn, 1)) : W p l e R s m args below meth c s.heap [] 0 0 (rsQ below (some (.ref a)) args s) (F0 m pc ls [.ref a]) :=
  W.aret hx hb hr (Or.inl ⟨_, rfl⟩) (Or.inr ⟨_, rfl⟩) (fun t ht hW => ⟨rfl, ht⟩) (fun q h => by cases h) hdg hk
theorem rs_run {a : Array Value} (hr : va_Run p l e R s m args below meth c H locs cells slots 0 0 (F0 m pc ls st0) rest (rsC ro a) (fun _ => False)) (kk : W p l e R s m args below meth c H locs cells slots Q (F0 m (pc + 3) ls (ro.toList ++ rest))) : W p l e R s m args below meth c H locs cells slots Q (F0 m pc ls st0) := by
  intro T hT X
  obtain ⟨v, st₀, t, T', L, h0, X', hL, e1, e2, ⟨hv, hh⟩, st⟩ := hr T hT X
  cases hv
  obtain ⟨t2, a1, b1⟩ := kk T' (by rw [e1, hh, h0]) (Stand.forget X' (fun q h => (hL q h).elim))
  exact ⟨t2, st t2 a1, b1⟩
theorem rsP_blind {av : List Value} : FrameBlind (rsP adK adV D kA av wc) := fun a U g mk q => by
  obtain ⟨q0, q1, q2, q3, q4⟩ := q
  exact ⟨q0, q1.calling, q2.calling, q3, va_K.moved (u := U) (U := U.calling g mk a) (Vm.Alike.refl U.vm) q4⟩
theorem rs_V (hx : p.tables.exec = Jvm.exec) (hb : c.code = cc) (hml : c.maxLocals = nL) (hown : s.vm.findClass own = some m.cls) (hts : ∀ w ∈ gtb, w.before args s = true) (hN : NZ A s s.heap) (hZ : ZS adK adV A s s.heap) (hS : va_S A s.heap H locs) (hK : va_K D vwCl (tyA kA) s) (hP : va_P D vwCl wb H)
    (hM : Rs l y bytes maxL ret rm adK adV D kA (.ref b :: As) wc ro) (isC : List Nat) (hC : isC.filterMap (fun i => wb[i]?) = wc) (hrec : ∃ cell : Cell, H[b]? = some cell ∧ cell.vm.isStatics = false ∧ s.vm.findClass y.cls = some cell.cls)
    (w1 : Cond.methodLink own index y ∈ gtb) (w2 : Cond.instanceMethod y ∈ gtb) (w3 : Cond.selects y.cls y y ∈ gtb) (w4 : Cond.initialized y.cls ∈ gtb) (w5 : Cond.code y bytes maxL ret ∈ gtb) (hrc : rm.cells = 0) (hrs : rm.slots = 0)
    (hd : (y.cls ≠ "java/lang/invoke/MethodHandle" ∧ y.cls ≠ "java/lang/invoke/VarHandle" ∧ (parseMethodDescriptor y.desc).map (fun d => d.parameters.length) = some n)) (hR : rm.frames + 1 ≤ R.frames ∧ 8 + (maxL + 11) + rm.locals ≤ R.locals)
    (hn : As.length = n) (hsize : ls.size = nL) (hst : st0 = As.reverse ++ .ref b :: rest) (hW : (rest.map fun v => v.category).sum ≤ 8) (hdg : decode cc pc = .ok (.invokevirtual index, 3)) (hcs : cells ≤ R.cells ∧ slots ≤ R.slots)
    (kk : W p l e R s m args below meth c H locs cells slots Q (F0 m (pc + 3) ls (ro.toList ++ rest))) : W p l e R s m args below meth c H locs cells slots Q (F0 m pc ls st0) := by
  refine rs_run (va_runV (C := y.cls) (As := As) (rest := rest) ⟨hx, hb, hml, hown, hts⟩ hM ⟨cb_of hts w5 w4 w1 hrc hrs hd hR, hts _ w2, hts _ w3⟩ ⟨rsP_blind, hrec, ?_⟩ rfl hn hsize hst (lv_room hW) hdg hcs) kk
  intro U hU hW
  exact ⟨rfl, hN.1.warm hW, by rw [hU]; exact hZ.step hW hS.2.1 (fun q h => h.elim), by rw [hU]; exact hP.sub isC hC, va_K.moved hW.alike hK⟩
theorem rs_S (hx : p.tables.exec = Jvm.exec) (hb : c.code = cc) (hml : c.maxLocals = nL) (hown : s.vm.findClass own = some m.cls) (hts : ∀ w ∈ gtb, w.before args s = true) (hN : NZ A s s.heap) (hZ : ZS adK adV A s s.heap) (hS : va_S A s.heap H locs) (hK : va_K D vwCl (tyA kA) s) (hP : va_P D vwCl wb H)
    (hM : Rs l y bytes maxL ret rm adK adV D kA As wc ro) (isC : List Nat) (hC : isC.filterMap (fun i => wb[i]?) = wc)
    (w1 : Cond.methodLink own index y ∈ gtb) (w2 : Cond.static y ∈ gtb) (w4 : Cond.initialized y.cls ∈ gtb) (w5 : Cond.code y bytes maxL ret ∈ gtb) (hrc : rm.cells = 0) (hrs : rm.slots = 0)
    (hd : (y.cls ≠ "java/lang/invoke/MethodHandle" ∧ y.cls ≠ "java/lang/invoke/VarHandle" ∧ (parseMethodDescriptor y.desc).map (fun d => d.parameters.length) = some n)) (hR : rm.frames + 1 ≤ R.frames ∧ 8 + (maxL + 11) + rm.locals ≤ R.locals)
    (hn : As.length = n) (hsize : ls.size = nL) (hst : st0 = As.reverse ++ rest) (hW : (rest.map fun v => v.category).sum ≤ 8) (hdg : decode cc pc = .ok (.invokestatic index, 3)) (hcs : cells ≤ R.cells ∧ slots ≤ R.slots)
    (kk : W p l e R s m args below meth c H locs cells slots Q (F0 m (pc + 3) ls (ro.toList ++ rest))) : W p l e R s m args below meth c H locs cells slots Q (F0 m pc ls st0) := by
  refine rs_run (va_runS (As := As) (rest := rest) ⟨hx, hb, hml, hown, hts⟩ hM ⟨cb_of hts w5 w4 w1 hrc hrs hd hR, hts _ w2⟩ ⟨rsP_blind, ?_⟩ rfl hn hsize hst (lv_room hW) hdg hcs) kk
  intro U hU hW
  exact ⟨rfl, hN.1.warm hW, by rw [hU]; exact hZ.step hW hS.2.1 (fun q h => h.elim), by rw [hU]; exact hP.sub isC hC, va_K.moved hW.alike hK⟩
theorem rs_SN (hx : p.tables.exec = Jvm.exec) (hb : c.code = cc) (hml : c.maxLocals = nL) (hown : s.vm.findClass own = some m.cls) (hts : ∀ w ∈ gtb, w.before args s = true) (hN : NZ A s s.heap) (hZ : ZS adK adV A s s.heap) (hS : va_S A s.heap H locs) (hK : va_K D vwCl (tyA kA) s) (hP : va_P D vwCl wb H)
    (hM : Rs l y bytes maxL ret rm adK adV D kA As wc ro) (isC : List Nat) (hC : isC.filterMap (fun i => wb[i]?) = wc)
    (w1 : Cond.methodLinkNest own index y host ∈ nws) (w2 : Cond.static y ∈ gtb) (w4 : Cond.initialized y.cls ∈ gtb) (w5 : Cond.code y bytes maxL ret ∈ gtb) (hrc : rm.cells = 0) (hrs : rm.slots = 0)
    (hd : (y.cls ≠ "java/lang/invoke/MethodHandle" ∧ y.cls ≠ "java/lang/invoke/VarHandle" ∧ (parseMethodDescriptor y.desc).map (fun d => d.parameters.length) = some n)) (hR : rm.frames + 1 ≤ R.frames ∧ 8 + (maxL + 11) + rm.locals ≤ R.locals)
    (hn : As.length = n) (hsize : ls.size = nL) (hst : st0 = As.reverse ++ rest) (hW : (rest.map fun v => v.category).sum ≤ 8) (hdg : decode cc pc = .ok (.invokestatic index, 3)) (hcs : cells ≤ R.cells ∧ slots ≤ R.slots)
    (kk : W p l e R s m args below meth c H locs cells slots Q (F0 m (pc + 3) ls (ro.toList ++ rest))) : W p l e R s m args below meth c H locs cells slots Q (F0 m pc ls st0) := by
  refine rs_run (va_runSN (host := host) (As := As) (rest := rest) ⟨hx, hb, hml, hown, hts⟩ hM ⟨va_cnB n hts (gi_M w5) rfl hrc hrs (hN.1 _ w1) (hts _ w4) hd hR, hts _ w2, trivial⟩ ⟨rsP_blind, ?_⟩ rfl hn hsize hst (lv_room hW) hdg hcs) kk
  intro U hU hW
  exact ⟨rfl, hN.1.warm hW, by rw [hU]; exact hZ.step hW hS.2.1 (fun q h => h.elim), by rw [hU]; exact hP.sub isC hC, va_K.moved hW.alike hK⟩
theorem va_P.cut {isC : List Nat} (hP : va_P D vwCl wb H) (hC : isC.map (fun i => wb[i]?) = wc.map some) : va_P D vwCl wc H := fun k q hk => by
  have h1 : (isC.map (fun i => wb[i]?))[k]? = some (some q) := by rw [hC, List.getElem?_map, hk]; rfl
  rw [List.getElem?_map] at h1
  cases hi : isC[k]? with
  | none => rw [hi] at h1; cases h1
  | some i => rw [hi] at h1; exact hP i q (Option.some.inj h1)
/-- a static call that writes -/
theorem rw_S (hx : p.tables.exec = Jvm.exec) (hb : c.code = cc) (hml : c.maxLocals = nL) (hown : s.vm.findClass own = some m.cls) (hts : ∀ w ∈ gtb, w.before args s = true) (hN : NZ A s s.heap) (hS : va_S A s.heap H locs) (hK : va_K D vwCl (tyA kA) s) (hP : va_P D vwCl wb H) (hD : va_D A wb) (hA : ∀ q, s.heap.size ≤ q → A q)
    (hM : Rw l y bytes maxL ret rm D kA As wc ro w1) (isC isR : List Nat) (hC : isC.map (fun i => wb[i]?) = wc.map some) (hCn : va_nd isC = true) (hR9 : isR.map (fun i => wb[i]?) = wr.map some) (hRn : va_nd isR = true) (hdis : ∀ i ∈ isR, i ∉ isC)
    (v1 : Cond.methodLink own index y ∈ gtb) (v2 : Cond.static y ∈ gtb) (v4 : Cond.initialized y.cls ∈ gtb) (v5 : Cond.code y bytes maxL ret ∈ gtb) (hrc : rm.cells = 0) (hrs : rm.slots = 0)
    (hd : (y.cls ≠ "java/lang/invoke/MethodHandle" ∧ y.cls ≠ "java/lang/invoke/VarHandle" ∧ (parseMethodDescriptor y.desc).map (fun d => d.parameters.length) = some n)) (hR : rm.frames + 1 ≤ R.frames ∧ 8 + (maxL + 11) + rm.locals ≤ R.locals)
    (hn : As.length = n) (hsize : ls.size = nL) (hst : st0 = As.reverse ++ rest) (hW : (rest.map fun v => v.category).sum ≤ 8) (hdg : decode cc pc = .ok (.invokestatic index, 3)) (hcs : cells ≤ R.cells ∧ slots ≤ R.slots)
    (kk : ∀ (H1 : Heap) (locs1 : List Loc), va_P D vwCl (wr ++ w1) H1 → va_D A (wr ++ w1) → va_S A s.heap H1 locs1 → W p l e R s m args below meth c H1 locs1 cells slots Q (F0 m (pc + 3) ls (ro.toList ++ rest))) : W p l e R s m args below meth c H locs cells slots Q (F0 m pc ls st0) := by
  refine rw_run isC isR (va_runS (As := As) (rest := rest) ⟨hx, hb, hml, hown, hts⟩ (hM H.size) ⟨cb_of hts v5 v4 v1 hrc hrs hd hR, hts _ v2⟩ ⟨rwP_blind, ?_⟩ rfl hn hsize hst (lv_room hW) hdg hcs) hP hD hS hA hC hR9 hRn hdis kk
  intro U hU hW
  exact ⟨rfl, by rw [hU], by rw [hU]; exact hN.step hW hS (va_free (wc := wc) hD hS hA isC hC), by rw [hU]; exact hP.cut hC, va_K.moved hW.alike hK, (hD.sub isC hCn hC).weaken (fun _ _ _ _ => trivial)⟩
theorem rw_areturn {a : Nat} {rt : String} (hx : p.tables.exec = Jvm.exec) (hb : c.code = cc) (hr : meth.sig.returnType = some (.object rt)) (hk : meth.locks = false) (hdg : decode cc pc = .ok (.areturn, 1)) (hP : va_P D vwCl w1 H) (hD : va_D A w1) (hS : va_S A s.heap H locs) : W p l e R s m args below meth c H locs 0 0 (rwQ below D A (some (.ref a)) w1 args s) (F0 m pc ls [.ref a]) :=
  W.aret hx hb hr (Or.inl ⟨_, rfl⟩) (Or.inr ⟨_, rfl⟩) (fun t ht hW => ⟨⟨rfl, by rw [ht]; exact hP, hD⟩, hS.F ht⟩) hS.2.2 hdg hk
end RsRows
/-! ===== the JDK's own members ===== -/
/-- Arrays.fill(int[], int) -/
abbrev rmJ0 : Room := { frames := 0, cells := 0, slots := 0, locals := 0 }
set_option maxHeartbeats 4000000 in
set_option maxRecDepth 100000 in
theorem cJ7_fill (l : Launch) (D : va_G) (kA : Nat → ClassId) (a n : Nat) (hn : n < 2 ^ 31) (f : Nat → Int32) (v : Int32) : Rw l yJ7_fill_53178 cJ7_fill_53178 4 none rmJ0 D kA [.ref a, .int v] [(a, .inl (kA 0, n, .inl f))] none [(a, .inl (kA 0, n, .inl (fillA f n v)))] := by
  refine Rw.of (by decide) (Nat.le_of_ble_eq_true rfl) ?_
  intro p e s m args below meth c A hF hP hD hS hA hK ls hl
  generalize hQ : rwQ below D A _ _ args s = Q
  obtain ⟨hx, hb, hml, hown, hr, hk, hts, hN⟩ := hF
  have hl : lv_has ls 4 [(0, .ref a), (1, .int v)] := hl
  refine lv_iconst (v := 0) hx hb dJ7_fill_53178_0 (by decide) ?_
  refine lv_istore_n (lv' := [(2, .int 0), (0, .ref a), (1, .int v)]) hx hb dJ7_fill_53178_1 rfl hl (by decide) rfl (fun ls hl => ?_)
  refine lv_aload_n hx hb dJ7_fill_53178_2 rfl (lv_at hl 1 rfl) ?_
  refine va_alen (v := nI n) hx hb hK hP 0 0 rfl rfl rfl dJ7_fill_53178_3 ?_
  refine lv_istore_n (lv' := [(3, .int (nI n)), (2, .int 0), (0, .ref a), (1, .int v)]) hx hb dJ7_fill_53178_4 rfl hl (by decide) rfl (fun ls hl => ?_)
  have lp : ∀ (k i : Nat) (g : Nat → Int32) (H : Heap) (locs : List Loc) (ls : Array Slot), i + k = n → g = fillA f i v → va_P D vwCl [(a, .inl (kA 0, n, .inl g))] H → va_D A [(a, .inl (kA 0, n, .inl g))] → va_S A s.heap H locs → lv_has ls 4 [(2, .int (nI i)), (3, .int (nI n)), (0, .ref a), (1, .int v)] → W p l e rmJ0 s m args below meth c H locs 0 0 Q (F0 m 5 ls []) := by
    intro k
    induction k with
    | zero =>
      intro i g H locs ls hi hg hP hD hS hl
      have hi : i = n := by omega
      subst hi
      subst hg
      refine lv_iload_n hx hb dJ7_fill_53178_5 rfl (lv_at hl 0 rfl) ?_
      refine lv_iload_n hx hb dJ7_fill_53178_6 rfl (lv_at hl 1 rfl) ?_
      refine lv_icmp_ge (tgt := 20) hx hb dJ7_fill_53178_7 (by decide) (fun bc => ?_) (fun bc => absurd (nI_le (Nat.le_refl i) hn) bc)
      rw [← hQ]
      exact rw_return hx hb hr hk dJ7_fill_53178_20 hP hD hS
    | succ k ih =>
      intro i g H locs ls hi hg hP hD hS hl
      refine lv_iload_n hx hb dJ7_fill_53178_5 rfl (lv_at hl 0 rfl) ?_
      refine lv_iload_n hx hb dJ7_fill_53178_6 rfl (lv_at hl 1 rfl) ?_
      refine lv_icmp_ge (tgt := 20) hx hb dJ7_fill_53178_7 (by decide) (fun bc => absurd bc (nI_ge (by omega) hn)) (fun bc => ?_)
      refine lv_aload_n hx hb dJ7_fill_53178_10 rfl (lv_at hl 2 rfl) ?_
      refine lv_iload_n hx hb dJ7_fill_53178_11 rfl (lv_at hl 0 rfl) ?_
      refine lv_iload_n hx hb dJ7_fill_53178_12 rfl (lv_at hl 3 rfl) ?_
      refine va_iast hx hb hK hP hD hS 0 0 rfl rfl (vp_in_nI (by omega) hn) dJ7_fill_53178_13 (fun H locs hP hD hS => ?_)
      refine lv_iinc (v := nI (i + 1)) (lv' := [(2, .int (nI (i + 1))), (3, .int (nI n)), (0, .ref a), (1, .int v)]) hx hb dJ7_fill_53178_14 hl (k := 0) rfl (nI_1 i) (by decide) rfl (fun ls hl => ?_)
      refine lv_goto (tgt := 5) hx hb dJ7_fill_53178_17 (by decide) ?_
      refine ih (i + 1) _ _ _ _ (by omega) ?_ hP hD hS hl
      rw [hg, nI_clamp (by omega)]
      funext j
      simp only [upd, fillA]
      by_cases h1 : j = i
      · subst h1; simp
      · by_cases h2 : j < i
        · rw [if_neg h1, if_pos h2, if_pos (by omega)]
        · rw [if_neg h1, if_neg h2, if_neg (by omega)]
  refine lp n 0 f _ _ _ (by omega) ?_ hP hD hS (lv_sub hl [1, 0, 2, 3] rfl)
  funext j
  simp [fillA]
