/-! ===== contracts: a method that reads (Ro), a method that writes its own cells (Rw) ===== -/
abbrev tyA (kA : Nat → ClassId) : List (ClassId × FieldType) := [(kA 0, .int), (kA 1, .char), (kA 2, .long), (kA 3, .boolean)]
def isNest : Cond → Bool
  | .fieldLinkNest .. => true
  | .methodLinkNest .. => true
  | .castable .. => true
  | .declares .. => true
  | _ => false
def nws : List Cond := lw_tbl.filter isNest
def NW (U : State) : Prop := ∀ w ∈ nws, va_Nw w U
theorem nw_of {w : Cond} (i : Nat) (h : lw_tbl[i]? = some w) (hg : isNest w = true) : w ∈ nws := List.mem_filter.mpr ⟨List.mem_of_getElem? h, hg⟩
theorem NW.warm {s U : State} (hW : s.WarmedH U.vm) (h : NW s) : NW U := by
  intro w hw
  have h1 := h w hw
  have h2 : isNest w = true := (List.mem_filter.mp hw).2
  cases w <;> first | exact va_Nw.warmF hW h1 | exact va_Nw.warmM hW h1 | exact va_Nw.warmC hW h1 | exact va_Nw.warmD hW h1 | exact absurd h2 (by simp [isNest])
theorem NW.calling {U : State} {g : JFrame} {mk : MethodId} {a : Array Value} (h : NW U) : NW (U.calling g mk a) := by
  intro w hw
  have h2 : isNest w = true := (List.mem_filter.mp hw).2
  refine va_Nw.same (u := U) ?_ rfl (h w hw)
  cases w <;> first | rfl | exact absurd h2 (by simp [isNest])
/-- what the old cells hold that nobody writes: the literals, and some statics of the JDK -/
def ZS (adK adV : Nat → Nat) (A : Nat → Prop) (U : State) (H : Heap) : Prop :=
  vk_S nJ lenJ bytJ adK adV A U H ∧ (∀ i : Nat, i < nJ → vk_R "ConstraintText" (idxJ.getD i 0) (txJ.getD i "") (adK i) U) ∧ va_Z "java/lang/String" "COMPACT_STRINGS" "Z" (.int 1) A U H ∧ va_Zq "jdk/internal/util/Preconditions" "SIOOBE_FORMATTER" "Ljava/util/function/BiFunction;" A U H ∧ vx_Zq Bundle.tN "UNASSIGNED_STACK" Bundle.steD A U H ∧ vx_Zq Bundle.tN "SUPPRESSED_SENTINEL" Bundle.listD A U H
theorem ZS.step {adK adV : Nat → Nat} {A B : Nat → Prop} {s U : State} {H : Heap} (hW : s.WarmedH U.vm) (hk : ∀ a : Nat, a < s.heap.size → ¬ A a → H[a]? = s.heap[a]?) (hB : ∀ q, B q → A q) (h : ZS adK adV A s s.heap) : ZS adK adV B U H := by
  obtain ⟨h1, h2, h3, h4, h5, h6⟩ := h
  exact ⟨((h1.kept hk).narrow hB).moved hW.alike, fun i hi => (h2 i hi).warm hW, ((h3.kept hk).narrow hB).moved hW.alike, ((h4.kept hk).narrow hB).moved hW.alike, ((h5.kept hk).narrow hB).moved hW.alike, ((h6.kept hk).narrow hB).moved hW.alike⟩
theorem ZS.calling {adK adV : Nat → Nat} {A : Nat → Prop} {U : State} {g : JFrame} {mk : MethodId} {a : Array Value} (h : ZS adK adV A U U.heap) : ZS adK adV A (U.calling g mk a) (U.calling g mk a).heap := by
  obtain ⟨h1, h2, h3, h4, h5, h6⟩ := h
  exact ⟨h1.moved (Vm.Alike.refl U.vm), fun i hi => vk_R.same rfl (h2 i hi), h3.moved (Vm.Alike.refl U.vm), h4.moved (Vm.Alike.refl U.vm), h5.moved (Vm.Alike.refl U.vm), h6.moved (Vm.Alike.refl U.vm)⟩
def NZ (A : Nat → Prop) (U : State) (H : Heap) : Prop := NW U ∧ ∃ adK adV, ZS adK adV A U H
theorem NZ.step {A B : Nat → Prop} {s U : State} {H : Heap} {locs : List Loc} (hW : s.WarmedH U.vm) (hS : va_S A s.heap H locs) (hB : ∀ q, B q → A q) (h : NZ A s s.heap) : NZ B U H := by
  obtain ⟨h1, adK, adV, h2⟩ := h
  exact ⟨h1.warm hW, adK, adV, h2.step hW hS.2.1 hB⟩
theorem NZ.calling {A : Nat → Prop} {U : State} {g : JFrame} {mk : MethodId} {a : Array Value} (h : NZ A U U.heap) : NZ A (U.calling g mk a) (U.calling g mk a).heap := by
  obtain ⟨h1, adK, adV, h2⟩ := h
  exact ⟨h1.calling, adK, adV, h2.calling⟩
abbrev wsM (y : MethodName) (cc : ByteArray) (maxL : Nat) (ret : Option FieldType) : List Cond := Cond.code y cc maxL ret :: gtb
theorem gi_M {y : MethodName} {cc : ByteArray} {maxL : Nat} {ret : Option FieldType} (hc : Cond.code y cc maxL ret ∈ gtb) : GoodIn gtb (wsM y cc maxL ret) := by
  intro w h
  rcases List.mem_cons.mp h with e | h
  · rw [e]; exact ⟨hc, good_of_word (gtb_good hc)⟩
  · exact ⟨h, good_of_word (gtb_good h)⟩
def roC (r : Value) : Array Value → State → Outcome → State → Prop := fun _ st o t => o = .returned (some r) ∧ t.heap = st.heap
def roP (D : va_G) (kA : Nat → ClassId) (av : List Value) (wc : va_W) : Array Value → State → Prop := va_Pc av (fun U => NZ (fun _ => False) U U.heap ∧ va_P D vwCl wc U.heap ∧ va_K D vwCl (tyA kA) U)
def Ro (l : Launch) (y : MethodName) (cc : ByteArray) (maxL : Nat) (ret : Option FieldType) (rm : Room) (D : va_G) (kA : Nat → ClassId) (av : List Value) (wc : va_W) (r : Value) : Prop :=
  Met l y (wsM y cc maxL ret) rm (roP D kA av wc) (roC r) 0 0 (fun _ => False)
def roQ (below : List Frame) (r : Value) (args : Array Value) (s : State) : State → Prop := MQ below (roC r) args s 0 0 (fun _ => False)
/-- what a body knows of its machine -/
def Fx (p : Program) (s : State) (m : MethodId) (args : Array Value) (meth : Method) (c : Code) (own : String) (cc : ByteArray) (nL : Nat) (ret : Option FieldType) (A : Nat → Prop) : Prop :=
  p.tables.exec = Jvm.exec ∧ c.code = cc ∧ c.maxLocals = nL ∧ s.vm.findClass own = some m.cls ∧ meth.sig.returnType = ret ∧ meth.locks = false ∧ (∀ w ∈ gtb, w.before args s = true) ∧ NZ A s s.heap
theorem Ro.of {l : Launch} {y : MethodName} {cc : ByteArray} {maxL : Nat} {ret : Option FieldType} {rm : Room} {D : va_G} {kA : Nat → ClassId} {av : List Value} {wc : va_W} {r : Value} (hy : plainName y.cls = true) (hav : (lg_sl av).length ≤ maxL)
    (body : ∀ p e s m args below meth c, Fx p s m args meth c y.cls cc maxL ret (fun _ => False) → va_P D vwCl wc s.heap → va_K D vwCl (tyA kA) s → ∀ ls, lv_has ls maxL (lv_args 0 av) → W p l e rm s m args below meth c s.heap [] 0 0 (roQ below r args s) (F0 m 0 ls [])) : Ro l y cc maxL ret rm D kA av wc r := by
  refine Met.ofW (cc := cc) (maxL := maxL) (ret := ret) hy rfl ?_
  intro p e s m args below meth c s₁ B hml hv
  obtain ⟨rfl, hN, hP, hK⟩ := hv
  have hts := atoms_spec (ws := wsM y cc maxL ret) B.pre
  have hl := lv_entry av (n := maxL) hav
  rw [lg_entry_eq]
  exact body p e s m _ below meth c ⟨B.exec, B.bytes, hml, findClass_of_methodNamed B.named, B.returns, B.notSynchronized, fun w h => hts w (List.mem_cons_of_mem _ h), hN⟩ hP hK _ hl
theorem Ro.ofF {l : Launch} {y : MethodName} {cc : ByteArray} {maxL : Nat} {ret : Option FieldType} {rm : Room} {D : va_G} {kA : Nat → ClassId} {av : List Value} {wc : va_W} {r : Value} (hy : plainFor y = true) (hav : (lg_sl av).length ≤ maxL)
    (body : ∀ p e s m args below meth c, Fx p s m args meth c y.cls cc maxL ret (fun _ => False) → va_P D vwCl wc s.heap → va_K D vwCl (tyA kA) s → ∀ ls, lv_has ls maxL (lv_args 0 av) → W p l e rm s m args below meth c s.heap [] 0 0 (roQ below r args s) (F0 m 0 ls [])) : Ro l y cc maxL ret rm D kA av wc r := by
  refine va_MetF (cc := cc) (maxL := maxL) (ret := ret) hy rfl ?_
  intro p e s m args below meth c s₁ B hml hv
  obtain ⟨rfl, hN, hP, hK⟩ := hv
  have hts := atoms_spec (ws := wsM y cc maxL ret) B.pre
  have hl := lv_entry av (n := maxL) hav
  rw [lg_entry_eq]
  exact body p e s m _ below meth c ⟨B.exec, B.bytes, hml, findClass_of_methodNamed B.named, B.returns, B.notSynchronized, fun w h => hts w (List.mem_cons_of_mem _ h), hN⟩ hP hK _ hl
def rwC (D : va_G) (A : Nat → Prop) (r : Option Value) (w1 : va_W) : Array Value → State → Outcome → State → Prop := fun _ st o t => (o = .returned r ∧ va_P D vwCl w1 t.heap ∧ va_D A w1) ∧ va_F A st t
def rwP (D : va_G) (kA : Nat → ClassId) (av : List Value) (wc : va_W) (sz : Nat) : Array Value → State → Prop := va_Pc av (fun U => U.heap.size = sz ∧ NZ (va_A wc sz) U U.heap ∧ va_P D vwCl wc U.heap ∧ va_K D vwCl (tyA kA) U ∧ va_D (fun _ => True) wc)
def Rw (l : Launch) (y : MethodName) (cc : ByteArray) (maxL : Nat) (ret : Option FieldType) (rm : Room) (D : va_G) (kA : Nat → ClassId) (av : List Value) (wc : va_W) (r : Option Value) (w1 : va_W) : Prop :=
  ∀ sz : Nat, Met l y (wsM y cc maxL ret) rm (rwP D kA av wc sz) (rwC D (va_A wc sz) r w1) 0 0 (va_A wc sz)
def rwQ (below : List Frame) (D : va_G) (A : Nat → Prop) (r : Option Value) (w1 : va_W) (args : Array Value) (s : State) : State → Prop := MQ below (rwC D A r w1) args s 0 0 A
theorem Rw.of {l : Launch} {y : MethodName} {cc : ByteArray} {maxL : Nat} {ret : Option FieldType} {rm : Room} {D : va_G} {kA : Nat → ClassId} {av : List Value} {wc : va_W} {r : Option Value} {w1 : va_W} (hy : plainName y.cls = true) (hav : (lg_sl av).length ≤ maxL)
    (body : ∀ p e s m args below meth c (A : Nat → Prop), Fx p s m args meth c y.cls cc maxL ret A → va_P D vwCl wc s.heap → va_D A wc → va_S A s.heap s.heap [] → (∀ q, s.heap.size ≤ q → A q) → va_K D vwCl (tyA kA) s → ∀ ls, lv_has ls maxL (lv_args 0 av) → W p l e rm s m args below meth c s.heap [] 0 0 (rwQ below D A r w1 args s) (F0 m 0 ls [])) : Rw l y cc maxL ret rm D kA av wc r w1 := by
  intro sz
  refine Met.ofW (cc := cc) (maxL := maxL) (ret := ret) hy rfl ?_
  intro p e s m args below meth c s₁ B hml hv
  obtain ⟨rfl, hsz, hN, hP, hK, hD0⟩ := hv
  subst hsz
  have hts := atoms_spec (ws := wsM y cc maxL ret) B.pre
  have hl := lv_entry av (n := maxL) hav
  rw [lg_entry_eq]
  exact body p e s m _ below meth c _ ⟨B.exec, B.bytes, hml, findClass_of_methodNamed B.named, B.returns, B.notSynchronized, fun w h => hts w (List.mem_cons_of_mem _ h), hN⟩ hP (hD0.self (sz := s.heap.size)) va_S.rf (fun q h => Or.inr h) hK _ hl
section EndRows
variable {p : Program} {l : Launch} {e : Env} {R : Room} {s : State} {m : MethodId} {args : Array Value} {below : List Frame} {meth : Method} {c : Code} {H : Heap} {locs : List Loc} {cc : ByteArray} {pc : Nat} {ls : Array Slot} {D : va_G} {A : Nat → Prop} {w1 : va_W}
theorem ro_ireturn {v : Int32} (hx : p.tables.exec = Jvm.exec) (hb : c.code = cc) (hr : meth.sig.returnType = some .int) (hk : meth.locks = false) (hdg : decode cc pc = .ok (.ireturn, 1)) : W p l e R s m args below meth c s.heap [] 0 0 (roQ below (.int v) args s) (F0 m pc ls [.int v]) :=
  W.iret hx hb hr (fun t ht hW => ⟨rfl, ht⟩) (fun q h => by cases h) hdg hk
theorem ro_zreturn {v : Int32} {ty : FieldType} (hx : p.tables.exec = Jvm.exec) (hb : c.code = cc) (hr : meth.sig.returnType = some ty) (hk : meth.locks = false) (hn : narrow ty (.int v) = .int v) (hdg : decode cc pc = .ok (.ireturn, 1)) : W p l e R s m args below meth c s.heap [] 0 0 (roQ below (.int v) args s) (F0 m pc ls [.int v]) :=
  W.zret hx hb hr hn (fun t ht hW => ⟨rfl, ht⟩) (fun q h => by cases h) hdg hk
theorem ro_lreturn {v : Int64} (hx : p.tables.exec = Jvm.exec) (hb : c.code = cc) (hr : meth.sig.returnType = some .long) (hk : meth.locks = false) (hdg : decode cc pc = .ok (.lreturn, 1)) : W p l e R s m args below meth c s.heap [] 0 0 (roQ below (.long v) args s) (F0 m pc ls [.long v]) :=
  W.lret hx hb hr (fun t ht hW => ⟨rfl, ht⟩) (fun q h => by cases h) hdg hk
theorem rw_ireturn {v : Int32} (hx : p.tables.exec = Jvm.exec) (hb : c.code = cc) (hr : meth.sig.returnType = some .int) (hk : meth.locks = false) (hdg : decode cc pc = .ok (.ireturn, 1)) (hP : va_P D vwCl w1 H) (hD : va_D A w1) (hS : va_S A s.heap H locs) : W p l e R s m args below meth c H locs 0 0 (rwQ below D A (some (.int v)) w1 args s) (F0 m pc ls [.int v]) :=
  W.iret hx hb hr (fun t ht hW => ⟨⟨rfl, by rw [ht]; exact hP, hD⟩, hS.F ht⟩) hS.2.2 hdg hk
theorem rw_zreturn {v : Int32} {ty : FieldType} (hx : p.tables.exec = Jvm.exec) (hb : c.code = cc) (hr : meth.sig.returnType = some ty) (hk : meth.locks = false) (hn : narrow ty (.int v) = .int v) (hdg : decode cc pc = .ok (.ireturn, 1)) (hP : va_P D vwCl w1 H) (hD : va_D A w1) (hS : va_S A s.heap H locs) : W p l e R s m args below meth c H locs 0 0 (rwQ below D A (some (.int v)) w1 args s) (F0 m pc ls [.int v]) :=
  W.zret hx hb hr hn (fun t ht hW => ⟨⟨rfl, by rw [ht]; exact hP, hD⟩, hS.F ht⟩) hS.2.2 hdg hk
theorem rw_lreturn {v : Int64} (hx : p.tables.exec = Jvm.exec) (hb : c.code = cc) (hr : meth.sig.returnType = some .long) (hk : meth.locks = false) (hdg : decode cc pc = .ok (.lreturn, 1)) (hP : va_P D vwCl w1 H) (hD : va_D A w1) (hS : va_S A s.heap H locs) : W p l e R s m args below meth c H locs 0 0 (rwQ below D A (some (.long v)) w1 args s) (F0 m pc ls [.long v]) :=
  W.lret hx hb hr (fun t ht hW => ⟨⟨rfl, by rw [ht]; exact hP, hD⟩, hS.F ht⟩) hS.2.2 hdg hk
theorem rw_return (hx : p.tables.exec = Jvm.exec) (hb : c.code = cc) (hr : meth.sig.returnType = none) (hk : meth.locks = false) (hdg : decode cc pc = .ok (.return_, 1)) (hP : va_P D vwCl w1 H) (hD : va_D A w1) (hS : va_S A s.heap H locs) : W p l e R s m args below meth c H locs 0 0 (rwQ below D A none w1 args s) (F0 m pc ls []) :=
  W.vret hx hb hr (fun t ht hW => ⟨⟨rfl, by rw [ht]; exact hP, hD⟩, hS.F ht⟩) hS.2.2 hdg hk
end EndRows
section CallRows
variable {p : Program} {l : Launch} {e : Env} {R : Room} {s : State} {m : MethodId} {args : Array Value} {below : List Frame} {meth : Method} {c : Code} {H : Heap} {locs : List Loc} {cells slots : Nat} {Q : State → Prop}
variable {cc bytes : ByteArray} {pc nL maxL index n : Nat} {ls : Array Slot} {rest st0 As : List Value} {D : va_G} {kA : Nat → ClassId} {A : Nat → Prop} {wb wc wr w1 : va_W} {own C host : String} {y : MethodName} {ret : Option FieldType} {rm : Room} {b : Addr} {r : Value} {ro : Option Value}
theorem ro_run {a : Array Value} (hr : va_Run p l e R s m args below meth c H locs cells slots 0 0 (F0 m pc ls st0) rest (roC r a) (fun _ => False)) (kk : W p l e R s m args below meth c H locs cells slots Q (F0 m (pc + 3) ls (r :: rest))) : W p l e R s m args below meth c H locs cells slots Q (F0 m pc ls st0) := by
  intro T hT X
  obtain ⟨v, st₀, t, T', L, h0, X', hL, e1, e2, ⟨hv, hh⟩, st⟩ := hr T hT X
  cases hv
  obtain ⟨t2, a1, b1⟩ := kk T' (by rw [e1, hh, h0]) (Stand.forget X' (fun q h => (hL q h).elim))
  exact ⟨t2, st t2 a1, b1⟩
theorem rw_run {a : Array Value} {H0 : Heap} (isC isR : List Nat) (hr : va_Run p l e R s m args below meth c H locs cells slots 0 0 (F0 m pc ls st0) rest (rwC D (va_A wc H.size) ro w1 a) (va_A wc H.size)) (hP : va_P D vwCl wb H) (hD : va_D A wb) (hS : va_S A H0 H locs) (hA : ∀ q, H0.size ≤ q → A q)
    (hC : isC.map (fun i => wb[i]?) = wc.map some) (hR : isR.map (fun i => wb[i]?) = wr.map some) (hn : va_nd isR = true) (hdis : ∀ i ∈ isR, i ∉ isC)
    (kk : ∀ (H1 : Heap) (locs1 : List Loc), va_P D vwCl (wr ++ w1) H1 → va_D A (wr ++ w1) → va_S A H0 H1 locs1 → W p l e R s m args below meth c H1 locs1 cells slots Q (F0 m (pc + 3) ls (ro.toList ++ rest))) : W p l e R s m args below meth c H locs cells slots Q (F0 m pc ls st0) := by
  have hF := va_free (wc := wc) hD hS hA isC hC
  intro T hT X
  obtain ⟨v, st₀, t, T', L, h0, X', hL, e1, e2, ⟨⟨hv, hP1, hD1⟩, hz, hk⟩, st⟩ := hr T hT X
  cases hv
  rw [h0] at hz hk
  have hk1 : ∀ q : Nat, q < H.size → ¬ va_A wc H.size q → T'.heap[q]? = H[q]? := fun q h1 h2 => by rw [e1]; exact hk q h1 h2
  obtain ⟨hP2, hD2⟩ := va_join (w1 := w1) hP hD isC isR hC hR hn hdis hk1 hF (by rw [e1]; exact hP1) hD1
  obtain ⟨t2, a1, b1⟩ := kk T'.heap (locs ++ L) hP2 hD2
    ⟨Nat.le_trans hS.1 (by rw [e1]; exact hz), fun q h1 h2 => by rw [hk1 q (Nat.lt_of_lt_of_le h1 hS.1) (fun z => h2 (hF q z))]; exact hS.2.1 q h1 h2, fun q hq => by
      rcases List.mem_append.mp hq with h | h
      · exact hS.2.2 q h
      · exact hF _ (hL q h)⟩ T' rfl X'
  exact ⟨t2, st t2 a1, b1⟩
theorem roP_blind {av : List Value} : FrameBlind (roP D kA av wc) := fun a U g mk q => by
  obtain ⟨q0, q1, q2, q3⟩ := q
  exact ⟨q0, q1.calling, q2, va_K.moved (u := U) (U := U.calling g mk a) (Vm.Alike.refl U.vm) q3⟩
theorem rwP_blind {av : List Value} {sz : Nat} : FrameBlind (rwP D kA av wc sz) := fun a U g mk q => by
  obtain ⟨q0, q1, q2, q3, q4, q5⟩ := q
  exact ⟨q0, q1, q2.calling, q3, va_K.moved (u := U) (U := U.calling g mk a) (Vm.Alike.refl U.vm) q4, q5⟩
theorem cb_of (hts : ∀ w ∈ gtb, w.before args s = true) (hc : Cond.code y bytes maxL ret ∈ gtb) (hini : Cond.initialized y.cls ∈ gtb) (hl : Cond.methodLink own index y ∈ gtb) (hrc : rm.cells = 0) (hrs : rm.slots = 0)
    (hd : (y.cls ≠ "java/lang/invoke/MethodHandle" ∧ y.cls ≠ "java/lang/invoke/VarHandle" ∧ (parseMethodDescriptor y.desc).map (fun d => d.parameters.length) = some n)) (hR : rm.frames + 1 ≤ R.frames ∧ 8 + (maxL + 11) + rm.locals ≤ R.locals) : CallB R s args own index y bytes maxL ret (wsM y bytes maxL ret) rm 0 0 n :=
  callB_of n hts (gi_M hc) rfl hrc hrs (hts _ hini) (hts _ hl) hd hR
/-- a virtual call that reads -/
theorem ro_V (hx : p.tables.exec = Jvm.exec) (hb : c.code = cc) (hml : c.maxLocals = nL) (hown : s.vm.findClass own = some m.cls) (hts : ∀ w ∈ gtb, w.before args s = true) (hN : NZ A s s.heap) (hS : va_S A s.heap H locs) (hK : va_K D vwCl (tyA kA) s) (hP : va_P D vwCl wb H)
    (hM : Ro l y bytes maxL ret rm D kA (.ref b :: As) wc r) (isC : List Nat) (hC : isC.filterMap (fun i => wb[i]?) = wc) (q0 ci : Nat) {q : vw_C} {fs : List Value} (he : wb[q0]? = some (b, .inr (ci, fs))) (hci : vwCl[ci]? = some q) (hq : q.1 = y.cls)
    (w1 : Cond.methodLink own index y ∈ gtb) (w2 : Cond.instanceMethod y ∈ gtb) (w3 : Cond.selects y.cls y y ∈ gtb) (w4 : Cond.initialized y.cls ∈ gtb) (w5 : Cond.code y bytes maxL ret ∈ gtb) (hrc : rm.cells = 0) (hrs : rm.slots = 0)
    (hd : (y.cls ≠ "java/lang/invoke/MethodHandle" ∧ y.cls ≠ "java/lang/invoke/VarHandle" ∧ (parseMethodDescriptor y.desc).map (fun d => d.parameters.length) = some n)) (hR : rm.frames + 1 ≤ R.frames ∧ 8 + (maxL + 11) + rm.locals ≤ R.locals)
    (hn : As.length = n) (hsize : ls.size = nL) (hst : st0 = As.reverse ++ .ref b :: rest) (hW : (rest.map fun v => v.category).sum ≤ 8) (hdg : decode cc pc = .ok (.invokevirtual index, 3)) (hcs : cells ≤ R.cells ∧ slots ≤ R.slots)
    (kk : W p l e R s m args below meth c H locs cells slots Q (F0 m (pc + 3) ls (r :: rest))) : W p l e R s m args below meth c H locs cells slots Q (F0 m pc ls st0) := by
  refine ro_run (va_runV (C := y.cls) (As := As) (rest := rest) ⟨hx, hb, hml, hown, hts⟩ hM ⟨cb_of hts w5 w4 w1 hrc hrs hd hR, hts _ w2, hts _ w3⟩ ⟨roP_blind, ?_, ?_⟩ rfl hn hsize hst (lv_room hW) hdg hcs) kk
  · obtain ⟨cell, h1, h2, h3⟩ := va_recv hK hP hci he
    exact ⟨cell, h1, h2, by rw [← hq]; exact h3⟩
  · intro U hU hW
    exact ⟨rfl, by rw [hU]; exact hN.step hW hS (fun q h => h.elim), by rw [hU]; exact hP.sub isC hC, va_K.moved hW.alike hK⟩
/-- a static call that reads -/
theorem ro_S (hx : p.tables.exec = Jvm.exec) (hb : c.code = cc) (hml : c.maxLocals = nL) (hown : s.vm.findClass own = some m.cls) (hts : ∀ w ∈ gtb, w.before args s = true) (hN : NZ A s s.heap) (hS : va_S A s.heap H locs) (hK : va_K D vwCl (tyA kA) s) (hP : va_P D vwCl wb H)
    (hM : Ro l y bytes maxL ret rm D kA As wc r) (isC : List Nat) (hC : isC.filterMap (fun i => wb[i]?) = wc)
    (w1 : Cond.methodLink own index y ∈ gtb) (w2 : Cond.static y ∈ gtb) (w4 : Cond.initialized y.cls ∈ gtb) (w5 : Cond.code y bytes maxL ret ∈ gtb) (hrc : rm.cells = 0) (hrs : rm.slots = 0)
    (hd : (y.cls ≠ "java/lang/invoke/MethodHandle" ∧ y.cls ≠ "java/lang/invoke/VarHandle" ∧ (parseMethodDescriptor y.desc).map (fun d => d.parameters.length) = some n)) (hR : rm.frames + 1 ≤ R.frames ∧ 8 + (maxL + 11) + rm.locals ≤ R.locals)
    (hn : As.length = n) (hsize : ls.size = nL) (hst : st0 = As.reverse ++ rest) (hW : (rest.map fun v => v.category).sum ≤ 8) (hdg : decode cc pc = .ok (.invokestatic index, 3)) (hcs : cells ≤ R.cells ∧ slots ≤ R.slots)
    (kk : W p l e R s m args below meth c H locs cells slots Q (F0 m (pc + 3) ls (r :: rest))) : W p l e R s m args below meth c H locs cells slots Q (F0 m pc ls st0) := by
  refine ro_run (va_runS (As := As) (rest := rest) ⟨hx, hb, hml, hown, hts⟩ hM ⟨cb_of hts w5 w4 w1 hrc hrs hd hR, hts _ w2⟩ ⟨roP_blind, ?_⟩ rfl hn hsize hst (lv_room hW) hdg hcs) kk
  intro U hU hW
  exact ⟨rfl, by rw [hU]; exact hN.step hW hS (fun q h => h.elim), by rw [hU]; exact hP.sub isC hC, va_K.moved hW.alike hK⟩
/-- a static call of a nest mate's private method that reads -/
theorem ro_SN (hx : p.tables.exec = Jvm.exec) (hb : c.code = cc) (hml : c.maxLocals = nL) (hown : s.vm.findClass own = some m.cls) (hts : ∀ w ∈ gtb, w.before args s = true) (hN : NZ A s s.heap) (hS : va_S A s.heap H locs) (hK : va_K D vwCl (tyA kA) s) (hP : va_P D vwCl wb H)
    (hM : Ro l y bytes maxL ret rm D kA As wc r) (isC : List Nat) (hC : isC.filterMap (fun i => wb[i]?) = wc)
    (w1 : Cond.methodLinkNest own index y host ∈ nws) (w2 : Cond.static y ∈ gtb) (w4 : Cond.initialized y.cls ∈ gtb) (w5 : Cond.code y bytes maxL ret ∈ gtb) (hrc : rm.cells = 0) (hrs : rm.slots = 0)
    (hd : (y.cls ≠ "java/lang/invoke/MethodHandle" ∧ y.cls ≠ "java/lang/invoke/VarHandle" ∧ (parseMethodDescriptor y.desc).map (fun d => d.parameters.length) = some n)) (hR : rm.frames + 1 ≤ R.frames ∧ 8 + (maxL + 11) + rm.locals ≤ R.locals)
    (hn : As.length = n) (hsize : ls.size = nL) (hst : st0 = As.reverse ++ rest) (hW : (rest.map fun v => v.category).sum ≤ 8) (hdg : decode cc pc = .ok (.invokestatic index, 3)) (hcs : cells ≤ R.cells ∧ slots ≤ R.slots)
    (kk : W p l e R s m args below meth c H locs cells slots Q (F0 m (pc + 3) ls (r :: rest))) : W p l e R s m args below meth c H locs cells slots Q (F0 m pc ls st0) := by
  refine ro_run (va_runSN (host := host) (As := As) (rest := rest) ⟨hx, hb, hml, hown, hts⟩ hM ⟨va_cnB n hts (gi_M w5) rfl hrc hrs (hN.1 _ w1) (hts _ w4) hd hR, hts _ w2, trivial⟩ ⟨roP_blind, ?_⟩ rfl hn hsize hst (lv_room hW) hdg hcs) kk
  intro U hU hW
  exact ⟨rfl, by rw [hU]; exact hN.step hW hS (fun q h => h.elim), by rw [hU]; exact hP.sub isC hC, va_K.moved hW.alike hK⟩
/-- a virtual call that writes -/
theorem rw_V (hx : p.tables.exec = Jvm.exec) (hb : c.code = cc) (hml : c.maxLocals = nL) (hown : s.vm.findClass own = some m.cls) (hts : ∀ w ∈ gtb, w.before args s = true) (hN : NZ A s s.heap) (hS : va_S A s.heap H locs) (hK : va_K D vwCl (tyA kA) s) (hP : va_P D vwCl wb H) (hD : va_D A wb) (hA : ∀ q, s.heap.size ≤ q → A q)
    (hM : Rw l y bytes maxL ret rm D kA (.ref b :: As) wc ro w1) (isC isR : List Nat) (hC : isC.map (fun i => wb[i]?) = wc.map some) (hCn : va_nd isC = true) (hR9 : isR.map (fun i => wb[i]?) = wr.map some) (hRn : va_nd isR = true) (hdis : ∀ i ∈ isR, i ∉ isC) (q0 ci : Nat) {q : vw_C} {fs : List Value} (he : wb[q0]? = some (b, .inr (ci, fs))) (hci : vwCl[ci]? = some q) (hq : q.1 = y.cls)
    (v1 : Cond.methodLink own index y ∈ gtb) (v2 : Cond.instanceMethod y ∈ gtb) (v3 : Cond.selects y.cls y y ∈ gtb) (v4 : Cond.initialized y.cls ∈ gtb) (v5 : Cond.code y bytes maxL ret ∈ gtb) (hrc : rm.cells = 0) (hrs : rm.slots = 0)
    (hd : (y.cls ≠ "java/lang/invoke/MethodHandle" ∧ y.cls ≠ "java/lang/invoke/VarHandle" ∧ (parseMethodDescriptor y.desc).map (fun d => d.parameters.length) = some n)) (hR : rm.frames + 1 ≤ R.frames ∧ 8 + (maxL + 11) + rm.locals ≤ R.locals)
    (hn : As.length = n) (hsize : ls.size = nL) (hst : st0 = As.reverse ++ .ref b :: rest) (hW : (rest.map fun v => v.category).sum ≤ 8) (hdg : decode cc pc = .ok (.invokevirtual index, 3)) (hcs : cells ≤ R.cells ∧ slots ≤ R.slots)
    (kk : ∀ (H1 : Heap) (locs1 : List Loc), va_P D vwCl (wr ++ w1) H1 → va_D A (wr ++ w1) → va_S A s.heap H1 locs1 → W p l e R s m args below meth c H1 locs1 cells slots Q (F0 m (pc + 3) ls (ro.toList ++ rest))) : W p l e R s m args below meth c H locs cells slots Q (F0 m pc ls st0) := by
  have hPc : va_P D vwCl wc H := fun k q hk => by
    have h1 : (isC.map (fun i => wb[i]?))[k]? = some (some q) := by rw [hC, List.getElem?_map, hk]; rfl
    rw [List.getElem?_map] at h1
    cases hi : isC[k]? with
    | none => rw [hi] at h1; cases h1
    | some i => rw [hi] at h1; exact hP i q (Option.some.inj h1)
  refine rw_run isC isR (va_runV (C := y.cls) (As := As) (rest := rest) ⟨hx, hb, hml, hown, hts⟩ (hM H.size) ⟨cb_of hts v5 v4 v1 hrc hrs hd hR, hts _ v2, hts _ v3⟩ ⟨rwP_blind, ?_, ?_⟩ rfl hn hsize hst (lv_room hW) hdg hcs) hP hD hS hA hC hR9 hRn hdis kk
  · obtain ⟨cell, h1, h2, h3⟩ := va_recv hK hP hci he
    exact ⟨cell, h1, h2, by rw [← hq]; exact h3⟩
  · intro U hU hW
    exact ⟨rfl, by rw [hU], by rw [hU]; exact hN.step hW hS (va_free (wc := wc) hD hS hA isC hC), by rw [hU]; exact hPc, va_K.moved hW.alike hK, (hD.sub isC hCn hC).weaken (fun _ _ _ _ => trivial)⟩
end CallRows
theorem ing0 : ∀ w ∈ u_ws "ConstraintText$ClockTable" TX0 12, w ∈ gtb := by
  intro w hw
  obtain ⟨k, hk, rfl⟩ := List.mem_map.mp hw
  have hk := List.mem_range.mp hk
  by_cases h0 : k = 0
  · subst h0; exact tw_152
  by_cases h1 : k = 1
  · subst h1; exact tw_154
  by_cases h2 : k = 2
  · subst h2; exact tw_156
  by_cases h3 : k = 3
  · subst h3; exact tw_158
  by_cases h4 : k = 4
  · subst h4; exact tw_160
  by_cases h5 : k = 5
  · subst h5; exact tw_162
  by_cases h6 : k = 6
  · subst h6; exact tw_164
  by_cases h7 : k = 7
  · subst h7; exact tw_166
  by_cases h8 : k = 8
  · subst h8; exact tw_168
  by_cases h9 : k = 9
  · subst h9; exact tw_170
  by_cases h10 : k = 10
  · subst h10; exact tw_172
  by_cases h11 : k = 11
  · subst h11; exact tw_174
  omega
theorem ing1 : ∀ w ∈ u_ws "ConstraintText$Pins" TX1 2, w ∈ gtb := by
  intro w hw
  obtain ⟨k, hk, rfl⟩ := List.mem_map.mp hw
  have hk := List.mem_range.mp hk
  by_cases h0 : k = 0
  · subst h0; exact tw_253
  by_cases h1 : k = 1
  · subst h1; exact tw_255
  omega
theorem ing2 : ∀ w ∈ u_ws "ConstraintText$Reader" TX2 8, w ∈ gtb := by
  intro w hw
  obtain ⟨k, hk, rfl⟩ := List.mem_map.mp hw
  have hk := List.mem_range.mp hk
  by_cases h0 : k = 0
  · subst h0; exact tw_228
  by_cases h1 : k = 1
  · subst h1; exact tw_230
  by_cases h2 : k = 2
  · subst h2; exact tw_232
  by_cases h3 : k = 3
  · subst h3; exact tw_234
  by_cases h4 : k = 4
  · subst h4; exact tw_236
  by_cases h5 : k = 5
  · subst h5; exact tw_238
  by_cases h6 : k = 6
  · subst h6; exact tw_240
  by_cases h7 : k = 7
  · subst h7; exact tw_242
  omega
theorem ing3 : ∀ w ∈ u_ws "ConstraintText$Sheet" TX3 10, w ∈ gtb := by
  intro w hw
  obtain ⟨k, hk, rfl⟩ := List.mem_map.mp hw
  have hk := List.mem_range.mp hk
  by_cases h0 : k = 0
  · subst h0; exact tw_198
  by_cases h1 : k = 1
  · subst h1; exact tw_200
  by_cases h2 : k = 2
  · subst h2; exact tw_202
  by_cases h3 : k = 3
  · subst h3; exact tw_204
  by_cases h4 : k = 4
  · subst h4; exact tw_206
  by_cases h5 : k = 5
  · subst h5; exact tw_208
  by_cases h6 : k = 6
  · subst h6; exact tw_210
  by_cases h7 : k = 7
  · subst h7; exact tw_212
  by_cases h8 : k = 8
  · subst h8; exact tw_214
  by_cases h9 : k = 9
  · subst h9; exact tw_216
  omega
theorem ing4 : ∀ w ∈ u_ws "ConstraintText$Tape" TX4 2, w ∈ gtb := by
  intro w hw
  obtain ⟨k, hk, rfl⟩ := List.mem_map.mp hw
  have hk := List.mem_range.mp hk
  by_cases h0 : k = 0
  · subst h0; exact tw_116
  by_cases h1 : k = 1
  · subst h1; exact tw_118
  omega
theorem ing5 : ∀ w ∈ u_ws "ConstraintText" TX5 4, w ∈ gtb := by
  intro w hw
  obtain ⟨k, hk, rfl⟩ := List.mem_map.mp hw
  have hk := List.mem_range.mp hk
  by_cases h0 : k = 0
  · subst h0; exact tw_264
  by_cases h1 : k = 1
  · subst h1; exact tw_266
  by_cases h2 : k = 2
  · subst h2; exact tw_268
  by_cases h3 : k = 3
  · subst h3; exact tw_270
  omega
theorem ing6 : ∀ w ∈ u_ws "ConstraintTextModel" TX6 33, w ∈ gtb := by
  intro w hw
  obtain ⟨k, hk, rfl⟩ := List.mem_map.mp hw
  have hk := List.mem_range.mp hk
  by_cases h0 : k = 0
  · subst h0; exact tw_883
  by_cases h1 : k = 1
  · subst h1; exact tw_885
  by_cases h2 : k = 2
  · subst h2; exact tw_887
  by_cases h3 : k = 3
  · subst h3; exact tw_889
  by_cases h4 : k = 4
  · subst h4; exact tw_891
  by_cases h5 : k = 5
  · subst h5; exact tw_893
  by_cases h6 : k = 6
  · subst h6; exact tw_895
  by_cases h7 : k = 7
  · subst h7; exact tw_897
  by_cases h8 : k = 8
  · subst h8; exact tw_899
  by_cases h9 : k = 9
  · subst h9; exact tw_901
  by_cases h10 : k = 10
  · subst h10; exact tw_903
  by_cases h11 : k = 11
  · subst h11; exact tw_905
  by_cases h12 : k = 12
  · subst h12; exact tw_907
  by_cases h13 : k = 13
  · subst h13; exact tw_909
  by_cases h14 : k = 14
  · subst h14; exact tw_911
  by_cases h15 : k = 15
  · subst h15; exact tw_913
  by_cases h16 : k = 16
  · subst h16; exact tw_915
  by_cases h17 : k = 17
  · subst h17; exact tw_917
  by_cases h18 : k = 18
  · subst h18; exact tw_919
  by_cases h19 : k = 19
  · subst h19; exact tw_921
  by_cases h20 : k = 20
  · subst h20; exact tw_923
  by_cases h21 : k = 21
  · subst h21; exact tw_925
  by_cases h22 : k = 22
  · subst h22; exact tw_927
  by_cases h23 : k = 23
  · subst h23; exact tw_929
  by_cases h24 : k = 24
  · subst h24; exact tw_931
  by_cases h25 : k = 25
  · subst h25; exact tw_933
  by_cases h26 : k = 26
  · subst h26; exact tw_935
  by_cases h27 : k = 27
  · subst h27; exact tw_937
  by_cases h28 : k = 28
  · subst h28; exact tw_939
  by_cases h29 : k = 29
  · subst h29; exact tw_941
  by_cases h30 : k = 30
  · subst h30; exact tw_943
  by_cases h31 : k = 31
  · subst h31; exact tw_945
  by_cases h32 : k = 32
  · subst h32; exact tw_947
  omega
theorem nw_102 : (Jvm.Cond.methodLinkNest "ConstraintText" (11 : Nat) ({ cls := "ConstraintText$Reader", name := "<init>", desc := "()V" } : Jvm.MethodName) "ConstraintText") ∈ nws := nw_of 102 (by decide +kernel) rfl
theorem nw_108 : (Jvm.Cond.methodLinkNest "ConstraintText$Reader" (11 : Nat) ({ cls := "ConstraintText$Tape", name := "<init>", desc := "()V" } : Jvm.MethodName) "ConstraintText") ∈ nws := nw_of 108 (by decide +kernel) rfl
theorem nw_114 : (Jvm.Cond.fieldLinkNest "ConstraintText$Reader" (57 : Nat) "ConstraintText$Tape" "length" "I" "ConstraintText") ∈ nws := nw_of 114 (by decide +kernel) rfl
theorem nw_115 : (Jvm.Cond.fieldLinkNest "ConstraintText" (165 : Nat) "ConstraintText$Tape" "length" "I" "ConstraintText") ∈ nws := nw_of 115 (by decide +kernel) rfl
theorem nw_124 : (Jvm.Cond.methodLinkNest "ConstraintText$Reader" (33 : Nat) ({ cls := "ConstraintText$Sheet", name := "<init>", desc := "()V" } : Jvm.MethodName) "ConstraintText") ∈ nws := nw_of 124 (by decide +kernel) rfl
theorem nw_130 : (Jvm.Cond.methodLinkNest "ConstraintText$Sheet" (37 : Nat) ({ cls := "ConstraintText$ClockTable", name := "<init>", desc := "()V" } : Jvm.MethodName) "ConstraintText") ∈ nws := nw_of 130 (by decide +kernel) rfl
theorem nw_135 : (Jvm.Cond.fieldLinkNest "ConstraintText" (93 : Nat) "ConstraintText$ClockTable" "rows" "[I" "ConstraintText") ∈ nws := nw_of 135 (by decide +kernel) rfl
theorem nw_136 : (Jvm.Cond.fieldLinkNest "ConstraintText$Reader" (215 : Nat) "ConstraintText$ClockTable" "rows" "[I" "ConstraintText") ∈ nws := nw_of 136 (by decide +kernel) rfl
theorem nw_138 : (Jvm.Cond.fieldLinkNest "ConstraintText$Reader" (212 : Nat) "ConstraintText$ClockTable" "sources" "[I" "ConstraintText") ∈ nws := nw_of 138 (by decide +kernel) rfl
theorem nw_148 : (Jvm.Cond.fieldLinkNest "ConstraintText$Reader" (227 : Nat) "ConstraintText$ClockTable" "great" "[Z" "ConstraintText") ∈ nws := nw_of 148 (by decide +kernel) rfl
theorem nw_150 : (Jvm.Cond.fieldLinkNest "ConstraintText$Reader" (123 : Nat) "ConstraintText$ClockTable" "size" "I" "ConstraintText") ∈ nws := nw_of 150 (by decide +kernel) rfl
theorem nw_151 : (Jvm.Cond.fieldLinkNest "ConstraintText" (162 : Nat) "ConstraintText$ClockTable" "size" "I" "ConstraintText") ∈ nws := nw_of 151 (by decide +kernel) rfl
theorem nw_181 : (Jvm.Cond.fieldLinkNest "ConstraintText" (134 : Nat) "ConstraintText$Sheet" "sorts" "[I" "ConstraintText") ∈ nws := nw_of 181 (by decide +kernel) rfl
theorem nw_183 : (Jvm.Cond.fieldLinkNest "ConstraintText" (137 : Nat) "ConstraintText$Sheet" "values" "[I" "ConstraintText") ∈ nws := nw_of 183 (by decide +kernel) rfl
theorem nw_185 : (Jvm.Cond.fieldLinkNest "ConstraintText$Reader" (209 : Nat) "ConstraintText$Sheet" "links" "[I" "ConstraintText") ∈ nws := nw_of 185 (by decide +kernel) rfl
theorem nw_191 : (Jvm.Cond.fieldLinkNest "ConstraintText" (84 : Nat) "ConstraintText$Sheet" "clocks" "LConstraintText$ClockTable;" "ConstraintText") ∈ nws := nw_of 191 (by decide +kernel) rfl
theorem nw_192 : (Jvm.Cond.fieldLinkNest "ConstraintText$Reader" (119 : Nat) "ConstraintText$Sheet" "clocks" "LConstraintText$ClockTable;" "ConstraintText") ∈ nws := nw_of 192 (by decide +kernel) rfl
theorem nw_194 : (Jvm.Cond.fieldLinkNest "ConstraintText" (80 : Nat) "ConstraintText$Sheet" "rowCount" "I" "ConstraintText") ∈ nws := nw_of 194 (by decide +kernel) rfl
theorem nw_195 : (Jvm.Cond.fieldLinkNest "ConstraintText$Reader" (135 : Nat) "ConstraintText$Sheet" "rowCount" "I" "ConstraintText") ∈ nws := nw_of 195 (by decide +kernel) rfl
theorem nw_197 : (Jvm.Cond.fieldLinkNest "ConstraintText" (156 : Nat) "ConstraintText$Sheet" "printedLength" "I" "ConstraintText") ∈ nws := nw_of 197 (by decide +kernel) rfl
theorem nw_220 : (Jvm.Cond.fieldLinkNest "ConstraintText" (16 : Nat) "ConstraintText$Reader" "tape" "LConstraintText$Tape;" "ConstraintText") ∈ nws := nw_of 220 (by decide +kernel) rfl
theorem nw_247 : (Jvm.Cond.methodLinkNest "ConstraintText" (23 : Nat) ({ cls := "ConstraintText$Pins", name := "<init>", desc := "()V" } : Jvm.MethodName) "ConstraintText") ∈ nws := nw_of 247 (by decide +kernel) rfl
theorem nw_259 : (Jvm.Cond.methodLinkNest "ConstraintText" (30 : Nat) ({ cls := "ConstraintText$Sheet", name := "<init>", desc := "()V" } : Jvm.MethodName) "ConstraintText") ∈ nws := nw_of 259 (by decide +kernel) rfl
theorem nw_319 : (Jvm.Cond.methodLinkNest "ConstraintText$Reader" (116 : Nat) ({ cls := "ConstraintText", name := "isBlank", desc := "(I)Z" } : Jvm.MethodName) "ConstraintText") ∈ nws := nw_of 319 (by decide +kernel) rfl
theorem nw_330 : (Jvm.Cond.methodLinkNest "ConstraintText$Reader" (181 : Nat) ({ cls := "ConstraintText", name := "keyword", desc := "(I)Ljava/lang/String;" } : Jvm.MethodName) "ConstraintText") ∈ nws := nw_of 330 (by decide +kernel) rfl
theorem nw_424 : (Jvm.Cond.methodLinkNest "ConstraintText$Reader" (196 : Nat) ({ cls := "ConstraintText", name := "isSmallLetter", desc := "(I)Z" } : Jvm.MethodName) "ConstraintText") ∈ nws := nw_of 424 (by decide +kernel) rfl
theorem nw_452 : (Jvm.Cond.methodLinkNest "ConstraintText$Reader" (202 : Nat) ({ cls := "ConstraintText", name := "isDigit", desc := "(I)Z" } : Jvm.MethodName) "ConstraintText") ∈ nws := nw_of 452 (by decide +kernel) rfl
theorem nw_481 : (Jvm.Cond.methodLinkNest "ConstraintText$Reader" (199 : Nat) ({ cls := "ConstraintText", name := "isNameUnit", desc := "(I)Z" } : Jvm.MethodName) "ConstraintText") ∈ nws := nw_of 481 (by decide +kernel) rfl
theorem nw_562 : (Jvm.Cond.methodLinkNest "ConstraintText$ClockTable" (59 : Nat) ({ cls := "ConstraintText", name := "commonDivisor", desc := "(JJ)J" } : Jvm.MethodName) "ConstraintText") ∈ nws := nw_of 562 (by decide +kernel) rfl
theorem nw_615 : (Jvm.Cond.castable "java/lang/IndexOutOfBoundsException" "java/lang/IndexOutOfBoundsException") ∈ nws := nw_of 615 (by decide +kernel) rfl
theorem nw_616 : (Jvm.Cond.declares ({ cls := "java/lang/RuntimeException", name := "<init>", desc := "()V" } : Jvm.MethodName)) ∈ nws := nw_of 616 (by decide +kernel) rfl
theorem nw_617 : (Jvm.Cond.declares ({ cls := "java/lang/RuntimeException", name := "<init>", desc := "(Ljava/lang/String;)V" } : Jvm.MethodName)) ∈ nws := nw_of 617 (by decide +kernel) rfl
theorem nw_618 : (Jvm.Cond.declares ({ cls := "java/lang/Exception", name := "<init>", desc := "()V" } : Jvm.MethodName)) ∈ nws := nw_of 618 (by decide +kernel) rfl
theorem nw_619 : (Jvm.Cond.declares ({ cls := "java/lang/Exception", name := "<init>", desc := "(Ljava/lang/String;)V" } : Jvm.MethodName)) ∈ nws := nw_of 619 (by decide +kernel) rfl
theorem nw_620 : (Jvm.Cond.declares ({ cls := "java/lang/Throwable", name := "<init>", desc := "()V" } : Jvm.MethodName)) ∈ nws := nw_of 620 (by decide +kernel) rfl
theorem nw_621 : (Jvm.Cond.declares ({ cls := "java/lang/Throwable", name := "<init>", desc := "(Ljava/lang/String;)V" } : Jvm.MethodName)) ∈ nws := nw_of 621 (by decide +kernel) rfl
theorem nw_719 : (Jvm.Cond.methodLinkNest "ConstraintText$ClockTable" (67 : Nat) ({ cls := "ConstraintText", name := "lowestPart", desc := "(JJI)J" } : Jvm.MethodName) "ConstraintText") ∈ nws := nw_of 719 (by decide +kernel) rfl
theorem nw_825 : (Jvm.Cond.methodLinkNest "ConstraintText$Sheet" (121 : Nat) ({ cls := "ConstraintText", name := "makesClock", desc := "(I)Z" } : Jvm.MethodName) "ConstraintText") ∈ nws := nw_of 825 (by decide +kernel) rfl
