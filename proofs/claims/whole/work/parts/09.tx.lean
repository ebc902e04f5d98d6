/-! ===== a method that may throw IndexOutOfBoundsException (Tx) ===== -/
abbrev ioob : String := "java/lang/IndexOutOfBoundsException"
def txC (D : va_G) (A : Nat → Prop) (res : Option (Option Value × va_W)) : Array Value → State → Outcome → State → Prop := fun _ st o t => (∃ (r : Option Value) (w1 : va_W), res = some (r, w1) ∧ o = .returned r ∧ va_P D vwCl w1 t.heap ∧ va_D A w1) ∧ va_F A st t
def txX (D : va_G) (A : Nat → Prop) (wc : va_W) (res : Option (Option Value × va_W)) : String → State → State → Prop := fun E st t => (res = none ∧ E = ioob ∧ va_P D vwCl wc t.heap ∧ va_D A wc) ∧ va_F A st t
def Tx (l : Launch) (y : MethodName) (cc : ByteArray) (maxL : Nat) (ret : Option FieldType) (rm : Room) (D : va_G) (kA : Nat → ClassId) (av : List Value) (wc : va_W) (res : Option (Option Value × va_W)) : Prop :=
  ∀ sz : Nat, vx_Met l y (wsM y cc maxL ret) rm (rwP D kA av wc sz) (txC D (va_A wc sz) res) (txX D (va_A wc sz) wc res) 1 6 (va_A wc sz)
def txQ (below : List Frame) (D : va_G) (A : Nat → Prop) (wc : va_W) (res : Option (Option Value × va_W)) (args : Array Value) (s : State) : State → Prop := vx_MQ below (txC D A res) (txX D A wc res) args s 1 6 A
theorem Tx.of {l : Launch} {y : MethodName} {cc : ByteArray} {maxL : Nat} {ret : Option FieldType} {rm : Room} {D : va_G} {kA : Nat → ClassId} {av : List Value} {wc : va_W} {res : Option (Option Value × va_W)} (hy : plainName y.cls = true) (hav : (lg_sl av).length ≤ maxL)
    (body : ∀ p e s m args below meth c (A : Nat → Prop), Fx p s m args meth c y.cls cc maxL ret A → (∀ x ∈ c.exceptionTable.toList, False) → va_P D vwCl wc s.heap → va_D A wc → va_S A s.heap s.heap [] → (∀ q, s.heap.size ≤ q → A q) → va_K D vwCl (tyA kA) s → ∀ ls, lv_has ls maxL (lv_args 0 av) → W p l e rm s m args below meth c s.heap [] 0 0 (txQ below D A wc res args s) (F0 m 0 ls [])) : Tx l y cc maxL ret rm D kA av wc res := by
  intro sz
  refine vx_ofW (cc := cc) (maxL := maxL) (ret := ret) hy rfl ?_
  intro p e s m args below meth c s₁ B hml hex hv
  obtain ⟨rfl, hsz, hN, hP, hK, hD0⟩ := hv
  subst hsz
  have hts := atoms_spec (ws := wsM y cc maxL ret) B.pre
  have hl := lv_entry av (n := maxL) hav
  rw [lg_entry_eq]
  exact body p e s m _ below meth c _ ⟨B.exec, B.bytes, hml, findClass_of_methodNamed B.named, B.returns, B.notSynchronized, fun w h => hts w (List.mem_cons_of_mem _ h), hN⟩ hex hP (hD0.self (sz := s.heap.size)) va_S.rf (fun q h => Or.inr h) hK _ hl
theorem at_in : ∀ w ∈ vx_atS "ConstraintText" 56 ioob ["java/lang/RuntimeException", "java/lang/Exception"], w ∈ gtb ∨ w ∈ nws := by decide +kernel
theorem at_ot : ∀ w ∈ Cond.classLink "ConstraintText" 52 ioob :: Cond.initialized ioob :: vx_atS "ConstraintText" 56 ioob ["java/lang/RuntimeException", "java/lang/Exception"], vx_ot w = true := by decide +kernel
theorem nws_on {w : Cond} (h : w ∈ nws) : w.onTables = true := by
  have h2 : isNest w = true := (List.mem_filter.mp h).2
  cases w <;> first | rfl | exact absurd h2 (by simp [isNest])
section TxRows
variable {p : Program} {l : Launch} {e : Env} {R : Room} {s : State} {m : MethodId} {args : Array Value} {below : List Frame} {meth : Method} {c : Code} {H : Heap} {locs : List Loc} {cc : ByteArray} {pc nL : Nat} {ls : Array Slot} {D : va_G} {A : Nat → Prop} {wc w1 : va_W} {res : Option (Option Value × va_W)}
theorem tx_ireturn {v : Int32} (hx : p.tables.exec = Jvm.exec) (hb : c.code = cc) (hr : meth.sig.returnType = some .int) (hk : meth.locks = false) (hdg : decode cc pc = .ok (.ireturn, 1)) (he : res = some (some (.int v), w1)) (hP : va_P D vwCl w1 H) (hD : va_D A w1) (hS : va_S A s.heap H locs) : W p l e R s m args below meth c H locs 0 0 (txQ below D A wc res args s) (F0 m pc ls [.int v]) :=
  vx_ret (W.widen (k := 1) (n := 6) (by omega) (by omega) (W.iret hx hb hr (fun t ht hW => ⟨⟨_, _, he, rfl, by rw [ht]; exact hP, hD⟩, hS.F ht⟩) hS.2.2 hdg hk))
theorem tx_zreturn {v : Int32} {ty : FieldType} (hx : p.tables.exec = Jvm.exec) (hb : c.code = cc) (hr : meth.sig.returnType = some ty) (hk : meth.locks = false) (hn : narrow ty (.int v) = .int v) (hdg : decode cc pc = .ok (.ireturn, 1)) (he : res = some (some (.int v), w1)) (hP : va_P D vwCl w1 H) (hD : va_D A w1) (hS : va_S A s.heap H locs) : W p l e R s m args below meth c H locs 0 0 (txQ below D A wc res args s) (F0 m pc ls [.int v]) :=
  vx_ret (W.widen (k := 1) (n := 6) (by omega) (by omega) (W.zret hx hb hr hn (fun t ht hW => ⟨⟨_, _, he, rfl, by rw [ht]; exact hP, hD⟩, hS.F ht⟩) hS.2.2 hdg hk))
theorem tx_lreturn {v : Int64} (hx : p.tables.exec = Jvm.exec) (hb : c.code = cc) (hr : meth.sig.returnType = some .long) (hk : meth.locks = false) (hdg : decode cc pc = .ok (.lreturn, 1)) (he : res = some (some (.long v), w1)) (hP : va_P D vwCl w1 H) (hD : va_D A w1) (hS : va_S A s.heap H locs) : W p l e R s m args below meth c H locs 0 0 (txQ below D A wc res args s) (F0 m pc ls [.long v]) :=
  vx_ret (W.widen (k := 1) (n := 6) (by omega) (by omega) (W.lret hx hb hr (fun t ht hW => ⟨⟨_, _, he, rfl, by rw [ht]; exact hP, hD⟩, hS.F ht⟩) hS.2.2 hdg hk))
theorem tx_throw {is : Nat} {text : String} {sa : Nat} {adK adV : Nat → Nat} (hx : p.tables.exec = Jvm.exec) (hb : c.code = cc) (hl9 : l.stackTraces = false) (hml : c.maxLocals = nL) (hown : s.vm.findClass "ConstraintText" = some m.cls) (hts : ∀ w ∈ gtb, w.before args s = true) (hN : NZ A s s.heap) (hZ : ZS adK adV A s s.heap) (hstr : vk_R "ConstraintText" is text sa s)
    (hP : va_P D vwCl wc H) (hD : va_D A wc) (hS : va_S A s.heap H locs) (hex : ∀ x ∈ c.exceptionTable.toList, False) (hk : meth.locks = false) (hsize : ls.size = nL) (v1 : Cond.classLink "ConstraintText" 52 ioob ∈ gtb) (v2 : Cond.initialized ioob ∈ gtb)
    (d0 : decode cc pc = .ok (.new 52, 3)) (d3 : decode cc (pc + 3) = .ok (.dup, 1)) (d4 : decode cc (pc + 4) = .ok (.ldc is, 2)) (d6 : decode cc (pc + 6) = .ok (.invokespecial 56, 3)) (d9 : decode cc (pc + 9) = .ok (.athrow, 1))
    (hRf : 5 < R.frames) (hRl : 82 ≤ R.locals) (hRc : 1 ≤ R.cells) (hRs : 6 ≤ R.slots) : W p l e R s m args below meth c H locs 0 0 (txQ below D A wc none args s) (F0 m pc ls []) := by
  refine vx_throwS (own := "ConstraintText") (cls := ioob) (names := ["java/lang/RuntimeException", "java/lang/Exception"]) (ik := 52) (is := is) (ic := 56) (text := text) (sa := sa) (A := A) hx hb hl9 hown (by decide +kernel) (by decide +kernel) (hts _ v1) (hts _ v2) hstr ?_ at_ot hZ.2.2.2.2.1 hZ.2.2.2.2.2 hS (by rw [hsize, hml]) d0 d3 d4 d6 d9 (fun x hx => (hex x hx).elim) hRf ?_ (by simpa using hRc) (by simpa using hRs) hk ?_ hS.2.2 (Nat.le_refl _) (Nat.le_refl _)
  · intro w hw
    rcases at_in w hw with h | h
    · exact hts w h
    · exact va_Nw.use (nws_on h) (hN.1 w h)
  · show 0 + (13 * 3 + 43) ≤ R.locals
    omega
  · intro t hvm hz hk1
    have hk2 : va_P D vwCl wc t.heap := hP.kept (fun k q hq => hk1 q.1 (hP k q hq).lt)
    exact ⟨⟨rfl, rfl, hk2, hD⟩, Nat.le_trans hS.1 hz, fun q h1 h2 => by rw [hk1 q (Nat.lt_of_lt_of_le h1 hS.1)]; exact hS.2.1 q h1 h2⟩
end TxRows
