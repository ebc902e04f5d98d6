def f0_has (p1 : Int32) (ck : T0) : Option (Int32) :=
  if p1 < (0 : Int32) then
    some (0 : Int32)
  else
    if ck.2.2.2.2.2.2.2.2.2.2.2 ≤ p1 then
      some (0 : Int32)
    else
      some (1 : Int32)
def f5_isDigit (p1 : Int32) : Option (Int32) :=
  if p1 < (48 : Int32) then
    some (0 : Int32)
  else
    if (57 : Int32) < p1 then
      some (0 : Int32)
    else
      some (1 : Int32)
def f5_isBlank (p1 : Int32) : Option (Int32) :=
  if p1 = (32 : Int32) then
    some (1 : Int32)
  else
    if p1 = (10 : Int32) then
      some (1 : Int32)
    else
      some (0 : Int32)
def f5_makesClock (p1 : Int32) : Option (Int32) :=
  if p1 = (0 : Int32) then
    some (1 : Int32)
  else
    if p1 = (1 : Int32) then
      some (1 : Int32)
    else
      if p1 = (2 : Int32) then
        some (1 : Int32)
      else
        some (0 : Int32)
def f4_at (p1 : Int32) (tp : T4) : Option (Int32) :=
  if p1 < (0 : Int32) then
    some (0 : Int32)
  else
    if tp.2 ≤ p1 then
      some (0 : Int32)
    else
      grd (inb p1 1200) <|
      grd (isC (tp.1 p1.toNatClampNeg)) <|
      some (tp.1 p1.toNatClampNeg)
def f3_patternOf (p1 : Int32) (p2 : Int32) (sh : T3) : Option (Int32) :=
  jn (fun (v27 : Int32) =>
    if v27 = (0 : Int32) then
      some (-1 : Int32)
    else
      some (((p1 - (1 : Int32)) * (3 : Int32)) + p2)
    ) (fun k27 =>
    if p1 < (1 : Int32) then
      k27 (0 : Int32)
    else
      if sh.2.2.2.2.2.2.2.1 < p1 then
        k27 (0 : Int32)
      else
        if p2 < (0 : Int32) then
          k27 (0 : Int32)
        else
          if (3 : Int32) ≤ p2 then
            k27 (0 : Int32)
          else
            k27 (1 : Int32)
    )
def f3_hitsOf (p1 : Int32) (p2 : Int32) (sh : T3) : Option (Int64) :=
  bnd (f3_patternOf p1 p2 sh) fun u3 =>
  if u3 = (-1 : Int32) then
    some (0 : Int64)
  else
    grd (inb u3 120) <|
    some (sh.2.2.2.2.2.1 u3.toNatClampNeg)
def f3_haveClash (p1 : Int32) (p2 : Int32) (sh : T3) : Option (Int32) :=
  grd (inb (p1 - (1 : Int32)) 40) <|
  grd (inb (p2 - (1 : Int32)) 40) <|
  bnd (f5_makesClock (sh.1 (p1 - (1 : Int32)).toNatClampNeg)) fun u20 =>
  jn (fun (v39 : Int32) =>
    jn (fun (v83 : Int32) =>
      jn (fun (v95 : Unit) =>
        bnd (f3_hitsOf p1 (0 : Int32) sh) fun u98 =>
        bnd (f3_hitsOf p2 (0 : Int32) sh) fun u104 =>
        if (lg_cmp (u98 &&& u104) (0 : Int64)) = (0 : Int32) then
          some (0 : Int32)
        else
          some (1 : Int32)
        ) (fun k95 =>
        if v39 = (0 : Int32) then
          if v83 = (0 : Int32) then
            some (0 : Int32)
          else
            k95 ()
        else
          k95 ()
        )
      ) (fun k83 =>
      jn (fun (v53 : Unit) =>
        if (sh.1 (p1 - (1 : Int32)).toNatClampNeg) = (sh.1 (p2 - (1 : Int32)).toNatClampNeg) then
          grd (inb (p1 - (1 : Int32)) 40) <|
          grd (inb (p2 - (1 : Int32)) 40) <|
          if (sh.2.1 (p1 - (1 : Int32)).toNatClampNeg) = (sh.2.1 (p2 - (1 : Int32)).toNatClampNeg) then
            k83 (0 : Int32)
          else
            k83 (1 : Int32)
        else
          k83 (0 : Int32)
        ) (fun k53 =>
        if (sh.1 (p1 - (1 : Int32)).toNatClampNeg) = (8 : Int32) then
          k53 ()
        else
          if (sh.1 (p1 - (1 : Int32)).toNatClampNeg) = (9 : Int32) then
            k53 ()
          else
            k83 (0 : Int32)
        )
      )
    ) (fun k39 =>
    if u20 = (0 : Int32) then
      k39 (0 : Int32)
    else
      bnd (f5_makesClock (sh.1 (p2 - (1 : Int32)).toNatClampNeg)) fun u28 =>
      if u28 = (0 : Int32) then
        k39 (0 : Int32)
      else
        k39 (1 : Int32)
    )
def f3_strengthOf (p1 : Int32) : Option (Int32) :=
  if p1 = (4 : Int32) then
    some (3 : Int32)
  else
    if p1 = (5 : Int32) then
      some (1 : Int32)
    else
      if p1 = (6 : Int32) then
        some (2 : Int32)
      else
        if p1 = (7 : Int32) then
          some (2 : Int32)
        else
          some (0 : Int32)
def f3_clashingRow_L20 (p1 : Int32) (sh : T3) (s5 : Int32 × Int32) (s20 : Int32 × Int32) : Option ((Int32 × Int32) ⊕ ((Int32) ⊕ ((Int32)))) :=
  if sh.2.2.2.2.2.2.2.1 < s20.2 then
    some (.inr (.inr s20.1))
  else
    bnd (f3_haveClash s5.2 s20.2 sh) fun u34 =>
    jn (fun (v60 : Int32) =>
      some (.inl (v60, (s20.2 + (1 : Int32))))
      ) (fun k60 =>
      if u34 = (0 : Int32) then
        k60 s20.1
      else
        if s20.1 = p1 then
          some (.inr (.inl s20.2))
        else
          k60 (s20.1 + (1 : Int32))
      )
def f3_clashingRow_L5 (F : Nat) (p1 : Int32) (sh : T3) (s5 : Int32 × Int32) : Option ((Int32 × Int32) ⊕ ((Int32 × Int32) ⊕ ((Unit)))) :=
  if sh.2.2.2.2.2.2.2.1 < s5.2 then
    some (.inr (.inr ()))
  else
    bnd (iter (f3_clashingRow_L20 p1 sh s5) F (s5.1, (s5.2 + (1 : Int32)))) (
      fun (e20y : (Int32) ⊕ (Int32)) => cas e20y (fun (x45 : Int32) =>
        some (.inr (.inl (s5.2, x45)))
        ) (
        fun (x66 : Int32) =>
          some (.inl (x66, (s5.2 + (1 : Int32))))
        )
      )
def f3_clashingRow (F : Nat) (p1 : Int32) (p2 : Int32) (sh : T3) : Option (Int32) :=
  bnd (iter (f3_clashingRow_L5 F p1 sh) F ((0 : Int32), (1 : Int32))) (
    fun (e5y : (Int32 × Int32) ⊕ (Unit)) => cas e5y (fun (x45 : Int32 × Int32) =>
      if p2 = (0 : Int32) then
        some x45.1
      else
        some x45.2
      ) (
      fun (x72 : Unit) =>
        some (-1 : Int32)
      )
    )
abbrev rm0_has : Room := { frames := 0, cells := 0, slots := 0, locals := 0 }
set_option maxHeartbeats 4000000 in
set_option maxRecDepth 100000 in
theorem c0_has (l : Launch) (D : va_G) (kA : Nat → ClassId) (a_ck : Nat → Nat) (p1 : Int32) (ck : T0) (res : Int32) (h : f0_has p1 ck = some res) : Ro l yX0_has cX0_has 2 (some .boolean) rm0_has D kA [.ref (a_ck 0), .int p1] [(a_ck 0, .inr (0, [.ref (a_ck 1), .ref (a_ck 2), .ref (a_ck 3), .ref (a_ck 4), .ref (a_ck 5), .ref (a_ck 6), .ref (a_ck 7), .ref (a_ck 8), .ref (a_ck 9), .ref (a_ck 10), .ref (a_ck 11), .int ck.2.2.2.2.2.2.2.2.2.2.2])), (a_ck 1, .inl (kA 0, 12, .inl ck.1)), (a_ck 2, .inl (kA 0, 12, .inl ck.2.1)), (a_ck 3, .inl (kA 3, 12, .inl ck.2.2.1)), (a_ck 4, .inl (kA 0, 12, .inl ck.2.2.2.1)), (a_ck 5, .inl (kA 0, 12, .inl ck.2.2.2.2.1)), (a_ck 6, .inl (kA 2, 12, .inr (.inl ck.2.2.2.2.2.1))), (a_ck 7, .inl (kA 2, 12, .inr (.inl ck.2.2.2.2.2.2.1))), (a_ck 8, .inl (kA 2, 12, .inr (.inl ck.2.2.2.2.2.2.2.1))), (a_ck 9, .inl (kA 2, 12, .inr (.inl ck.2.2.2.2.2.2.2.2.1))), (a_ck 10, .inl (kA 3, 12, .inl ck.2.2.2.2.2.2.2.2.2.1)), (a_ck 11, .inl (kA 3, 12, .inl ck.2.2.2.2.2.2.2.2.2.2.1))] (.int res) := by
  refine Ro.of (by decide) (Nat.le_of_ble_eq_true rfl) ?_
  intro p e s m args below meth c hF hP hK ls hl
  generalize hQ : roQ below _ args s = Q
  obtain ⟨hx, hb, hml, hown, hr, hk, hts, hN⟩ := hF
  have hl : lv_has ls 2 [(0, .ref (a_ck 0)), (1, .int p1)] := hl
  unfold f0_has at h
  refine lv_iload_n hx hb dX0_has_0 rfl (lv_at hl 1 rfl) ?_
  refine lv_if_lt (tgt := 16) hx hb dX0_has_1 (by decide) (fun c => ?_) (fun c => ?_)
  · have h := ite_t c h
    refine lv_iconst (v := 0) hx hb dX0_has_16 (by decide) ?_
    obtain rfl := Option.some.inj h
    rw [← hQ]
    exact ro_zreturn hx hb hr hk (by decide) dX0_has_17
  · have h := ite_f c h
    refine lv_iload_n hx hb dX0_has_4 rfl (lv_at hl 1 rfl) ?_
    refine lv_aload_n hx hb dX0_has_5 rfl (lv_at hl 0 rfl) ?_
    refine va_get (D := D) (ci := 0) (v := .int ck.2.2.2.2.2.2.2.2.2.2.2) (C := "ConstraintText$ClockTable") (T := TX0) (N := 12) hx hb hts ing0 hown hK hP 0 rfl rfl 11 (by decide) (hts _ tw_149) (fun _ h9 => h9) rfl dX0_has_6 ?_
    refine lv_icmp_ge (tgt := 16) hx hb dX0_has_9 (by decide) (fun c => ?_) (fun c => ?_)
    · have h := ite_t c h
      refine lv_iconst (v := 0) hx hb dX0_has_16 (by decide) ?_
      obtain rfl := Option.some.inj h
      rw [← hQ]
      exact ro_zreturn hx hb hr hk (by decide) dX0_has_17
    · have h := ite_f c h
      refine lv_iconst (v := 1) hx hb dX0_has_12 (by decide) ?_
      refine lv_goto (tgt := 17) hx hb dX0_has_13 (by decide) ?_
      obtain rfl := Option.some.inj h
      rw [← hQ]
      exact ro_zreturn hx hb hr hk (by decide) dX0_has_17
abbrev rm5_isDigit : Room := { frames := 0, cells := 0, slots := 0, locals := 0 }
set_option maxHeartbeats 4000000 in
set_option maxRecDepth 100000 in
theorem c5_isDigit (l : Launch) (D : va_G) (kA : Nat → ClassId)  (p1 : Int32) (res : Int32) (h : f5_isDigit p1 = some res) : Ro l yX5_isDigit cX5_isDigit 1 (some .boolean) rm5_isDigit D kA [.int p1] [] (.int res) := by
  refine Ro.of (by decide) (Nat.le_of_ble_eq_true rfl) ?_
  intro p e s m args below meth c hF hP hK ls hl
  generalize hQ : roQ below _ args s = Q
  obtain ⟨hx, hb, hml, hown, hr, hk, hts, hN⟩ := hF
  have hl : lv_has ls 1 [(0, .int p1)] := hl
  unfold f5_isDigit at h
  refine lv_iload_n hx hb dX5_isDigit_0 rfl (lv_at hl 0 rfl) ?_
  refine lv_bipush (v := 48) hx hb dX5_isDigit_1 (by decide) ?_
  refine lv_icmp_lt (tgt := 16) hx hb dX5_isDigit_3 (by decide) (fun c => ?_) (fun c => ?_)
  · have h := ite_t c h
    refine lv_iconst (v := 0) hx hb dX5_isDigit_16 (by decide) ?_
    obtain rfl := Option.some.inj h
    rw [← hQ]
    exact ro_zreturn hx hb hr hk (by decide) dX5_isDigit_17
  · have h := ite_f c h
    refine lv_iload_n hx hb dX5_isDigit_6 rfl (lv_at hl 0 rfl) ?_
    refine lv_bipush (v := 57) hx hb dX5_isDigit_7 (by decide) ?_
    refine lv_icmp_gt (tgt := 16) hx hb dX5_isDigit_9 (by decide) (fun c => ?_) (fun c => ?_)
    · have h := ite_t c h
      refine lv_iconst (v := 0) hx hb dX5_isDigit_16 (by decide) ?_
      obtain rfl := Option.some.inj h
      rw [← hQ]
      exact ro_zreturn hx hb hr hk (by decide) dX5_isDigit_17
    · have h := ite_f c h
      refine lv_iconst (v := 1) hx hb dX5_isDigit_12 (by decide) ?_
      refine lv_goto (tgt := 17) hx hb dX5_isDigit_13 (by decide) ?_
      obtain rfl := Option.some.inj h
      rw [← hQ]
      exact ro_zreturn hx hb hr hk (by decide) dX5_isDigit_17
abbrev rm5_isBlank : Room := { frames := 0, cells := 0, slots := 0, locals := 0 }
set_option maxHeartbeats 4000000 in
set_option maxRecDepth 100000 in
theorem c5_isBlank (l : Launch) (D : va_G) (kA : Nat → ClassId)  (p1 : Int32) (res : Int32) (h : f5_isBlank p1 = some res) : Ro l yX5_isBlank cX5_isBlank 1 (some .boolean) rm5_isBlank D kA [.int p1] [] (.int res) := by
  refine Ro.of (by decide) (Nat.le_of_ble_eq_true rfl) ?_
  intro p e s m args below meth c hF hP hK ls hl
  generalize hQ : roQ below _ args s = Q
  obtain ⟨hx, hb, hml, hown, hr, hk, hts, hN⟩ := hF
  have hl : lv_has ls 1 [(0, .int p1)] := hl
  unfold f5_isBlank at h
  refine lv_iload_n hx hb dX5_isBlank_0 rfl (lv_at hl 0 rfl) ?_
  refine lv_bipush (v := 32) hx hb dX5_isBlank_1 (by decide) ?_
  refine lv_icmp_eq (tgt := 12) hx hb dX5_isBlank_3 (by decide) (fun c => ?_) (fun c => ?_)
  · have h := ite_t c h
    refine lv_iconst (v := 1) hx hb dX5_isBlank_12 (by decide) ?_
    refine lv_goto (tgt := 17) hx hb dX5_isBlank_13 (by decide) ?_
    obtain rfl := Option.some.inj h
    rw [← hQ]
    exact ro_zreturn hx hb hr hk (by decide) dX5_isBlank_17
  · have h := ite_f c h
    refine lv_iload_n hx hb dX5_isBlank_6 rfl (lv_at hl 0 rfl) ?_
    refine lv_bipush (v := 10) hx hb dX5_isBlank_7 (by decide) ?_
    refine lv_icmp_ne (tgt := 16) hx hb dX5_isBlank_9 (by decide) (fun c => ?_) (fun c => ?_)
    · have h := ite_f c h
      refine lv_iconst (v := 0) hx hb dX5_isBlank_16 (by decide) ?_
      obtain rfl := Option.some.inj h
      rw [← hQ]
      exact ro_zreturn hx hb hr hk (by decide) dX5_isBlank_17
    · have h := ite_t c h
      refine lv_iconst (v := 1) hx hb dX5_isBlank_12 (by decide) ?_
      refine lv_goto (tgt := 17) hx hb dX5_isBlank_13 (by decide) ?_
      obtain rfl := Option.some.inj h
      rw [← hQ]
      exact ro_zreturn hx hb hr hk (by decide) dX5_isBlank_17
abbrev rm5_makesClock : Room := { frames := 0, cells := 0, slots := 0, locals := 0 }
set_option maxHeartbeats 4000000 in
set_option maxRecDepth 100000 in
theorem c5_makesClock (l : Launch) (D : va_G) (kA : Nat → ClassId)  (p1 : Int32) (res : Int32) (h : f5_makesClock p1 = some res) : Ro l yX5_makesClock cX5_makesClock 1 (some .boolean) rm5_makesClock D kA [.int p1] [] (.int res) := by
  refine Ro.of (by decide) (Nat.le_of_ble_eq_true rfl) ?_
  intro p e s m args below meth c hF hP hK ls hl
  generalize hQ : roQ below _ args s = Q
  obtain ⟨hx, hb, hml, hown, hr, hk, hts, hN⟩ := hF
  have hl : lv_has ls 1 [(0, .int p1)] := hl
  unfold f5_makesClock at h
  refine lv_iload_n hx hb dX5_makesClock_0 rfl (lv_at hl 0 rfl) ?_
  refine lv_if_eq (tgt := 14) hx hb dX5_makesClock_1 (by decide) (fun c => ?_) (fun c => ?_)
  · have h := ite_t c h
    refine lv_iconst (v := 1) hx hb dX5_makesClock_14 (by decide) ?_
    refine lv_goto (tgt := 19) hx hb dX5_makesClock_15 (by decide) ?_
    obtain rfl := Option.some.inj h
    rw [← hQ]
    exact ro_zreturn hx hb hr hk (by decide) dX5_makesClock_19
  · have h := ite_f c h
    refine lv_iload_n hx hb dX5_makesClock_4 rfl (lv_at hl 0 rfl) ?_
    refine lv_iconst (v := 1) hx hb dX5_makesClock_5 (by decide) ?_
    refine lv_icmp_eq (tgt := 14) hx hb dX5_makesClock_6 (by decide) (fun c => ?_) (fun c => ?_)
    · have h := ite_t c h
      refine lv_iconst (v := 1) hx hb dX5_makesClock_14 (by decide) ?_
      refine lv_goto (tgt := 19) hx hb dX5_makesClock_15 (by decide) ?_
      obtain rfl := Option.some.inj h
      rw [← hQ]
      exact ro_zreturn hx hb hr hk (by decide) dX5_makesClock_19
    · have h := ite_f c h
      refine lv_iload_n hx hb dX5_makesClock_9 rfl (lv_at hl 0 rfl) ?_
      refine lv_iconst (v := 2) hx hb dX5_makesClock_10 (by decide) ?_
      refine lv_icmp_ne (tgt := 18) hx hb dX5_makesClock_11 (by decide) (fun c => ?_) (fun c => ?_)
      · have h := ite_f c h
        refine lv_iconst (v := 0) hx hb dX5_makesClock_18 (by decide) ?_
        obtain rfl := Option.some.inj h
        rw [← hQ]
        exact ro_zreturn hx hb hr hk (by decide) dX5_makesClock_19
      · have h := ite_t c h
        refine lv_iconst (v := 1) hx hb dX5_makesClock_14 (by decide) ?_
        refine lv_goto (tgt := 19) hx hb dX5_makesClock_15 (by decide) ?_
        obtain rfl := Option.some.inj h
        rw [← hQ]
        exact ro_zreturn hx hb hr hk (by decide) dX5_makesClock_19
abbrev rm4_at : Room := { frames := 0, cells := 0, slots := 0, locals := 0 }
set_option maxHeartbeats 4000000 in
set_option maxRecDepth 100000 in
theorem c4_at (l : Launch) (D : va_G) (kA : Nat → ClassId) (a_tp : Nat → Nat) (p1 : Int32) (tp : T4) (res : Int32) (h : f4_at p1 tp = some res) : Ro l yX4_at cX4_at 2 (some .char) rm4_at D kA [.ref (a_tp 0), .int p1] [(a_tp 0, .inr (4, [.ref (a_tp 1), .int tp.2])), (a_tp 1, .inl (kA 1, 1200, .inl tp.1))] (.int res) := by
  refine Ro.of (by decide) (Nat.le_of_ble_eq_true rfl) ?_
  intro p e s m args below meth c hF hP hK ls hl
  generalize hQ : roQ below _ args s = Q
  obtain ⟨hx, hb, hml, hown, hr, hk, hts, hN⟩ := hF
  have hl : lv_has ls 2 [(0, .ref (a_tp 0)), (1, .int p1)] := hl
  unfold f4_at at h
  refine lv_iload_n hx hb dX4_at_0 rfl (lv_at hl 1 rfl) ?_
  refine lv_if_lt (tgt := 21) hx hb dX4_at_1 (by decide) (fun c => ?_) (fun c => ?_)
  · have h := ite_t c h
    refine lv_iconst (v := 0) hx hb dX4_at_21 (by decide) ?_
    obtain rfl := Option.some.inj h
    rw [← hQ]
    exact ro_zreturn hx hb hr hk (by decide) dX4_at_22
  · have h := ite_f c h
    refine lv_iload_n hx hb dX4_at_4 rfl (lv_at hl 1 rfl) ?_
    refine lv_aload_n hx hb dX4_at_5 rfl (lv_at hl 0 rfl) ?_
    refine va_get (D := D) (ci := 4) (v := .int tp.2) (C := "ConstraintText$Tape") (T := TX4) (N := 2) hx hb hts ing4 hown hK hP 0 rfl rfl 1 (by decide) (hts _ tw_113) (fun _ h9 => h9) rfl dX4_at_6 ?_
    refine lv_icmp_ge (tgt := 21) hx hb dX4_at_9 (by decide) (fun c => ?_) (fun c => ?_)
    · have h := ite_t c h
      refine lv_iconst (v := 0) hx hb dX4_at_21 (by decide) ?_
      obtain rfl := Option.some.inj h
      rw [← hQ]
      exact ro_zreturn hx hb hr hk (by decide) dX4_at_22
    · have h := ite_f c h
      refine lv_aload_n hx hb dX4_at_12 rfl (lv_at hl 0 rfl) ?_
      refine va_get (D := D) (ci := 4) (v := .ref (a_tp 1)) (C := "ConstraintText$Tape") (T := TX4) (N := 2) hx hb hts ing4 hown hK hP 0 rfl rfl 0 (by decide) (hts _ tw_112) (fun _ h9 => h9) rfl dX4_at_13 ?_
      refine lv_iload_n hx hb dX4_at_16 rfl (lv_at hl 1 rfl) ?_
      obtain ⟨g17, h⟩ := grd_some h
      refine va_cald hx hb hK hP 1 1 rfl rfl (inb_in g17) dX4_at_17 ?_
      refine lv_goto (tgt := 22) hx hb dX4_at_18 (by decide) ?_
      obtain ⟨gr, h⟩ := grd_some h
      obtain rfl := Option.some.inj h
      rw [← hQ]
      exact ro_zreturn hx hb hr hk (of_decide_eq_true gr) dX4_at_22
abbrev rm3_patternOf : Room := { frames := 0, cells := 0, slots := 0, locals := 0 }
set_option maxHeartbeats 4000000 in
set_option maxRecDepth 100000 in
theorem c3_patternOf (l : Launch) (D : va_G) (kA : Nat → ClassId) (a_sh : Nat → Nat) (a_ck : Nat → Nat) (p1 : Int32) (p2 : Int32) (sh : T3) (res : Int32) (h : f3_patternOf p1 p2 sh = some res) : Ro l yX3_patternOf cX3_patternOf 4 (some .int) rm3_patternOf D kA [.ref (a_sh 0), .int p1, .int p2] [(a_sh 0, .inr (3, [.ref (a_sh 1), .ref (a_sh 2), .ref (a_sh 3), .ref (a_sh 4), .ref (a_sh 5), .ref (a_sh 6), .ref (a_sh 7), .ref (a_ck 0), .int sh.2.2.2.2.2.2.2.1, .int sh.2.2.2.2.2.2.2.2])), (a_sh 1, .inl (kA 0, 40, .inl sh.1)), (a_sh 2, .inl (kA 0, 40, .inl sh.2.1)), (a_sh 3, .inl (kA 0, 80, .inl sh.2.2.1)), (a_sh 4, .inl (kA 0, 120, .inl sh.2.2.2.1)), (a_sh 5, .inl (kA 0, 120, .inl sh.2.2.2.2.1)), (a_sh 6, .inl (kA 2, 120, .inr (.inl sh.2.2.2.2.2.1))), (a_sh 7, .inl (kA 1, 1240, .inl sh.2.2.2.2.2.2.1))] (.int res) := by
  refine Ro.of (by decide) (Nat.le_of_ble_eq_true rfl) ?_
  intro p e s m args below meth c hF hP hK ls hl
  generalize hQ : roQ below _ args s = Q
  obtain ⟨hx, hb, hml, hown, hr, hk, hts, hN⟩ := hF
  have hl : lv_has ls 4 [(0, .ref (a_sh 0)), (1, .int p1), (2, .int p2)] := hl
  unfold f3_patternOf at h
  refine lv_iload_n hx hb dX3_patternOf_0 rfl (lv_at hl 1 rfl) ?_
  refine lv_iconst (v := 1) hx hb dX3_patternOf_1 (by decide) ?_
  obtain ⟨k27, hk27, h⟩ := jn_name h
  have j27 : ∀ (v27 : Int32) (ls : Array Slot), k27 v27 = some res → lv_has ls 4 [(3, .int v27), (1, .int p1), (2, .int p2)] → W p l e rm3_patternOf s m args below meth c s.heap [] 0 0 Q (F0 m 27 ls []) := by
    intro v27 ls h hl
    have h := app_of hk27 h
    refine lv_istore_n (lv' := [(3, .int v27), (1, .int p1), (2, .int p2)]) hx hb dX3_patternOf_27 rfl hl (by decide) rfl (fun ls hl => ?_)
    refine lv_iload_n hx hb dX3_patternOf_28 rfl (lv_at hl 0 rfl) ?_
    refine lv_if_eq (tgt := 42) hx hb dX3_patternOf_29 (by decide) (fun c => ?_) (fun c => ?_)
    · have h := ite_t c h
      refine lv_iconst (v := -1) hx hb dX3_patternOf_42 (by decide) ?_
      obtain rfl := Option.some.inj h
      rw [← hQ]
      exact ro_ireturn hx hb hr hk  dX3_patternOf_43
    · have h := ite_f c h
      refine lv_iload_n hx hb dX3_patternOf_32 rfl (lv_at hl 1 rfl) ?_
      refine lv_iconst (v := 1) hx hb dX3_patternOf_33 (by decide) ?_
      refine lv_isub hx hb dX3_patternOf_34 ?_
      refine lv_iconst (v := 3) hx hb dX3_patternOf_35 (by decide) ?_
      refine lv_imul hx hb dX3_patternOf_36 ?_
      refine lv_iload_n hx hb dX3_patternOf_37 rfl (lv_at hl 2 rfl) ?_
      refine lv_iadd hx hb dX3_patternOf_38 ?_
      refine lv_goto (tgt := 43) hx hb dX3_patternOf_39 (by decide) ?_
      obtain rfl := Option.some.inj h
      rw [← hQ]
      exact ro_ireturn hx hb hr hk  dX3_patternOf_43
  refine lv_icmp_lt (tgt := 26) hx hb dX3_patternOf_2 (by decide) (fun c => ?_) (fun c => ?_)
  · have h := ite_t c h
    refine lv_iconst (v := 0) hx hb dX3_patternOf_26 (by decide) ?_
    exact j27 _ ls h (lv_sub hl [1, 2] rfl)
  · have h := ite_f c h
    refine lv_iload_n hx hb dX3_patternOf_5 rfl (lv_at hl 1 rfl) ?_
    refine lv_aload_n hx hb dX3_patternOf_6 rfl (lv_at hl 0 rfl) ?_
    refine va_get (D := D) (ci := 3) (v := .int sh.2.2.2.2.2.2.2.1) (C := "ConstraintText$Sheet") (T := TX3) (N := 10) hx hb hts ing3 hown hK hP 0 rfl rfl 8 (by decide) (hts _ tw_193) (fun _ h9 => h9) rfl dX3_patternOf_7 ?_
    refine lv_icmp_gt (tgt := 26) hx hb dX3_patternOf_10 (by decide) (fun c => ?_) (fun c => ?_)
    · have h := ite_t c h
      refine lv_iconst (v := 0) hx hb dX3_patternOf_26 (by decide) ?_
      exact j27 _ ls h (lv_sub hl [1, 2] rfl)
    · have h := ite_f c h
      refine lv_iload_n hx hb dX3_patternOf_13 rfl (lv_at hl 2 rfl) ?_
      refine lv_if_lt (tgt := 26) hx hb dX3_patternOf_14 (by decide) (fun c => ?_) (fun c => ?_)
      · have h := ite_t c h
        refine lv_iconst (v := 0) hx hb dX3_patternOf_26 (by decide) ?_
        exact j27 _ ls h (lv_sub hl [1, 2] rfl)
      · have h := ite_f c h
        refine lv_iload_n hx hb dX3_patternOf_17 rfl (lv_at hl 2 rfl) ?_
        refine lv_iconst (v := 3) hx hb dX3_patternOf_18 (by decide) ?_
        refine lv_icmp_ge (tgt := 26) hx hb dX3_patternOf_19 (by decide) (fun c => ?_) (fun c => ?_)
        · have h := ite_t c h
          refine lv_iconst (v := 0) hx hb dX3_patternOf_26 (by decide) ?_
          exact j27 _ ls h (lv_sub hl [1, 2] rfl)
        · have h := ite_f c h
          refine lv_iconst (v := 1) hx hb dX3_patternOf_22 (by decide) ?_
          refine lv_goto (tgt := 27) hx hb dX3_patternOf_23 (by decide) ?_
          exact j27 _ ls h (lv_sub hl [1, 2] rfl)
abbrev rm3_hitsOf : Room := { frames := 1, cells := 0, slots := 0, locals := 23 }
set_option maxHeartbeats 4000000 in
set_option maxRecDepth 100000 in
theorem c3_hitsOf (l : Launch) (D : va_G) (kA : Nat → ClassId) (a_sh : Nat → Nat) (a_ck : Nat → Nat) (p1 : Int32) (p2 : Int32) (sh : T3) (res : Int64) (h : f3_hitsOf p1 p2 sh = some res) : Ro l yX3_hitsOf cX3_hitsOf 4 (some .long) rm3_hitsOf D kA [.ref (a_sh 0), .int p1, .int p2] [(a_sh 0, .inr (3, [.ref (a_sh 1), .ref (a_sh 2), .ref (a_sh 3), .ref (a_sh 4), .ref (a_sh 5), .ref (a_sh 6), .ref (a_sh 7), .ref (a_ck 0), .int sh.2.2.2.2.2.2.2.1, .int sh.2.2.2.2.2.2.2.2])), (a_sh 1, .inl (kA 0, 40, .inl sh.1)), (a_sh 2, .inl (kA 0, 40, .inl sh.2.1)), (a_sh 3, .inl (kA 0, 80, .inl sh.2.2.1)), (a_sh 4, .inl (kA 0, 120, .inl sh.2.2.2.1)), (a_sh 5, .inl (kA 0, 120, .inl sh.2.2.2.2.1)), (a_sh 6, .inl (kA 2, 120, .inr (.inl sh.2.2.2.2.2.1))), (a_sh 7, .inl (kA 1, 1240, .inl sh.2.2.2.2.2.2.1))] (.long res) := by
  refine Ro.of (by decide) (Nat.le_of_ble_eq_true rfl) ?_
  intro p e s m args below meth c hF hP hK ls hl
  generalize hQ : roQ below _ args s = Q
  obtain ⟨hx, hb, hml, hown, hr, hk, hts, hN⟩ := hF
  have hl : lv_has ls 4 [(0, .ref (a_sh 0)), (1, .int p1), (2, .int p2)] := hl
  unfold f3_hitsOf at h
  refine lv_aload_n hx hb dX3_hitsOf_0 rfl (lv_at hl 0 rfl) ?_
  refine lv_iload_n hx hb dX3_hitsOf_1 rfl (lv_at hl 1 rfl) ?_
  refine lv_iload_n hx hb dX3_hitsOf_2 rfl (lv_at hl 2 rfl) ?_
  obtain ⟨u3, c3, h⟩ := bnd_some h
  refine ro_V (As := [.int p1, .int p2]) (rest := []) hx hb hml hown hts hN hK hP (c3_patternOf l D kA a_sh a_ck p1 p2 sh u3 c3) [0, 1, 2, 3, 4, 5, 6, 7] rfl 0 3 rfl rfl rfl tw_490 tw_492 tw_15 tw_77 tw_493 rfl rfl (by decide) ⟨Nat.le_of_ble_eq_true rfl, Nat.le_of_ble_eq_true rfl⟩ rfl hl.1 rfl (Nat.le_of_ble_eq_true rfl) dX3_hitsOf_3 ⟨Nat.le_of_ble_eq_true rfl, Nat.le_of_ble_eq_true rfl⟩ ?_
  refine lv_istore_n (lv' := [(3, .int u3), (0, .ref (a_sh 0)), (1, .int p1), (2, .int p2)]) hx hb dX3_hitsOf_6 rfl hl (by decide) rfl (fun ls hl => ?_)
  refine lv_iload_n hx hb dX3_hitsOf_7 rfl (lv_at hl 0 rfl) ?_
  refine lv_iconst (v := -1) hx hb dX3_hitsOf_8 (by decide) ?_
  refine lv_icmp_ne (tgt := 16) hx hb dX3_hitsOf_9 (by decide) (fun c => ?_) (fun c => ?_)
  · have h := ite_f c h
    refine lv_aload_n hx hb dX3_hitsOf_16 rfl (lv_at hl 1 rfl) ?_
    refine va_get (D := D) (ci := 3) (v := .ref (a_sh 6)) (C := "ConstraintText$Sheet") (T := TX3) (N := 10) hx hb hts ing3 hown hK hP 0 rfl rfl 5 (by decide) (hts _ tw_188) (fun _ h9 => h9) rfl dX3_hitsOf_17 ?_
    refine lv_iload_n hx hb dX3_hitsOf_20 rfl (lv_at hl 0 rfl) ?_
    obtain ⟨g21, h⟩ := grd_some h
    refine va_lald hx hb hK hP 6 2 rfl rfl (inb_in g21) dX3_hitsOf_21 ?_
    obtain rfl := Option.some.inj h
    rw [← hQ]
    exact ro_lreturn hx hb hr hk  dX3_hitsOf_22
  · have h := ite_t c h
    refine lv_lconst (v := 0) hx hb dX3_hitsOf_12 (by decide) ?_
    refine lv_goto (tgt := 22) hx hb dX3_hitsOf_13 (by decide) ?_
    obtain rfl := Option.some.inj h
    rw [← hQ]
    exact ro_lreturn hx hb hr hk  dX3_hitsOf_22
abbrev rm3_haveClash : Room := { frames := 2, cells := 0, slots := 0, locals := 46 }
set_option maxHeartbeats 4000000 in
set_option maxRecDepth 100000 in
theorem c3_haveClash (l : Launch) (D : va_G) (kA : Nat → ClassId) (a_sh : Nat → Nat) (a_ck : Nat → Nat) (p1 : Int32) (p2 : Int32) (sh : T3) (res : Int32) (h : f3_haveClash p1 p2 sh = some res) : Ro l yX3_haveClash cX3_haveClash 7 (some .boolean) rm3_haveClash D kA [.ref (a_sh 0), .int p1, .int p2] [(a_sh 0, .inr (3, [.ref (a_sh 1), .ref (a_sh 2), .ref (a_sh 3), .ref (a_sh 4), .ref (a_sh 5), .ref (a_sh 6), .ref (a_sh 7), .ref (a_ck 0), .int sh.2.2.2.2.2.2.2.1, .int sh.2.2.2.2.2.2.2.2])), (a_sh 1, .inl (kA 0, 40, .inl sh.1)), (a_sh 2, .inl (kA 0, 40, .inl sh.2.1)), (a_sh 3, .inl (kA 0, 80, .inl sh.2.2.1)), (a_sh 4, .inl (kA 0, 120, .inl sh.2.2.2.1)), (a_sh 5, .inl (kA 0, 120, .inl sh.2.2.2.2.1)), (a_sh 6, .inl (kA 2, 120, .inr (.inl sh.2.2.2.2.2.1))), (a_sh 7, .inl (kA 1, 1240, .inl sh.2.2.2.2.2.2.1))] (.int res) := by
  refine Ro.of (by decide) (Nat.le_of_ble_eq_true rfl) ?_
  intro p e s m args below meth c hF hP hK ls hl
  generalize hQ : roQ below _ args s = Q
  obtain ⟨hx, hb, hml, hown, hr, hk, hts, hN⟩ := hF
  have hl : lv_has ls 7 [(0, .ref (a_sh 0)), (1, .int p1), (2, .int p2)] := hl
  unfold f3_haveClash at h
  refine lv_aload_n hx hb dX3_haveClash_0 rfl (lv_at hl 0 rfl) ?_
  refine va_get (D := D) (ci := 3) (v := .ref (a_sh 1)) (C := "ConstraintText$Sheet") (T := TX3) (N := 10) hx hb hts ing3 hown hK hP 0 rfl rfl 0 (by decide) (hts _ tw_180) (fun _ h9 => h9) rfl dX3_haveClash_1 ?_
  refine lv_iload_n hx hb dX3_haveClash_4 rfl (lv_at hl 1 rfl) ?_
  refine lv_iconst (v := 1) hx hb dX3_haveClash_5 (by decide) ?_
  refine lv_isub hx hb dX3_haveClash_6 ?_
  obtain ⟨g7, h⟩ := grd_some h
  refine va_iald hx hb hK hP 1 0 rfl rfl (inb_in g7) dX3_haveClash_7 ?_
  refine lv_istore_n (lv' := [(3, .int (sh.1 (p1 - (1 : Int32)).toNatClampNeg)), (0, .ref (a_sh 0)), (1, .int p1), (2, .int p2)]) hx hb dX3_haveClash_8 rfl hl (by decide) rfl (fun ls hl => ?_)
  refine lv_aload_n hx hb dX3_haveClash_9 rfl (lv_at hl 1 rfl) ?_
  refine va_get (D := D) (ci := 3) (v := .ref (a_sh 1)) (C := "ConstraintText$Sheet") (T := TX3) (N := 10) hx hb hts ing3 hown hK hP 0 rfl rfl 0 (by decide) (hts _ tw_180) (fun _ h9 => h9) rfl dX3_haveClash_10 ?_
  refine lv_iload_n hx hb dX3_haveClash_13 rfl (lv_at hl 3 rfl) ?_
  refine lv_iconst (v := 1) hx hb dX3_haveClash_14 (by decide) ?_
  refine lv_isub hx hb dX3_haveClash_15 ?_
  obtain ⟨g16, h⟩ := grd_some h
  refine va_iald hx hb hK hP 1 0 rfl rfl (inb_in g16) dX3_haveClash_16 ?_
  refine lv_istore (lv' := [(4, .int (sh.1 (p2 - (1 : Int32)).toNatClampNeg)), (3, .int (sh.1 (p1 - (1 : Int32)).toNatClampNeg)), (0, .ref (a_sh 0)), (1, .int p1), (2, .int p2)]) hx hb dX3_haveClash_17 hl (by decide) rfl (fun ls hl => ?_)
  refine lv_iload_n hx hb dX3_haveClash_19 rfl (lv_at hl 1 rfl) ?_
  obtain ⟨u20, c20, h⟩ := bnd_some h
  refine ro_SN (As := [.int (sh.1 (p1 - (1 : Int32)).toNatClampNeg)]) (rest := []) hx hb hml hown hts hN hK hP (c5_makesClock l D kA (sh.1 (p1 - (1 : Int32)).toNatClampNeg) u20 c20) [] rfl nw_825 tw_826 tw_74 tw_827 rfl rfl (by decide) ⟨Nat.le_of_ble_eq_true rfl, Nat.le_of_ble_eq_true rfl⟩ rfl hl.1 rfl (Nat.le_of_ble_eq_true rfl) dX3_haveClash_20 ⟨Nat.le_of_ble_eq_true rfl, Nat.le_of_ble_eq_true rfl⟩ ?_
  obtain ⟨k39, hk39, h⟩ := jn_name h
  have j39 : ∀ (v39 : Int32) (ls : Array Slot), k39 v39 = some res → lv_has ls 7 [(5, .int v39), (0, .ref (a_sh 0)), (1, .int p1), (2, .int p2), (3, .int (sh.1 (p1 - (1 : Int32)).toNatClampNeg)), (4, .int (sh.1 (p2 - (1 : Int32)).toNatClampNeg))] → W p l e rm3_haveClash s m args below meth c s.heap [] 0 0 Q (F0 m 39 ls [.int (8 : Int32), .int (sh.1 (p1 - (1 : Int32)).toNatClampNeg)]) := by
    intro v39 ls h hl
    have h := app_of hk39 h
    refine lv_istore (lv' := [(5, .int v39), (0, .ref (a_sh 0)), (1, .int p1), (2, .int p2), (3, .int (sh.1 (p1 - (1 : Int32)).toNatClampNeg)), (4, .int (sh.1 (p2 - (1 : Int32)).toNatClampNeg))]) hx hb dX3_haveClash_39 hl (by decide) rfl (fun ls hl => ?_)
    refine lv_iload_n hx hb dX3_haveClash_41 rfl (lv_at hl 4 rfl) ?_
    refine lv_bipush (v := 8) hx hb dX3_haveClash_42 (by decide) ?_
    obtain ⟨k83, hk83, h⟩ := jn_name h
    have j83 : ∀ (v83 : Int32) (ls : Array Slot), k83 v83 = some res → lv_has ls 7 [(6, .int v83), (0, .ref (a_sh 0)), (1, .int p1), (2, .int p2), (5, .int v39)] → W p l e rm3_haveClash s m args below meth c s.heap [] 0 0 Q (F0 m 83 ls [.int v39]) := by
      intro v83 ls h hl
      have h := app_of hk83 h
      refine lv_istore (lv' := [(6, .int v83), (0, .ref (a_sh 0)), (1, .int p1), (2, .int p2), (5, .int v39)]) hx hb dX3_haveClash_83 hl (by decide) rfl (fun ls hl => ?_)
      refine lv_iload hx hb dX3_haveClash_85 (lv_at hl 4 rfl) ?_
      obtain ⟨k95, hk95, h⟩ := jn_name h
      have j95 : ∀ (v95 : Unit) (ls : Array Slot), k95 v95 = some res → lv_has ls 7 [(0, .ref (a_sh 0)), (1, .int p1), (2, .int p2)] → W p l e rm3_haveClash s m args below meth c s.heap [] 0 0 Q (F0 m 95 ls []) := by
        intro v95 ls h hl
        have h := app_of hk95 h
        refine lv_aload_n hx hb dX3_haveClash_95 rfl (lv_at hl 0 rfl) ?_
        refine lv_iload_n hx hb dX3_haveClash_96 rfl (lv_at hl 1 rfl) ?_
        refine lv_iconst (v := 0) hx hb dX3_haveClash_97 (by decide) ?_
        obtain ⟨u98, c98, h⟩ := bnd_some h
        refine ro_V (As := [.int p1, .int (0 : Int32)]) (rest := []) hx hb hml hown hts hN hK hP (c3_hitsOf l D kA a_sh a_ck p1 (0 : Int32) sh u98 c98) [0, 1, 2, 3, 4, 5, 6, 7] rfl 0 3 rfl rfl rfl tw_768 tw_693 tw_694 tw_77 tw_695 rfl rfl (by decide) ⟨Nat.le_of_ble_eq_true rfl, Nat.le_of_ble_eq_true rfl⟩ rfl hl.1 rfl (Nat.le_of_ble_eq_true rfl) dX3_haveClash_98 ⟨Nat.le_of_ble_eq_true rfl, Nat.le_of_ble_eq_true rfl⟩ ?_
        refine lv_aload_n hx hb dX3_haveClash_101 rfl (lv_at hl 0 rfl) ?_
        refine lv_iload_n hx hb dX3_haveClash_102 rfl (lv_at hl 2 rfl) ?_
        refine lv_iconst (v := 0) hx hb dX3_haveClash_103 (by decide) ?_
        obtain ⟨u104, c104, h⟩ := bnd_some h
        refine ro_V (As := [.int p2, .int (0 : Int32)]) (rest := [.long u98]) hx hb hml hown hts hN hK hP (c3_hitsOf l D kA a_sh a_ck p2 (0 : Int32) sh u104 c104) [0, 1, 2, 3, 4, 5, 6, 7] rfl 0 3 rfl rfl rfl tw_768 tw_693 tw_694 tw_77 tw_695 rfl rfl (by decide) ⟨Nat.le_of_ble_eq_true rfl, Nat.le_of_ble_eq_true rfl⟩ rfl hl.1 rfl (Nat.le_of_ble_eq_true rfl) dX3_haveClash_104 ⟨Nat.le_of_ble_eq_true rfl, Nat.le_of_ble_eq_true rfl⟩ ?_
        refine lv_land hx hb dX3_haveClash_107 ?_
        refine lv_lconst (v := 0) hx hb dX3_haveClash_108 (by decide) ?_
        refine W.lcmp hx hb dX3_haveClash_109 ?_
        refine lv_if_eq (tgt := 117) hx hb dX3_haveClash_110 (by decide) (fun c => ?_) (fun c => ?_)
        · have h := ite_t c h
          refine lv_iconst (v := 0) hx hb dX3_haveClash_117 (by decide) ?_
          obtain rfl := Option.some.inj h
          rw [← hQ]
          exact ro_zreturn hx hb hr hk (by decide) dX3_haveClash_118
        · have h := ite_f c h
          refine lv_iconst (v := 1) hx hb dX3_haveClash_113 (by decide) ?_
          refine lv_goto (tgt := 118) hx hb dX3_haveClash_114 (by decide) ?_
          obtain rfl := Option.some.inj h
          rw [← hQ]
          exact ro_zreturn hx hb hr hk (by decide) dX3_haveClash_118
      refine lv_if_ne (tgt := 95) hx hb dX3_haveClash_87 (by decide) (fun c => ?_) (fun c => ?_)
      · have h := ite_f c h
        exact j95 _ ls h (lv_sub hl [1, 2, 3] rfl)
      · have h := ite_t c h
        refine lv_iload hx hb dX3_haveClash_90 (lv_at hl 0 rfl) ?_
        refine lv_if_eq (tgt := 117) hx hb dX3_haveClash_92 (by decide) (fun c => ?_) (fun c => ?_)
        · have h := ite_t c h
          refine lv_iconst (v := 0) hx hb dX3_haveClash_117 (by decide) ?_
          obtain rfl := Option.some.inj h
          rw [← hQ]
          exact ro_zreturn hx hb hr hk (by decide) dX3_haveClash_118
        · have h := ite_f c h
          exact j95 _ ls h (lv_sub hl [1, 2, 3] rfl)
    obtain ⟨k53, hk53, h⟩ := jn_name h
    have j53 : ∀ (v53 : Unit) (ls : Array Slot), k53 v53 = some res → lv_has ls 7 [(0, .ref (a_sh 0)), (1, .int p1), (2, .int p2), (3, .int (sh.1 (p1 - (1 : Int32)).toNatClampNeg)), (4, .int (sh.1 (p2 - (1 : Int32)).toNatClampNeg)), (5, .int v39)] → W p l e rm3_haveClash s m args below meth c s.heap [] 0 0 Q (F0 m 53 ls []) := by
      intro v53 ls h hl
      have h := app_of hk53 h
      refine lv_iload_n hx hb dX3_haveClash_53 rfl (lv_at hl 3 rfl) ?_
      refine lv_iload hx hb dX3_haveClash_54 (lv_at hl 4 rfl) ?_
      refine lv_icmp_ne (tgt := 82) hx hb dX3_haveClash_56 (by decide) (fun c => ?_) (fun c => ?_)
      · have h := ite_f c h
        refine lv_iconst (v := 0) hx hb dX3_haveClash_82 (by decide) ?_
        exact j83 _ ls h (lv_sub hl [0, 1, 2, 5] rfl)
      · have h := ite_t c h
        refine lv_aload_n hx hb dX3_haveClash_59 rfl (lv_at hl 0 rfl) ?_
        refine va_get (D := D) (ci := 3) (v := .ref (a_sh 2)) (C := "ConstraintText$Sheet") (T := TX3) (N := 10) hx hb hts ing3 hown hK hP 0 rfl rfl 1 (by decide) (hts _ tw_182) (fun _ h9 => h9) rfl dX3_haveClash_60 ?_
        refine lv_iload_n hx hb dX3_haveClash_63 rfl (lv_at hl 1 rfl) ?_
        refine lv_iconst (v := 1) hx hb dX3_haveClash_64 (by decide) ?_
        refine lv_isub hx hb dX3_haveClash_65 ?_
        obtain ⟨g66, h⟩ := grd_some h
        refine va_iald hx hb hK hP 2 0 rfl rfl (inb_in g66) dX3_haveClash_66 ?_
        refine lv_aload_n hx hb dX3_haveClash_67 rfl (lv_at hl 0 rfl) ?_
        refine va_get (D := D) (ci := 3) (v := .ref (a_sh 2)) (C := "ConstraintText$Sheet") (T := TX3) (N := 10) hx hb hts ing3 hown hK hP 0 rfl rfl 1 (by decide) (hts _ tw_182) (fun _ h9 => h9) rfl dX3_haveClash_68 ?_
        refine lv_iload_n hx hb dX3_haveClash_71 rfl (lv_at hl 2 rfl) ?_
        refine lv_iconst (v := 1) hx hb dX3_haveClash_72 (by decide) ?_
        refine lv_isub hx hb dX3_haveClash_73 ?_
        obtain ⟨g74, h⟩ := grd_some h
        refine va_iald hx hb hK hP 2 0 rfl rfl (inb_in g74) dX3_haveClash_74 ?_
        refine lv_icmp_eq (tgt := 82) hx hb dX3_haveClash_75 (by decide) (fun c => ?_) (fun c => ?_)
        · have h := ite_t c h
          refine lv_iconst (v := 0) hx hb dX3_haveClash_82 (by decide) ?_
          exact j83 _ ls h (lv_sub hl [0, 1, 2, 5] rfl)
        · have h := ite_f c h
          refine lv_iconst (v := 1) hx hb dX3_haveClash_78 (by decide) ?_
          refine lv_goto (tgt := 83) hx hb dX3_haveClash_79 (by decide) ?_
          exact j83 _ ls h (lv_sub hl [0, 1, 2, 5] rfl)
    refine lv_icmp_eq (tgt := 53) hx hb dX3_haveClash_44 (by decide) (fun c => ?_) (fun c => ?_)
    · have h := ite_t c h
      exact j53 _ ls h (lv_sub hl [1, 2, 3, 4, 5, 0] rfl)
    · have h := ite_f c h
      refine lv_iload_n hx hb dX3_haveClash_47 rfl (lv_at hl 4 rfl) ?_
      refine lv_bipush (v := 9) hx hb dX3_haveClash_48 (by decide) ?_
      refine lv_icmp_ne (tgt := 82) hx hb dX3_haveClash_50 (by decide) (fun c => ?_) (fun c => ?_)
      · have h := ite_f c h
        refine lv_iconst (v := 0) hx hb dX3_haveClash_82 (by decide) ?_
        exact j83 _ ls h (lv_sub hl [1, 2, 3, 0] rfl)
      · have h := ite_t c h
        exact j53 _ ls h (lv_sub hl [1, 2, 3, 4, 5, 0] rfl)
  refine lv_if_eq (tgt := 38) hx hb dX3_haveClash_23 (by decide) (fun c => ?_) (fun c => ?_)
  · have h := ite_t c h
    refine lv_iconst (v := 0) hx hb dX3_haveClash_38 (by decide) ?_
    exact j39 _ ls h (lv_sub hl [2, 3, 4, 1, 0] rfl)
  · have h := ite_f c h
    refine lv_iload hx hb dX3_haveClash_26 (lv_at hl 0 rfl) ?_
    obtain ⟨u28, c28, h⟩ := bnd_some h
    refine ro_SN (As := [.int (sh.1 (p2 - (1 : Int32)).toNatClampNeg)]) (rest := []) hx hb hml hown hts hN hK hP (c5_makesClock l D kA (sh.1 (p2 - (1 : Int32)).toNatClampNeg) u28 c28) [] rfl nw_825 tw_826 tw_74 tw_827 rfl rfl (by decide) ⟨Nat.le_of_ble_eq_true rfl, Nat.le_of_ble_eq_true rfl⟩ rfl hl.1 rfl (Nat.le_of_ble_eq_true rfl) dX3_haveClash_28 ⟨Nat.le_of_ble_eq_true rfl, Nat.le_of_ble_eq_true rfl⟩ ?_
    refine lv_if_eq (tgt := 38) hx hb dX3_haveClash_31 (by decide) (fun c => ?_) (fun c => ?_)
    · have h := ite_t c h
      refine lv_iconst (v := 0) hx hb dX3_haveClash_38 (by decide) ?_
      exact j39 _ ls h (lv_sub hl [2, 3, 4, 1, 0] rfl)
    · have h := ite_f c h
      refine lv_iconst (v := 1) hx hb dX3_haveClash_34 (by decide) ?_
      refine lv_goto (tgt := 39) hx hb dX3_haveClash_35 (by decide) ?_
      exact j39 _ ls h (lv_sub hl [2, 3, 4, 1, 0] rfl)
abbrev rm3_strengthOf : Room := { frames := 0, cells := 0, slots := 0, locals := 0 }
set_option maxHeartbeats 4000000 in
set_option maxRecDepth 100000 in
theorem c3_strengthOf (l : Launch) (D : va_G) (kA : Nat → ClassId)  (p1 : Int32) (res : Int32) (h : f3_strengthOf p1 = some res) : Ro l yX3_strengthOf cX3_strengthOf 1 (some .int) rm3_strengthOf D kA [.int p1] [] (.int res) := by
  refine Ro.of (by decide) (Nat.le_of_ble_eq_true rfl) ?_
  intro p e s m args below meth c hF hP hK ls hl
  generalize hQ : roQ below _ args s = Q
  obtain ⟨hx, hb, hml, hown, hr, hk, hts, hN⟩ := hF
  have hl : lv_has ls 1 [(0, .int p1)] := hl
  unfold f3_strengthOf at h
  refine lv_iload_n hx hb dX3_strengthOf_0 rfl (lv_at hl 0 rfl) ?_
  by_cases c0 : p1 = (4 : Int32)
  · have h := ite_t c0 h
    refine lv_tableIn (tgt := 32) hx hb dX3_strengthOf_1 (by rw [c0]; decide) (by rw [c0]; decide) (by rw [c0]; rfl) (by decide) ?_
    refine lv_iconst (v := 3) hx hb dX3_strengthOf_32 (by decide) ?_
    obtain rfl := Option.some.inj h
    rw [← hQ]
    exact ro_ireturn hx hb hr hk  dX3_strengthOf_33
  · have h := ite_f c0 h
    by_cases c1 : p1 = (5 : Int32)
    · have h := ite_t c1 h
      refine lv_tableIn (tgt := 36) hx hb dX3_strengthOf_1 (by rw [c1]; decide) (by rw [c1]; decide) (by rw [c1]; rfl) (by decide) ?_
      refine lv_iconst (v := 1) hx hb dX3_strengthOf_36 (by decide) ?_
      obtain rfl := Option.some.inj h
      rw [← hQ]
      exact ro_ireturn hx hb hr hk  dX3_strengthOf_37
    · have h := ite_f c1 h
      by_cases c2 : p1 = (6 : Int32)
      · have h := ite_t c2 h
        refine lv_tableIn (tgt := 34) hx hb dX3_strengthOf_1 (by rw [c2]; decide) (by rw [c2]; decide) (by rw [c2]; rfl) (by decide) ?_
        refine lv_iconst (v := 2) hx hb dX3_strengthOf_34 (by decide) ?_
        obtain rfl := Option.some.inj h
        rw [← hQ]
        exact ro_ireturn hx hb hr hk  dX3_strengthOf_35
      · have h := ite_f c2 h
        by_cases c3 : p1 = (7 : Int32)
        · have h := ite_t c3 h
          refine lv_tableIn (tgt := 34) hx hb dX3_strengthOf_1 (by rw [c3]; decide) (by rw [c3]; decide) (by rw [c3]; rfl) (by decide) ?_
          refine lv_iconst (v := 2) hx hb dX3_strengthOf_34 (by decide) ?_
          obtain rfl := Option.some.inj h
          rw [← hQ]
          exact ro_ireturn hx hb hr hk  dX3_strengthOf_35
        · have h := ite_f c3 h
          refine lv_tableOut (tgt := 38) hx hb dX3_strengthOf_1 (by have q0 := lv_neT (a := 4) c0 (by decide); have q1 := lv_neT (a := 5) c1 (by decide); have q2 := lv_neT (a := 6) c2 (by decide); have q3 := lv_neT (a := 7) c3 (by decide); omega) (by decide) ?_
          refine lv_iconst (v := 0) hx hb dX3_strengthOf_38 (by decide) ?_
          obtain rfl := Option.some.inj h
          rw [← hQ]
          exact ro_ireturn hx hb hr hk  dX3_strengthOf_39
abbrev rm3_clashingRow : Room := { frames := 3, cells := 0, slots := 0, locals := 72 }
set_option maxHeartbeats 4000000 in
set_option maxRecDepth 100000 in
theorem c3_clashingRow (l : Launch) (D : va_G) (kA : Nat → ClassId) (a_sh : Nat → Nat) (a_ck : Nat → Nat) (F : Nat) (p1 : Int32) (p2 : Int32) (sh : T3) (res : Int32) (h : f3_clashingRow F p1 p2 sh = some res) : Ro l yX3_clashingRow cX3_clashingRow 6 (some .int) rm3_clashingRow D kA [.ref (a_sh 0), .int p1, .int p2] [(a_sh 0, .inr (3, [.ref (a_sh 1), .ref (a_sh 2), .ref (a_sh 3), .ref (a_sh 4), .ref (a_sh 5), .ref (a_sh 6), .ref (a_sh 7), .ref (a_ck 0), .int sh.2.2.2.2.2.2.2.1, .int sh.2.2.2.2.2.2.2.2])), (a_sh 1, .inl (kA 0, 40, .inl sh.1)), (a_sh 2, .inl (kA 0, 40, .inl sh.2.1)), (a_sh 3, .inl (kA 0, 80, .inl sh.2.2.1)), (a_sh 4, .inl (kA 0, 120, .inl sh.2.2.2.1)), (a_sh 5, .inl (kA 0, 120, .inl sh.2.2.2.2.1)), (a_sh 6, .inl (kA 2, 120, .inr (.inl sh.2.2.2.2.2.1))), (a_sh 7, .inl (kA 1, 1240, .inl sh.2.2.2.2.2.2.1))] (.int res) := by
  refine Ro.of (by decide) (Nat.le_of_ble_eq_true rfl) ?_
  intro p e s m args below meth c hF hP hK ls hl
  generalize hQ : roQ below _ args s = Q
  obtain ⟨hx, hb, hml, hown, hr, hk, hts, hN⟩ := hF
  have hl : lv_has ls 6 [(0, .ref (a_sh 0)), (1, .int p1), (2, .int p2)] := hl
  unfold f3_clashingRow at h
  refine lv_iconst (v := 0) hx hb dX3_clashingRow_0 (by decide) ?_
  refine lv_istore_n (lv' := [(3, .int (0 : Int32)), (0, .ref (a_sh 0)), (1, .int p1), (2, .int p2)]) hx hb dX3_clashingRow_1 rfl hl (by decide) rfl (fun ls hl => ?_)
  refine lv_iconst (v := 1) hx hb dX3_clashingRow_2 (by decide) ?_
  refine lv_istore (lv' := [(4, .int (1 : Int32)), (3, .int (0 : Int32)), (0, .ref (a_sh 0)), (1, .int p1), (2, .int p2)]) hx hb dX3_clashingRow_3 hl (by decide) rfl (fun ls hl => ?_)
  obtain ⟨k5, e5, hk5, hi5, hc5⟩ := bnd_name h
  have x45w : ∀ (x45 : Int32 × Int32) (ls : Array Slot), k5 (.inl x45) = some res → lv_has ls 6 [(2, .int p2), (4, .int x45.1), (5, .int x45.2)] → W p l e rm3_clashingRow s m args below meth c s.heap [] 0 0 Q (F0 m 45 ls []) := by
    intro x45 ls h hl
    have h := app_of hk5 h
    have h := cas_l h
    refine lv_iload_n hx hb dX3_clashingRow_45 rfl (lv_at hl 0 rfl) ?_
    refine lv_if_ne (tgt := 54) hx hb dX3_clashingRow_46 (by decide) (fun c => ?_) (fun c => ?_)
    · have h := ite_f c h
      refine lv_iload hx hb dX3_clashingRow_54 (lv_at hl 2 rfl) ?_
      obtain rfl := Option.some.inj h
      rw [← hQ]
      exact ro_ireturn hx hb hr hk  dX3_clashingRow_56
    · have h := ite_t c h
      refine lv_iload hx hb dX3_clashingRow_49 (lv_at hl 1 rfl) ?_
      refine lv_goto (tgt := 56) hx hb dX3_clashingRow_51 (by decide) ?_
      obtain rfl := Option.some.inj h
      rw [← hQ]
      exact ro_ireturn hx hb hr hk  dX3_clashingRow_56
  have x72w : ∀ (x72 : Unit) (ls : Array Slot), k5 (.inr x72) = some res → lv_has ls 6 [] → W p l e rm3_clashingRow s m args below meth c s.heap [] 0 0 Q (F0 m 72 ls [.int (-1 : Int32)]) := by
    intro x72 ls h hl
    have h := app_of hk5 h
    have h := cas_r h
    refine lv_iconst (v := -1) hx hb dX3_clashingRow_72 (by decide) ?_
    obtain rfl := Option.some.inj h
    rw [← hQ]
    exact ro_ireturn hx hb hr hk  dX3_clashingRow_73
  have lp5 : ∀ (n5 : Nat) (s5 : Int32 × Int32) (ls : Array Slot), iter (f3_clashingRow_L5 F p1 sh) n5 s5 = some e5 → lv_has ls 6 [(0, .ref (a_sh 0)), (1, .int p1), (2, .int p2), (3, .int s5.1), (4, .int s5.2)] → W p l e rm3_clashingRow s m args below meth c s.heap [] 0 0 Q (F0 m 5 ls []) := by
    intro n5
    induction n5 with
    | zero =>
      intro s5 ls h hl
      exact (iter_zero h).elim
    | succ n5 ih5 =>
      intro s5 ls h hl
      obtain ⟨z5, h, hL5, hR5⟩ := iter_split h
      unfold f3_clashingRow_L5 at h
      refine lv_iload hx hb dX3_clashingRow_5 (lv_at hl 4 rfl) ?_
      refine lv_aload_n hx hb dX3_clashingRow_7 rfl (lv_at hl 0 rfl) ?_
      refine va_get (D := D) (ci := 3) (v := .int sh.2.2.2.2.2.2.2.1) (C := "ConstraintText$Sheet") (T := TX3) (N := 10) hx hb hts ing3 hown hK hP 0 rfl rfl 8 (by decide) (hts _ tw_193) (fun _ h9 => h9) rfl dX3_clashingRow_8 ?_
      refine lv_icmp_gt (tgt := 72) hx hb dX3_clashingRow_11 (by decide) (fun c => ?_) (fun c => ?_)
      · have h := ite_t c h
        obtain rfl := Option.some.inj h
        exact x72w _ ls (eq_some_app (hR5 _ rfl) hc5) (lv_sub hl [] rfl)
      · have h := ite_f c h
        refine lv_iload hx hb dX3_clashingRow_14 (lv_at hl 4 rfl) ?_
        refine lv_iconst (v := 1) hx hb dX3_clashingRow_16 (by decide) ?_
        refine lv_iadd hx hb dX3_clashingRow_17 ?_
        refine lv_istore (lv' := [(5, .int (s5.2 + (1 : Int32))), (0, .ref (a_sh 0)), (1, .int p1), (2, .int p2), (3, .int s5.1), (4, .int s5.2)]) hx hb dX3_clashingRow_18 hl (by decide) rfl (fun ls hl => ?_)
        obtain ⟨k20, e20, hk20, hi20, hc20⟩ := bnd_name h
        have x45w : ∀ (x45 : Int32) (ls : Array Slot), k20 (.inl x45) = some z5 → lv_has ls 6 [(2, .int p2), (4, .int s5.2), (5, .int x45)] → W p l e rm3_clashingRow s m args below meth c s.heap [] 0 0 Q (F0 m 45 ls []) := by
          intro x45 ls h hl
          have h := app_of hk20 h
          have h := cas_l h
          obtain rfl := Option.some.inj h
          exact x45w _ ls (eq_some_app (hR5 _ rfl) hc5) hl
        have x66w : ∀ (x66 : Int32) (ls : Array Slot), k20 (.inr x66) = some z5 → lv_has ls 6 [(4, .int (s5.2 + (1 : Int32))), (0, .ref (a_sh 0)), (1, .int p1), (2, .int p2), (3, .int x66)] → W p l e rm3_clashingRow s m args below meth c s.heap [] 0 0 Q (F0 m 66 ls []) := by
          intro x66 ls h hl
          have h := app_of hk20 h
          have h := cas_r h
          refine lv_iinc (v := (s5.2 + (1 : Int32))) (lv' := [(4, .int (s5.2 + (1 : Int32))), (0, .ref (a_sh 0)), (1, .int p1), (2, .int p2), (3, .int x66)]) hx hb dX3_clashingRow_66 hl (k := 4) rfl rfl (by decide) rfl (fun ls hl => ?_)
          refine lv_goto (tgt := 5) hx hb dX3_clashingRow_69 (by decide) ?_
          obtain rfl := Option.some.inj h
          exact ih5 _ ls (hL5 _ rfl) (lv_sub hl [1, 2, 3, 4, 0] rfl)
        have lp20 : ∀ (n20 : Nat) (s20 : Int32 × Int32) (ls : Array Slot), iter (f3_clashingRow_L20 p1 sh s5) n20 s20 = some e20 → lv_has ls 6 [(0, .ref (a_sh 0)), (1, .int p1), (2, .int p2), (3, .int s20.1), (4, .int s5.2), (5, .int s20.2)] → W p l e rm3_clashingRow s m args below meth c s.heap [] 0 0 Q (F0 m 20 ls []) := by
          intro n20
          induction n20 with
          | zero =>
            intro s20 ls h hl
            exact (iter_zero h).elim
          | succ n20 ih20 =>
            intro s20 ls h hl
            obtain ⟨z20, h, hL20, hR20⟩ := iter_split h
            unfold f3_clashingRow_L20 at h
            refine lv_iload hx hb dX3_clashingRow_20 (lv_at hl 5 rfl) ?_
            refine lv_aload_n hx hb dX3_clashingRow_22 rfl (lv_at hl 0 rfl) ?_
            refine va_get (D := D) (ci := 3) (v := .int sh.2.2.2.2.2.2.2.1) (C := "ConstraintText$Sheet") (T := TX3) (N := 10) hx hb hts ing3 hown hK hP 0 rfl rfl 8 (by decide) (hts _ tw_193) (fun _ h9 => h9) rfl dX3_clashingRow_23 ?_
            refine lv_icmp_gt (tgt := 66) hx hb dX3_clashingRow_26 (by decide) (fun c => ?_) (fun c => ?_)
            · have h := ite_t c h
              obtain rfl := Option.some.inj h
              exact x66w _ ls (eq_some_app (hR20 _ rfl) hc20) (lv_sub hl [0, 1, 2, 3, 4] rfl)
            · have h := ite_f c h
              refine lv_aload_n hx hb dX3_clashingRow_29 rfl (lv_at hl 0 rfl) ?_
              refine lv_iload hx hb dX3_clashingRow_30 (lv_at hl 4 rfl) ?_
              refine lv_iload hx hb dX3_clashingRow_32 (lv_at hl 5 rfl) ?_
              obtain ⟨u34, c34, h⟩ := bnd_some h
              refine ro_V (As := [.int s5.2, .int s20.2]) (rest := []) hx hb hml hown hts hN hK hP (c3_haveClash l D kA a_sh a_ck s5.2 s20.2 sh u34 c34) [0, 1, 2, 3, 4, 5, 6, 7] rfl 0 3 rfl rfl rfl tw_821 tw_823 tw_35 tw_77 tw_824 rfl rfl (by decide) ⟨Nat.le_of_ble_eq_true rfl, Nat.le_of_ble_eq_true rfl⟩ rfl hl.1 rfl (Nat.le_of_ble_eq_true rfl) dX3_clashingRow_34 ⟨Nat.le_of_ble_eq_true rfl, Nat.le_of_ble_eq_true rfl⟩ ?_
              obtain ⟨k60, hk60, h⟩ := jn_name h
              have j60 : ∀ (v60 : Int32) (ls : Array Slot), k60 v60 = some z20 → lv_has ls 6 [(5, .int (s20.2 + (1 : Int32))), (0, .ref (a_sh 0)), (1, .int p1), (2, .int p2), (3, .int v60), (4, .int s5.2)] → W p l e rm3_clashingRow s m args below meth c s.heap [] 0 0 Q (F0 m 60 ls []) := by
                intro v60 ls h hl
                have h := app_of hk60 h
                refine lv_iinc (v := (s20.2 + (1 : Int32))) (lv' := [(5, .int (s20.2 + (1 : Int32))), (0, .ref (a_sh 0)), (1, .int p1), (2, .int p2), (3, .int v60), (4, .int s5.2)]) hx hb dX3_clashingRow_60 hl (k := 5) rfl rfl (by decide) rfl (fun ls hl => ?_)
                refine lv_goto (tgt := 20) hx hb dX3_clashingRow_63 (by decide) ?_
                obtain rfl := Option.some.inj h
                exact ih20 _ ls (hL20 _ rfl) (lv_sub hl [1, 2, 3, 4, 5, 0] rfl)
              refine lv_if_eq (tgt := 60) hx hb dX3_clashingRow_37 (by decide) (fun c => ?_) (fun c => ?_)
              · have h := ite_t c h
                exact j60 _ ls h hl
              · have h := ite_f c h
                refine lv_iload_n hx hb dX3_clashingRow_40 rfl (lv_at hl 3 rfl) ?_
                refine lv_iload_n hx hb dX3_clashingRow_41 rfl (lv_at hl 1 rfl) ?_
                refine lv_icmp_ne (tgt := 57) hx hb dX3_clashingRow_42 (by decide) (fun c => ?_) (fun c => ?_)
                · have h := ite_f c h
                  refine lv_iinc (v := (s20.1 + (1 : Int32))) (lv' := [(3, .int (s20.1 + (1 : Int32))), (0, .ref (a_sh 0)), (1, .int p1), (2, .int p2), (4, .int s5.2), (5, .int s20.2)]) hx hb dX3_clashingRow_57 hl (k := 3) rfl rfl (by decide) rfl (fun ls hl => ?_)
                  exact j60 _ ls h (lv_sub hl [1, 2, 3, 0, 4, 5] rfl)
                · have h := ite_t c h
                  obtain rfl := Option.some.inj h
                  exact x45w _ ls (eq_some_app (hR20 _ rfl) hc20) (lv_sub hl [2, 4, 5] rfl)
        exact lp20 F (s5.1, (s5.2 + (1 : Int32))) ls hi20 (lv_sub hl [1, 2, 3, 4, 5, 0] rfl)
  exact lp5 F ((0 : Int32), (1 : Int32)) ls hi5 (lv_sub hl [2, 3, 4, 1, 0] rfl)
