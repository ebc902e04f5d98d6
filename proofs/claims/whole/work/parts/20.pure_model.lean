def f6_thrown (md : T6) : Option (Int32) :=
  some md.1.1
def f6_isName (p1 : Int32) : Option (Int32) :=
  jn (fun (v12 : Unit) =>
    jn (fun (v24 : Unit) =>
      if p1 = (95 : Int32) then
        some (1 : Int32)
      else
        if p1 = (47 : Int32) then
          some (1 : Int32)
        else
          some (0 : Int32)
      ) (fun k24 =>
      if p1 < (48 : Int32) then
        k24 ()
      else
        if p1 ≤ (57 : Int32) then
          some (1 : Int32)
        else
          k24 ()
      )
    ) (fun k12 =>
    if p1 < (97 : Int32) then
      k12 ()
    else
      if p1 ≤ (122 : Int32) then
        some (1 : Int32)
      else
        k12 ()
    )
def f6_name (p1 : Int32) (p2 : Int32) (md : T6) : Option (Int32 × T6) :=
  jn (fun (v16 : Int32) =>
    if (0 : Int32) < v16 then
      some ((0 : Int32), ((v16, md.1.2.1, md.1.2.2.1, md.1.2.2.2.1, md.1.2.2.2.2), md.2.1, md.2.2.1, md.2.2.2.1, md.2.2.2.2))
    else
      bnd (f6_isName p2) fun u27 =>
      if u27 = (0 : Int32) then
        some ((0 : Int32), ((v16, md.1.2.1, md.1.2.2.1, md.1.2.2.2.1, md.1.2.2.2.2), md.2.1, md.2.2.1, md.2.2.2.1, md.2.2.2.2))
      else
        grd (inb p1 40) <|
        if (md.1.2.2.1 p1.toNatClampNeg) = (16 : Int32) then
          some ((0 : Int32), ((v16, md.1.2.1, md.1.2.2.1, md.1.2.2.2.1, md.1.2.2.2.2), md.2.1, md.2.2.1, md.2.2.2.1, md.2.2.2.2))
        else
          grd (inb p1 40) <|
          grd (inb (((16 : Int32) * p1) + (md.1.2.2.1 p1.toNatClampNeg)) 640) <|
          grd (inb p1 40) <|
          grd (inb p1 40) <|
          some ((1 : Int32), ((v16, (upd md.1.2.1 (((16 : Int32) * p1) + (md.1.2.2.1 p1.toNatClampNeg)).toNatClampNeg p2), (upd md.1.2.2.1 p1.toNatClampNeg ((md.1.2.2.1 p1.toNatClampNeg) + (1 : Int32))), md.1.2.2.2.1, md.1.2.2.2.2), md.2.1, md.2.2.1, md.2.2.2.1, md.2.2.2.2))
    ) (fun k16 =>
    jn (fun (v11 : Unit) =>
      k16 (1 : Int32)
      ) (fun k11 =>
      if p1 < (0 : Int32) then
        k11 ()
      else
        if p1 < (40 : Int32) then
          k16 (0 : Int32)
        else
          k11 ()
      )
    )
def f6_isCharacter (p1 : Int32) : Option (Int32) :=
  jn (fun (v12 : Unit) =>
    if p1 = (10 : Int32) then
      some (1 : Int32)
    else
      some (0 : Int32)
    ) (fun k12 =>
    if p1 < (32 : Int32) then
      k12 ()
    else
      if p1 ≤ (126 : Int32) then
        some (1 : Int32)
      else
        k12 ()
    )
def f6_unit (p1 : Int32) (md : T6) : Option (Int32 × T6) :=
  bnd (f6_isCharacter p1) fun u6 =>
  if u6 = (0 : Int32) then
    some ((0 : Int32), (((0 : Int32), md.1.2.1, md.1.2.2.1, md.1.2.2.2.1, md.1.2.2.2.2), md.2.1, md.2.2.1, md.2.2.2.1, md.2.2.2.2))
  else
    if md.1.2.2.2.2 = (1200 : Int32) then
      some ((0 : Int32), (((0 : Int32), md.1.2.1, md.1.2.2.1, md.1.2.2.2.1, md.1.2.2.2.2), md.2.1, md.2.2.1, md.2.2.2.1, md.2.2.2.2))
    else
      grd (inb md.1.2.2.2.2 1200) <|
      some ((1 : Int32), (((0 : Int32), md.1.2.1, md.1.2.2.1, (upd md.1.2.2.2.1 md.1.2.2.2.2.toNatClampNeg p1), (md.1.2.2.2.2 + (1 : Int32))), md.2.1, md.2.2.1, md.2.2.2.1, md.2.2.2.2))
def f6_units_L10 (p1 : Int32) (s10 : Int32 × Int32) : Option ((Int32 × Int32) ⊕ ((Unit) ⊕ ((Int32)))) :=
  if s10.2 < (0 : Int32) then
    some (.inr (.inr s10.1))
  else
    jn (fun (v38 : Unit) =>
      jn (fun (v49 : Int32) =>
        some (.inl ((s10.1 + v49), (s10.2 + (-8 : Int32))))
        ) (fun k49 =>
        if ((xiushr p1 s10.2) &&& (255 : Int32)) = (0 : Int32) then
          k49 (0 : Int32)
        else
          k49 (1 : Int32)
        )
      ) (fun k38 =>
      if ((xiushr p1 s10.2) &&& (255 : Int32)) = (0 : Int32) then
        k38 ()
      else
        bnd (f6_isCharacter ((xiushr p1 s10.2) &&& (255 : Int32))) fun u30 =>
        if u30 = (0 : Int32) then
          some (.inr (.inl ()))
        else
          k38 ()
      )
def f6_units_L74 (p1 : Int32) (s74 : Int32 × T6) : Option ((Int32 × T6) ⊕ ((T6))) :=
  if s74.1 < (0 : Int32) then
    some (.inr s74.2)
  else
    jn (fun (v114 : T6) =>
      some (.inl ((s74.1 + (-8 : Int32)), v114))
      ) (fun k114 =>
      if ((xiushr p1 s74.1) &&& (255 : Int32)) = (0 : Int32) then
        k114 s74.2
      else
        grd (inb s74.2.1.2.2.2.2 1200) <|
        k114 ((s74.2.1.1, s74.2.1.2.1, s74.2.1.2.2.1, (upd s74.2.1.2.2.2.1 s74.2.1.2.2.2.2.toNatClampNeg ((xiushr p1 s74.1) &&& (255 : Int32))), (s74.2.1.2.2.2.2 + (1 : Int32))), s74.2.2.1, s74.2.2.2.1, s74.2.2.2.2.1, s74.2.2.2.2.2)
      )
def f6_units (F : Nat) (p1 : Int32) (md : T6) : Option (Int32 × T6) :=
  bnd (iter (f6_units_L10 p1) F ((0 : Int32), (24 : Int32))) (
    fun (e10y : (Unit) ⊕ (Int32)) => cas e10y (fun (x36 : Unit) =>
      some ((0 : Int32), (((0 : Int32), md.1.2.1, md.1.2.2.1, md.1.2.2.2.1, md.1.2.2.2.2), md.2.1, md.2.2.1, md.2.2.2.1, md.2.2.2.2))
      ) (
      fun (x57 : Int32) =>
        if (md.1.2.2.2.2 + x57) ≤ (1200 : Int32) then
          bnd (iter (f6_units_L74 p1) F ((24 : Int32), (((0 : Int32), md.1.2.1, md.1.2.2.1, md.1.2.2.2.1, md.1.2.2.2.2), md.2.1, md.2.2.1, md.2.2.2.1, md.2.2.2.2))) (
            fun (x120 : T6) =>
              some ((1 : Int32), x120)
            )
        else
          some ((0 : Int32), (((0 : Int32), md.1.2.1, md.1.2.2.1, md.1.2.2.2.1, md.1.2.2.2.2), md.2.1, md.2.2.1, md.2.2.2.1, md.2.2.2.2))
      )
    )
def f6_next_L8 (s8 : T6) : Option ((T6) ⊕ ((T6))) :=
  if s8.1.2.2.2.2 ≤ s8.2.2.2.1.1 then
    some (.inr s8)
  else
    grd (inb s8.2.2.2.1.1 1200) <|
    jn (fun (v47 : Unit) =>
      some (.inl (s8.1, s8.2.1, s8.2.2.1, ((s8.2.2.2.1.1 + (1 : Int32)), s8.2.2.2.1.2.1, s8.2.2.2.1.2.2.1, s8.2.2.2.1.2.2.2.1, s8.2.2.2.1.2.2.2.2.1, s8.2.2.2.1.2.2.2.2.2.1, s8.2.2.2.1.2.2.2.2.2.2), s8.2.2.2.2))
      ) (fun k47 =>
      if (s8.1.2.2.2.1 s8.2.2.2.1.1.toNatClampNeg) = (32 : Int32) then
        k47 ()
      else
        grd (inb s8.2.2.2.1.1 1200) <|
        if (s8.1.2.2.2.1 s8.2.2.2.1.1.toNatClampNeg) = (10 : Int32) then
          k47 ()
        else
          some (.inr s8)
      )
def f6_next_L104 (s104 : T6) : Option ((T6) ⊕ ((T6))) :=
  if s104.1.2.2.2.2 ≤ s104.2.2.2.1.2.1 then
    some (.inr s104)
  else
    grd (inb s104.2.2.2.1.2.1 1200) <|
    if (s104.1.2.2.2.1 s104.2.2.2.1.2.1.toNatClampNeg) = (32 : Int32) then
      some (.inr s104)
    else
      grd (inb s104.2.2.2.1.2.1 1200) <|
      if (s104.1.2.2.2.1 s104.2.2.2.1.2.1.toNatClampNeg) = (10 : Int32) then
        some (.inr s104)
      else
        grd (inb s104.2.2.2.1.2.1 1200) <|
        if (s104.1.2.2.2.1 s104.2.2.2.1.2.1.toNatClampNeg) = (59 : Int32) then
          some (.inr s104)
        else
          some (.inl (s104.1, s104.2.1, s104.2.2.1, (s104.2.2.2.1.1, (s104.2.2.2.1.2.1 + (1 : Int32)), s104.2.2.2.1.2.2.1, s104.2.2.2.1.2.2.2.1, s104.2.2.2.1.2.2.2.2.1, s104.2.2.2.1.2.2.2.2.2.1, s104.2.2.2.1.2.2.2.2.2.2), s104.2.2.2.2))
def f6_next (F : Nat) (md : T6) : Option (T6) :=
  bnd (iter (f6_next_L8) F (md.1, md.2.1, md.2.2.1, (md.2.2.2.1.2.1, md.2.2.2.1.2.1, md.2.2.2.1.2.2.1, md.2.2.2.1.2.2.2.1, md.2.2.2.1.2.2.2.2.1, md.2.2.2.1.2.2.2.2.2.1, md.2.2.2.1.2.2.2.2.2.2), md.2.2.2.2)) (
    fun (x60 : T6) =>
      jn (fun (v104 : Unit) =>
        bnd (iter (f6_next_L104) F (x60.1, x60.2.1, x60.2.2.1, (x60.2.2.2.1.1, x60.2.2.2.1.1, x60.2.2.2.1.2.2.1, x60.2.2.2.1.2.2.2.1, x60.2.2.2.1.2.2.2.2.1, x60.2.2.2.1.2.2.2.2.2.1, x60.2.2.2.1.2.2.2.2.2.2), x60.2.2.2.2)) (
          fun (x170 : T6) =>
            some x170
          )
        ) (fun k104 =>
        if x60.1.2.2.2.2 ≤ x60.2.2.2.1.1 then
          k104 ()
        else
          grd (inb x60.2.2.2.1.1 1200) <|
          if (x60.1.2.2.2.1 x60.2.2.2.1.1.toNatClampNeg) = (59 : Int32) then
            some (x60.1, x60.2.1, x60.2.2.1, (x60.2.2.2.1.1, (x60.2.2.2.1.1 + (1 : Int32)), x60.2.2.2.1.2.2.1, x60.2.2.2.1.2.2.2.1, x60.2.2.2.1.2.2.2.2.1, x60.2.2.2.1.2.2.2.2.2.1, x60.2.2.2.1.2.2.2.2.2.2), x60.2.2.2.2)
          else
            k104 ()
        )
    )
def f6_take (F : Nat) (p1 : Int32) (md : T6) : Option (T6) :=
  jn (fun (v17 : Int32) =>
    grd (isB v17) <|
    if v17 = (0 : Int32) then
      some (md.1, md.2.1, md.2.2.1, (md.2.2.2.1.1, md.2.2.2.1.2.1, v17, md.2.2.2.1.2.2.2.1, md.2.2.2.1.2.2.2.2.1, md.2.2.2.1.2.2.2.2.2.1, md.2.2.2.1.2.2.2.2.2.2), md.2.2.2.2)
    else
      bnd (f6_next F (md.1, md.2.1, md.2.2.1, (md.2.2.2.1.1, md.2.2.2.1.2.1, v17, md.2.2.2.1.2.2.2.1, md.2.2.2.1.2.2.2.2.1, md.2.2.2.1.2.2.2.2.2.1, md.2.2.2.1.2.2.2.2.2.2), md.2.2.2.2)) fun u28 =>
      some u28
    ) (fun k17 =>
    if md.2.2.2.1.2.2.1 = (0 : Int32) then
      k17 (0 : Int32)
    else
      if p1 = (0 : Int32) then
        k17 (0 : Int32)
      else
        k17 (1 : Int32)
    )
def f6_takeEnd (F : Nat) (md : T6) : Option (T6) :=
  jn (fun (v33 : Int32) =>
    bnd (f6_take F v33 md) fun u33 =>
    some u33
    ) (fun k33 =>
    if md.2.2.2.1.2.1 = (md.2.2.2.1.1 + (1 : Int32)) then
      grd (inb md.2.2.2.1.1 1200) <|
      if (md.1.2.2.2.1 md.2.2.2.1.1.toNatClampNeg) = (59 : Int32) then
        k33 (1 : Int32)
      else
        k33 (0 : Int32)
    else
      k33 (0 : Int32)
    )
def f6_wordName_L39 (md : T6) (s39 : Int64 × Int32 × Int32) : Option ((Int64 × Int32 × Int32) ⊕ ((Int64 × Int32))) :=
  if md.2.2.2.1.2.1 ≤ s39.2.2 then
    some (.inr (s39.1, s39.2.1))
  else
    if s39.2.1 = (0 : Int32) then
      some (.inr (s39.1, s39.2.1))
    else
      grd (inb s39.2.2 1200) <|
      jn (fun (v81 : Int32) =>
        grd (inb s39.2.2 1200) <|
        some (.inl (((((27 : Int64) * s39.1) + (md.1.2.2.2.1 s39.2.2.toNatClampNeg).toInt64) - (96 : Int64)), v81, (s39.2.2 + (1 : Int32))))
        ) (fun k81 =>
        if (md.1.2.2.2.1 s39.2.2.toNatClampNeg) < (97 : Int32) then
          k81 (0 : Int32)
        else
          grd (inb s39.2.2 1200) <|
          if (122 : Int32) < (md.1.2.2.2.1 s39.2.2.toNatClampNeg) then
            k81 (0 : Int32)
          else
            k81 (1 : Int32)
        )
def f6_wordName (F : Nat) (md : T6) : Option (Int64) :=
  jn (fun (v32 : Int32) =>
    bnd (iter (f6_wordName_L39 md) F ((0 : Int64), v32, md.2.2.2.1.1)) (
      fun (x107 : Int64 × Int32) =>
        if x107.2 = (0 : Int32) then
          some (0 : Int64)
        else
          some x107.1
      )
    ) (fun k32 =>
    if md.2.2.2.1.2.1 ≤ md.2.2.2.1.1 then
      k32 (0 : Int32)
    else
      if (8 : Int32) < (md.2.2.2.1.2.1 - md.2.2.2.1.1) then
        k32 (0 : Int32)
      else
        k32 (1 : Int32)
    )
def f6_whole_L38 (md : T6) (s38 : Int32 × Int32 × Int32) : Option ((Int32 × Int32 × Int32) ⊕ ((Int32 × Int32))) :=
  if md.2.2.2.1.2.1 ≤ s38.2.2 then
    some (.inr (s38.1, s38.2.1))
  else
    if s38.2.1 = (0 : Int32) then
      some (.inr (s38.1, s38.2.1))
    else
      grd (inb s38.2.2 1200) <|
      jn (fun (v77 : Int32) =>
        grd (inb s38.2.2 1200) <|
        some (.inl (((((10 : Int32) * s38.1) + (md.1.2.2.2.1 s38.2.2.toNatClampNeg)) - (48 : Int32)), v77, (s38.2.2 + (1 : Int32))))
        ) (fun k77 =>
        if (md.1.2.2.2.1 s38.2.2.toNatClampNeg) < (48 : Int32) then
          k77 (0 : Int32)
        else
          grd (inb s38.2.2 1200) <|
          if (57 : Int32) < (md.1.2.2.2.1 s38.2.2.toNatClampNeg) then
            k77 (0 : Int32)
          else
            k77 (1 : Int32)
        )
def f6_whole (F : Nat) (md : T6) : Option (Int32) :=
  jn (fun (v32 : Int32) =>
    bnd (iter (f6_whole_L38 md) F ((0 : Int32), v32, md.2.2.2.1.1)) (
      fun (x99 : Int32 × Int32) =>
        if x99.2 = (0 : Int32) then
          some (-1 : Int32)
        else
          some x99.1
      )
    ) (fun k32 =>
    if md.2.2.2.1.2.1 ≤ md.2.2.2.1.1 then
      k32 (0 : Int32)
    else
      if (6 : Int32) < (md.2.2.2.1.2.1 - md.2.2.2.1.1) then
        k32 (0 : Int32)
      else
        k32 (1 : Int32)
    )
def f6_isPattern_L36 (md : T6) (s36 : Int32 × Int32) : Option ((Int32 × Int32) ⊕ ((Int32))) :=
  if md.2.2.2.1.2.1 ≤ s36.2 then
    some (.inr s36.1)
  else
    if s36.1 = (0 : Int32) then
      some (.inr s36.1)
    else
      grd (inb s36.2 1200) <|
      bnd (f6_isName (md.1.2.2.2.1 s36.2.toNatClampNeg)) fun u54 =>
      jn (fun (v87 : Int32) =>
        some (.inl (v87, (s36.2 + (1 : Int32))))
        ) (fun k87 =>
        jn (fun (v82 : Unit) =>
          k87 (1 : Int32)
          ) (fun k82 =>
          if u54 = (0 : Int32) then
            grd (inb s36.2 1200) <|
            if (md.1.2.2.2.1 s36.2.toNatClampNeg) = (42 : Int32) then
              k82 ()
            else
              grd (inb s36.2 1200) <|
              if (md.1.2.2.2.1 s36.2.toNatClampNeg) = (63 : Int32) then
                k82 ()
              else
                k87 (0 : Int32)
          else
            k82 ()
          )
        )
def f6_isPattern (F : Nat) (md : T6) : Option (Int32) :=
  jn (fun (v30 : Int32) =>
    bnd (iter (f6_isPattern_L36 md) F (v30, md.2.2.2.1.1)) (
      fun (x94 : Int32) =>
        grd (isB x94) <|
        some x94
      )
    ) (fun k30 =>
    if md.2.2.2.1.2.1 ≤ md.2.2.2.1.1 then
      k30 (0 : Int32)
    else
      if (16 : Int32) < (md.2.2.2.1.2.1 - md.2.2.2.1.1) then
        k30 (0 : Int32)
      else
        k30 (1 : Int32)
    )
def f6_takeWhole (F : Nat) (p1 : Int32) (p2 : Int32) (md : T6) : Option (Int32 × T6) :=
  bnd (f6_whole F md) fun u1 =>
  jn (fun (v21 : Int32) =>
    bnd (f6_take F v21 md) fun u21 =>
    some (u1, u21)
    ) (fun k21 =>
    if u1 < p1 then
      k21 (0 : Int32)
    else
      if p2 < u1 then
        k21 (0 : Int32)
      else
        k21 (1 : Int32)
    )
def f6_takePattern_L59 (F : Nat) (p1 : Int32) (p2 : Int32) (v36 : Int32) (s59 : Int32 × T6) : Option ((Int32 × T6) ⊕ ((T6))) :=
  if s59.2.2.2.2.1.2.1 ≤ s59.1 then
    some (.inr s59.2)
  else
    if v36 = (0 : Int32) then
      bnd (f6_isPattern F s59.2) fun u74 =>
      if u74 = (0 : Int32) then
        some (.inr s59.2)
      else
        grd (inb (((3 : Int32) * p1) + p2) 240) <|
        grd (inb s59.1 1200) <|
        grd (inb (((16 : Int32) * (((3 : Int32) * p1) + p2)) + (s59.2.2.1.2.2.2.2.2.2.2.2 (((3 : Int32) * p1) + p2).toNatClampNeg)) 3840) <|
        grd (inb (((3 : Int32) * p1) + p2) 240) <|
        grd (inb (((3 : Int32) * p1) + p2) 240) <|
        some (.inl ((s59.1 + (1 : Int32)), (s59.2.1, (s59.2.2.1.1, s59.2.2.1.2.1, s59.2.2.1.2.2.1, s59.2.2.1.2.2.2.1, s59.2.2.1.2.2.2.2.1, s59.2.2.1.2.2.2.2.2.1, s59.2.2.1.2.2.2.2.2.2.1, (upd s59.2.2.1.2.2.2.2.2.2.2.1 (((16 : Int32) * (((3 : Int32) * p1) + p2)) + (s59.2.2.1.2.2.2.2.2.2.2.2 (((3 : Int32) * p1) + p2).toNatClampNeg)).toNatClampNeg (s59.2.1.2.2.2.1 s59.1.toNatClampNeg)), (upd s59.2.2.1.2.2.2.2.2.2.2.2 (((3 : Int32) * p1) + p2).toNatClampNeg ((s59.2.2.1.2.2.2.2.2.2.2.2 (((3 : Int32) * p1) + p2).toNatClampNeg) + (1 : Int32)))), s59.2.2.2.1, s59.2.2.2.2.1, s59.2.2.2.2.2)))
    else
      some (.inr s59.2)
def f6_takePattern (F : Nat) (p1 : Int32) (p2 : Int32) (p3 : Int32) (md : T6) : Option (T6) :=
  jn (fun (v36 : Int32) =>
    grd (inb (((3 : Int32) * p1) + p2) 240) <|
    bnd (iter (f6_takePattern_L59 F p1 p2 v36) F (md.2.2.2.1.1, (md.1, (md.2.1.1, md.2.1.2.1, md.2.1.2.2.1, md.2.1.2.2.2.1, md.2.1.2.2.2.2.1, md.2.1.2.2.2.2.2.1, md.2.1.2.2.2.2.2.2.1, md.2.1.2.2.2.2.2.2.2.1, (upd md.2.1.2.2.2.2.2.2.2.2 (((3 : Int32) * p1) + p2).toNatClampNeg (0 : Int32))), md.2.2.1, md.2.2.2.1, md.2.2.2.2))) (
      fun (x122 : T6) =>
        jn (fun (v140 : Int32) =>
          bnd (f6_take F v140 x122) fun u140 =>
          some u140
          ) (fun k140 =>
          jn (fun (v135 : Unit) =>
            k140 (1 : Int32)
            ) (fun k135 =>
            if v36 = (0 : Int32) then
              bnd (f6_isPattern F x122) fun u129 =>
              if u129 = (0 : Int32) then
                k140 (0 : Int32)
              else
                k135 ()
            else
              k135 ()
            )
          )
      )
    ) (fun k36 =>
    if p3 = (0 : Int32) then
      k36 (0 : Int32)
    else
      if md.2.2.2.1.2.1 = (md.2.2.2.1.1 + (1 : Int32)) then
        grd (inb md.2.2.2.1.1 1200) <|
        if (md.1.2.2.2.1 md.2.2.2.1.1.toNatClampNeg) = (45 : Int32) then
          k36 (1 : Int32)
        else
          k36 (0 : Int32)
      else
        k36 (0 : Int32)
    )
def f6_word (p1 : Int32) (p2 : Int32) (p3 : Int32) (p4 : Int32) (p5 : Int32) (p6 : Int32) : Option (Int64) :=
  jn (fun (v77 : Int64) =>
    if p6 ≤ (0 : Int32) then
      some v77
    else
      some ((((27 : Int64) * v77) + p6.toInt64) - (96 : Int64))
    ) (fun k77 =>
    if p5 ≤ (0 : Int32) then
      k77 ((((27 : Int64) * ((((27 : Int64) * ((((27 : Int64) * (p1.toInt64 - (96 : Int64))) + p2.toInt64) - (96 : Int64))) + p3.toInt64) - (96 : Int64))) + p4.toInt64) - (96 : Int64))
    else
      k77 ((((27 : Int64) * ((((27 : Int64) * ((((27 : Int64) * ((((27 : Int64) * (p1.toInt64 - (96 : Int64))) + p2.toInt64) - (96 : Int64))) + p3.toInt64) - (96 : Int64))) + p4.toInt64) - (96 : Int64))) + p5.toInt64) - (96 : Int64))
    )
def f6_wordOf (p1 : Int32) : Option (Int64) :=
  if p1 = (0 : Int32) then
    bnd (f6_word (99 : Int32) (108 : Int32) (111 : Int32) (99 : Int32) (107 : Int32) (0 : Int32)) fun u63 =>
    some u63
  else
    if p1 = (1 : Int32) then
      bnd (f6_word (100 : Int32) (101 : Int32) (114 : Int32) (105 : Int32) (118 : Int32) (101 : Int32)) fun u79 =>
      some u79
    else
      if p1 = (2 : Int32) then
        bnd (f6_word (116 : Int32) (117 : Int32) (114 : Int32) (110 : Int32) (101 : Int32) (100 : Int32)) fun u95 =>
        some u95
      else
        if p1 = (3 : Int32) then
          bnd (f6_word (97 : Int32) (112 : Int32) (97 : Int32) (114 : Int32) (116 : Int32) (0 : Int32)) fun u110 =>
          some u110
        else
          if p1 = (4 : Int32) then
            bnd (f6_word (102 : Int32) (97 : Int32) (108 : Int32) (115 : Int32) (101 : Int32) (0 : Int32)) fun u125 =>
            some u125
          else
            if p1 = (5 : Int32) then
              bnd (f6_word (99 : Int32) (121 : Int32) (99 : Int32) (108 : Int32) (101 : Int32) (115 : Int32)) fun u141 =>
              some u141
            else
              if p1 = (6 : Int32) then
                bnd (f6_word (109 : Int32) (111 : Int32) (115 : Int32) (116 : Int32) (0 : Int32) (0 : Int32)) fun u155 =>
                some u155
              else
                if p1 = (7 : Int32) then
                  bnd (f6_word (108 : Int32) (101 : Int32) (97 : Int32) (115 : Int32) (116 : Int32) (0 : Int32)) fun u170 =>
                  some u170
                else
                  if p1 = (8 : Int32) then
                    bnd (f6_word (108 : Int32) (111 : Int32) (97 : Int32) (100 : Int32) (0 : Int32) (0 : Int32)) fun u184 =>
                    some u184
                  else
                    bnd (f6_word (115 : Int32) (108 : Int32) (111 : Int32) (112 : Int32) (101 : Int32) (0 : Int32)) fun u199 =>
                    some u199
def f6_sortOf_L5 (p1 : Int64) (s5 : Int32 × Int32) : Option ((Int32 × Int32) ⊕ ((Int32))) :=
  if (9 : Int32) < s5.2 then
    some (.inr s5.1)
  else
    jn (fun (v34 : Int32) =>
      some (.inl (v34, (s5.2 + (1 : Int32))))
      ) (fun k34 =>
      if (lg_cmp p1 (0 : Int64)) ≤ (0 : Int32) then
        k34 s5.1
      else
        bnd (f6_wordOf s5.2) fun u20 =>
        if (lg_cmp u20 p1) = (0 : Int32) then
          k34 s5.2
        else
          k34 s5.1
      )
def f6_sortOf (F : Nat) (p1 : Int64) : Option (Int32) :=
  bnd (iter (f6_sortOf_L5 p1) F ((-1 : Int32), (0 : Int32))) (
    fun (x41 : Int32) =>
      some x41
    )
def f6_clockOf_L5 (p1 : Int64) (md : T6) (s5 : Int32 × Int32) : Option ((Int32 × Int32) ⊕ ((Int32))) :=
  if md.2.2.2.1.2.2.2.2.1 ≤ s5.2 then
    some (.inr s5.1)
  else
    grd (inb ((12 : Int32) + s5.2) 24) <|
    grd (inb ((40 : Int32) + (md.2.2.1.2.1 ((12 : Int32) + s5.2).toNatClampNeg)) 80) <|
    jn (fun (v43 : Int32) =>
      some (.inl (v43, (s5.2 + (1 : Int32))))
      ) (fun k43 =>
      if (lg_cmp (md.2.1.2.2.1 ((40 : Int32) + (md.2.2.1.2.1 ((12 : Int32) + s5.2).toNatClampNeg)).toNatClampNeg) p1) = (0 : Int32) then
        k43 s5.2
      else
        k43 s5.1
      )
def f6_clockOf (F : Nat) (p1 : Int64) (md : T6) : Option (Int32) :=
  bnd (iter (f6_clockOf_L5 p1 md) F ((-1 : Int32), (0 : Int32))) (
    fun (x50 : Int32) =>
      some x50
    )
def f6_takeNew (F : Nat) (p1 : Int32) (md : T6) : Option (T6) :=
  bnd (f6_wordName F md) fun u1 =>
  grd (inb md.2.2.2.1.2.2.2.1 40) <|
  jn (fun (v48 : Int32) =>
    bnd (f6_take F v48 (md.1, md.2.1, md.2.2.1, (md.2.2.2.1.1, md.2.2.2.1.2.1, md.2.2.2.1.2.2.1, md.2.2.2.1.2.2.2.1, md.2.2.2.1.2.2.2.2.1, (upd md.2.2.2.1.2.2.2.2.2.1 md.2.2.2.1.2.2.2.1.toNatClampNeg md.2.2.2.1.1), md.2.2.2.1.2.2.2.2.2.2), md.2.2.2.2)) fun u48 =>
    grd (inb p1 80) <|
    some (u48.1, (u48.2.1.1, u48.2.1.2.1, (vp_updL u48.2.1.2.2.1 p1.toNatClampNeg u1), u48.2.1.2.2.2.1, u48.2.1.2.2.2.2.1, u48.2.1.2.2.2.2.2.1, u48.2.1.2.2.2.2.2.2.1, u48.2.1.2.2.2.2.2.2.2.1, u48.2.1.2.2.2.2.2.2.2.2), u48.2.2.1, u48.2.2.2.1, u48.2.2.2.2)
    ) (fun k48 =>
    if (lg_cmp u1 (0 : Int64)) ≤ (0 : Int32) then
      k48 (0 : Int32)
    else
      if (12 : Int32) ≤ md.2.2.2.1.2.2.2.2.1 then
        k48 (0 : Int32)
      else
        bnd (f6_clockOf F u1 (md.1, md.2.1, md.2.2.1, (md.2.2.2.1.1, md.2.2.2.1.2.1, md.2.2.2.1.2.2.1, md.2.2.2.1.2.2.2.1, md.2.2.2.1.2.2.2.2.1, (upd md.2.2.2.1.2.2.2.2.2.1 md.2.2.2.1.2.2.2.1.toNatClampNeg md.2.2.2.1.1), md.2.2.2.1.2.2.2.2.2.2), md.2.2.2.2)) fun u36 =>
        if u36 = (-1 : Int32) then
          k48 (1 : Int32)
        else
          k48 (0 : Int32)
    )
def f6_takeOld (F : Nat) (p1 : Int32) (p2 : Int32) (md : T6) : Option (T6) :=
  bnd (f6_wordName F md) fun u1 =>
  jn (fun (v52 : T6) =>
    jn (fun (v64 : Int32) =>
      bnd (f6_take F v64 v52) fun u64 =>
      some u64
      ) (fun k64 =>
      if (lg_cmp u1 (0 : Int64)) ≤ (0 : Int32) then
        k64 (0 : Int32)
      else
        k64 (1 : Int32)
      )
    ) (fun k52 =>
    if p2 = (0 : Int32) then
      grd (inb md.2.2.2.1.2.2.2.1 40) <|
      grd (inb p1 80) <|
      k52 (md.1, (md.2.1.1, md.2.1.2.1, md.2.1.2.2.1, (vp_updL md.2.1.2.2.2.1 p1.toNatClampNeg u1), md.2.1.2.2.2.2.1, md.2.1.2.2.2.2.2.1, md.2.1.2.2.2.2.2.2.1, md.2.1.2.2.2.2.2.2.2.1, md.2.1.2.2.2.2.2.2.2.2), md.2.2.1, (md.2.2.2.1.1, md.2.2.2.1.2.1, md.2.2.2.1.2.2.1, md.2.2.2.1.2.2.2.1, md.2.2.2.1.2.2.2.2.1, md.2.2.2.1.2.2.2.2.2.1, (upd md.2.2.2.1.2.2.2.2.2.2 md.2.2.2.1.2.2.2.1.toNatClampNeg md.2.2.2.1.1)), md.2.2.2.2)
    else
      grd (inb md.2.2.2.1.2.2.2.1 40) <|
      grd (inb p1 80) <|
      k52 (md.1, (md.2.1.1, md.2.1.2.1, (vp_updL md.2.1.2.2.1 p1.toNatClampNeg u1), md.2.1.2.2.2.1, md.2.1.2.2.2.2.1, md.2.1.2.2.2.2.2.1, md.2.1.2.2.2.2.2.2.1, md.2.1.2.2.2.2.2.2.2.1, md.2.1.2.2.2.2.2.2.2.2), md.2.2.1, (md.2.2.2.1.1, md.2.2.2.1.2.1, md.2.2.2.1.2.2.1, md.2.2.2.1.2.2.2.1, md.2.2.2.1.2.2.2.2.1, (upd md.2.2.2.1.2.2.2.2.2.1 md.2.2.2.1.2.2.2.1.toNatClampNeg md.2.2.2.1.1), md.2.2.2.1.2.2.2.2.2.2), md.2.2.2.2)
    )
def f6_readClock (F : Nat) (p1 : Int32) (md : T6) : Option (T6) :=
  bnd (f6_takeNew F p1 md) fun u2 =>
  jn (fun (v28 : Int32 × T6) =>
    grd (inb p1 80) <|
    jn (fun (v58 : Int32 × T6) =>
      grd (inb p1 80) <|
      jn (fun (v74 : Int32) =>
        jn (fun (v105 : Int32) =>
          bnd (f6_take F v105 (v58.2.1, (v58.2.2.1.1, v58.2.2.1.2.1, v58.2.2.1.2.2.1, v58.2.2.1.2.2.2.1, v58.2.2.1.2.2.2.2.1, (upd v58.2.2.1.2.2.2.2.2.1 p1.toNatClampNeg v58.1), v58.2.2.1.2.2.2.2.2.2.1, v58.2.2.1.2.2.2.2.2.2.2.1, v58.2.2.1.2.2.2.2.2.2.2.2), v58.2.2.2.1, v58.2.2.2.2.1, v58.2.2.2.2.2)) fun u105 =>
          grd (inb p1 80) <|
          if u105.2.2.2.1.2.2.1 = (0 : Int32) then
            some (u105.1, (u105.2.1.1, u105.2.1.2.1, u105.2.1.2.2.1, u105.2.1.2.2.2.1, u105.2.1.2.2.2.2.1, u105.2.1.2.2.2.2.2.1, (upd u105.2.1.2.2.2.2.2.2.1 p1.toNatClampNeg v74), u105.2.1.2.2.2.2.2.2.2.1, u105.2.1.2.2.2.2.2.2.2.2), u105.2.2.1, u105.2.2.2.1, u105.2.2.2.2)
          else
            bnd (f6_takePattern F p1 (0 : Int32) (0 : Int32) (u105.1, (u105.2.1.1, u105.2.1.2.1, u105.2.1.2.2.1, u105.2.1.2.2.2.1, u105.2.1.2.2.2.2.1, u105.2.1.2.2.2.2.2.1, (upd u105.2.1.2.2.2.2.2.2.1 p1.toNatClampNeg v74), u105.2.1.2.2.2.2.2.2.2.1, u105.2.1.2.2.2.2.2.2.2.2), u105.2.2.1, u105.2.2.2.1, u105.2.2.2.2)) fun u126 =>
            some u126
          ) (fun k105 =>
          if v74 < (0 : Int32) then
            k105 (0 : Int32)
          else
            grd (inb p1 80) <|
            if (v58.2.2.1.2.2.2.2.1 p1.toNatClampNeg) ≤ v74 then
              k105 (0 : Int32)
            else
              grd (inb p1 80) <|
              if v74 = ((upd v58.2.2.1.2.2.2.2.2.1 p1.toNatClampNeg v58.1) p1.toNatClampNeg) then
                k105 (0 : Int32)
              else
                k105 (1 : Int32)
          )
        ) (fun k74 =>
        if v58.2.2.2.2.1.2.2.1 = (0 : Int32) then
          k74 (-1 : Int32)
        else
          bnd (f6_whole F (v58.2.1, (v58.2.2.1.1, v58.2.2.1.2.1, v58.2.2.1.2.2.1, v58.2.2.1.2.2.2.1, v58.2.2.1.2.2.2.2.1, (upd v58.2.2.1.2.2.2.2.2.1 p1.toNatClampNeg v58.1), v58.2.2.1.2.2.2.2.2.2.1, v58.2.2.1.2.2.2.2.2.2.2.1, v58.2.2.1.2.2.2.2.2.2.2.2), v58.2.2.2.1, v58.2.2.2.2.1, v58.2.2.2.2.2)) fun u67 =>
          k74 u67
        )
      ) (fun k58 =>
      if v28.2.2.2.2.1.2.2.1 = (0 : Int32) then
        k58 ((0 : Int32), (v28.2.1, (v28.2.2.1.1, v28.2.2.1.2.1, v28.2.2.1.2.2.1, v28.2.2.1.2.2.2.1, (upd v28.2.2.1.2.2.2.2.1 p1.toNatClampNeg v28.1), v28.2.2.1.2.2.2.2.2.1, v28.2.2.1.2.2.2.2.2.2.1, v28.2.2.1.2.2.2.2.2.2.2.1, v28.2.2.1.2.2.2.2.2.2.2.2), v28.2.2.2.1, v28.2.2.2.2.1, v28.2.2.2.2.2))
      else
        grd (inb p1 80) <|
        bnd (f6_takeWhole F (0 : Int32) (((upd v28.2.2.1.2.2.2.2.1 p1.toNatClampNeg v28.1) p1.toNatClampNeg) - (1 : Int32)) (v28.2.1, (v28.2.2.1.1, v28.2.2.1.2.1, v28.2.2.1.2.2.1, v28.2.2.1.2.2.2.1, (upd v28.2.2.1.2.2.2.2.1 p1.toNatClampNeg v28.1), v28.2.2.1.2.2.2.2.2.1, v28.2.2.1.2.2.2.2.2.2.1, v28.2.2.1.2.2.2.2.2.2.2.1, v28.2.2.1.2.2.2.2.2.2.2.2), v28.2.2.2.1, v28.2.2.2.2.1, v28.2.2.2.2.2)) fun u51 =>
        k58 (u51.1, u51.2)
      )
    ) (fun k28 =>
    if u2.2.2.2.1.2.2.1 = (0 : Int32) then
      k28 ((0 : Int32), u2)
    else
      bnd (f6_takeWhole F (1 : Int32) (999999 : Int32) u2) fun u21 =>
      k28 (u21.1, u21.2)
    )
def f6_readDerived (F : Nat) (p1 : Int32) (md : T6) : Option (T6) :=
  bnd (f6_takeNew F p1 md) fun u2 =>
  jn (fun (v18 : T6) =>
    jn (fun (v42 : Int32 × T6) =>
      grd (inb p1 80) <|
      jn (fun (v67 : Int32 × T6) =>
        grd (inb p1 80) <|
        if v67.2.2.2.2.1.2.2.1 = (0 : Int32) then
          some (v67.2.1, (v67.2.2.1.1, v67.2.2.1.2.1, v67.2.2.1.2.2.1, v67.2.2.1.2.2.2.1, v67.2.2.1.2.2.2.2.1, (upd v67.2.2.1.2.2.2.2.2.1 p1.toNatClampNeg v67.1), v67.2.2.1.2.2.2.2.2.2.1, v67.2.2.1.2.2.2.2.2.2.2.1, v67.2.2.1.2.2.2.2.2.2.2.2), v67.2.2.2.1, v67.2.2.2.2.1, v67.2.2.2.2.2)
        else
          bnd (f6_takePattern F p1 (0 : Int32) (0 : Int32) (v67.2.1, (v67.2.2.1.1, v67.2.2.1.2.1, v67.2.2.1.2.2.1, v67.2.2.1.2.2.2.1, v67.2.2.1.2.2.2.2.1, (upd v67.2.2.1.2.2.2.2.2.1 p1.toNatClampNeg v67.1), v67.2.2.1.2.2.2.2.2.2.1, v67.2.2.1.2.2.2.2.2.2.2.1, v67.2.2.1.2.2.2.2.2.2.2.2), v67.2.2.2.1, v67.2.2.2.2.1, v67.2.2.2.2.2)) fun u79 =>
          some u79
        ) (fun k67 =>
        if v42.2.2.2.2.1.2.2.1 = (0 : Int32) then
          k67 ((0 : Int32), (v42.2.1, (v42.2.2.1.1, v42.2.2.1.2.1, v42.2.2.1.2.2.1, v42.2.2.1.2.2.2.1, (upd v42.2.2.1.2.2.2.2.1 p1.toNatClampNeg v42.1), v42.2.2.1.2.2.2.2.2.1, v42.2.2.1.2.2.2.2.2.2.1, v42.2.2.1.2.2.2.2.2.2.2.1, v42.2.2.1.2.2.2.2.2.2.2.2), v42.2.2.2.1, v42.2.2.2.2.1, v42.2.2.2.2.2))
        else
          bnd (f6_takeWhole F (1 : Int32) (1000 : Int32) (v42.2.1, (v42.2.2.1.1, v42.2.2.1.2.1, v42.2.2.1.2.2.1, v42.2.2.1.2.2.2.1, (upd v42.2.2.1.2.2.2.2.1 p1.toNatClampNeg v42.1), v42.2.2.1.2.2.2.2.2.1, v42.2.2.1.2.2.2.2.2.2.1, v42.2.2.1.2.2.2.2.2.2.2.1, v42.2.2.1.2.2.2.2.2.2.2.2), v42.2.2.2.1, v42.2.2.2.2.1, v42.2.2.2.2.2)) fun u60 =>
          k67 (u60.1, u60.2)
        )
      ) (fun k42 =>
      if v18.2.2.2.1.2.2.1 = (0 : Int32) then
        k42 ((0 : Int32), v18)
      else
        bnd (f6_takeWhole F (1 : Int32) (1000 : Int32) v18) fun u35 =>
        k42 (u35.1, u35.2)
      )
    ) (fun k18 =>
    if u2.2.2.2.1.2.2.1 = (0 : Int32) then
      k18 u2
    else
      bnd (f6_takeOld F p1 (0 : Int32) u2) fun u15 =>
      k18 u15
    )
def f6_readException_L2 (F : Nat) (p1 : Int32) (s2 : Int32 × T6) : Option ((Int32 × T6) ⊕ ((T6))) :=
  if (3 : Int32) ≤ s2.1 then
    some (.inr s2.2)
  else
    if s2.2.2.2.2.1.2.2.1 = (0 : Int32) then
      some (.inr s2.2)
    else
      jn (fun (v46 : Int32) =>
        bnd (f6_takePattern F p1 s2.1 v46 s2.2) fun u51 =>
        some (.inl ((s2.1 + (1 : Int32)), u51))
        ) (fun k46 =>
        jn (fun (v41 : Unit) =>
          k46 (1 : Int32)
          ) (fun k41 =>
          if s2.1 < (2 : Int32) then
            k41 ()
          else
            grd (inb ((3 : Int32) * p1) 240) <|
            grd (inb (((3 : Int32) * p1) + (1 : Int32)) 240) <|
            if ((s2.2.2.1.2.2.2.2.2.2.2.2 ((3 : Int32) * p1).toNatClampNeg) + (s2.2.2.1.2.2.2.2.2.2.2.2 (((3 : Int32) * p1) + (1 : Int32)).toNatClampNeg)) ≤ (0 : Int32) then
              k46 (0 : Int32)
            else
              k41 ()
          )
        )
def f6_readException (F : Nat) (p1 : Int32) (md : T6) : Option (T6) :=
  bnd (iter (f6_readException_L2 F p1) F ((0 : Int32), md)) (
    fun (x60 : T6) =>
      some x60
    )
def f6_readRow_L64 (md : T6) (s64 : Int32 × T6) : Option ((Int32 × T6) ⊕ ((T6))) :=
  if (3 : Int32) ≤ s64.1 then
    some (.inr s64.2)
  else
    grd (inb (((3 : Int32) * ((40 : Int32) + md.2.2.2.1.2.2.2.1)) + s64.1) 240) <|
    some (.inl ((s64.1 + (1 : Int32)), (s64.2.1, (s64.2.2.1.1, s64.2.2.1.2.1, s64.2.2.1.2.2.1, s64.2.2.1.2.2.2.1, s64.2.2.1.2.2.2.2.1, s64.2.2.1.2.2.2.2.2.1, s64.2.2.1.2.2.2.2.2.2.1, s64.2.2.1.2.2.2.2.2.2.2.1, (upd s64.2.2.1.2.2.2.2.2.2.2.2 (((3 : Int32) * ((40 : Int32) + md.2.2.2.1.2.2.2.1)) + s64.1).toNatClampNeg (0 : Int32))), s64.2.2.2.1, s64.2.2.2.2.1, s64.2.2.2.2.2)))
def f6_readRow (F : Nat) (md : T6) : Option (T6) :=
  bnd (f6_wordName F md) fun u10 =>
  bnd (f6_sortOf F u10) fun u13 =>
  jn (fun (v37 : Int32) =>
    bnd (f6_take F v37 md) fun u37 =>
    if u37.2.2.2.1.2.2.1 = (0 : Int32) then
      some u37
    else
      grd (inb ((40 : Int32) + md.2.2.2.1.2.2.2.1) 80) <|
      grd (inb ((40 : Int32) + md.2.2.2.1.2.2.2.1) 80) <|
      bnd (iter (f6_readRow_L64 md) F ((0 : Int32), (u37.1, (u37.2.1.1, (upd u37.2.1.2.1 ((40 : Int32) + md.2.2.2.1.2.2.2.1).toNatClampNeg u13), u37.2.1.2.2.1, u37.2.1.2.2.2.1, (upd u37.2.1.2.2.2.2.1 ((40 : Int32) + md.2.2.2.1.2.2.2.1).toNatClampNeg (0 : Int32)), u37.2.1.2.2.2.2.2.1, u37.2.1.2.2.2.2.2.2.1, u37.2.1.2.2.2.2.2.2.2.1, u37.2.1.2.2.2.2.2.2.2.2), u37.2.2.1, u37.2.2.2.1, u37.2.2.2.2))) (
        fun (x86 : T6) =>
          jn (fun (v231 : T6) =>
            jn (fun (v242 : T6) =>
              if v242.2.2.2.1.2.2.1 = (0 : Int32) then
                some v242
              else
                jn (fun (v280 : T6) =>
                  some (v280.1, v280.2.1, v280.2.2.1, (v280.2.2.2.1.1, v280.2.2.2.1.2.1, v280.2.2.2.1.2.2.1, (v280.2.2.2.1.2.2.2.1 + (1 : Int32)), v280.2.2.2.1.2.2.2.2.1, v280.2.2.2.1.2.2.2.2.2.1, v280.2.2.2.1.2.2.2.2.2.2), v280.2.2.2.2)
                  ) (fun k280 =>
                  if (2 : Int32) < u13 then
                    k280 v242
                  else
                    grd (inb ((12 : Int32) + v242.2.2.2.1.2.2.2.2.1) 24) <|
                    k280 (v242.1, v242.2.1, (v242.2.2.1.1, (upd v242.2.2.1.2.1 ((12 : Int32) + v242.2.2.2.1.2.2.2.2.1).toNatClampNeg v242.2.2.2.1.2.2.2.1), v242.2.2.1.2.2.1, v242.2.2.1.2.2.2.1, v242.2.2.1.2.2.2.2.1, v242.2.2.1.2.2.2.2.2.1, v242.2.2.1.2.2.2.2.2.2.1, v242.2.2.1.2.2.2.2.2.2.2), (v242.2.2.2.1.1, v242.2.2.2.1.2.1, v242.2.2.2.1.2.2.1, v242.2.2.2.1.2.2.2.1, (v242.2.2.2.1.2.2.2.2.1 + (1 : Int32)), v242.2.2.2.1.2.2.2.2.2.1, v242.2.2.2.1.2.2.2.2.2.2), v242.2.2.2.2)
                  )
              ) (fun k242 =>
              if v231.2.2.2.1.2.2.1 = (0 : Int32) then
                k242 v231
              else
                bnd (f6_takeEnd F v231) fun u239 =>
                k242 u239
              )
            ) (fun k231 =>
            if u13 = (0 : Int32) then
              bnd (f6_readClock F ((40 : Int32) + md.2.2.2.1.2.2.2.1) x86) fun u92 =>
              k231 u92
            else
              jn (fun (v108 : Unit) =>
                bnd (f6_readDerived F ((40 : Int32) + md.2.2.2.1.2.2.2.1) x86) fun u110 =>
                k231 u110
                ) (fun k108 =>
                if u13 = (1 : Int32) then
                  k108 ()
                else
                  if u13 = (2 : Int32) then
                    k108 ()
                  else
                    if u13 = (3 : Int32) then
                      bnd (f6_takeOld F ((40 : Int32) + md.2.2.2.1.2.2.2.1) (1 : Int32) x86) fun u124 =>
                      if u124.2.2.2.1.2.2.1 = (0 : Int32) then
                        k231 u124
                      else
                        bnd (f6_takeOld F ((40 : Int32) + md.2.2.2.1.2.2.2.1) (0 : Int32) u124) fun u137 =>
                        k231 u137
                    else
                      if u13 = (4 : Int32) then
                        bnd (f6_readException F ((40 : Int32) + md.2.2.2.1.2.2.2.1) x86) fun u150 =>
                        k231 u150
                      else
                        jn (fun (v168 : Unit) =>
                          bnd (f6_takeWhole F (0 : Int32) (999999 : Int32) x86) fun u177 =>
                          grd (inb ((40 : Int32) + md.2.2.2.1.2.2.2.1) 80) <|
                          if u177.2.2.2.2.1.2.2.1 = (0 : Int32) then
                            k231 (u177.2.1, (u177.2.2.1.1, u177.2.2.1.2.1, u177.2.2.1.2.2.1, u177.2.2.1.2.2.2.1, (upd u177.2.2.1.2.2.2.2.1 ((40 : Int32) + md.2.2.2.1.2.2.2.1).toNatClampNeg u177.1), u177.2.2.1.2.2.2.2.2.1, u177.2.2.1.2.2.2.2.2.2.1, u177.2.2.1.2.2.2.2.2.2.2.1, u177.2.2.1.2.2.2.2.2.2.2.2), u177.2.2.2.1, u177.2.2.2.2.1, u177.2.2.2.2.2)
                          else
                            bnd (f6_takePattern F ((40 : Int32) + md.2.2.2.1.2.2.2.1) (0 : Int32) (0 : Int32) (u177.2.1, (u177.2.2.1.1, u177.2.2.1.2.1, u177.2.2.1.2.2.1, u177.2.2.1.2.2.2.1, (upd u177.2.2.1.2.2.2.2.1 ((40 : Int32) + md.2.2.2.1.2.2.2.1).toNatClampNeg u177.1), u177.2.2.1.2.2.2.2.2.1, u177.2.2.1.2.2.2.2.2.2.1, u177.2.2.1.2.2.2.2.2.2.2.1, u177.2.2.1.2.2.2.2.2.2.2.2), u177.2.2.2.1, u177.2.2.2.2.1, u177.2.2.2.2.2)) fun u192 =>
                            k231 u192
                          ) (fun k168 =>
                          if u13 = (8 : Int32) then
                            k168 ()
                          else
                            if u13 = (9 : Int32) then
                              k168 ()
                            else
                              jn (fun (v225 : Int32 × T6) =>
                                grd (inb ((40 : Int32) + md.2.2.2.1.2.2.2.1) 80) <|
                                bnd (f6_readException F ((40 : Int32) + md.2.2.2.1.2.2.2.1) (v225.2.1, (v225.2.2.1.1, v225.2.2.1.2.1, v225.2.2.1.2.2.1, v225.2.2.1.2.2.2.1, (upd v225.2.2.1.2.2.2.2.1 ((40 : Int32) + md.2.2.2.1.2.2.2.1).toNatClampNeg v225.1), v225.2.2.1.2.2.2.2.2.1, v225.2.2.1.2.2.2.2.2.2.1, v225.2.2.1.2.2.2.2.2.2.2.1, v225.2.2.1.2.2.2.2.2.2.2.2), v225.2.2.2.1, v225.2.2.2.2.1, v225.2.2.2.2.2)) fun u228 =>
                                k231 u228
                                ) (fun k225 =>
                                if u13 = (5 : Int32) then
                                  bnd (f6_takeWhole F (2 : Int32) (100 : Int32) x86) fun u212 =>
                                  k225 (u212.1, u212.2)
                                else
                                  bnd (f6_takeWhole F (0 : Int32) (999999 : Int32) x86) fun u222 =>
                                  k225 (u222.1, u222.2)
                                )
                          )
                )
            )
        )
    ) (fun k37 =>
    if u13 = (-1 : Int32) then
      k37 (0 : Int32)
    else
      if (40 : Int32) ≤ md.2.2.2.1.2.2.2.1 then
        k37 (0 : Int32)
      else
        k37 (1 : Int32)
    )
def f6_unknown_L2 (F : Nat) (md : T6) (s2 : Int32) : Option ((Int32) ⊕ ((Int32) ⊕ ((Int32) ⊕ ((Unit))))) :=
  if md.2.2.2.1.2.2.2.1 ≤ s2 then
    some (.inr (.inr (.inr ())))
  else
    grd (inb ((40 : Int32) + s2) 80) <|
    jn (fun (v49 : Unit) =>
      jn (fun (v83 : Unit) =>
        some (.inl (s2 + (1 : Int32)))
        ) (fun k83 =>
        if (md.2.1.2.1 ((40 : Int32) + s2).toNatClampNeg) < (1 : Int32) then
          k83 ()
        else
          if (3 : Int32) < (md.2.1.2.1 ((40 : Int32) + s2).toNatClampNeg) then
            k83 ()
          else
            grd (inb ((40 : Int32) + s2) 80) <|
            bnd (f6_clockOf F (md.2.1.2.2.2.1 ((40 : Int32) + s2).toNatClampNeg) md) fun u69 =>
            if u69 = (-1 : Int32) then
              some (.inr (.inr (.inl s2)))
            else
              k83 ()
        )
      ) (fun k49 =>
      if (md.2.1.2.1 ((40 : Int32) + s2).toNatClampNeg) = (3 : Int32) then
        grd (inb ((40 : Int32) + s2) 80) <|
        bnd (f6_clockOf F (md.2.1.2.2.1 ((40 : Int32) + s2).toNatClampNeg) md) fun u35 =>
        if u35 = (-1 : Int32) then
          some (.inr (.inl s2))
        else
          k49 ()
      else
        k49 ()
      )
def f6_unknown (F : Nat) (md : T6) : Option (Int32) :=
  bnd (iter (f6_unknown_L2 F md) F (0 : Int32)) (
    fun (e2y : (Int32) ⊕ ((Int32) ⊕ (Unit))) => cas e2y (fun (x42 : Int32) =>
      grd (inb x42 40) <|
      some (md.2.2.2.1.2.2.2.2.2.1 x42.toNatClampNeg)
      ) (
      fun (e2yy : (Int32) ⊕ (Unit)) => cas e2yy (fun (x76 : Int32) =>
        grd (inb x76 40) <|
        some (md.2.2.2.1.2.2.2.2.2.2 x76.toNatClampNeg)
        ) (
        fun (x89 : Unit) =>
          some (-1 : Int32)
        )
      )
    )
def f6_findFrom_L2 (F : Nat) (s2 : Int32 × T6) : Option ((Int32 × T6) ⊕ ((T6))) :=
  if s2.2.2.2.2.1.2.2.2.2.1 ≤ s2.1 then
    some (.inr s2.2)
  else
    grd (inb ((12 : Int32) + s2.1) 24) <|
    grd (inb ((40 : Int32) + (s2.2.2.2.1.2.1 ((12 : Int32) + s2.1).toNatClampNeg)) 80) <|
    jn (fun (v54 : Int32) =>
      grd (inb ((12 : Int32) + s2.1) 24) <|
      some (.inl ((s2.1 + (1 : Int32)), (s2.2.1, s2.2.2.1, (s2.2.2.2.1.1, s2.2.2.2.1.2.1, (upd s2.2.2.2.1.2.2.1 ((12 : Int32) + s2.1).toNatClampNeg v54), s2.2.2.2.1.2.2.2.1, s2.2.2.2.1.2.2.2.2.1, s2.2.2.2.1.2.2.2.2.2.1, s2.2.2.2.1.2.2.2.2.2.2.1, s2.2.2.2.1.2.2.2.2.2.2.2), s2.2.2.2.2.1, s2.2.2.2.2.2)))
      ) (fun k54 =>
      if (s2.2.2.1.2.1 ((40 : Int32) + (s2.2.2.2.1.2.1 ((12 : Int32) + s2.1).toNatClampNeg)).toNatClampNeg) = (0 : Int32) then
        k54 (-1 : Int32)
      else
        grd (inb ((40 : Int32) + (s2.2.2.2.1.2.1 ((12 : Int32) + s2.1).toNatClampNeg)) 80) <|
        bnd (f6_clockOf F (s2.2.2.1.2.2.2.1 ((40 : Int32) + (s2.2.2.2.1.2.1 ((12 : Int32) + s2.1).toNatClampNeg)).toNatClampNeg) s2.2) fun u51 =>
        k54 u51
      )
def f6_findFrom (F : Nat) (md : T6) : Option (T6) :=
  bnd (iter (f6_findFrom_L2 F) F ((0 : Int32), md)) (
    fun (x61 : T6) =>
      some x61
    )
def f6_ring_L22 (md : T6) (s2 : Int32) (s22 : Int32 × Int32) : Option ((Int32 × Int32) ⊕ ((Int32))) :=
  if (12 : Int32) ≤ s22.2 then
    some (.inr s22.1)
  else
    if s22.1 = (-1 : Int32) then
      some (.inr s22.1)
    else
      if s22.1 = s2 then
        some (.inr s22.1)
      else
        grd (inb ((12 : Int32) + s22.1) 24) <|
        some (.inl ((md.2.2.1.2.2.1 ((12 : Int32) + s22.1).toNatClampNeg), (s22.2 + (1 : Int32))))
def f6_ring_L2 (F : Nat) (md : T6) (s2 : Int32) : Option ((Int32) ⊕ ((Int32) ⊕ ((Unit)))) :=
  if md.2.2.2.1.2.2.2.2.1 ≤ s2 then
    some (.inr (.inr ()))
  else
    grd (inb ((12 : Int32) + s2) 24) <|
    bnd (iter (f6_ring_L22 md s2) F ((md.2.2.1.2.2.1 ((12 : Int32) + s2).toNatClampNeg), (0 : Int32))) (
      fun (x54 : Int32) =>
        if x54 = s2 then
          some (.inr (.inl s2))
        else
          some (.inl (s2 + (1 : Int32)))
      )
def f6_ring (F : Nat) (md : T6) : Option (Int32) :=
  bnd (iter (f6_ring_L2 F md) F (0 : Int32)) (
    fun (e2y : (Int32) ⊕ (Unit)) => cas e2y (fun (x59 : Int32) =>
      grd (inb ((12 : Int32) + x59) 24) <|
      grd (inb (md.2.2.1.2.1 ((12 : Int32) + x59).toNatClampNeg) 40) <|
      some (md.2.2.2.1.2.2.2.2.2.1 (md.2.2.1.2.1 ((12 : Int32) + x59).toNatClampNeg).toNatClampNeg)
      ) (
      fun (x80 : Unit) =>
        some (-1 : Int32)
      )
    )
def f6_common_L6 (s6 : Int64 × Int64) : Option ((Int64 × Int64) ⊕ ((Int64))) :=
  if (lg_cmp s6.2 (0 : Int64)) = (0 : Int32) then
    some (.inr s6.1)
  else
    grd (decide (¬ s6.2 = 0)) <|
    some (.inl (s6.2, (s6.1 - s6.1 / s6.2 * s6.2)))
def f6_common (F : Nat) (p1 : Int64) (p2 : Int64) : Option (Int64) :=
  bnd (iter (f6_common_L6) F (p1, p2)) (
    fun (x31 : Int64) =>
      some x31
    )
def f6_reckon (F : Nat) (p1 : Int32) (md : T6) : Option (T6) :=
  grd (inb ((12 : Int32) + p1) 24) <|
  grd (inb ((12 : Int32) + p1) 24) <|
  if (md.2.2.1.2.2.1 ((12 : Int32) + p1).toNatClampNeg) = (-1 : Int32) then
    grd (inb ((40 : Int32) + (md.2.2.1.2.1 ((12 : Int32) + p1).toNatClampNeg)) 80) <|
    grd (inb ((12 : Int32) + p1) 24) <|
    grd (inb ((40 : Int32) + (md.2.2.1.2.1 ((12 : Int32) + p1).toNatClampNeg)) 80) <|
    grd (inb ((12 : Int32) + p1) 24) <|
    grd (inb ((40 : Int32) + (md.2.2.1.2.1 ((12 : Int32) + p1).toNatClampNeg)) 80) <|
    grd (inb ((12 : Int32) + p1) 24) <|
    grd (inb ((12 : Int32) + p1) 24) <|
    grd (inb ((12 : Int32) + p1) 24) <|
    some (md.1, md.2.1, (md.2.2.1.1, md.2.2.1.2.1, md.2.2.1.2.2.1, (vp_updL md.2.2.1.2.2.2.1 ((12 : Int32) + p1).toNatClampNeg ((md.2.1.2.2.2.2.1 ((40 : Int32) + (md.2.2.1.2.1 ((12 : Int32) + p1).toNatClampNeg)).toNatClampNeg).toInt64)), (vp_updL md.2.2.1.2.2.2.2.1 ((12 : Int32) + p1).toNatClampNeg ((md.2.1.2.2.2.2.2.1 ((40 : Int32) + (md.2.2.1.2.1 ((12 : Int32) + p1).toNatClampNeg)).toNatClampNeg).toInt64)), (vp_updL md.2.2.1.2.2.2.2.2.1 ((12 : Int32) + p1).toNatClampNeg ((md.2.1.2.2.2.2.2.2.1 ((40 : Int32) + (md.2.2.1.2.1 ((12 : Int32) + p1).toNatClampNeg)).toNatClampNeg).toInt64)), (vp_updL md.2.2.1.2.2.2.2.2.2.1 ((12 : Int32) + p1).toNatClampNeg (1 : Int64)), (upd md.2.2.1.2.2.2.2.2.2.2 ((12 : Int32) + p1).toNatClampNeg (vp_nar .boolean (0 : Int32)))), md.2.2.2.1, md.2.2.2.2)
  else
    grd (inb ((12 : Int32) + p1) 24) <|
    grd (inb ((12 : Int32) + (md.2.2.1.2.2.1 ((12 : Int32) + p1).toNatClampNeg)) 24) <|
    grd (inb ((40 : Int32) + (md.2.2.1.2.1 ((12 : Int32) + p1).toNatClampNeg)) 80) <|
    grd (inb ((40 : Int32) + (md.2.2.1.2.1 ((12 : Int32) + p1).toNatClampNeg)) 80) <|
    jn (fun (v134 : Int64) =>
      grd (inb ((40 : Int32) + (md.2.2.1.2.1 ((12 : Int32) + p1).toNatClampNeg)) 80) <|
      grd (inb ((40 : Int32) + (md.2.2.1.2.1 ((12 : Int32) + p1).toNatClampNeg)) 80) <|
      jn (fun (v171 : Int64) =>
        grd (inb ((40 : Int32) + (md.2.2.1.2.1 ((12 : Int32) + p1).toNatClampNeg)) 80) <|
        grd (inb ((12 : Int32) + (md.2.2.1.2.2.1 ((12 : Int32) + p1).toNatClampNeg)) 24) <|
        grd (inb ((40 : Int32) + (md.2.2.1.2.1 ((12 : Int32) + p1).toNatClampNeg)) 80) <|
        bnd (f6_common F ((md.2.2.1.2.2.2.1 ((12 : Int32) + (md.2.2.1.2.2.1 ((12 : Int32) + p1).toNatClampNeg)).toNatClampNeg) * (md.2.1.2.2.2.2.1 ((40 : Int32) + (md.2.2.1.2.1 ((12 : Int32) + p1).toNatClampNeg)).toNatClampNeg).toInt64) (v134 * (md.2.1.2.2.2.2.1 ((40 : Int32) + (md.2.2.1.2.1 ((12 : Int32) + p1).toNatClampNeg)).toNatClampNeg).toInt64)) fun u202 =>
        bnd (f6_common F (v171 * (md.2.1.2.2.2.2.1 ((40 : Int32) + (md.2.2.1.2.1 ((12 : Int32) + p1).toNatClampNeg)).toNatClampNeg).toInt64) ((md.2.2.1.2.2.2.2.2.2.1 ((12 : Int32) + (md.2.2.1.2.2.1 ((12 : Int32) + p1).toNatClampNeg)).toNatClampNeg) * (md.2.1.2.2.2.2.2.1 ((40 : Int32) + (md.2.2.1.2.1 ((12 : Int32) + p1).toNatClampNeg)).toNatClampNeg).toInt64)) fun u209 =>
        bnd (f6_common F u202 u209) fun u212 =>
        grd (decide (¬ u212 = 0)) <|
        grd (inb ((12 : Int32) + p1) 24) <|
        grd (decide (¬ u212 = 0)) <|
        grd (inb ((12 : Int32) + p1) 24) <|
        grd (decide (¬ u212 = 0)) <|
        grd (inb ((12 : Int32) + p1) 24) <|
        grd (decide (¬ u212 = 0)) <|
        grd (inb ((12 : Int32) + p1) 24) <|
        grd (inb ((12 : Int32) + (md.2.2.1.2.2.1 ((12 : Int32) + p1).toNatClampNeg)) 24) <|
        jn (fun (v307 : Int32) =>
          grd (inb ((12 : Int32) + p1) 24) <|
          grd (inb ((12 : Int32) + p1) 24) <|
          if ((upd md.2.2.1.2.2.2.2.2.2.2 ((12 : Int32) + p1).toNatClampNeg (vp_nar .boolean v307)) ((12 : Int32) + p1).toNatClampNeg) = (0 : Int32) then
            some (md.1, md.2.1, (md.2.2.1.1, md.2.2.1.2.1, md.2.2.1.2.2.1, (vp_updL md.2.2.1.2.2.2.1 ((12 : Int32) + p1).toNatClampNeg (((md.2.2.1.2.2.2.1 ((12 : Int32) + (md.2.2.1.2.2.1 ((12 : Int32) + p1).toNatClampNeg)).toNatClampNeg) * (md.2.1.2.2.2.2.1 ((40 : Int32) + (md.2.2.1.2.1 ((12 : Int32) + p1).toNatClampNeg)).toNatClampNeg).toInt64) / u212)), (vp_updL md.2.2.1.2.2.2.2.1 ((12 : Int32) + p1).toNatClampNeg ((v134 * (md.2.1.2.2.2.2.1 ((40 : Int32) + (md.2.2.1.2.1 ((12 : Int32) + p1).toNatClampNeg)).toNatClampNeg).toInt64) / u212)), (vp_updL md.2.2.1.2.2.2.2.2.1 ((12 : Int32) + p1).toNatClampNeg ((v171 * (md.2.1.2.2.2.2.1 ((40 : Int32) + (md.2.2.1.2.1 ((12 : Int32) + p1).toNatClampNeg)).toNatClampNeg).toInt64) / u212)), (vp_updL md.2.2.1.2.2.2.2.2.2.1 ((12 : Int32) + p1).toNatClampNeg (((md.2.2.1.2.2.2.2.2.2.1 ((12 : Int32) + (md.2.2.1.2.2.1 ((12 : Int32) + p1).toNatClampNeg)).toNatClampNeg) * (md.2.1.2.2.2.2.2.1 ((40 : Int32) + (md.2.2.1.2.1 ((12 : Int32) + p1).toNatClampNeg)).toNatClampNeg).toInt64) / u212)), (upd md.2.2.1.2.2.2.2.2.2.2 ((12 : Int32) + p1).toNatClampNeg (vp_nar .boolean v307))), md.2.2.2.1, md.2.2.2.2)
          else
            grd (inb ((12 : Int32) + p1) 24) <|
            grd (inb ((12 : Int32) + p1) 24) <|
            grd (inb ((12 : Int32) + p1) 24) <|
            grd (inb ((12 : Int32) + p1) 24) <|
            some (md.1, md.2.1, (md.2.2.1.1, md.2.2.1.2.1, md.2.2.1.2.2.1, (vp_updL (vp_updL md.2.2.1.2.2.2.1 ((12 : Int32) + p1).toNatClampNeg (((md.2.2.1.2.2.2.1 ((12 : Int32) + (md.2.2.1.2.2.1 ((12 : Int32) + p1).toNatClampNeg)).toNatClampNeg) * (md.2.1.2.2.2.2.1 ((40 : Int32) + (md.2.2.1.2.1 ((12 : Int32) + p1).toNatClampNeg)).toNatClampNeg).toInt64) / u212)) ((12 : Int32) + p1).toNatClampNeg (2 : Int64)), (vp_updL (vp_updL md.2.2.1.2.2.2.2.1 ((12 : Int32) + p1).toNatClampNeg ((v134 * (md.2.1.2.2.2.2.1 ((40 : Int32) + (md.2.2.1.2.1 ((12 : Int32) + p1).toNatClampNeg)).toNatClampNeg).toInt64) / u212)) ((12 : Int32) + p1).toNatClampNeg (0 : Int64)), (vp_updL (vp_updL md.2.2.1.2.2.2.2.2.1 ((12 : Int32) + p1).toNatClampNeg ((v171 * (md.2.1.2.2.2.2.1 ((40 : Int32) + (md.2.2.1.2.1 ((12 : Int32) + p1).toNatClampNeg)).toNatClampNeg).toInt64) / u212)) ((12 : Int32) + p1).toNatClampNeg (1 : Int64)), (vp_updL (vp_updL md.2.2.1.2.2.2.2.2.2.1 ((12 : Int32) + p1).toNatClampNeg (((md.2.2.1.2.2.2.2.2.2.1 ((12 : Int32) + (md.2.2.1.2.2.1 ((12 : Int32) + p1).toNatClampNeg)).toNatClampNeg) * (md.2.1.2.2.2.2.2.1 ((40 : Int32) + (md.2.2.1.2.1 ((12 : Int32) + p1).toNatClampNeg)).toNatClampNeg).toInt64) / u212)) ((12 : Int32) + p1).toNatClampNeg (1 : Int64)), (upd md.2.2.1.2.2.2.2.2.2.2 ((12 : Int32) + p1).toNatClampNeg (vp_nar .boolean v307))), md.2.2.2.1, md.2.2.2.2)
          ) (fun k307 =>
          jn (fun (v302 : Unit) =>
            k307 (1 : Int32)
            ) (fun k302 =>
            if (md.2.2.1.2.2.2.2.2.2.2 ((12 : Int32) + (md.2.2.1.2.2.1 ((12 : Int32) + p1).toNatClampNeg)).toNatClampNeg) = (0 : Int32) then
              grd (inb ((12 : Int32) + p1) 24) <|
              if (0 : Int32) < (lg_cmp ((vp_updL md.2.2.1.2.2.2.1 ((12 : Int32) + p1).toNatClampNeg (((md.2.2.1.2.2.2.1 ((12 : Int32) + (md.2.2.1.2.2.1 ((12 : Int32) + p1).toNatClampNeg)).toNatClampNeg) * (md.2.1.2.2.2.2.1 ((40 : Int32) + (md.2.2.1.2.1 ((12 : Int32) + p1).toNatClampNeg)).toNatClampNeg).toInt64) / u212)) ((12 : Int32) + p1).toNatClampNeg) (1000000 : Int64)) then
                k302 ()
              else
                grd (inb ((12 : Int32) + p1) 24) <|
                if (lg_cmp ((vp_updL md.2.2.1.2.2.2.2.2.2.1 ((12 : Int32) + p1).toNatClampNeg (((md.2.2.1.2.2.2.2.2.2.1 ((12 : Int32) + (md.2.2.1.2.2.1 ((12 : Int32) + p1).toNatClampNeg)).toNatClampNeg) * (md.2.1.2.2.2.2.2.1 ((40 : Int32) + (md.2.2.1.2.1 ((12 : Int32) + p1).toNatClampNeg)).toNatClampNeg).toInt64) / u212)) ((12 : Int32) + p1).toNatClampNeg) (1000000 : Int64)) ≤ (0 : Int32) then
                  k307 (0 : Int32)
                else
                  k302 ()
            else
              k302 ()
            )
          )
        ) (fun k171 =>
        if (md.2.1.2.1 ((40 : Int32) + (md.2.2.1.2.1 ((12 : Int32) + p1).toNatClampNeg)).toNatClampNeg) = (2 : Int32) then
          grd (inb ((12 : Int32) + (md.2.2.1.2.2.1 ((12 : Int32) + p1).toNatClampNeg)) 24) <|
          k171 (md.2.2.1.2.2.2.2.1 ((12 : Int32) + (md.2.2.1.2.2.1 ((12 : Int32) + p1).toNatClampNeg)).toNatClampNeg)
        else
          grd (inb ((12 : Int32) + (md.2.2.1.2.2.1 ((12 : Int32) + p1).toNatClampNeg)) 24) <|
          k171 (md.2.2.1.2.2.2.2.2.1 ((12 : Int32) + (md.2.2.1.2.2.1 ((12 : Int32) + p1).toNatClampNeg)).toNatClampNeg)
        )
      ) (fun k134 =>
      if (md.2.1.2.1 ((40 : Int32) + (md.2.2.1.2.1 ((12 : Int32) + p1).toNatClampNeg)).toNatClampNeg) = (2 : Int32) then
        grd (inb ((12 : Int32) + (md.2.2.1.2.2.1 ((12 : Int32) + p1).toNatClampNeg)) 24) <|
        k134 (md.2.2.1.2.2.2.2.2.1 ((12 : Int32) + (md.2.2.1.2.2.1 ((12 : Int32) + p1).toNatClampNeg)).toNatClampNeg)
      else
        grd (inb ((12 : Int32) + (md.2.2.1.2.2.1 ((12 : Int32) + p1).toNatClampNeg)) 24) <|
        k134 (md.2.2.1.2.2.2.2.1 ((12 : Int32) + (md.2.2.1.2.2.1 ((12 : Int32) + p1).toNatClampNeg)).toNatClampNeg)
      )
def f6_depth_L12 (md : T6) (s12 : Int32 × Int32) : Option ((Int32 × Int32) ⊕ ((Int32))) :=
  if s12.2 = (-1 : Int32) then
    some (.inr s12.1)
  else
    grd (inb ((12 : Int32) + s12.2) 24) <|
    some (.inl ((s12.1 + (1 : Int32)), (md.2.2.1.2.2.1 ((12 : Int32) + s12.2).toNatClampNeg)))
def f6_depth (F : Nat) (p1 : Int32) (md : T6) : Option (Int32) :=
  grd (inb ((12 : Int32) + p1) 24) <|
  bnd (iter (f6_depth_L12 md) F ((0 : Int32), (md.2.2.1.2.2.1 ((12 : Int32) + p1).toNatClampNeg))) (
    fun (x33 : Int32) =>
      some x33
    )
def f6_greatOne_L10 (F : Nat) (s2 : Int32 × T6) (s10 : Int32 × T6) : Option ((Int32 × T6) ⊕ ((T6))) :=
  if s10.2.2.2.2.1.2.2.2.2.1 ≤ s10.1 then
    some (.inr s10.2)
  else
    bnd (f6_depth F s10.1 s10.2) fun u20 =>
    jn (fun (v32 : T6) =>
      some (.inl ((s10.1 + (1 : Int32)), v32))
      ) (fun k32 =>
      if u20 = s2.1 then
        bnd (f6_reckon F s10.1 s10.2) fun u29 =>
        k32 u29
      else
        k32 s10.2
      )
def f6_greatOne_L2 (F : Nat) (s2 : Int32 × T6) : Option ((Int32 × T6) ⊕ ((T6))) :=
  if (12 : Int32) ≤ s2.1 then
    some (.inr s2.2)
  else
    bnd (iter (f6_greatOne_L10 F s2) F ((0 : Int32), s2.2)) (
      fun (x38 : T6) =>
        some (.inl ((s2.1 + (1 : Int32)), x38))
      )
def f6_greatOne_L46 (x44 : T6) (s46 : Int32) : Option ((Int32) ⊕ ((Int32) ⊕ ((Unit)))) :=
  if x44.2.2.2.1.2.2.2.2.1 ≤ s46 then
    some (.inr (.inr ()))
  else
    grd (inb ((12 : Int32) + s46) 24) <|
    if (x44.2.2.1.2.2.2.2.2.2.2 ((12 : Int32) + s46).toNatClampNeg) = (0 : Int32) then
      some (.inl (s46 + (1 : Int32)))
    else
      some (.inr (.inl s46))
def f6_greatOne (F : Nat) (md : T6) : Option (Int32 × T6) :=
  bnd (iter (f6_greatOne_L2 F) F ((0 : Int32), md)) (
    fun (x44 : T6) =>
      bnd (iter (f6_greatOne_L46 x44) F (0 : Int32)) (
        fun (e46y : (Int32) ⊕ (Unit)) => cas e46y (fun (x66 : Int32) =>
          grd (inb ((12 : Int32) + x66) 24) <|
          grd (inb (x44.2.2.1.2.1 ((12 : Int32) + x66).toNatClampNeg) 40) <|
          some ((x44.2.2.2.1.2.2.2.2.2.1 (x44.2.2.1.2.1 ((12 : Int32) + x66).toNatClampNeg).toNatClampNeg), x44)
          ) (
          fun (x87 : Unit) =>
            some ((-1 : Int32), x44)
          )
        )
    )
def f6_adopt_L149 (s120 : Int32 × T6) (s149 : Int32 × T6) : Option ((Int32 × T6) ⊕ ((T6))) :=
  if (((16 : Int32) * s120.1) + (16 : Int32)) ≤ s149.1 then
    some (.inr s149.2)
  else
    grd (inb ((1920 : Int32) + s149.1) 3840) <|
    grd (inb s149.1 3840) <|
    some (.inl ((s149.1 + (1 : Int32)), (s149.2.1, (s149.2.2.1.1, s149.2.2.1.2.1, s149.2.2.1.2.2.1, s149.2.2.1.2.2.2.1, s149.2.2.1.2.2.2.2.1, s149.2.2.1.2.2.2.2.2.1, s149.2.2.1.2.2.2.2.2.2.1, (upd s149.2.2.1.2.2.2.2.2.2.2.1 s149.1.toNatClampNeg (s149.2.2.1.2.2.2.2.2.2.2.1 ((1920 : Int32) + s149.1).toNatClampNeg)), s149.2.2.1.2.2.2.2.2.2.2.2), s149.2.2.2.1, s149.2.2.2.2.1, s149.2.2.2.2.2)))
def f6_adopt_L120 (F : Nat) (s18 : Int32 × T6) (s120 : Int32 × T6) : Option ((Int32 × T6) ⊕ ((T6))) :=
  if (((3 : Int32) * s18.1) + (3 : Int32)) ≤ s120.1 then
    some (.inr s120.2)
  else
    grd (inb ((120 : Int32) + s120.1) 240) <|
    grd (inb s120.1 240) <|
    bnd (iter (f6_adopt_L149 s120) F (((16 : Int32) * s120.1), (s120.2.1, (s120.2.2.1.1, s120.2.2.1.2.1, s120.2.2.1.2.2.1, s120.2.2.1.2.2.2.1, s120.2.2.1.2.2.2.2.1, s120.2.2.1.2.2.2.2.2.1, s120.2.2.1.2.2.2.2.2.2.1, s120.2.2.1.2.2.2.2.2.2.2.1, (upd s120.2.2.1.2.2.2.2.2.2.2.2 s120.1.toNatClampNeg (s120.2.2.1.2.2.2.2.2.2.2.2 ((120 : Int32) + s120.1).toNatClampNeg))), s120.2.2.2.1, s120.2.2.2.2.1, s120.2.2.2.2.2))) (
      fun (x182 : T6) =>
        some (.inl ((s120.1 + (1 : Int32)), x182))
      )
def f6_adopt_L18 (F : Nat) (s18 : Int32 × T6) : Option ((Int32 × T6) ⊕ ((T6))) :=
  if s18.2.2.1.1 ≤ s18.1 then
    some (.inr s18.2)
  else
    grd (inb ((40 : Int32) + s18.1) 80) <|
    grd (inb s18.1 80) <|
    grd (inb ((40 : Int32) + s18.1) 80) <|
    grd (inb s18.1 80) <|
    grd (inb ((40 : Int32) + s18.1) 80) <|
    grd (inb s18.1 80) <|
    grd (inb ((40 : Int32) + s18.1) 80) <|
    grd (inb s18.1 80) <|
    grd (inb ((40 : Int32) + s18.1) 80) <|
    grd (inb s18.1 80) <|
    grd (inb ((40 : Int32) + s18.1) 80) <|
    grd (inb s18.1 80) <|
    bnd (iter (f6_adopt_L120 F s18) F (((3 : Int32) * s18.1), (s18.2.1, (s18.2.2.1.1, (upd s18.2.2.1.2.1 s18.1.toNatClampNeg (s18.2.2.1.2.1 ((40 : Int32) + s18.1).toNatClampNeg)), (vp_updL s18.2.2.1.2.2.1 s18.1.toNatClampNeg (s18.2.2.1.2.2.1 ((40 : Int32) + s18.1).toNatClampNeg)), (vp_updL s18.2.2.1.2.2.2.1 s18.1.toNatClampNeg (s18.2.2.1.2.2.2.1 ((40 : Int32) + s18.1).toNatClampNeg)), (upd s18.2.2.1.2.2.2.2.1 s18.1.toNatClampNeg (s18.2.2.1.2.2.2.2.1 ((40 : Int32) + s18.1).toNatClampNeg)), (upd s18.2.2.1.2.2.2.2.2.1 s18.1.toNatClampNeg (s18.2.2.1.2.2.2.2.2.1 ((40 : Int32) + s18.1).toNatClampNeg)), (upd s18.2.2.1.2.2.2.2.2.2.1 s18.1.toNatClampNeg (s18.2.2.1.2.2.2.2.2.2.1 ((40 : Int32) + s18.1).toNatClampNeg)), s18.2.2.1.2.2.2.2.2.2.2.1, s18.2.2.1.2.2.2.2.2.2.2.2), s18.2.2.2.1, s18.2.2.2.2.1, s18.2.2.2.2.2))) (
      fun (x188 : T6) =>
        some (.inl ((s18.1 + (1 : Int32)), x188))
      )
def f6_adopt_L196 (s196 : Int32 × T6) : Option ((Int32 × T6) ⊕ ((T6))) :=
  if s196.2.2.2.1.1 ≤ s196.1 then
    some (.inr s196.2)
  else
    grd (inb ((12 : Int32) + s196.1) 24) <|
    grd (inb s196.1 24) <|
    grd (inb ((12 : Int32) + s196.1) 24) <|
    grd (inb s196.1 24) <|
    grd (inb ((12 : Int32) + s196.1) 24) <|
    grd (inb s196.1 24) <|
    grd (inb ((12 : Int32) + s196.1) 24) <|
    grd (inb s196.1 24) <|
    grd (inb ((12 : Int32) + s196.1) 24) <|
    grd (inb s196.1 24) <|
    grd (inb ((12 : Int32) + s196.1) 24) <|
    grd (inb s196.1 24) <|
    some (.inl ((s196.1 + (1 : Int32)), (s196.2.1, s196.2.2.1, (s196.2.2.2.1.1, (upd s196.2.2.2.1.2.1 s196.1.toNatClampNeg (s196.2.2.2.1.2.1 ((12 : Int32) + s196.1).toNatClampNeg)), (upd s196.2.2.2.1.2.2.1 s196.1.toNatClampNeg (s196.2.2.2.1.2.2.1 ((12 : Int32) + s196.1).toNatClampNeg)), (vp_updL s196.2.2.2.1.2.2.2.1 s196.1.toNatClampNeg (s196.2.2.2.1.2.2.2.1 ((12 : Int32) + s196.1).toNatClampNeg)), (vp_updL s196.2.2.2.1.2.2.2.2.1 s196.1.toNatClampNeg (s196.2.2.2.1.2.2.2.2.1 ((12 : Int32) + s196.1).toNatClampNeg)), (vp_updL s196.2.2.2.1.2.2.2.2.2.1 s196.1.toNatClampNeg (s196.2.2.2.1.2.2.2.2.2.1 ((12 : Int32) + s196.1).toNatClampNeg)), (vp_updL s196.2.2.2.1.2.2.2.2.2.2.1 s196.1.toNatClampNeg (s196.2.2.2.1.2.2.2.2.2.2.1 ((12 : Int32) + s196.1).toNatClampNeg)), s196.2.2.2.1.2.2.2.2.2.2.2), s196.2.2.2.2.1, s196.2.2.2.2.2)))
def f6_adopt (F : Nat) (md : T6) : Option (T6) :=
  bnd (iter (f6_adopt_L18 F) F ((0 : Int32), (md.1, (md.2.2.2.1.2.2.2.1, md.2.1.2.1, md.2.1.2.2.1, md.2.1.2.2.2.1, md.2.1.2.2.2.2.1, md.2.1.2.2.2.2.2.1, md.2.1.2.2.2.2.2.2.1, md.2.1.2.2.2.2.2.2.2.1, md.2.1.2.2.2.2.2.2.2.2), (md.2.2.2.1.2.2.2.2.1, md.2.2.1.2.1, md.2.2.1.2.2.1, md.2.2.1.2.2.2.1, md.2.2.1.2.2.2.2.1, md.2.2.1.2.2.2.2.2.1, md.2.2.1.2.2.2.2.2.2.1, md.2.2.1.2.2.2.2.2.2.2), md.2.2.2.1, md.2.2.2.2))) (
    fun (x194 : T6) =>
      bnd (iter (f6_adopt_L196) F ((0 : Int32), x194)) (
        fun (x300 : T6) =>
          some x300
        )
    )
def f6_read_L29 (F : Nat) (s29 : T6) : Option ((T6) ⊕ ((T6))) :=
  if s29.2.2.2.1.2.2.1 = (0 : Int32) then
    some (.inr s29)
  else
    if s29.1.2.2.2.2 ≤ s29.2.2.2.1.1 then
      some (.inr s29)
    else
      bnd (f6_readRow F s29) fun u48 =>
      some (.inl u48)
def f6_read (F : Nat) (md : T6) : Option (Int32 × T6) :=
  bnd (f6_next F (((0 : Int32), md.1.2.1, md.1.2.2.1, md.1.2.2.2.1, md.1.2.2.2.2), md.2.1, md.2.2.1, (md.2.2.2.1.1, (0 : Int32), (1 : Int32), (0 : Int32), (0 : Int32), md.2.2.2.1.2.2.2.2.2.1, md.2.2.2.1.2.2.2.2.2.2), md.2.2.2.2)) fun u26 =>
  bnd (iter (f6_read_L29 F) F u26) (
    fun (x54 : T6) =>
      if x54.2.2.2.1.2.2.1 = (0 : Int32) then
        some (((-1 : Int32) - x54.2.2.2.1.1), ((x54.1.1, x54.1.2.1, x54.1.2.2.1, x54.1.2.2.2.1, (0 : Int32)), x54.2.1, x54.2.2.1, x54.2.2.2.1, x54.2.2.2.2))
      else
        bnd (f6_unknown F ((x54.1.1, x54.1.2.1, x54.1.2.2.1, x54.1.2.2.2.1, (0 : Int32)), x54.2.1, x54.2.2.1, x54.2.2.2.1, x54.2.2.2.2)) fun u74 =>
        jn (fun (v92 : Int32 × T6) =>
          jn (fun (v105 : Int32 × T6) =>
            if v105.1 = (-1 : Int32) then
              bnd (f6_adopt F v105.2) fun u116 =>
              some (u116.2.1.1, u116)
            else
              some (((-1 : Int32) - v105.1), v105.2)
            ) (fun k105 =>
            if v92.1 = (-1 : Int32) then
              bnd (f6_greatOne F v92.2) fun u98 =>
              k105 (u98.1, u98.2)
            else
              k105 (v92.1, v92.2)
            )
          ) (fun k92 =>
          if u74 = (-1 : Int32) then
            bnd (f6_findFrom F ((x54.1.1, x54.1.2.1, x54.1.2.2.1, x54.1.2.2.2.1, (0 : Int32)), x54.2.1, x54.2.2.1, x54.2.2.2.1, x54.2.2.2.2)) fun u84 =>
            bnd (f6_ring F u84) fun u88 =>
            k92 (u88, u84)
          else
            k92 (u74, ((x54.1.1, x54.1.2.1, x54.1.2.2.1, x54.1.2.2.2.1, (0 : Int32)), x54.2.1, x54.2.2.1, x54.2.2.2.1, x54.2.2.2.2))
          )
    )
def f6_matches_L35 (p3 : Int32) (md : T6) (s35 : Int32 × T6) : Option ((Int32 × T6) ⊕ ((T6))) :=
  if (md.1.2.2.1 p3.toNatClampNeg) < s35.1 then
    some (.inr s35.2)
  else
    jn (fun (v58 : Int32) =>
      grd (inb s35.1 17) <|
      some (.inl ((s35.1 + (1 : Int32)), (s35.2.1, s35.2.2.1, s35.2.2.2.1, s35.2.2.2.2.1, ((upd s35.2.2.2.2.2.1 s35.1.toNatClampNeg (vp_nar .boolean v58)), s35.2.2.2.2.2.2.1, s35.2.2.2.2.2.2.2.1, s35.2.2.2.2.2.2.2.2))))
      ) (fun k58 =>
      if s35.1 = (0 : Int32) then
        k58 (1 : Int32)
      else
        k58 (0 : Int32)
      )
def f6_matches_L159 (p1 : Int32) (p2 : Int32) (p3 : Int32) (s68 : Int32 × T6) (s159 : Int32 × T6) : Option ((Int32 × T6) ⊕ ((T6))) :=
  if s159.1 ≤ (0 : Int32) then
    some (.inr s159.2)
  else
    grd (inb (s159.1 - (1 : Int32)) 17) <|
    jn (fun (v213 : Int32) =>
      grd (inb s159.1 17) <|
      some (.inl ((s159.1 + (-1 : Int32)), (s159.2.1, s159.2.2.1, s159.2.2.2.1, s159.2.2.2.2.1, ((upd s159.2.2.2.2.2.1 s159.1.toNatClampNeg (vp_nar .boolean v213)), s159.2.2.2.2.2.2.1, s159.2.2.2.2.2.2.2.1, s159.2.2.2.2.2.2.2.2))))
      ) (fun k213 =>
      if (s159.2.2.2.2.2.1 (s159.1 - (1 : Int32)).toNatClampNeg) = (0 : Int32) then
        k213 (0 : Int32)
      else
        jn (fun (v208 : Unit) =>
          k213 (1 : Int32)
          ) (fun k208 =>
          if (s68.2.2.1.2.2.2.2.2.2.2.1 (((16 : Int32) * (((3 : Int32) * p1) + p2)) + s68.1).toNatClampNeg) = (63 : Int32) then
            k208 ()
          else
            grd (inb ((((16 : Int32) * p3) + s159.1) - (1 : Int32)) 640) <|
            if (s68.2.2.1.2.2.2.2.2.2.2.1 (((16 : Int32) * (((3 : Int32) * p1) + p2)) + s68.1).toNatClampNeg) = (s159.2.1.2.1 ((((16 : Int32) * p3) + s159.1) - (1 : Int32)).toNatClampNeg) then
              k208 ()
            else
              k213 (0 : Int32)
          )
      )
def f6_matches_L105 (p3 : Int32) (md : T6) (s105 : Int32 × T6) : Option ((Int32 × T6) ⊕ ((T6))) :=
  if (md.1.2.2.1 p3.toNatClampNeg) < s105.1 then
    some (.inr s105.2)
  else
    grd (inb s105.1 17) <|
    jn (fun (v145 : Int32) =>
      grd (inb s105.1 17) <|
      some (.inl ((s105.1 + (1 : Int32)), (s105.2.1, s105.2.2.1, s105.2.2.2.1, s105.2.2.2.2.1, ((upd s105.2.2.2.2.2.1 s105.1.toNatClampNeg (vp_nar .boolean v145)), s105.2.2.2.2.2.2.1, s105.2.2.2.2.2.2.2.1, s105.2.2.2.2.2.2.2.2))))
      ) (fun k145 =>
      jn (fun (v140 : Unit) =>
        k145 (1 : Int32)
        ) (fun k140 =>
        if (s105.2.2.2.2.2.1 s105.1.toNatClampNeg) = (0 : Int32) then
          grd (inb (s105.1 - (1 : Int32)) 17) <|
          if (s105.2.2.2.2.2.1 (s105.1 - (1 : Int32)).toNatClampNeg) = (0 : Int32) then
            k145 (0 : Int32)
          else
            k140 ()
        else
          k140 ()
        )
      )
def f6_matches_L68 (F : Nat) (p1 : Int32) (p2 : Int32) (p3 : Int32) (md : T6) (s68 : Int32 × T6) : Option ((Int32 × T6) ⊕ ((T6))) :=
  grd (inb (((3 : Int32) * p1) + p2) 240) <|
  if (s68.2.2.1.2.2.2.2.2.2.2.2 (((3 : Int32) * p1) + p2).toNatClampNeg) ≤ s68.1 then
    some (.inr s68.2)
  else
    grd (inb (((16 : Int32) * (((3 : Int32) * p1) + p2)) + s68.1) 3840) <|
    jn (fun (v227 : T6) =>
      some (.inl ((s68.1 + (1 : Int32)), v227))
      ) (fun k227 =>
      if (s68.2.2.1.2.2.2.2.2.2.2.1 (((16 : Int32) * (((3 : Int32) * p1) + p2)) + s68.1).toNatClampNeg) = (42 : Int32) then
        bnd (iter (f6_matches_L105 p3 md) F ((1 : Int32), s68.2)) (
          fun (x152 : T6) =>
            k227 x152
          )
      else
        bnd (iter (f6_matches_L159 p1 p2 p3 s68) F ((md.1.2.2.1 p3.toNatClampNeg), s68.2)) (
          fun (x220 : T6) =>
            grd (inb (0 : Int32) 17) <|
            k227 (x220.1, x220.2.1, x220.2.2.1, x220.2.2.2.1, ((upd x220.2.2.2.2.1 (0 : Int32).toNatClampNeg (vp_nar .boolean (0 : Int32))), x220.2.2.2.2.2.1, x220.2.2.2.2.2.2.1, x220.2.2.2.2.2.2.2))
          )
      )
def f6_matches (F : Nat) (p1 : Int32) (p2 : Int32) (p3 : Int32) (md : T6) : Option (Int32 × T6) :=
  grd (inb p3 40) <|
  if (md.1.2.2.1 p3.toNatClampNeg) = (0 : Int32) then
    some ((0 : Int32), md)
  else
    grd (inb (((3 : Int32) * p1) + p2) 240) <|
    if (md.2.1.2.2.2.2.2.2.2.2 (((3 : Int32) * p1) + p2).toNatClampNeg) = (0 : Int32) then
      some ((0 : Int32), md)
    else
      bnd (iter (f6_matches_L35 p3 md) F ((0 : Int32), md)) (
        fun (x65 : T6) =>
          bnd (iter (f6_matches_L68 F p1 p2 p3 md) F ((0 : Int32), x65)) (
            fun (x233 : T6) =>
              grd (inb (md.1.2.2.1 p3.toNatClampNeg) 17) <|
              grd (isB (x233.2.2.2.2.1 (md.1.2.2.1 p3.toNatClampNeg).toNatClampNeg)) <|
              some ((x233.2.2.2.2.1 (md.1.2.2.1 p3.toNatClampNeg).toNatClampNeg), x233)
            )
        )
def f6_matched_L5 (F : Nat) (p1 : Int32) (p2 : Int32) (s5 : Int32 × Int32 × T6) : Option ((Int32 × Int32 × T6) ⊕ ((Int32 × T6))) :=
  if (40 : Int32) ≤ s5.2.1 then
    some (.inr (s5.1, s5.2.2))
  else
    bnd (f6_matches F p1 p2 s5.2.1 s5.2.2) fun u18 =>
    jn (fun (v29 : Int32) =>
      some (.inl ((s5.1 + v29), (s5.2.1 + (1 : Int32)), u18.2))
      ) (fun k29 =>
      if u18.1 = (0 : Int32) then
        k29 (0 : Int32)
      else
        k29 (1 : Int32)
      )
def f6_matched (F : Nat) (p1 : Int32) (p2 : Int32) (md : T6) : Option (Int32 × T6) :=
  bnd (iter (f6_matched_L5 F p1 p2) F ((0 : Int32), (0 : Int32), md)) (
    fun (x37 : Int32 × T6) =>
      some (x37.1, x37.2)
    )
def f6_isClock (p1 : Int32) (md : T6) : Option (Int32) :=
  if p1 < (0 : Int32) then
    some (0 : Int32)
  else
    if md.2.2.1.1 ≤ p1 then
      some (0 : Int32)
    else
      some (1 : Int32)
def f6_clock (F : Nat) (p1 : Int32) (p2 : Int32) (md : T6) : Option (Int32 × T6) :=
  bnd (f6_isClock p1 md) fun u3 =>
  jn (fun (v24 : Int32) =>
    if v24 ≤ (0 : Int32) then
      if p2 = (0 : Int32) then
        grd (inb p1 24) <|
        some ((md.2.2.1.2.2.2.1 p1.toNatClampNeg).toInt32, ((v24, md.1.2.1, md.1.2.2.1, md.1.2.2.2.1, md.1.2.2.2.2), md.2.1, md.2.2.1, md.2.2.2.1, md.2.2.2.2))
      else
        if p2 = (1 : Int32) then
          grd (inb p1 24) <|
          some ((md.2.2.1.2.2.2.2.1 p1.toNatClampNeg).toInt32, ((v24, md.1.2.1, md.1.2.2.1, md.1.2.2.2.1, md.1.2.2.2.2), md.2.1, md.2.2.1, md.2.2.2.1, md.2.2.2.2))
        else
          if p2 = (2 : Int32) then
            grd (inb p1 24) <|
            some ((md.2.2.1.2.2.2.2.2.1 p1.toNatClampNeg).toInt32, ((v24, md.1.2.1, md.1.2.2.1, md.1.2.2.2.1, md.1.2.2.2.2), md.2.1, md.2.2.1, md.2.2.2.1, md.2.2.2.2))
          else
            if p2 = (3 : Int32) then
              grd (inb p1 24) <|
              some ((md.2.2.1.2.2.2.2.2.2.1 p1.toNatClampNeg).toInt32, ((v24, md.1.2.1, md.1.2.2.1, md.1.2.2.2.1, md.1.2.2.2.2), md.2.1, md.2.2.1, md.2.2.2.1, md.2.2.2.2))
            else
              if p2 = (4 : Int32) then
                grd (inb p1 24) <|
                some (((md.2.2.1.2.1 p1.toNatClampNeg) + (1 : Int32)), ((v24, md.1.2.1, md.1.2.2.1, md.1.2.2.2.1, md.1.2.2.2.2), md.2.1, md.2.2.1, md.2.2.2.1, md.2.2.2.2))
              else
                if p2 = (5 : Int32) then
                  grd (inb p1 24) <|
                  some ((md.2.2.1.2.2.1 p1.toNatClampNeg), ((v24, md.1.2.1, md.1.2.2.1, md.1.2.2.2.1, md.1.2.2.2.2), md.2.1, md.2.2.1, md.2.2.2.1, md.2.2.2.2))
                else
                  grd (inb p1 24) <|
                  bnd (f6_matched F (md.2.2.1.2.1 p1.toNatClampNeg) (0 : Int32) ((v24, md.1.2.1, md.1.2.2.1, md.1.2.2.2.1, md.1.2.2.2.2), md.2.1, md.2.2.1, md.2.2.2.1, md.2.2.2.2)) fun u132 =>
                  some (u132.1, u132.2)
    else
      some ((0 : Int32), ((v24, md.1.2.1, md.1.2.2.1, md.1.2.2.2.1, md.1.2.2.2.2), md.2.1, md.2.2.1, md.2.2.2.1, md.2.2.2.2))
    ) (fun k24 =>
    jn (fun (v19 : Unit) =>
      k24 (1 : Int32)
      ) (fun k19 =>
      if u3 = (0 : Int32) then
        k19 ()
      else
        if p2 < (0 : Int32) then
          k19 ()
        else
          if p2 ≤ (6 : Int32) then
            k24 (0 : Int32)
          else
            k19 ()
      )
    )
def f6_part (F : Nat) (p1 : Int64) (p2 : Int64) (p3 : Int32) : Option (Int64) :=
  bnd (f6_common F p1 p2) fun u2 =>
  if p3 = (0 : Int32) then
    grd (decide (¬ u2 = 0)) <|
    some (p1 / u2)
  else
    grd (decide (¬ u2 = 0)) <|
    some (p2 / u2)
def f6_edge (F : Nat) (p1 : Int32) (p2 : Int32) (p3 : Int32) (md : T6) : Option (Int64 × T6) :=
  bnd (f6_isClock p1 md) fun u3 =>
  jn (fun (v34 : Int32) =>
    if v34 ≤ (0 : Int32) then
      grd (inb p1 24) <|
      grd (inb p1 24) <|
      jn (fun (v67 : Int32) =>
        jn (fun (v78 : Int32) =>
          jn (fun (v86 : Int32) =>
            grd (inb p1 24) <|
            jn (fun (v119 : Int64) =>
              if p3 = (2 : Int32) then
                if v86 = (0 : Int32) then
                  some ((0 : Int64), ((v34, md.1.2.1, md.1.2.2.1, md.1.2.2.2.1, md.1.2.2.2.2), md.2.1, md.2.2.1, md.2.2.2.1, md.2.2.2.2))
                else
                  some ((1 : Int64), ((v34, md.1.2.1, md.1.2.2.1, md.1.2.2.2.1, md.1.2.2.2.2), md.2.1, md.2.2.1, md.2.2.2.1, md.2.2.2.2))
              else
                grd (inb p1 24) <|
                bnd (f6_part F (((p2 / (2 : Int32)).toInt64 * (md.2.2.1.2.2.2.1 p1.toNatClampNeg)) + v119) (md.2.2.1.2.2.2.2.2.2.1 p1.toNatClampNeg) p3) fun u149 =>
                some (u149, ((v34, md.1.2.1, md.1.2.2.1, md.1.2.2.2.1, md.1.2.2.2.2), md.2.1, md.2.2.1, md.2.2.2.1, md.2.2.2.2))
              ) (fun k119 =>
              if v86 = (0 : Int32) then
                grd (inb p1 24) <|
                k119 (md.2.2.1.2.2.2.2.2.1 p1.toNatClampNeg)
              else
                grd (inb p1 24) <|
                k119 (md.2.2.1.2.2.2.2.1 p1.toNatClampNeg)
              )
            ) (fun k86 =>
            if v67 = v78 then
              k86 (1 : Int32)
            else
              k86 (0 : Int32)
            )
          ) (fun k78 =>
          if (p2 - p2 / (2 : Int32) * (2 : Int32)) = (0 : Int32) then
            k78 (1 : Int32)
          else
            k78 (0 : Int32)
          )
        ) (fun k67 =>
        if (0 : Int32) ≤ (lg_cmp (md.2.2.1.2.2.2.2.1 p1.toNatClampNeg) (md.2.2.1.2.2.2.2.2.1 p1.toNatClampNeg)) then
          k67 (0 : Int32)
        else
          k67 (1 : Int32)
        )
    else
      some ((0 : Int64), ((v34, md.1.2.1, md.1.2.2.1, md.1.2.2.2.1, md.1.2.2.2.2), md.2.1, md.2.2.1, md.2.2.2.1, md.2.2.2.2))
    ) (fun k34 =>
    jn (fun (v29 : Unit) =>
      k34 (1 : Int32)
      ) (fun k29 =>
      if u3 = (0 : Int32) then
        k29 ()
      else
        if p2 < (0 : Int32) then
          k29 ()
        else
          if (1000 : Int32) < p2 then
            k29 ()
          else
            if p3 < (0 : Int32) then
              k29 ()
            else
              if p3 ≤ (2 : Int32) then
                k34 (0 : Int32)
              else
                k29 ()
      )
    )
def f6_areApart_L31 (p1 : Int32) (p2 : Int32) (md : T6) (s31 : Int32 × Int32) : Option ((Int32 × Int32) ⊕ ((Int32))) :=
  if md.2.1.1 ≤ s31.2 then
    some (.inr s31.1)
  else
    jn (fun (v112 : Int32) =>
      some (.inl (v112, (s31.2 + (1 : Int32))))
      ) (fun k112 =>
      jn (fun (v107 : Unit) =>
        k112 (1 : Int32)
        ) (fun k107 =>
        if s31.1 = (0 : Int32) then
          grd (inb s31.2 80) <|
          if (md.2.1.2.1 s31.2.toNatClampNeg) = (3 : Int32) then
            grd (inb s31.2 80) <|
            jn (fun (v81 : Unit) =>
              grd (inb s31.2 80) <|
              if (lg_cmp (md.2.1.2.2.1 s31.2.toNatClampNeg) (md.2.1.2.2.1 (md.2.2.1.2.1 p2.toNatClampNeg).toNatClampNeg)) = (0 : Int32) then
                grd (inb s31.2 80) <|
                if (lg_cmp (md.2.1.2.2.2.1 s31.2.toNatClampNeg) (md.2.1.2.2.1 (md.2.2.1.2.1 p1.toNatClampNeg).toNatClampNeg)) = (0 : Int32) then
                  k107 ()
                else
                  k112 (0 : Int32)
              else
                k112 (0 : Int32)
              ) (fun k81 =>
              if (lg_cmp (md.2.1.2.2.1 s31.2.toNatClampNeg) (md.2.1.2.2.1 (md.2.2.1.2.1 p1.toNatClampNeg).toNatClampNeg)) = (0 : Int32) then
                grd (inb s31.2 80) <|
                if (lg_cmp (md.2.1.2.2.2.1 s31.2.toNatClampNeg) (md.2.1.2.2.1 (md.2.2.1.2.1 p2.toNatClampNeg).toNatClampNeg)) = (0 : Int32) then
                  k107 ()
                else
                  k81 ()
              else
                k81 ()
              )
          else
            k112 (0 : Int32)
        else
          k107 ()
        )
      )
def f6_areApart (F : Nat) (p1 : Int32) (p2 : Int32) (md : T6) : Option (Int32) :=
  grd (inb p1 24) <|
  grd (inb (md.2.2.1.2.1 p1.toNatClampNeg) 80) <|
  grd (inb p2 24) <|
  grd (inb (md.2.2.1.2.1 p2.toNatClampNeg) 80) <|
  bnd (iter (f6_areApart_L31 p1 p2 md) F ((0 : Int32), (0 : Int32))) (
    fun (x119 : Int32) =>
      grd (isB x119) <|
      some x119
    )
def f6_distance (F : Nat) (p1 : Int32) (p2 : Int32) (p3 : Int32) (md : T6) : Option (Int64 × T6) :=
  bnd (f6_isClock p1 md) fun u3 =>
  jn (fun (v31 : Int32) =>
    if v31 ≤ (0 : Int32) then
      bnd (f6_areApart F p1 p2 ((v31, md.1.2.1, md.1.2.2.1, md.1.2.2.2.1, md.1.2.2.2.2), md.2.1, md.2.2.1, md.2.2.2.1, md.2.2.2.2)) fun u46 =>
      if u46 = (0 : Int32) then
        grd (inb p1 24) <|
        grd (inb p1 24) <|
        grd (inb p2 24) <|
        bnd (f6_common F (md.2.2.1.2.2.2.2.2.2.1 p1.toNatClampNeg) (md.2.2.1.2.2.2.2.2.2.1 p2.toNatClampNeg)) fun u73 =>
        grd (decide (¬ u73 = 0)) <|
        grd (inb p2 24) <|
        grd (inb p1 24) <|
        grd (inb p1 24) <|
        grd (decide (¬ (md.2.2.1.2.2.2.2.2.2.1 p1.toNatClampNeg) = 0)) <|
        grd (inb p2 24) <|
        grd (inb p2 24) <|
        grd (decide (¬ (md.2.2.1.2.2.2.2.2.2.1 p2.toNatClampNeg) = 0)) <|
        bnd (f6_common F ((md.2.2.1.2.2.2.1 p1.toNatClampNeg) * ((((md.2.2.1.2.2.2.2.2.2.1 p1.toNatClampNeg) / u73) * (md.2.2.1.2.2.2.2.2.2.1 p2.toNatClampNeg)) / (md.2.2.1.2.2.2.2.2.2.1 p1.toNatClampNeg))) ((md.2.2.1.2.2.2.1 p2.toNatClampNeg) * ((((md.2.2.1.2.2.2.2.2.2.1 p1.toNatClampNeg) / u73) * (md.2.2.1.2.2.2.2.2.2.1 p2.toNatClampNeg)) / (md.2.2.1.2.2.2.2.2.2.1 p2.toNatClampNeg)))) fun u118 =>
        grd (inb p2 24) <|
        grd (inb p2 24) <|
        grd (decide (¬ (md.2.2.1.2.2.2.2.2.2.1 p2.toNatClampNeg) = 0)) <|
        grd (inb p1 24) <|
        grd (inb p1 24) <|
        grd (decide (¬ (md.2.2.1.2.2.2.2.2.2.1 p1.toNatClampNeg) = 0)) <|
        grd (decide (¬ u118 = 0)) <|
        jn (fun (v178 : Int64) =>
          bnd (f6_part F v178 (((md.2.2.1.2.2.2.2.2.2.1 p1.toNatClampNeg) / u73) * (md.2.2.1.2.2.2.2.2.2.1 p2.toNatClampNeg)) p3) fun u185 =>
          some (u185, ((v31, md.1.2.1, md.1.2.2.1, md.1.2.2.2.1, md.1.2.2.2.2), md.2.1, md.2.2.1, md.2.2.2.1, md.2.2.2.2))
          ) (fun k178 =>
          if (0 : Int32) < (lg_cmp ((((md.2.2.1.2.2.2.2.1 p2.toNatClampNeg) * ((((md.2.2.1.2.2.2.2.2.2.1 p1.toNatClampNeg) / u73) * (md.2.2.1.2.2.2.2.2.2.1 p2.toNatClampNeg)) / (md.2.2.1.2.2.2.2.2.2.1 p2.toNatClampNeg))) - ((md.2.2.1.2.2.2.2.1 p1.toNatClampNeg) * ((((md.2.2.1.2.2.2.2.2.2.1 p1.toNatClampNeg) / u73) * (md.2.2.1.2.2.2.2.2.2.1 p2.toNatClampNeg)) / (md.2.2.1.2.2.2.2.2.2.1 p1.toNatClampNeg)))) - (((md.2.2.1.2.2.2.2.1 p2.toNatClampNeg) * ((((md.2.2.1.2.2.2.2.2.2.1 p1.toNatClampNeg) / u73) * (md.2.2.1.2.2.2.2.2.2.1 p2.toNatClampNeg)) / (md.2.2.1.2.2.2.2.2.2.1 p2.toNatClampNeg))) - ((md.2.2.1.2.2.2.2.1 p1.toNatClampNeg) * ((((md.2.2.1.2.2.2.2.2.2.1 p1.toNatClampNeg) / u73) * (md.2.2.1.2.2.2.2.2.2.1 p2.toNatClampNeg)) / (md.2.2.1.2.2.2.2.2.2.1 p1.toNatClampNeg)))) / u118 * u118) (0 : Int64)) then
            k178 ((((md.2.2.1.2.2.2.2.1 p2.toNatClampNeg) * ((((md.2.2.1.2.2.2.2.2.2.1 p1.toNatClampNeg) / u73) * (md.2.2.1.2.2.2.2.2.2.1 p2.toNatClampNeg)) / (md.2.2.1.2.2.2.2.2.2.1 p2.toNatClampNeg))) - ((md.2.2.1.2.2.2.2.1 p1.toNatClampNeg) * ((((md.2.2.1.2.2.2.2.2.2.1 p1.toNatClampNeg) / u73) * (md.2.2.1.2.2.2.2.2.2.1 p2.toNatClampNeg)) / (md.2.2.1.2.2.2.2.2.2.1 p1.toNatClampNeg)))) - (((md.2.2.1.2.2.2.2.1 p2.toNatClampNeg) * ((((md.2.2.1.2.2.2.2.2.2.1 p1.toNatClampNeg) / u73) * (md.2.2.1.2.2.2.2.2.2.1 p2.toNatClampNeg)) / (md.2.2.1.2.2.2.2.2.2.1 p2.toNatClampNeg))) - ((md.2.2.1.2.2.2.2.1 p1.toNatClampNeg) * ((((md.2.2.1.2.2.2.2.2.2.1 p1.toNatClampNeg) / u73) * (md.2.2.1.2.2.2.2.2.2.1 p2.toNatClampNeg)) / (md.2.2.1.2.2.2.2.2.2.1 p1.toNatClampNeg)))) / u118 * u118)
          else
            k178 (((((md.2.2.1.2.2.2.2.1 p2.toNatClampNeg) * ((((md.2.2.1.2.2.2.2.2.2.1 p1.toNatClampNeg) / u73) * (md.2.2.1.2.2.2.2.2.2.1 p2.toNatClampNeg)) / (md.2.2.1.2.2.2.2.2.2.1 p2.toNatClampNeg))) - ((md.2.2.1.2.2.2.2.1 p1.toNatClampNeg) * ((((md.2.2.1.2.2.2.2.2.2.1 p1.toNatClampNeg) / u73) * (md.2.2.1.2.2.2.2.2.2.1 p2.toNatClampNeg)) / (md.2.2.1.2.2.2.2.2.2.1 p1.toNatClampNeg)))) - (((md.2.2.1.2.2.2.2.1 p2.toNatClampNeg) * ((((md.2.2.1.2.2.2.2.2.2.1 p1.toNatClampNeg) / u73) * (md.2.2.1.2.2.2.2.2.2.1 p2.toNatClampNeg)) / (md.2.2.1.2.2.2.2.2.2.1 p2.toNatClampNeg))) - ((md.2.2.1.2.2.2.2.1 p1.toNatClampNeg) * ((((md.2.2.1.2.2.2.2.2.2.1 p1.toNatClampNeg) / u73) * (md.2.2.1.2.2.2.2.2.2.1 p2.toNatClampNeg)) / (md.2.2.1.2.2.2.2.2.2.1 p1.toNatClampNeg)))) / u118 * u118) + u118)
          )
      else
        some (p3.toInt64, ((v31, md.1.2.1, md.1.2.2.1, md.1.2.2.2.1, md.1.2.2.2.2), md.2.1, md.2.2.1, md.2.2.2.1, md.2.2.2.2))
    else
      some ((0 : Int64), ((v31, md.1.2.1, md.1.2.2.1, md.1.2.2.2.1, md.1.2.2.2.2), md.2.1, md.2.2.1, md.2.2.2.1, md.2.2.2.2))
    ) (fun k31 =>
    jn (fun (v26 : Unit) =>
      k31 (1 : Int32)
      ) (fun k26 =>
      if u3 = (0 : Int32) then
        k26 ()
      else
        bnd (f6_isClock p2 md) fun u11 =>
        if u11 = (0 : Int32) then
          k26 ()
        else
          if p3 < (0 : Int32) then
            k26 ()
          else
            if p3 ≤ (1 : Int32) then
              k31 (0 : Int32)
            else
              k26 ()
      )
    )
def f6_fits (F : Nat) (p1 : Int32) (p2 : Int32) (p3 : Int32) (md : T6) : Option (Int32 × T6) :=
  grd (inb (((3 : Int32) * p1) + p2) 240) <|
  if (md.2.1.2.2.2.2.2.2.2.2 (((3 : Int32) * p1) + p2).toNatClampNeg) = (0 : Int32) then
    some ((1 : Int32), md)
  else
    if p3 = (-1 : Int32) then
      some ((0 : Int32), md)
    else
      bnd (f6_matches F p1 p2 p3 md) fun u22 =>
      if u22.1 = (0 : Int32) then
        some ((0 : Int32), u22.2)
      else
        some ((1 : Int32), u22.2)
def f6_strength (p1 : Int32) (md : T6) : Option (Int32) :=
  grd (inb p1 80) <|
  jn (fun (v29 : Int32) =>
    grd (inb ((3 : Int32) * p1) 240) <|
    jn (fun (v50 : Int32) =>
      grd (inb (((3 : Int32) * p1) + (2 : Int32)) 240) <|
      jn (fun (v69 : Int32) =>
        grd (inb (((3 : Int32) * p1) + (1 : Int32)) 240) <|
        if (md.2.1.2.2.2.2.2.2.2.2 (((3 : Int32) * p1) + (1 : Int32)).toNatClampNeg) ≤ (0 : Int32) then
          some (((((8 : Int32) * v29) + v50) + v69) + (0 : Int32))
        else
          some (((((8 : Int32) * v29) + v50) + v69) + (1 : Int32))
        ) (fun k69 =>
        if (md.2.1.2.2.2.2.2.2.2.2 (((3 : Int32) * p1) + (2 : Int32)).toNatClampNeg) ≤ (0 : Int32) then
          k69 (0 : Int32)
        else
          k69 (2 : Int32)
        )
      ) (fun k50 =>
      if (md.2.1.2.2.2.2.2.2.2.2 ((3 : Int32) * p1).toNatClampNeg) ≤ (0 : Int32) then
        k50 (0 : Int32)
      else
        k50 (4 : Int32)
      )
    ) (fun k29 =>
    if (md.2.1.2.1 p1.toNatClampNeg) = (4 : Int32) then
      k29 (2 : Int32)
    else
      grd (inb p1 80) <|
      if (md.2.1.2.1 p1.toNatClampNeg) = (5 : Int32) then
        k29 (0 : Int32)
      else
        k29 (1 : Int32)
    )
def f6_isPin (p1 : Int32) : Option (Int32) :=
  if p1 < (-1 : Int32) then
    some (0 : Int32)
  else
    if (40 : Int32) ≤ p1 then
      some (0 : Int32)
    else
      some (1 : Int32)
def f6_exception_L36 (F : Nat) (p1 : Int32) (p2 : Int32) (p3 : Int32) (s36 : Int32 × Int32 × T6) : Option ((Int32 × Int32 × T6) ⊕ ((Int32 × T6))) :=
  if s36.2.2.2.1.1 ≤ s36.2.1 then
    some (.inr (s36.1, s36.2.2))
  else
    if s36.2.2.1.1 = (0 : Int32) then
      grd (inb s36.2.1 80) <|
      jn (fun (v113 : Int32 × T6) =>
        jn (fun (v148 : Int32) =>
          some (.inl (v148, (s36.2.1 + (1 : Int32)), v113.2))
          ) (fun k148 =>
          if v113.1 = (0 : Int32) then
            k148 s36.1
          else
            jn (fun (v141 : Unit) =>
              k148 s36.2.1
              ) (fun k141 =>
              if s36.1 = (-1 : Int32) then
                k141 ()
              else
                bnd (f6_strength s36.2.1 v113.2) fun u129 =>
                bnd (f6_strength s36.1 v113.2) fun u135 =>
                if u129 < u135 then
                  k148 s36.1
                else
                  k141 ()
              )
          )
        ) (fun k113 =>
        if (s36.2.2.2.1.2.1 s36.2.1.toNatClampNeg) < (4 : Int32) then
          k113 ((0 : Int32), s36.2.2)
        else
          grd (inb s36.2.1 80) <|
          if (7 : Int32) < (s36.2.2.2.1.2.1 s36.2.1.toNatClampNeg) then
            k113 ((0 : Int32), s36.2.2)
          else
            bnd (f6_fits F s36.2.1 (0 : Int32) p1 s36.2.2) fun u80 =>
            if u80.1 = (0 : Int32) then
              k113 ((0 : Int32), u80.2)
            else
              bnd (f6_fits F s36.2.1 (1 : Int32) p2 u80.2) fun u91 =>
              if u91.1 = (0 : Int32) then
                k113 ((0 : Int32), u91.2)
              else
                bnd (f6_fits F s36.2.1 (2 : Int32) p3 u91.2) fun u102 =>
                if u102.1 = (0 : Int32) then
                  k113 ((0 : Int32), u102.2)
                else
                  k113 ((1 : Int32), u102.2)
        )
    else
      some (.inr (s36.1, s36.2.2))
def f6_exception (F : Nat) (p1 : Int32) (p2 : Int32) (p3 : Int32) (md : T6) : Option (Int32 × T6) :=
  bnd (f6_isPin p1) fun u2 =>
  jn (fun (v27 : Int32) =>
    bnd (iter (f6_exception_L36 F p1 p2 p3) F ((-1 : Int32), (0 : Int32), ((v27, md.1.2.1, md.1.2.2.1, md.1.2.2.2.1, md.1.2.2.2.2), md.2.1, md.2.2.1, md.2.2.2.1, md.2.2.2.2))) (
      fun (x156 : Int32 × T6) =>
        some ((x156.1 + (1 : Int32)), x156.2)
      )
    ) (fun k27 =>
    if u2 = (0 : Int32) then
      k27 (1 : Int32)
    else
      bnd (f6_isPin p2) fun u9 =>
      if u9 = (0 : Int32) then
        k27 (1 : Int32)
      else
        bnd (f6_isPin p3) fun u16 =>
        if u16 = (0 : Int32) then
          k27 (1 : Int32)
        else
          k27 (0 : Int32)
    )
def f6_row (p1 : Int32) (p2 : Int32) (md : T6) : Option (Int32 × T6) :=
  jn (fun (v28 : Int32) =>
    if v28 ≤ (0 : Int32) then
      grd (inb (p1 - (1 : Int32)) 80) <|
      if p2 = (0 : Int32) then
        some ((md.2.1.2.1 (p1 - (1 : Int32)).toNatClampNeg), ((v28, md.1.2.1, md.1.2.2.1, md.1.2.2.2.1, md.1.2.2.2.2), md.2.1, md.2.2.1, md.2.2.2.1, md.2.2.2.2))
      else
        if (md.2.1.2.1 (p1 - (1 : Int32)).toNatClampNeg) < (5 : Int32) then
          some ((0 : Int32), ((v28, md.1.2.1, md.1.2.2.1, md.1.2.2.2.1, md.1.2.2.2.2), md.2.1, md.2.2.1, md.2.2.2.1, md.2.2.2.2))
        else
          grd (inb (p1 - (1 : Int32)) 80) <|
          some ((md.2.1.2.2.2.2.1 (p1 - (1 : Int32)).toNatClampNeg), ((v28, md.1.2.1, md.1.2.2.1, md.1.2.2.2.1, md.1.2.2.2.2), md.2.1, md.2.2.1, md.2.2.2.1, md.2.2.2.2))
    else
      some ((0 : Int32), ((v28, md.1.2.1, md.1.2.2.1, md.1.2.2.2.1, md.1.2.2.2.2), md.2.1, md.2.2.1, md.2.2.2.1, md.2.2.2.2))
    ) (fun k28 =>
    jn (fun (v23 : Unit) =>
      k28 (1 : Int32)
      ) (fun k23 =>
      if p1 < (1 : Int32) then
        k23 ()
      else
        if md.2.1.1 < p1 then
          k23 ()
        else
          if p2 < (0 : Int32) then
            k23 ()
          else
            if p2 ≤ (1 : Int32) then
              k28 (0 : Int32)
            else
              k23 ()
      )
    )
def f6_load_L33 (F : Nat) (p1 : Int32) (p2 : Int32) (s33 : Int32 × Int32 × T6) : Option ((Int32 × Int32 × T6) ⊕ ((Int32 × T6))) :=
  if s33.2.2.2.1.1 ≤ s33.2.1 then
    some (.inr (s33.1, s33.2.2))
  else
    if s33.2.2.1.1 = (0 : Int32) then
      grd (inb s33.2.1 80) <|
      jn (fun (v85 : Int32 × T6) =>
        some (.inl (v85.1, (s33.2.1 + (1 : Int32)), v85.2))
        ) (fun k85 =>
        if (s33.2.2.2.1.2.1 s33.2.1.toNatClampNeg) = ((8 : Int32) + p2) then
          bnd (f6_matches F s33.2.1 (0 : Int32) p1 s33.2.2) fun u68 =>
          if u68.1 = (0 : Int32) then
            k85 (s33.1, u68.2)
          else
            grd (inb s33.2.1 80) <|
            k85 ((u68.2.2.1.2.2.2.2.1 s33.2.1.toNatClampNeg), u68.2)
        else
          k85 (s33.1, s33.2.2)
        )
    else
      some (.inr (s33.1, s33.2.2))
def f6_load (F : Nat) (p1 : Int32) (p2 : Int32) (md : T6) : Option (Int32 × T6) :=
  jn (fun (v25 : Int32) =>
    bnd (iter (f6_load_L33 F p1 p2) F ((-1 : Int32), (0 : Int32), ((v25, md.1.2.1, md.1.2.2.1, md.1.2.2.2.1, md.1.2.2.2.2), md.2.1, md.2.2.1, md.2.2.2.1, md.2.2.2.2))) (
      fun (x92 : Int32 × T6) =>
        if x92.2.1.1 ≤ (0 : Int32) then
          some (x92.1, x92.2)
        else
          some ((0 : Int32), x92.2)
      )
    ) (fun k25 =>
    jn (fun (v20 : Unit) =>
      k25 (1 : Int32)
      ) (fun k20 =>
      if p1 < (0 : Int32) then
        k20 ()
      else
        if (40 : Int32) ≤ p1 then
          k20 ()
        else
          if p2 < (0 : Int32) then
            k20 ()
          else
            if p2 ≤ (1 : Int32) then
              k25 (0 : Int32)
            else
              k20 ()
      )
    )
def f6_isUnmatched_L4 (F : Nat) (p1 : Int32) (s4 : Int32 × Int32 × T6) : Option ((Int32 × Int32 × T6) ⊕ ((Int32 × T6))) :=
  if (3 : Int32) ≤ s4.2.1 then
    some (.inr (s4.1, s4.2.2))
  else
    jn (fun (v40 : Int32 × T6) =>
      some (.inl (v40.1, (s4.2.1 + (1 : Int32)), v40.2))
      ) (fun k40 =>
      jn (fun (v35 : T6) =>
        k40 ((1 : Int32), v35)
        ) (fun k35 =>
        if s4.1 = (0 : Int32) then
          grd (inb (((3 : Int32) * p1) + s4.2.1) 240) <|
          if (s4.2.2.2.1.2.2.2.2.2.2.2.2 (((3 : Int32) * p1) + s4.2.1).toNatClampNeg) ≤ (0 : Int32) then
            k40 ((0 : Int32), s4.2.2)
          else
            bnd (f6_matched F p1 s4.2.1 s4.2.2) fun u29 =>
            if u29.1 = (0 : Int32) then
              k35 u29.2
            else
              k40 ((0 : Int32), u29.2)
        else
          k35 s4.2.2
        )
      )
def f6_isUnmatched (F : Nat) (p1 : Int32) (md : T6) : Option (Int32 × T6) :=
  bnd (iter (f6_isUnmatched_L4 F p1) F ((0 : Int32), (0 : Int32), md)) (
    fun (x47 : Int32 × T6) =>
      grd (isB x47.1) <|
      some (x47.1, x47.2)
    )
def f6_unmatched_L17 (F : Nat) (s17 : Int32 × Int32 × T6) : Option ((Int32 × Int32 × T6) ⊕ ((Int32 × T6) ⊕ ((T6)))) :=
  if s17.2.2.2.1.1 ≤ s17.2.1 then
    some (.inr (.inr s17.2.2))
  else
    if s17.2.2.1.1 = (0 : Int32) then
      bnd (f6_isUnmatched F s17.2.1 s17.2.2) fun u34 =>
      jn (fun (v51 : Int32) =>
        some (.inl (v51, (s17.2.1 + (1 : Int32)), u34.2))
        ) (fun k51 =>
        if u34.1 = (0 : Int32) then
          k51 s17.1
        else
          if s17.1 = (0 : Int32) then
            some (.inr (.inl (s17.2.1, u34.2)))
          else
            k51 (s17.1 + (-1 : Int32))
        )
    else
      some (.inr (.inr s17.2.2))
def f6_unmatched (F : Nat) (p1 : Int32) (md : T6) : Option (Int32 × T6) :=
  jn (fun (v10 : Int32) =>
    bnd (iter (f6_unmatched_L17 F) F (p1, (0 : Int32), ((v10, md.1.2.1, md.1.2.2.1, md.1.2.2.2.1, md.1.2.2.2.2), md.2.1, md.2.2.1, md.2.2.2.1, md.2.2.2.2))) (
      fun (e17y : (Int32 × T6) ⊕ (T6)) => cas e17y (fun (x44 : Int32 × T6) =>
        some ((x44.1 + (1 : Int32)), x44.2)
        ) (
        fun (x57 : T6) =>
          if x57.1.1 ≤ (0 : Int32) then
            some ((-1 : Int32), x57)
          else
            some ((0 : Int32), x57)
        )
      )
    ) (fun k10 =>
    if (0 : Int32) ≤ p1 then
      k10 (0 : Int32)
    else
      k10 (1 : Int32)
    )
def f6_areClashing_L73 (F : Nat) (p1 : Int32) (p2 : Int32) (v66 : Int32) (s73 : Int32 × Int32 × T6) : Option ((Int32 × Int32 × T6) ⊕ ((Int32 × T6))) :=
  if (40 : Int32) ≤ s73.2.1 then
    some (.inr (s73.1, s73.2.2))
  else
    if v66 = (0 : Int32) then
      some (.inr (s73.1, s73.2.2))
    else
      jn (fun (v116 : Int32 × T6) =>
        some (.inl (v116.1, (s73.2.1 + (1 : Int32)), v116.2))
        ) (fun k116 =>
        jn (fun (v111 : T6) =>
          k116 ((1 : Int32), v111)
          ) (fun k111 =>
          if s73.1 = (0 : Int32) then
            bnd (f6_matches F p1 (0 : Int32) s73.2.1 s73.2.2) fun u94 =>
            if u94.1 = (0 : Int32) then
              k116 ((0 : Int32), u94.2)
            else
              bnd (f6_matches F p2 (0 : Int32) s73.2.1 u94.2) fun u105 =>
              if u105.1 = (0 : Int32) then
                k116 ((0 : Int32), u105.2)
              else
                k111 u105.2
          else
            k111 s73.2.2
          )
        )
def f6_areClashing (F : Nat) (p1 : Int32) (p2 : Int32) (md : T6) : Option (Int32 × T6) :=
  grd (inb p1 80) <|
  jn (fun (v66 : Int32) =>
    bnd (iter (f6_areClashing_L73 F p1 p2 v66) F ((0 : Int32), (0 : Int32), md)) (
      fun (x124 : Int32 × T6) =>
        grd (isB x124.1) <|
        some (x124.1, x124.2)
      )
    ) (fun k66 =>
    jn (fun (v61 : Unit) =>
      k66 (1 : Int32)
      ) (fun k61 =>
      jn (fun (v20 : Unit) =>
        grd (inb p1 80) <|
        if (md.2.1.2.1 p1.toNatClampNeg) < (8 : Int32) then
          k66 (0 : Int32)
        else
          grd (inb p1 80) <|
          grd (inb p2 80) <|
          if (md.2.1.2.1 p1.toNatClampNeg) = (md.2.1.2.1 p2.toNatClampNeg) then
            grd (inb p1 80) <|
            grd (inb p2 80) <|
            if (md.2.1.2.2.2.2.1 p1.toNatClampNeg) = (md.2.1.2.2.2.2.1 p2.toNatClampNeg) then
              k66 (0 : Int32)
            else
              k61 ()
          else
            k66 (0 : Int32)
        ) (fun k20 =>
        if (2 : Int32) < (md.2.1.2.1 p1.toNatClampNeg) then
          k20 ()
        else
          grd (inb p2 80) <|
          if (md.2.1.2.1 p2.toNatClampNeg) ≤ (2 : Int32) then
            k61 ()
          else
            k20 ()
        )
      )
    )
def f6_clash_L49 (F : Nat) (s27 : Int32 × Int32 × T6) (s49 : Int32 × Int32 × T6) : Option ((Int32 × Int32 × T6) ⊕ ((Int32 × T6) ⊕ ((Int32 × T6)))) :=
  if s49.2.2.2.1.1 ≤ s49.2.1 then
    some (.inr (.inr (s49.1, s49.2.2)))
  else
    bnd (f6_areClashing F s27.2.1 s49.2.1 s49.2.2) fun u63 =>
    jn (fun (v92 : Int32) =>
      some (.inl (v92, (s49.2.1 + (1 : Int32)), u63.2))
      ) (fun k92 =>
      if u63.1 = (0 : Int32) then
        k92 s49.1
      else
        if s49.1 = (0 : Int32) then
          some (.inr (.inl (s49.2.1, u63.2)))
        else
          k92 (s49.1 + (-1 : Int32))
      )
def f6_clash_L27 (F : Nat) (s27 : Int32 × Int32 × T6) : Option ((Int32 × Int32 × T6) ⊕ ((Int32 × Int32 × T6) ⊕ ((T6)))) :=
  if s27.2.2.2.1.1 ≤ s27.2.1 then
    some (.inr (.inr s27.2.2))
  else
    if s27.2.2.1.1 = (0 : Int32) then
      bnd (iter (f6_clash_L49 F s27) F (s27.1, (s27.2.1 + (1 : Int32)), s27.2.2)) (
        fun (e49y : (Int32 × T6) ⊕ (Int32 × T6)) => cas e49y (fun (x73 : Int32 × T6) =>
          some (.inr (.inl (s27.2.1, x73.1, x73.2)))
          ) (
          fun (x98 : Int32 × T6) =>
            some (.inl (x98.1, (s27.2.1 + (1 : Int32)), x98.2))
          )
        )
    else
      some (.inr (.inr s27.2.2))
def f6_clash (F : Nat) (p1 : Int32) (p2 : Int32) (md : T6) : Option (Int32 × T6) :=
  jn (fun (v19 : Int32) =>
    bnd (iter (f6_clash_L27 F) F (p1, (0 : Int32), ((v19, md.1.2.1, md.1.2.2.1, md.1.2.2.2.1, md.1.2.2.2.2), md.2.1, md.2.2.1, md.2.2.2.1, md.2.2.2.2))) (
      fun (e27y : (Int32 × Int32 × T6) ⊕ (T6)) => cas e27y (fun (x73 : Int32 × Int32 × T6) =>
        if p2 = (0 : Int32) then
          some ((x73.1 + (1 : Int32)), x73.2.2)
        else
          some ((x73.2.1 + (1 : Int32)), x73.2.2)
        ) (
        fun (x104 : T6) =>
          if x104.1.1 ≤ (0 : Int32) then
            some ((-1 : Int32), x104)
          else
            some ((0 : Int32), x104)
        )
      )
    ) (fun k19 =>
    jn (fun (v14 : Unit) =>
      k19 (1 : Int32)
      ) (fun k14 =>
      if p1 < (0 : Int32) then
        k14 ()
      else
        if p2 < (0 : Int32) then
          k14 ()
        else
          if p2 ≤ (1 : Int32) then
            k19 (0 : Int32)
          else
            k14 ()
      )
    )
def f6_put (p1 : Int32) (md : T6) : Option (T6) :=
  jn (fun (v20 : Int32) =>
    some (md.1, md.2.1, md.2.2.1, md.2.2.2.1, (md.2.2.2.2.1, md.2.2.2.2.2.1, (md.2.2.2.2.2.2.1 + (1 : Int32)), v20))
    ) (fun k20 =>
    if md.2.2.2.2.2.2.1 = md.2.2.2.2.2.1 then
      k20 p1
    else
      k20 md.2.2.2.2.2.2.2
    )
def f6_putWord_L2 (p1 : Int64) (s2 : Int64) : Option ((Int64) ⊕ ((Int64))) :=
  grd (decide (¬ s2 = 0)) <|
  if (lg_cmp (p1 / s2) (26 : Int64)) ≤ (0 : Int32) then
    some (.inr s2)
  else
    some (.inl (s2 * (27 : Int64)))
def f6_putWord_L24 (p1 : Int64) (s24 : Int64 × T6) : Option ((Int64 × T6) ⊕ ((T6))) :=
  if (lg_cmp s24.1 (0 : Int64)) ≤ (0 : Int32) then
    some (.inr s24.2)
  else
    grd (decide (¬ s24.1 = 0)) <|
    bnd (f6_put (((p1 / s24.1) - (p1 / s24.1) / (27 : Int64) * (27 : Int64)).toInt32 + (96 : Int32)) s24.2) fun u44 =>
    some (.inl ((s24.1 / (27 : Int64)), u44))
def f6_putWord (F : Nat) (p1 : Int64) (md : T6) : Option (T6) :=
  bnd (iter (f6_putWord_L2 p1) F (1 : Int64)) (
    fun (x21 : Int64) =>
      bnd (iter (f6_putWord_L24 p1) F (x21, md)) (
        fun (x58 : T6) =>
          some x58
        )
    )
def f6_putWhole_L2 (p1 : Int32) (s2 : Int32) : Option ((Int32) ⊕ ((Int32))) :=
  grd (decide (¬ s2 = 0)) <|
  if (p1 / s2) ≤ (9 : Int32) then
    some (.inr s2)
  else
    some (.inl (s2 * (10 : Int32)))
def f6_putWhole_L26 (p1 : Int32) (s26 : Int32 × T6) : Option ((Int32 × T6) ⊕ ((T6))) :=
  if s26.1 ≤ (0 : Int32) then
    some (.inr s26.2)
  else
    grd (decide (¬ s26.1 = 0)) <|
    bnd (f6_put ((48 : Int32) + ((p1 / s26.1) - (p1 / s26.1) / (10 : Int32) * (10 : Int32))) s26.2) fun u40 =>
    some (.inl ((s26.1 / (10 : Int32)), u40))
def f6_putWhole (F : Nat) (p1 : Int32) (md : T6) : Option (T6) :=
  bnd (iter (f6_putWhole_L2 p1) F (1 : Int32)) (
    fun (x18 : Int32) =>
      bnd (f6_put (32 : Int32) md) fun u21 =>
      bnd (iter (f6_putWhole_L26 p1) F (x18, u21)) (
        fun (x51 : T6) =>
          some x51
        )
    )
def f6_putPattern_L30 (p1 : Int32) (p2 : Int32) (s30 : Int32 × T6) : Option ((Int32 × T6) ⊕ ((T6))) :=
  grd (inb (((3 : Int32) * p1) + p2) 240) <|
  if (s30.2.2.1.2.2.2.2.2.2.2.2 (((3 : Int32) * p1) + p2).toNatClampNeg) ≤ s30.1 then
    some (.inr s30.2)
  else
    grd (inb (((16 : Int32) * (((3 : Int32) * p1) + p2)) + s30.1) 3840) <|
    bnd (f6_put (s30.2.2.1.2.2.2.2.2.2.2.1 (((16 : Int32) * (((3 : Int32) * p1) + p2)) + s30.1).toNatClampNeg) s30.2) fun u54 =>
    some (.inl ((s30.1 + (1 : Int32)), u54))
def f6_putPattern (F : Nat) (p1 : Int32) (p2 : Int32) (md : T6) : Option (T6) :=
  bnd (f6_put (32 : Int32) md) fun u9 =>
  grd (inb (((3 : Int32) * p1) + p2) 240) <|
  jn (fun (v27 : T6) =>
    bnd (iter (f6_putPattern_L30 p1 p2) F ((0 : Int32), v27)) (
      fun (x63 : T6) =>
        some x63
      )
    ) (fun k27 =>
    if (u9.2.1.2.2.2.2.2.2.2.2 (((3 : Int32) * p1) + p2).toNatClampNeg) = (0 : Int32) then
      bnd (f6_put (45 : Int32) u9) fun u24 =>
      k27 u24
    else
      k27 u9
    )
def f6_print_L113 (F : Nat) (p1 : Int32) (md : T6) (s113 : Int32 × T6) : Option ((Int32 × T6) ⊕ ((T6))) :=
  jn (fun (v139 : Int32) =>
    if v139 ≤ s113.1 then
      some (.inr s113.2)
    else
      bnd (f6_putPattern F p1 s113.1 s113.2) fun u145 =>
      some (.inl ((s113.1 + (1 : Int32)), u145))
    ) (fun k139 =>
    if (md.2.1.2.1 p1.toNatClampNeg) = (3 : Int32) then
      k139 (0 : Int32)
    else
      if (md.2.1.2.1 p1.toNatClampNeg) < (4 : Int32) then
        k139 (1 : Int32)
      else
        if (7 : Int32) < (md.2.1.2.1 p1.toNatClampNeg) then
          k139 (1 : Int32)
        else
          k139 (3 : Int32)
    )
def f6_print (F : Nat) (p1 : Int32) (md : T6) : Option (T6) :=
  grd (inb p1 80) <|
  bnd (f6_wordOf (md.2.1.2.1 p1.toNatClampNeg)) fun u9 =>
  bnd (f6_putWord F u9 md) fun u12 =>
  jn (fun (v36 : T6) =>
    jn (fun (v62 : T6) =>
      jn (fun (v82 : T6) =>
        jn (fun (v97 : T6) =>
          jn (fun (v111 : T6) =>
            bnd (iter (f6_print_L113 F p1 md) F ((0 : Int32), v111)) (
              fun (x154 : T6) =>
                bnd (f6_put (59 : Int32) x154) fun u157 =>
                bnd (f6_put (10 : Int32) u157) fun u163 =>
                some u163
              )
            ) (fun k111 =>
            if (md.2.1.2.1 p1.toNatClampNeg) = (0 : Int32) then
              grd (inb p1 80) <|
              bnd (f6_putWhole F (v97.2.1.2.2.2.2.2.2.1 p1.toNatClampNeg) v97) fun u108 =>
              k111 u108
            else
              k111 v97
            )
          ) (fun k97 =>
          if (2 : Int32) < (md.2.1.2.1 p1.toNatClampNeg) then
            k97 v82
          else
            grd (inb p1 80) <|
            bnd (f6_putWhole F (v82.2.1.2.2.2.2.2.1 p1.toNatClampNeg) v82) fun u94 =>
            k97 u94
          )
        ) (fun k82 =>
        if (md.2.1.2.1 p1.toNatClampNeg) = (3 : Int32) then
          k82 v62
        else
          if (md.2.1.2.1 p1.toNatClampNeg) = (4 : Int32) then
            k82 v62
          else
            grd (inb p1 80) <|
            bnd (f6_putWhole F (v62.2.1.2.2.2.2.1 p1.toNatClampNeg) v62) fun u79 =>
            k82 u79
        )
      ) (fun k62 =>
      if (md.2.1.2.1 p1.toNatClampNeg) < (1 : Int32) then
        k62 v36
      else
        if (3 : Int32) < (md.2.1.2.1 p1.toNatClampNeg) then
          k62 v36
        else
          bnd (f6_put (32 : Int32) v36) fun u49 =>
          grd (inb p1 80) <|
          bnd (f6_putWord F (u49.2.1.2.2.2.1 p1.toNatClampNeg) u49) fun u59 =>
          k62 u59
      )
    ) (fun k36 =>
    if (3 : Int32) < (md.2.1.2.1 p1.toNatClampNeg) then
      k36 u12
    else
      bnd (f6_put (32 : Int32) u12) fun u23 =>
      grd (inb p1 80) <|
      bnd (f6_putWord F (u23.2.1.2.2.1 p1.toNatClampNeg) u23) fun u33 =>
      k36 u33
    )
def f6_printAll_L17 (F : Nat) (s17 : Int32 × T6) : Option ((Int32 × T6) ⊕ ((T6))) :=
  if s17.2.2.1.1 ≤ s17.1 then
    some (.inr s17.2)
  else
    bnd (f6_print F s17.1 s17.2) fun u27 =>
    some (.inl ((s17.1 + (1 : Int32)), u27))
def f6_printAll (F : Nat) (p1 : Int32) (md : T6) : Option (T6) :=
  bnd (iter (f6_printAll_L17 F) F ((0 : Int32), (md.1, md.2.1, md.2.2.1, md.2.2.2.1, (md.2.2.2.2.1, p1, (0 : Int32), (-1 : Int32))))) (
    fun (x36 : T6) =>
      some x36
    )
def f6_write (F : Nat) (p1 : Int32) (md : T6) : Option (Int32 × T6) :=
  jn (fun (v10 : Int32) =>
    if v10 ≤ (0 : Int32) then
      bnd (f6_printAll F p1 ((v10, md.1.2.1, md.1.2.2.1, md.1.2.2.2.1, md.1.2.2.2.2), md.2.1, md.2.2.1, md.2.2.2.1, md.2.2.2.2)) fun u24 =>
      some (u24.2.2.2.2.2.2.2, u24)
    else
      some ((0 : Int32), ((v10, md.1.2.1, md.1.2.2.1, md.1.2.2.2.1, md.1.2.2.2.2), md.2.1, md.2.2.1, md.2.2.2.1, md.2.2.2.2))
    ) (fun k10 =>
    if (0 : Int32) ≤ p1 then
      k10 (0 : Int32)
    else
      k10 (1 : Int32)
    )
def f6_count (F : Nat) (p1 : Int32) (md : T6) : Option (Int32 × T6) :=
  jn (fun (v15 : Int32) =>
    if v15 ≤ (0 : Int32) then
      if p1 = (3 : Int32) then
        bnd (f6_printAll F (-1 : Int32) ((v15, md.1.2.1, md.1.2.2.1, md.1.2.2.2.1, md.1.2.2.2.2), md.2.1, md.2.2.1, md.2.2.2.1, md.2.2.2.2)) fun u34 =>
        some (u34.2.2.2.2.2.2.1, u34)
      else
        if p1 = (0 : Int32) then
          some (md.2.1.1, ((v15, md.1.2.1, md.1.2.2.1, md.1.2.2.2.1, md.1.2.2.2.2), md.2.1, md.2.2.1, md.2.2.2.1, md.2.2.2.2))
        else
          if p1 = (1 : Int32) then
            some (md.2.2.1.1, ((v15, md.1.2.1, md.1.2.2.1, md.1.2.2.2.1, md.1.2.2.2.2), md.2.1, md.2.2.1, md.2.2.2.1, md.2.2.2.2))
          else
            some (md.1.2.2.2.2, ((v15, md.1.2.1, md.1.2.2.1, md.1.2.2.2.1, md.1.2.2.2.2), md.2.1, md.2.2.1, md.2.2.2.1, md.2.2.2.2))
    else
      some ((0 : Int32), ((v15, md.1.2.1, md.1.2.2.1, md.1.2.2.2.1, md.1.2.2.2.2), md.2.1, md.2.2.1, md.2.2.2.1, md.2.2.2.2))
    ) (fun k15 =>
    jn (fun (v10 : Unit) =>
      k15 (1 : Int32)
      ) (fun k10 =>
      if p1 < (0 : Int32) then
        k10 ()
      else
        if p1 ≤ (3 : Int32) then
          k15 (0 : Int32)
        else
          k10 ()
      )
    )
def fL_name (F : Nat) (p1 : Int32) (p2 : Int32) (pn : T1) (sh : T3) (ot : T50) : Option (Int32 × T1 × T3 × T50) :=
  bnd (f5_name F p1 p2 pn sh) fun u => oc u (some ((1 : Int32), pn, sh, ot)) (fun r => if r.1 = (0 : Int32) then some ((0 : Int32), r.2.1, r.2.2, (vp_updL ot 0 (0 : Int64))) else some ((0 : Int32), r.2.1, r.2.2, (vp_updL ot 0 (1 : Int64))))

def fL_clock (p1 : Int32) (p2 : Int32) (sh : T3) (ck : T0) (ot : T50) : Option (Int32 × T50) :=
  bnd (f5_clock p1 p2 sh ck) fun u => oc u (some ((1 : Int32), ot)) (fun r => some ((0 : Int32), (vp_updL ot 0 r.toInt64)))

def fL_edge (F : Nat) (p1 : Int32) (p2 : Int32) (p3 : Int32) (sh : T3) (ck : T0) (ot : T50) : Option (Int32 × T50) :=
  bnd (f5_edge F p1 p2 p3 sh ck) fun u => oc u (some ((1 : Int32), ot)) (fun r => some ((0 : Int32), (vp_updL ot 0 r)))

def fL_distance (F : Nat) (p1 : Int32) (p2 : Int32) (p3 : Int32) (sh : T3) (ck : T0) (ot : T50) : Option (Int32 × T50) :=
  bnd (f5_distance F p1 p2 p3 sh ck) fun u => oc u (some ((1 : Int32), ot)) (fun r => some ((0 : Int32), (vp_updL ot 0 r)))

def fL_exception (F : Nat) (p1 : Int32) (p2 : Int32) (p3 : Int32) (sh : T3) (ot : T50) : Option (Int32 × T50) :=
  bnd (f5_exception F p1 p2 p3 sh) fun u => oc u (some ((1 : Int32), ot)) (fun r => some ((0 : Int32), (vp_updL ot 0 r.toInt64)))

def fL_row (p1 : Int32) (p2 : Int32) (sh : T3) (ot : T50) : Option (Int32 × T50) :=
  bnd (f5_row p1 p2 sh) fun u => oc u (some ((1 : Int32), ot)) (fun r => some ((0 : Int32), (vp_updL ot 0 r.toInt64)))

def fL_load (F : Nat) (p1 : Int32) (p2 : Int32) (sh : T3) (ot : T50) : Option (Int32 × T50) :=
  bnd (f5_load F p1 p2 sh) fun u => oc u (some ((1 : Int32), ot)) (fun r => some ((0 : Int32), (vp_updL ot 0 r.toInt64)))

def fL_unmatched (F : Nat) (p1 : Int32) (sh : T3) (ot : T50) : Option (Int32 × T50) :=
  bnd (f5_unmatched F p1 sh) fun u => oc u (some ((1 : Int32), ot)) (fun r => some ((0 : Int32), (vp_updL ot 0 r.toInt64)))

def fL_clash (F : Nat) (p1 : Int32) (p2 : Int32) (sh : T3) (ot : T50) : Option (Int32 × T50) :=
  bnd (f5_clash F p1 p2 sh) fun u => oc u (some ((1 : Int32), ot)) (fun r => some ((0 : Int32), (vp_updL ot 0 r.toInt64)))

def fL_write (p1 : Int32) (sh : T3) (ot : T50) : Option (Int32 × T50) :=
  bnd (f5_write p1 sh) fun u => oc u (some ((1 : Int32), ot)) (fun r => some ((0 : Int32), (vp_updL ot 0 r.toInt64)))

def fL_count (p1 : Int32) (sh : T3) (tp : T4) (ck : T0) (ot : T50) : Option (Int32 × T50) :=
  bnd (f5_count p1 sh tp ck) fun u => oc u (some ((1 : Int32), ot)) (fun r => some ((0 : Int32), (vp_updL ot 0 r.toInt64)))

def fL_law_L23 (F L : Nat) (xs : Nat → Int32) (s23 : Int32 × T2 × T4 × T1 × T3 × T0 × T3 × T0 × T6 × T50) : Option ((Int32 × T2 × T4 × T1 × T3 × T0 × T3 × T0 × T6 × T50) ⊕ (T2 × T4 × T1 × T3 × T0 × T3 × T0 × T6 × T50)) :=
  if ((Int32.ofNat L) - (4 : Int32)) < s23.1 then
    some (.inr (s23.2.1, s23.2.2.1, s23.2.2.2.1, s23.2.2.2.2.1, s23.2.2.2.2.2.1, s23.2.2.2.2.2.2.1, s23.2.2.2.2.2.2.2.1, s23.2.2.2.2.2.2.2.2.1, s23.2.2.2.2.2.2.2.2.2))
  else
    grd (inb s23.1 L) <|
    if ((xs s23.1.toNatClampNeg) &&& (15 : Int32)) = (0 : Int32) then
      grd (inb (s23.1 + (1 : Int32)) L) <|
      bnd (f5_unit (xs (s23.1 + (1 : Int32)).toNatClampNeg) s23.2.2.1) fun u115 =>
      grd (inb (s23.1 + (1 : Int32)) L) <|
      bnd (f6_unit (xs (s23.1 + (1 : Int32)).toNatClampNeg) s23.2.2.2.2.2.2.2.2.1) fun u125 =>
      if u115.1 = u125.1 then
        some (.inl ((s23.1 + (4 : Int32)), s23.2.1, u115.2, s23.2.2.2.1, s23.2.2.2.2.1, s23.2.2.2.2.2.1, s23.2.2.2.2.2.2.1, s23.2.2.2.2.2.2.2.1, u125.2, s23.2.2.2.2.2.2.2.2.2))
      else
        none
    else
      if ((xs s23.1.toNatClampNeg) &&& (15 : Int32)) = (1 : Int32) then
        grd (inb (s23.1 + (1 : Int32)) L) <|
        bnd (f5_units F (xs (s23.1 + (1 : Int32)).toNatClampNeg) s23.2.2.1) fun u140 =>
        grd (inb (s23.1 + (1 : Int32)) L) <|
        bnd (f6_units F (xs (s23.1 + (1 : Int32)).toNatClampNeg) s23.2.2.2.2.2.2.2.2.1) fun u150 =>
        if u140.1 = u150.1 then
          some (.inl ((s23.1 + (4 : Int32)), s23.2.1, u140.2, s23.2.2.2.1, s23.2.2.2.2.1, s23.2.2.2.2.2.1, s23.2.2.2.2.2.2.1, s23.2.2.2.2.2.2.2.1, u150.2, s23.2.2.2.2.2.2.2.2.2))
        else
          none
      else
        if ((xs s23.1.toNatClampNeg) &&& (15 : Int32)) = (2 : Int32) then
          grd (inb (s23.1 + (1 : Int32)) L) <|
          grd (inb (s23.1 + (2 : Int32)) L) <|
          bnd (fL_name F (xs (s23.1 + (1 : Int32)).toNatClampNeg) (xs (s23.1 + (2 : Int32)).toNatClampNeg) s23.2.2.2.1 s23.2.2.2.2.1 s23.2.2.2.2.2.2.2.2.2) fun u172 =>
          grd (inb (s23.1 + (1 : Int32)) L) <|
          grd (inb (s23.1 + (2 : Int32)) L) <|
          bnd (f6_name (xs (s23.1 + (1 : Int32)).toNatClampNeg) (xs (s23.1 + (2 : Int32)).toNatClampNeg) s23.2.2.2.2.2.2.2.2.1) fun u190 =>
          bnd (f6_thrown u190.2) fun u196 =>
          if u196 = u172.1 then
            if u172.1 = (0 : Int32) then
              grd (inb (0 : Int32) 1) <|
              if u190.1 = (0 : Int32) then
                if (lg_cmp (u172.2.2.2 (0 : Int32).toNatClampNeg) (0 : Int64)) = (0 : Int32) then
                  some (.inl ((s23.1 + (4 : Int32)), s23.2.1, s23.2.2.1, u172.2.1, u172.2.2.1, s23.2.2.2.2.2.1, s23.2.2.2.2.2.2.1, s23.2.2.2.2.2.2.2.1, u190.2, u172.2.2.2))
                else
                  none
              else
                if (lg_cmp (u172.2.2.2 (0 : Int32).toNatClampNeg) (1 : Int64)) = (0 : Int32) then
                  some (.inl ((s23.1 + (4 : Int32)), s23.2.1, s23.2.2.1, u172.2.1, u172.2.2.1, s23.2.2.2.2.2.1, s23.2.2.2.2.2.2.1, s23.2.2.2.2.2.2.2.1, u190.2, u172.2.2.2))
                else
                  none
            else
              some (.inl ((s23.1 + (4 : Int32)), s23.2.1, s23.2.2.1, u172.2.1, u172.2.2.1, s23.2.2.2.2.2.1, s23.2.2.2.2.2.2.1, s23.2.2.2.2.2.2.2.1, u190.2, u172.2.2.2))
          else
            none
        else
          if ((xs s23.1.toNatClampNeg) &&& (15 : Int32)) = (3 : Int32) then
            bnd (f5_read F s23.2.1 s23.2.2.2.2.2.2.1 s23.2.2.2.2.2.2.2.1 s23.2.2.1 s23.2.2.2.2.1 s23.2.2.2.2.2.1 s23.2.2.2.1) fun u234 =>
            bnd (f6_read F s23.2.2.2.2.2.2.2.2.1) fun u238 =>
            if u234.1 = u238.1 then
              some (.inl ((s23.1 + (4 : Int32)), u234.2.1, u234.2.2.2.2.1, s23.2.2.2.1, u234.2.2.2.2.2.1, u234.2.2.2.2.2.2.1, u234.2.2.1, u234.2.2.2.1, u238.2, s23.2.2.2.2.2.2.2.2.2))
            else
              none
          else
            if ((xs s23.1.toNatClampNeg) &&& (15 : Int32)) = (4 : Int32) then
              grd (inb (s23.1 + (1 : Int32)) L) <|
              grd (inb (s23.1 + (2 : Int32)) L) <|
              bnd (fL_clock (xs (s23.1 + (1 : Int32)).toNatClampNeg) (xs (s23.1 + (2 : Int32)).toNatClampNeg) s23.2.2.2.2.1 s23.2.2.2.2.2.1 s23.2.2.2.2.2.2.2.2.2) fun u260 =>
              grd (inb (s23.1 + (1 : Int32)) L) <|
              grd (inb (s23.1 + (2 : Int32)) L) <|
              bnd (f6_clock F (xs (s23.1 + (1 : Int32)).toNatClampNeg) (xs (s23.1 + (2 : Int32)).toNatClampNeg) s23.2.2.2.2.2.2.2.2.1) fun u278 =>
              bnd (f6_thrown u278.2) fun u284 =>
              if u284 = u260.1 then
                if u260.1 = (0 : Int32) then
                  grd (inb (0 : Int32) 1) <|
                  if (lg_cmp (u260.2 (0 : Int32).toNatClampNeg) u278.1.toInt64) = (0 : Int32) then
                    some (.inl ((s23.1 + (4 : Int32)), s23.2.1, s23.2.2.1, s23.2.2.2.1, s23.2.2.2.2.1, s23.2.2.2.2.2.1, s23.2.2.2.2.2.2.1, s23.2.2.2.2.2.2.2.1, u278.2, u260.2))
                  else
                    none
                else
                  some (.inl ((s23.1 + (4 : Int32)), s23.2.1, s23.2.2.1, s23.2.2.2.1, s23.2.2.2.2.1, s23.2.2.2.2.2.1, s23.2.2.2.2.2.2.1, s23.2.2.2.2.2.2.2.1, u278.2, u260.2))
              else
                none
            else
              if ((xs s23.1.toNatClampNeg) &&& (15 : Int32)) = (5 : Int32) then
                grd (inb (s23.1 + (1 : Int32)) L) <|
                grd (inb (s23.1 + (2 : Int32)) L) <|
                grd (inb (s23.1 + (3 : Int32)) L) <|
                bnd (fL_edge F (xs (s23.1 + (1 : Int32)).toNatClampNeg) (xs (s23.1 + (2 : Int32)).toNatClampNeg) (xs (s23.1 + (3 : Int32)).toNatClampNeg) s23.2.2.2.2.1 s23.2.2.2.2.2.1 s23.2.2.2.2.2.2.2.2.2) fun u334 =>
                grd (inb (s23.1 + (1 : Int32)) L) <|
                grd (inb (s23.1 + (2 : Int32)) L) <|
                grd (inb (s23.1 + (3 : Int32)) L) <|
                bnd (f6_edge F (xs (s23.1 + (1 : Int32)).toNatClampNeg) (xs (s23.1 + (2 : Int32)).toNatClampNeg) (xs (s23.1 + (3 : Int32)).toNatClampNeg) s23.2.2.2.2.2.2.2.2.1) fun u358 =>
                bnd (f6_thrown u358.2) fun u364 =>
                if u364 = u334.1 then
                  if u334.1 = (0 : Int32) then
                    grd (inb (0 : Int32) 1) <|
                    if (lg_cmp (u334.2 (0 : Int32).toNatClampNeg) u358.1) = (0 : Int32) then
                      some (.inl ((s23.1 + (4 : Int32)), s23.2.1, s23.2.2.1, s23.2.2.2.1, s23.2.2.2.2.1, s23.2.2.2.2.2.1, s23.2.2.2.2.2.2.1, s23.2.2.2.2.2.2.2.1, u358.2, u334.2))
                    else
                      none
                  else
                    some (.inl ((s23.1 + (4 : Int32)), s23.2.1, s23.2.2.1, s23.2.2.2.1, s23.2.2.2.2.1, s23.2.2.2.2.2.1, s23.2.2.2.2.2.2.1, s23.2.2.2.2.2.2.2.1, u358.2, u334.2))
                else
                  none
              else
                if ((xs s23.1.toNatClampNeg) &&& (15 : Int32)) = (6 : Int32) then
                  grd (inb (s23.1 + (1 : Int32)) L) <|
                  grd (inb (s23.1 + (2 : Int32)) L) <|
                  grd (inb (s23.1 + (3 : Int32)) L) <|
                  bnd (fL_distance F (xs (s23.1 + (1 : Int32)).toNatClampNeg) (xs (s23.1 + (2 : Int32)).toNatClampNeg) (xs (s23.1 + (3 : Int32)).toNatClampNeg) s23.2.2.2.2.1 s23.2.2.2.2.2.1 s23.2.2.2.2.2.2.2.2.2) fun u413 =>
                  grd (inb (s23.1 + (1 : Int32)) L) <|
                  grd (inb (s23.1 + (2 : Int32)) L) <|
                  grd (inb (s23.1 + (3 : Int32)) L) <|
                  bnd (f6_distance F (xs (s23.1 + (1 : Int32)).toNatClampNeg) (xs (s23.1 + (2 : Int32)).toNatClampNeg) (xs (s23.1 + (3 : Int32)).toNatClampNeg) s23.2.2.2.2.2.2.2.2.1) fun u437 =>
                  bnd (f6_thrown u437.2) fun u443 =>
                  if u443 = u413.1 then
                    if u413.1 = (0 : Int32) then
                      grd (inb (0 : Int32) 1) <|
                      if (lg_cmp (u413.2 (0 : Int32).toNatClampNeg) u437.1) = (0 : Int32) then
                        some (.inl ((s23.1 + (4 : Int32)), s23.2.1, s23.2.2.1, s23.2.2.2.1, s23.2.2.2.2.1, s23.2.2.2.2.2.1, s23.2.2.2.2.2.2.1, s23.2.2.2.2.2.2.2.1, u437.2, u413.2))
                      else
                        none
                    else
                      some (.inl ((s23.1 + (4 : Int32)), s23.2.1, s23.2.2.1, s23.2.2.2.1, s23.2.2.2.2.1, s23.2.2.2.2.2.1, s23.2.2.2.2.2.2.1, s23.2.2.2.2.2.2.2.1, u437.2, u413.2))
                  else
                    none
                else
                  if ((xs s23.1.toNatClampNeg) &&& (15 : Int32)) = (7 : Int32) then
                    grd (inb (s23.1 + (1 : Int32)) L) <|
                    grd (inb (s23.1 + (2 : Int32)) L) <|
                    grd (inb (s23.1 + (3 : Int32)) L) <|
                    bnd (fL_exception F (xs (s23.1 + (1 : Int32)).toNatClampNeg) (xs (s23.1 + (2 : Int32)).toNatClampNeg) (xs (s23.1 + (3 : Int32)).toNatClampNeg) s23.2.2.2.2.1 s23.2.2.2.2.2.2.2.2.2) fun u492 =>
                    grd (inb (s23.1 + (1 : Int32)) L) <|
                    grd (inb (s23.1 + (2 : Int32)) L) <|
                    grd (inb (s23.1 + (3 : Int32)) L) <|
                    bnd (f6_exception F (xs (s23.1 + (1 : Int32)).toNatClampNeg) (xs (s23.1 + (2 : Int32)).toNatClampNeg) (xs (s23.1 + (3 : Int32)).toNatClampNeg) s23.2.2.2.2.2.2.2.2.1) fun u516 =>
                    bnd (f6_thrown u516.2) fun u522 =>
                    if u522 = u492.1 then
                      if u492.1 = (0 : Int32) then
                        grd (inb (0 : Int32) 1) <|
                        if (lg_cmp (u492.2 (0 : Int32).toNatClampNeg) u516.1.toInt64) = (0 : Int32) then
                          some (.inl ((s23.1 + (4 : Int32)), s23.2.1, s23.2.2.1, s23.2.2.2.1, s23.2.2.2.2.1, s23.2.2.2.2.2.1, s23.2.2.2.2.2.2.1, s23.2.2.2.2.2.2.2.1, u516.2, u492.2))
                        else
                          none
                      else
                        some (.inl ((s23.1 + (4 : Int32)), s23.2.1, s23.2.2.1, s23.2.2.2.1, s23.2.2.2.2.1, s23.2.2.2.2.2.1, s23.2.2.2.2.2.2.1, s23.2.2.2.2.2.2.2.1, u516.2, u492.2))
                    else
                      none
                  else
                    if ((xs s23.1.toNatClampNeg) &&& (15 : Int32)) = (8 : Int32) then
                      grd (inb (s23.1 + (1 : Int32)) L) <|
                      grd (inb (s23.1 + (2 : Int32)) L) <|
                      bnd (fL_row (xs (s23.1 + (1 : Int32)).toNatClampNeg) (xs (s23.1 + (2 : Int32)).toNatClampNeg) s23.2.2.2.2.1 s23.2.2.2.2.2.2.2.2.2) fun u566 =>
                      grd (inb (s23.1 + (1 : Int32)) L) <|
                      grd (inb (s23.1 + (2 : Int32)) L) <|
                      bnd (f6_row (xs (s23.1 + (1 : Int32)).toNatClampNeg) (xs (s23.1 + (2 : Int32)).toNatClampNeg) s23.2.2.2.2.2.2.2.2.1) fun u584 =>
                      bnd (f6_thrown u584.2) fun u590 =>
                      if u590 = u566.1 then
                        if u566.1 = (0 : Int32) then
                          grd (inb (0 : Int32) 1) <|
                          if (lg_cmp (u566.2 (0 : Int32).toNatClampNeg) u584.1.toInt64) = (0 : Int32) then
                            some (.inl ((s23.1 + (4 : Int32)), s23.2.1, s23.2.2.1, s23.2.2.2.1, s23.2.2.2.2.1, s23.2.2.2.2.2.1, s23.2.2.2.2.2.2.1, s23.2.2.2.2.2.2.2.1, u584.2, u566.2))
                          else
                            none
                        else
                          some (.inl ((s23.1 + (4 : Int32)), s23.2.1, s23.2.2.1, s23.2.2.2.1, s23.2.2.2.2.1, s23.2.2.2.2.2.1, s23.2.2.2.2.2.2.1, s23.2.2.2.2.2.2.2.1, u584.2, u566.2))
                      else
                        none
                    else
                      if ((xs s23.1.toNatClampNeg) &&& (15 : Int32)) = (9 : Int32) then
                        grd (inb (s23.1 + (1 : Int32)) L) <|
                        grd (inb (s23.1 + (2 : Int32)) L) <|
                        bnd (fL_load F (xs (s23.1 + (1 : Int32)).toNatClampNeg) (xs (s23.1 + (2 : Int32)).toNatClampNeg) s23.2.2.2.2.1 s23.2.2.2.2.2.2.2.2.2) fun u634 =>
                        grd (inb (s23.1 + (1 : Int32)) L) <|
                        grd (inb (s23.1 + (2 : Int32)) L) <|
                        bnd (f6_load F (xs (s23.1 + (1 : Int32)).toNatClampNeg) (xs (s23.1 + (2 : Int32)).toNatClampNeg) s23.2.2.2.2.2.2.2.2.1) fun u652 =>
                        bnd (f6_thrown u652.2) fun u658 =>
                        if u658 = u634.1 then
                          if u634.1 = (0 : Int32) then
                            grd (inb (0 : Int32) 1) <|
                            if (lg_cmp (u634.2 (0 : Int32).toNatClampNeg) u652.1.toInt64) = (0 : Int32) then
                              some (.inl ((s23.1 + (4 : Int32)), s23.2.1, s23.2.2.1, s23.2.2.2.1, s23.2.2.2.2.1, s23.2.2.2.2.2.1, s23.2.2.2.2.2.2.1, s23.2.2.2.2.2.2.2.1, u652.2, u634.2))
                            else
                              none
                          else
                            some (.inl ((s23.1 + (4 : Int32)), s23.2.1, s23.2.2.1, s23.2.2.2.1, s23.2.2.2.2.1, s23.2.2.2.2.2.1, s23.2.2.2.2.2.2.1, s23.2.2.2.2.2.2.2.1, u652.2, u634.2))
                        else
                          none
                      else
                        if ((xs s23.1.toNatClampNeg) &&& (15 : Int32)) = (10 : Int32) then
                          grd (inb (s23.1 + (1 : Int32)) L) <|
                          bnd (fL_unmatched F (xs (s23.1 + (1 : Int32)).toNatClampNeg) s23.2.2.2.2.1 s23.2.2.2.2.2.2.2.2.2) fun u696 =>
                          grd (inb (s23.1 + (1 : Int32)) L) <|
                          bnd (f6_unmatched F (xs (s23.1 + (1 : Int32)).toNatClampNeg) s23.2.2.2.2.2.2.2.2.1) fun u708 =>
                          bnd (f6_thrown u708.2) fun u714 =>
                          if u714 = u696.1 then
                            if u696.1 = (0 : Int32) then
                              grd (inb (0 : Int32) 1) <|
                              if (lg_cmp (u696.2 (0 : Int32).toNatClampNeg) u708.1.toInt64) = (0 : Int32) then
                                some (.inl ((s23.1 + (4 : Int32)), s23.2.1, s23.2.2.1, s23.2.2.2.1, s23.2.2.2.2.1, s23.2.2.2.2.2.1, s23.2.2.2.2.2.2.1, s23.2.2.2.2.2.2.2.1, u708.2, u696.2))
                              else
                                none
                            else
                              some (.inl ((s23.1 + (4 : Int32)), s23.2.1, s23.2.2.1, s23.2.2.2.1, s23.2.2.2.2.1, s23.2.2.2.2.2.1, s23.2.2.2.2.2.2.1, s23.2.2.2.2.2.2.2.1, u708.2, u696.2))
                          else
                            none
                        else
                          if ((xs s23.1.toNatClampNeg) &&& (15 : Int32)) = (11 : Int32) then
                            grd (inb (s23.1 + (1 : Int32)) L) <|
                            grd (inb (s23.1 + (2 : Int32)) L) <|
                            bnd (fL_clash F (xs (s23.1 + (1 : Int32)).toNatClampNeg) (xs (s23.1 + (2 : Int32)).toNatClampNeg) s23.2.2.2.2.1 s23.2.2.2.2.2.2.2.2.2) fun u758 =>
                            grd (inb (s23.1 + (1 : Int32)) L) <|
                            grd (inb (s23.1 + (2 : Int32)) L) <|
                            bnd (f6_clash F (xs (s23.1 + (1 : Int32)).toNatClampNeg) (xs (s23.1 + (2 : Int32)).toNatClampNeg) s23.2.2.2.2.2.2.2.2.1) fun u776 =>
                            bnd (f6_thrown u776.2) fun u782 =>
                            if u782 = u758.1 then
                              if u758.1 = (0 : Int32) then
                                grd (inb (0 : Int32) 1) <|
                                if (lg_cmp (u758.2 (0 : Int32).toNatClampNeg) u776.1.toInt64) = (0 : Int32) then
                                  some (.inl ((s23.1 + (4 : Int32)), s23.2.1, s23.2.2.1, s23.2.2.2.1, s23.2.2.2.2.1, s23.2.2.2.2.2.1, s23.2.2.2.2.2.2.1, s23.2.2.2.2.2.2.2.1, u776.2, u758.2))
                                else
                                  none
                              else
                                some (.inl ((s23.1 + (4 : Int32)), s23.2.1, s23.2.2.1, s23.2.2.2.1, s23.2.2.2.2.1, s23.2.2.2.2.2.1, s23.2.2.2.2.2.2.1, s23.2.2.2.2.2.2.2.1, u776.2, u758.2))
                            else
                              none
                          else
                            if ((xs s23.1.toNatClampNeg) &&& (15 : Int32)) = (12 : Int32) then
                              grd (inb (s23.1 + (1 : Int32)) L) <|
                              bnd (fL_write (xs (s23.1 + (1 : Int32)).toNatClampNeg) s23.2.2.2.2.1 s23.2.2.2.2.2.2.2.2.2) fun u820 =>
                              grd (inb (s23.1 + (1 : Int32)) L) <|
                              bnd (f6_write F (xs (s23.1 + (1 : Int32)).toNatClampNeg) s23.2.2.2.2.2.2.2.2.1) fun u832 =>
                              bnd (f6_thrown u832.2) fun u838 =>
                              if u838 = u820.1 then
                                if u820.1 = (0 : Int32) then
                                  grd (inb (0 : Int32) 1) <|
                                  if (lg_cmp (u820.2 (0 : Int32).toNatClampNeg) u832.1.toInt64) = (0 : Int32) then
                                    some (.inl ((s23.1 + (4 : Int32)), s23.2.1, s23.2.2.1, s23.2.2.2.1, s23.2.2.2.2.1, s23.2.2.2.2.2.1, s23.2.2.2.2.2.2.1, s23.2.2.2.2.2.2.2.1, u832.2, u820.2))
                                  else
                                    none
                                else
                                  some (.inl ((s23.1 + (4 : Int32)), s23.2.1, s23.2.2.1, s23.2.2.2.1, s23.2.2.2.2.1, s23.2.2.2.2.2.1, s23.2.2.2.2.2.2.1, s23.2.2.2.2.2.2.2.1, u832.2, u820.2))
                              else
                                none
                            else
                              if ((xs s23.1.toNatClampNeg) &&& (15 : Int32)) = (13 : Int32) then
                                grd (inb (s23.1 + (1 : Int32)) L) <|
                                bnd (fL_count (xs (s23.1 + (1 : Int32)).toNatClampNeg) s23.2.2.2.2.1 s23.2.2.1 s23.2.2.2.2.2.1 s23.2.2.2.2.2.2.2.2.2) fun u876 =>
                                grd (inb (s23.1 + (1 : Int32)) L) <|
                                bnd (f6_count F (xs (s23.1 + (1 : Int32)).toNatClampNeg) s23.2.2.2.2.2.2.2.2.1) fun u888 =>
                                bnd (f6_thrown u888.2) fun u894 =>
                                if u894 = u876.1 then
                                  if u876.1 = (0 : Int32) then
                                    grd (inb (0 : Int32) 1) <|
                                    if (lg_cmp (u876.2 (0 : Int32).toNatClampNeg) u888.1.toInt64) = (0 : Int32) then
                                      some (.inl ((s23.1 + (4 : Int32)), s23.2.1, s23.2.2.1, s23.2.2.2.1, s23.2.2.2.2.1, s23.2.2.2.2.2.1, s23.2.2.2.2.2.2.1, s23.2.2.2.2.2.2.2.1, u888.2, u876.2))
                                    else
                                      none
                                  else
                                    some (.inl ((s23.1 + (4 : Int32)), s23.2.1, s23.2.2.1, s23.2.2.2.1, s23.2.2.2.2.1, s23.2.2.2.2.2.1, s23.2.2.2.2.2.2.1, s23.2.2.2.2.2.2.2.1, u888.2, u876.2))
                                else
                                  none
                              else
                                some (.inl ((s23.1 + (4 : Int32)), s23.2.1, s23.2.2.1, s23.2.2.2.1, s23.2.2.2.2.1, s23.2.2.2.2.2.1, s23.2.2.2.2.2.2.1, s23.2.2.2.2.2.2.2.1, s23.2.2.2.2.2.2.2.2.1, s23.2.2.2.2.2.2.2.2.2))
