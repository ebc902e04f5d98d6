def f0_has (p1 : Int32) (ck : T0) : Option (Int32) :=
  if p1 < (0 : Int32) then
    some (0 : Int32)
  else
    if ck.2.2.2.2.2.2.2.2.2.2.2 ≤ p1 then
      some (0 : Int32)
    else
      some (1 : Int32)
def f0_wipe (ck : T0) : Option (T0) :=
  some (ck.1, ck.2.1, ck.2.2.1, ck.2.2.2.1, ck.2.2.2.2.1, ck.2.2.2.2.2.1, ck.2.2.2.2.2.2.1, ck.2.2.2.2.2.2.2.1, ck.2.2.2.2.2.2.2.2.1, ck.2.2.2.2.2.2.2.2.2.1, ck.2.2.2.2.2.2.2.2.2.2.1, (0 : Int32))
def f0_open (p1 : Int32) (ck : T0) : Option (T0) :=
  if (12 : Int32) ≤ ck.2.2.2.2.2.2.2.2.2.2.2 then
    some ck
  else
    grd (inb ck.2.2.2.2.2.2.2.2.2.2.2 12) <|
    grd (inb ck.2.2.2.2.2.2.2.2.2.2.2 12) <|
    grd (inb ck.2.2.2.2.2.2.2.2.2.2.2 12) <|
    grd (inb ck.2.2.2.2.2.2.2.2.2.2.2 12) <|
    some ((upd ck.1 ck.2.2.2.2.2.2.2.2.2.2.2.toNatClampNeg p1), (upd ck.2.1 ck.2.2.2.2.2.2.2.2.2.2.2.toNatClampNeg (-1 : Int32)), ck.2.2.1, ck.2.2.2.1, ck.2.2.2.2.1, ck.2.2.2.2.2.1, ck.2.2.2.2.2.2.1, ck.2.2.2.2.2.2.2.1, ck.2.2.2.2.2.2.2.2.1, (upd ck.2.2.2.2.2.2.2.2.2.1 ck.2.2.2.2.2.2.2.2.2.2.2.toNatClampNeg (vp_nar .boolean (0 : Int32))), (upd ck.2.2.2.2.2.2.2.2.2.2.1 ck.2.2.2.2.2.2.2.2.2.2.2.toNatClampNeg (vp_nar .boolean (0 : Int32))), (ck.2.2.2.2.2.2.2.2.2.2.2 + (1 : Int32)))
def f0_setTimes (p1 : Int32) (p2 : Int32) (p3 : Int32) (ck : T0) : Option (T0) :=
  bnd (f0_has (ck.2.2.2.2.2.2.2.2.2.2.2 - (1 : Int32)) ck) fun u11 =>
  if u11 = (0 : Int32) then
    some ck
  else
    grd (inb (ck.2.2.2.2.2.2.2.2.2.2.2 - (1 : Int32)) 12) <|
    grd (inb (ck.2.2.2.2.2.2.2.2.2.2.2 - (1 : Int32)) 12) <|
    grd (inb (ck.2.2.2.2.2.2.2.2.2.2.2 - (1 : Int32)) 12) <|
    grd (inb (ck.2.2.2.2.2.2.2.2.2.2.2 - (1 : Int32)) 12) <|
    grd (inb (ck.2.2.2.2.2.2.2.2.2.2.2 - (1 : Int32)) 12) <|
    some (ck.1, ck.2.1, ck.2.2.1, ck.2.2.2.1, ck.2.2.2.2.1, (vp_updL ck.2.2.2.2.2.1 (ck.2.2.2.2.2.2.2.2.2.2.2 - (1 : Int32)).toNatClampNeg p1.toInt64), (vp_updL ck.2.2.2.2.2.2.1 (ck.2.2.2.2.2.2.2.2.2.2.2 - (1 : Int32)).toNatClampNeg p2.toInt64), (vp_updL ck.2.2.2.2.2.2.2.1 (ck.2.2.2.2.2.2.2.2.2.2.2 - (1 : Int32)).toNatClampNeg p3.toInt64), (vp_updL ck.2.2.2.2.2.2.2.2.1 (ck.2.2.2.2.2.2.2.2.2.2.2 - (1 : Int32)).toNatClampNeg (1 : Int64)), (upd ck.2.2.2.2.2.2.2.2.2.1 (ck.2.2.2.2.2.2.2.2.2.2.2 - (1 : Int32)).toNatClampNeg (vp_nar .boolean (1 : Int32))), ck.2.2.2.2.2.2.2.2.2.2.1, ck.2.2.2.2.2.2.2.2.2.2.2)
def f0_setRatio (p1 : Int32) (p2 : Int32) (p3 : Int32) (ck : T0) : Option (T0) :=
  bnd (f0_has (ck.2.2.2.2.2.2.2.2.2.2.2 - (1 : Int32)) ck) fun u11 =>
  if u11 = (0 : Int32) then
    some ck
  else
    grd (inb (ck.2.2.2.2.2.2.2.2.2.2.2 - (1 : Int32)) 12) <|
    grd (inb (ck.2.2.2.2.2.2.2.2.2.2.2 - (1 : Int32)) 12) <|
    grd (inb (ck.2.2.2.2.2.2.2.2.2.2.2 - (1 : Int32)) 12) <|
    some (ck.1, ck.2.1, (upd ck.2.2.1 (ck.2.2.2.2.2.2.2.2.2.2.2 - (1 : Int32)).toNatClampNeg (vp_nar .boolean p3)), (upd ck.2.2.2.1 (ck.2.2.2.2.2.2.2.2.2.2.2 - (1 : Int32)).toNatClampNeg p1), (upd ck.2.2.2.2.1 (ck.2.2.2.2.2.2.2.2.2.2.2 - (1 : Int32)).toNatClampNeg p2), ck.2.2.2.2.2.1, ck.2.2.2.2.2.2.1, ck.2.2.2.2.2.2.2.1, ck.2.2.2.2.2.2.2.2.1, ck.2.2.2.2.2.2.2.2.2.1, ck.2.2.2.2.2.2.2.2.2.2.1, ck.2.2.2.2.2.2.2.2.2.2.2)
def f0_inRing_L4 (p1 : Int32) (ck : T0) (s4 : Int32 × Int32) : Option ((Int32 × Int32) ⊕ ((Unit) ⊕ ((Unit)))) :=
  if (12 : Int32) ≤ s4.2 then
    some (.inr (.inr ()))
  else
    bnd (f0_has s4.1 ck) fun u12 =>
    if u12 = (0 : Int32) then
      some (.inr (.inr ()))
    else
      grd (inb s4.1 12) <|
      if (ck.2.1 s4.1.toNatClampNeg) = p1 then
        some (.inr (.inl ()))
      else
        some (.inl ((ck.2.1 s4.1.toNatClampNeg), (s4.2 + (1 : Int32))))
def f0_inRing (F : Nat) (p1 : Int32) (ck : T0) : Option (Int32) :=
  bnd (iter (f0_inRing_L4 p1 ck) F (p1, (0 : Int32))) (
    fun (e4y : (Unit) ⊕ (Unit)) => cas e4y (fun (x30 : Unit) =>
      some (1 : Int32)
      ) (
      fun (x38 : Unit) =>
        some (0 : Int32)
      )
    )
def f5_commonDivisor_L9 (s9 : Int64 × Int64 × Int32) : Option ((Int64 × Int64 × Int32) ⊕ ((Int64))) :=
  if (lg_cmp s9.2.1 (0 : Int64)) ≤ (0 : Int32) then
    some (.inr s9.1)
  else
    if (200 : Int32) ≤ s9.2.2 then
      some (.inr s9.1)
    else
      grd (decide (¬ s9.2.1 = 0)) <|
      some (.inl (s9.2.1, (s9.1 - s9.1 / s9.2.1 * s9.2.1), (s9.2.2 + (1 : Int32))))
def f5_commonDivisor (F : Nat) (p1 : Int64) (p2 : Int64) : Option (Int64) :=
  bnd (iter (f5_commonDivisor_L9) F (p1, p2, (0 : Int32))) (
    fun (x45 : Int64) =>
      if (lg_cmp x45 (0 : Int64)) ≤ (0 : Int32) then
        some (1 : Int64)
      else
        some x45
    )
def f0_settle (F : Nat) (p1 : Int32) (p2 : Int32) (ck : T0) : Option (T0) :=
  grd (inb p1 12) <|
  grd (inb p2 12) <|
  grd (inb p1 12) <|
  grd (inb p2 12) <|
  if ((upd ck.2.2.2.2.2.2.2.2.2.2.1 p1.toNatClampNeg (vp_nar .boolean (ck.2.2.2.2.2.2.2.2.2.2.1 p2.toNatClampNeg))) p2.toNatClampNeg) = (0 : Int32) then
    grd (inb p2 12) <|
    grd (inb p1 12) <|
    grd (inb p1 12) <|
    jn (fun (v68 : Int64) =>
      grd (inb p1 12) <|
      grd (inb p1 12) <|
      jn (fun (v102 : Int64) =>
        grd (inb p1 12) <|
        grd (inb p2 12) <|
        grd (inb p1 12) <|
        bnd (f5_commonDivisor F ((ck.2.2.2.2.2.1 p2.toNatClampNeg) * (ck.2.2.2.1 p1.toNatClampNeg).toInt64) (v68 * (ck.2.2.2.1 p1.toNatClampNeg).toInt64)) fun u131 =>
        bnd (f5_commonDivisor F (v102 * (ck.2.2.2.1 p1.toNatClampNeg).toInt64) ((ck.2.2.2.2.2.2.2.2.1 p2.toNatClampNeg) * (ck.2.2.2.2.1 p1.toNatClampNeg).toInt64)) fun u138 =>
        bnd (f5_commonDivisor F u131 u138) fun u141 =>
        grd (decide (¬ u141 = 0)) <|
        grd (inb p1 12) <|
        grd (decide (¬ u141 = 0)) <|
        grd (inb p1 12) <|
        grd (decide (¬ u141 = 0)) <|
        grd (inb p1 12) <|
        grd (decide (¬ u141 = 0)) <|
        grd (inb p1 12) <|
        grd (inb p1 12) <|
        jn (fun (v225 : Int32) =>
          grd (inb p1 12) <|
          some (ck.1, ck.2.1, ck.2.2.1, ck.2.2.2.1, ck.2.2.2.2.1, (vp_updL ck.2.2.2.2.2.1 p1.toNatClampNeg (((ck.2.2.2.2.2.1 p2.toNatClampNeg) * (ck.2.2.2.1 p1.toNatClampNeg).toInt64) / u141)), (vp_updL ck.2.2.2.2.2.2.1 p1.toNatClampNeg ((v68 * (ck.2.2.2.1 p1.toNatClampNeg).toInt64) / u141)), (vp_updL ck.2.2.2.2.2.2.2.1 p1.toNatClampNeg ((v102 * (ck.2.2.2.1 p1.toNatClampNeg).toInt64) / u141)), (vp_updL ck.2.2.2.2.2.2.2.2.1 p1.toNatClampNeg (((ck.2.2.2.2.2.2.2.2.1 p2.toNatClampNeg) * (ck.2.2.2.2.1 p1.toNatClampNeg).toInt64) / u141)), (upd ck.2.2.2.2.2.2.2.2.2.1 p1.toNatClampNeg (vp_nar .boolean (1 : Int32))), (upd (upd ck.2.2.2.2.2.2.2.2.2.2.1 p1.toNatClampNeg (vp_nar .boolean (ck.2.2.2.2.2.2.2.2.2.2.1 p2.toNatClampNeg))) p1.toNatClampNeg (vp_nar .boolean v225)), ck.2.2.2.2.2.2.2.2.2.2.2)
          ) (fun k225 =>
          jn (fun (v220 : Unit) =>
            k225 (1 : Int32)
            ) (fun k220 =>
            if (0 : Int32) < (lg_cmp ((vp_updL ck.2.2.2.2.2.1 p1.toNatClampNeg (((ck.2.2.2.2.2.1 p2.toNatClampNeg) * (ck.2.2.2.1 p1.toNatClampNeg).toInt64) / u141)) p1.toNatClampNeg) (1000000 : Int64)) then
              k220 ()
            else
              grd (inb p1 12) <|
              if (lg_cmp ((vp_updL ck.2.2.2.2.2.2.2.2.1 p1.toNatClampNeg (((ck.2.2.2.2.2.2.2.2.1 p2.toNatClampNeg) * (ck.2.2.2.2.1 p1.toNatClampNeg).toInt64) / u141)) p1.toNatClampNeg) (1000000 : Int64)) ≤ (0 : Int32) then
                k225 (0 : Int32)
              else
                k220 ()
            )
          )
        ) (fun k102 =>
        if (ck.2.2.1 p1.toNatClampNeg) = (0 : Int32) then
          grd (inb p2 12) <|
          k102 (ck.2.2.2.2.2.2.2.1 p2.toNatClampNeg)
        else
          grd (inb p2 12) <|
          k102 (ck.2.2.2.2.2.2.1 p2.toNatClampNeg)
        )
      ) (fun k68 =>
      if (ck.2.2.1 p1.toNatClampNeg) = (0 : Int32) then
        grd (inb p2 12) <|
        k68 (ck.2.2.2.2.2.2.1 p2.toNatClampNeg)
      else
        grd (inb p2 12) <|
        k68 (ck.2.2.2.2.2.2.2.1 p2.toNatClampNeg)
      )
  else
    some (ck.1, ck.2.1, ck.2.2.1, ck.2.2.2.1, ck.2.2.2.2.1, ck.2.2.2.2.2.1, ck.2.2.2.2.2.2.1, ck.2.2.2.2.2.2.2.1, ck.2.2.2.2.2.2.2.2.1, (upd ck.2.2.2.2.2.2.2.2.2.1 p1.toNatClampNeg (vp_nar .boolean (1 : Int32))), (upd ck.2.2.2.2.2.2.2.2.2.2.1 p1.toNatClampNeg (vp_nar .boolean (ck.2.2.2.2.2.2.2.2.2.2.1 p2.toNatClampNeg))), ck.2.2.2.2.2.2.2.2.2.2.2)
def f0_settleAll_L12 (F : Nat) (s12 : Int32 × T0) : Option ((Int32 × T0) ⊕ ((T0))) :=
  if s12.2.2.2.2.2.2.2.2.2.2.2.2 ≤ s12.1 then
    some (.inr s12.2)
  else
    grd (inb s12.1 12) <|
    grd (inb s12.1 12) <|
    jn (fun (v59 : T0) =>
      some (.inl ((s12.1 + (1 : Int32)), v59))
      ) (fun k59 =>
      if (s12.2.2.2.2.2.2.2.2.2.2.1 s12.1.toNatClampNeg) = (0 : Int32) then
        bnd (f0_has (s12.2.2.1 s12.1.toNatClampNeg) s12.2) fun u38 =>
        if u38 = (0 : Int32) then
          k59 s12.2
        else
          grd (inb (s12.2.2.1 s12.1.toNatClampNeg) 12) <|
          if (s12.2.2.2.2.2.2.2.2.2.2.1 (s12.2.2.1 s12.1.toNatClampNeg).toNatClampNeg) = (0 : Int32) then
            k59 s12.2
          else
            bnd (f0_settle F s12.1 (s12.2.2.1 s12.1.toNatClampNeg) s12.2) fun u56 =>
            k59 u56
      else
        k59 s12.2
      )
def f0_settleAll_L2 (F : Nat) (s2 : Int32 × T0) : Option ((Int32 × T0) ⊕ ((T0))) :=
  if s2.2.2.2.2.2.2.2.2.2.2.2.2 ≤ s2.1 then
    some (.inr s2.2)
  else
    bnd (iter (f0_settleAll_L12 F) F ((0 : Int32), s2.2)) (
      fun (x65 : T0) =>
        some (.inl ((s2.1 + (1 : Int32)), x65))
      )
def f0_settleAll (F : Nat) (ck : T0) : Option (T0) :=
  bnd (iter (f0_settleAll_L2 F) F ((0 : Int32), ck)) (
    fun (x71 : T0) =>
      some x71
    )
def f0_fact (p1 : Int32) (p2 : Int32) (ck : T0) : Option (Int32) :=
  bnd (f0_has p1 ck) fun u2 =>
  if u2 = (0 : Int32) then
    some (-1 : Int32)
  else
    if p2 = (0 : Int32) then
      grd (inb p1 12) <|
      some ((ck.2.2.2.2.2.1 p1.toNatClampNeg).toInt32)
    else
      if p2 = (1 : Int32) then
        grd (inb p1 12) <|
        some ((ck.2.2.2.2.2.2.1 p1.toNatClampNeg).toInt32)
      else
        if p2 = (2 : Int32) then
          grd (inb p1 12) <|
          some ((ck.2.2.2.2.2.2.2.1 p1.toNatClampNeg).toInt32)
        else
          if p2 = (3 : Int32) then
            grd (inb p1 12) <|
            some ((ck.2.2.2.2.2.2.2.2.1 p1.toNatClampNeg).toInt32)
          else
            if p2 = (4 : Int32) then
              grd (inb p1 12) <|
              some (ck.1 p1.toNatClampNeg)
            else
              grd (inb p1 12) <|
              some (ck.2.1 p1.toNatClampNeg)
def f5_lowestPart (F : Nat) (p1 : Int64) (p2 : Int64) (p3 : Int32) : Option (Int64) :=
  bnd (f5_commonDivisor F p1 p2) fun u2 =>
  if p3 = (0 : Int32) then
    grd (decide (¬ u2 = 0)) <|
    some (p1 / u2)
  else
    grd (decide (¬ u2 = 0)) <|
    some (p2 / u2)
def f0_edgePart (F : Nat) (p1 : Int32) (p2 : Int32) (p3 : Int32) (ck : T0) : Option (Int64) :=
  bnd (f0_has p1 ck) fun u2 =>
  if u2 = (0 : Int32) then
    some (-1 : Int64)
  else
    grd (inb p1 12) <|
    grd (inb p1 12) <|
    jn (fun (v33 : Int32) =>
      jn (fun (v48 : Int32) =>
        jn (fun (v56 : Int32) =>
          if p3 = (2 : Int32) then
            if v56 = (0 : Int32) then
              some (0 : Int64)
            else
              some (1 : Int64)
          else
            jn (fun (v94 : Int64) =>
              grd (inb p1 12) <|
              grd (inb p1 12) <|
              bnd (f5_lowestPart F (v94 + ((p2 / (2 : Int32)).toInt64 * (ck.2.2.2.2.2.1 p1.toNatClampNeg))) (ck.2.2.2.2.2.2.2.2.1 p1.toNatClampNeg) p3) fun u117 =>
              some u117
              ) (fun k94 =>
              if v56 = (0 : Int32) then
                grd (inb p1 12) <|
                k94 (ck.2.2.2.2.2.2.2.1 p1.toNatClampNeg)
              else
                grd (inb p1 12) <|
                k94 (ck.2.2.2.2.2.2.1 p1.toNatClampNeg)
              )
          ) (fun k56 =>
          if v33 = v48 then
            k56 (1 : Int32)
          else
            k56 (0 : Int32)
          )
        ) (fun k48 =>
        if (p2 - p2 / (2 : Int32) * (2 : Int32)) = (0 : Int32) then
          k48 (1 : Int32)
        else
          k48 (0 : Int32)
        )
      ) (fun k33 =>
      if (0 : Int32) ≤ (lg_cmp (ck.2.2.2.2.2.2.1 p1.toNatClampNeg) (ck.2.2.2.2.2.2.2.1 p1.toNatClampNeg)) then
        k33 (0 : Int32)
      else
        k33 (1 : Int32)
      )
def f109_floorMod (p1 : Int64) (p2 : Int64) : Option (Int64) :=
  grd (decide (¬ p2 = 0)) <|
  if (0 : Int32) ≤ (lg_cmp (p1 ^^^ p2) (0 : Int64)) then
    some (p1 - p1 / p2 * p2)
  else
    if (lg_cmp (p1 - p1 / p2 * p2) (0 : Int64)) = (0 : Int32) then
      some (p1 - p1 / p2 * p2)
    else
      some ((p1 - p1 / p2 * p2) + p2)
def f0_distancePart (F : Nat) (p1 : Int32) (p2 : Int32) (p3 : Int32) (ck : T0) : Option (Int64) :=
  bnd (f0_has p1 ck) fun u2 =>
  if u2 = (0 : Int32) then
    some (-1 : Int64)
  else
    bnd (f0_has p2 ck) fun u10 =>
    if u10 = (0 : Int32) then
      some (-1 : Int64)
    else
      grd (inb p1 12) <|
      grd (inb p2 12) <|
      bnd (f5_commonDivisor F (ck.2.2.2.2.2.2.2.2.1 p1.toNatClampNeg) (ck.2.2.2.2.2.2.2.2.1 p2.toNatClampNeg)) fun u32 =>
      grd (inb p2 12) <|
      grd (decide (¬ u32 = 0)) <|
      grd (inb p1 12) <|
      grd (decide (¬ u32 = 0)) <|
      grd (inb p1 12) <|
      grd (inb p2 12) <|
      bnd (f5_commonDivisor F ((ck.2.2.2.2.2.1 p1.toNatClampNeg) * ((ck.2.2.2.2.2.2.2.2.1 p2.toNatClampNeg) / u32)) ((ck.2.2.2.2.2.1 p2.toNatClampNeg) * ((ck.2.2.2.2.2.2.2.2.1 p1.toNatClampNeg) / u32))) fun u77 =>
      grd (inb p2 12) <|
      grd (inb p1 12) <|
      bnd (f109_floorMod (((ck.2.2.2.2.2.2.1 p2.toNatClampNeg) * ((ck.2.2.2.2.2.2.2.2.1 p1.toNatClampNeg) / u32)) - ((ck.2.2.2.2.2.2.1 p1.toNatClampNeg) * ((ck.2.2.2.2.2.2.2.2.1 p2.toNatClampNeg) / u32))) u77) fun u103 =>
      jn (fun (v122 : Int64) =>
        grd (inb p1 12) <|
        bnd (f5_lowestPart F v122 ((ck.2.2.2.2.2.2.2.2.1 p1.toNatClampNeg) * ((ck.2.2.2.2.2.2.2.2.1 p2.toNatClampNeg) / u32)) p3) fun u132 =>
        some u132
        ) (fun k122 =>
        if (lg_cmp u103 (0 : Int64)) = (0 : Int32) then
          k122 u77
        else
          k122 u103
        )
def f1_has (p1 : Int32) : Option (Int32) :=
  if p1 < (0 : Int32) then
    some (0 : Int32)
  else
    if (40 : Int32) ≤ p1 then
      some (0 : Int32)
    else
      some (1 : Int32)
def f1_lengthOf (p1 : Int32) (pn : T1) : Option (Int32) :=
  bnd (f1_has p1) fun u1 =>
  if u1 = (0 : Int32) then
    some (0 : Int32)
  else
    grd (inb p1 40) <|
    some (pn.2 p1.toNatClampNeg)
def f1_grow (p1 : Int32) (p2 : Int32) (pn : T1) : Option (Int32 × T1) :=
  bnd (f1_lengthOf p1 pn) fun u2 =>
  bnd (f1_has p1) fun u7 =>
  if u7 = (0 : Int32) then
    some ((0 : Int32), pn)
  else
    if u2 < (16 : Int32) then
      grd (inb ((p1 * (16 : Int32)) + u2) 640) <|
      grd (inb p1 40) <|
      some ((1 : Int32), ((upd pn.1 ((p1 * (16 : Int32)) + u2).toNatClampNeg (vp_nar .char (xi2c p2))), (upd pn.2 p1.toNatClampNeg (u2 + (1 : Int32)))))
    else
      some ((0 : Int32), pn)
def f1_at (p1 : Int32) (p2 : Int32) (pn : T1) : Option (Int32) :=
  if p2 < (0 : Int32) then
    some (0 : Int32)
  else
    bnd (f1_lengthOf p1 pn) fun u7 =>
    if u7 ≤ p2 then
      some (0 : Int32)
    else
      grd (inb ((p1 * (16 : Int32)) + p2) 640) <|
      grd (isC (pn.1 ((p1 * (16 : Int32)) + p2).toNatClampNeg)) <|
      some (pn.1 ((p1 * (16 : Int32)) + p2).toNatClampNeg)
def f3_wipe (sh : T3) (ck : T0) : Option (T3 × T0) :=
  bnd (f0_wipe ck) fun u14 =>
  some ((sh.1, sh.2.1, sh.2.2.1, sh.2.2.2.1, sh.2.2.2.2.1, sh.2.2.2.2.2.1, sh.2.2.2.2.2.2.1, (0 : Int32), (0 : Int32)), u14)
def f4_at (p1 : Int32) (tp : T4) : Option (Int32) :=
  if p1 < (0 : Int32) then
    some (0 : Int32)
  else
    if tp.2 ≤ p1 then
      some (0 : Int32)
    else
      grd (inb p1 1200) <|
      grd (isC (tp.1 p1.toNatClampNeg)) <|
      some (tp.1 p1.toNatClampNeg)
def f5_isBlank (p1 : Int32) : Option (Int32) :=
  if p1 = (32 : Int32) then
    some (1 : Int32)
  else
    if p1 = (10 : Int32) then
      some (1 : Int32)
    else
      some (0 : Int32)
def f2_takeWord_L5 (tp : T4) (s5 : Int32) : Option ((Int32) ⊕ ((Int32))) :=
  if tp.2 ≤ s5 then
    some (.inr s5)
  else
    bnd (f4_at s5 tp) fun u21 =>
    bnd (f5_isBlank u21) fun u24 =>
    if u24 = (0 : Int32) then
      some (.inr s5)
    else
      some (.inl (s5 + (1 : Int32)))
def f2_takeWord_L38 (tp : T4) (s38 : Int32) : Option ((Int32) ⊕ ((Int32))) :=
  if tp.2 ≤ s38 then
    some (.inr s38)
  else
    bnd (f4_at s38 tp) fun u54 =>
    bnd (f5_isBlank u54) fun u57 =>
    if u57 = (0 : Int32) then
      bnd (f4_at s38 tp) fun u68 =>
      if u68 = (59 : Int32) then
        some (.inr s38)
      else
        some (.inl (s38 + (1 : Int32)))
    else
      some (.inr s38)
def f2_takeWord (F : Nat) (rd : T2) (tp : T4) : Option (T2) :=
  bnd (iter (f2_takeWord_L5 tp) F rd.2.2.2.2.2) (
    fun (x36 : Int32) =>
      bnd (iter (f2_takeWord_L38 tp) F x36) (
        fun (x82 : Int32) =>
          jn (fun (v103 : Int32) =>
            some (rd.1, rd.2.1, rd.2.2.1, rd.2.2.2.1, x36, v103)
            ) (fun k103 =>
            if x82 = x36 then
              bnd (f4_at x82 tp) fun u92 =>
              if u92 = (59 : Int32) then
                k103 (x82 + (1 : Int32))
              else
                k103 x82
            else
              k103 x82
            )
        )
    )
def f5_keyword (p1 : Int32) : Option (Nat) :=
  if p1 = (0 : Int32) then
    some 9
  else
    if p1 = (1 : Int32) then
      some 10
    else
      if p1 = (2 : Int32) then
        some 11
      else
        if p1 = (3 : Int32) then
          some 12
        else
          if p1 = (4 : Int32) then
            some 13
          else
            if p1 = (5 : Int32) then
              some 14
            else
              if p1 = (6 : Int32) then
                some 15
              else
                if p1 = (7 : Int32) then
                  some 16
                else
                  if p1 = (8 : Int32) then
                    some 17
                  else
                    some 18
def f2_isInHand_L20 (p1 : Nat) (rd : T2) (tp : T4) (s20 : Int32) : Option ((Int32) ⊕ ((Unit) ⊕ ((Unit)))) :=
  grd (decide (p1 < nJ)) <|
  if (sLen p1) ≤ s20 then
    some (.inr (.inr ()))
  else
    grd (decide (p1 < nJ)) <|
    grd (inb s20 (lenJ.getD p1 0)) <|
    bnd (f4_at (rd.2.2.2.2.1 + s20) tp) fun u43 =>
    if (sCh p1 s20) = u43 then
      some (.inl (s20 + (1 : Int32)))
    else
      some (.inr (.inl ()))
def f2_isInHand (F : Nat) (p1 : Nat) (rd : T2) (tp : T4) : Option (Int32) :=
  grd (decide (p1 < nJ)) <|
  if (sLen p1) = (rd.2.2.2.2.2 - rd.2.2.2.2.1) then
    bnd (iter (f2_isInHand_L20 p1 rd tp) F (0 : Int32)) (
      fun (e20y : (Unit) ⊕ (Unit)) => cas e20y (fun (x49 : Unit) =>
        some (0 : Int32)
        ) (
        fun (x57 : Unit) =>
          some (1 : Int32)
        )
      )
  else
    some (0 : Int32)
def f2_sortInHand_L2 (F : Nat) (rd : T2) (tp : T4) (s2 : Int32) : Option ((Int32) ⊕ ((Int32) ⊕ ((Unit)))) :=
  if (10 : Int32) ≤ s2 then
    some (.inr (.inr ()))
  else
    bnd (f5_keyword s2) fun u10 =>
    bnd (f2_isInHand F u10 rd tp) fun u13 =>
    if u13 = (0 : Int32) then
      some (.inl (s2 + (1 : Int32)))
    else
      some (.inr (.inl s2))
def f2_sortInHand (F : Nat) (rd : T2) (tp : T4) : Option (Int32) :=
  bnd (iter (f2_sortInHand_L2 F rd tp) F (0 : Int32)) (
    fun (e2y : (Int32) ⊕ (Unit)) => cas e2y (fun (x19 : Int32) =>
      some x19
      ) (
      fun (x27 : Unit) =>
        some (-1 : Int32)
      )
    )
def f3_open_L31 (s31 : Int32 × T3) : Option ((Int32 × T3) ⊕ ((T3))) :=
  if (2 : Int32) ≤ s31.1 then
    some (.inr s31.2)
  else
    grd (inb ((s31.2.2.2.2.2.2.2.2.1 * (2 : Int32)) + s31.1) 80) <|
    some (.inl ((s31.1 + (1 : Int32)), (s31.2.1, s31.2.2.1, (upd s31.2.2.2.1 ((s31.2.2.2.2.2.2.2.2.1 * (2 : Int32)) + s31.1).toNatClampNeg (-1 : Int32)), s31.2.2.2.2.1, s31.2.2.2.2.2.1, s31.2.2.2.2.2.2.1, s31.2.2.2.2.2.2.2.1, s31.2.2.2.2.2.2.2.2.1, s31.2.2.2.2.2.2.2.2.2)))
def f3_open_L58 (s58 : Int32 × T3) : Option ((Int32 × T3) ⊕ ((T3))) :=
  if (3 : Int32) ≤ s58.1 then
    some (.inr s58.2)
  else
    grd (inb ((s58.2.2.2.2.2.2.2.2.1 * (3 : Int32)) + s58.1) 120) <|
    grd (inb ((s58.2.2.2.2.2.2.2.2.1 * (3 : Int32)) + s58.1) 120) <|
    some (.inl ((s58.1 + (1 : Int32)), (s58.2.1, s58.2.2.1, s58.2.2.2.1, s58.2.2.2.2.1, (upd s58.2.2.2.2.2.1 ((s58.2.2.2.2.2.2.2.2.1 * (3 : Int32)) + s58.1).toNatClampNeg (0 : Int32)), (vp_updL s58.2.2.2.2.2.2.1 ((s58.2.2.2.2.2.2.2.2.1 * (3 : Int32)) + s58.1).toNatClampNeg (0 : Int64)), s58.2.2.2.2.2.2.2.1, s58.2.2.2.2.2.2.2.2.1, s58.2.2.2.2.2.2.2.2.2)))
def f3_open (F : Nat) (p1 : Int32) (sh : T3) : Option (T3) :=
  if (40 : Int32) ≤ sh.2.2.2.2.2.2.2.1 then
    some sh
  else
    grd (inb sh.2.2.2.2.2.2.2.1 40) <|
    grd (inb sh.2.2.2.2.2.2.2.1 40) <|
    bnd (iter (f3_open_L31) F ((0 : Int32), ((upd sh.1 sh.2.2.2.2.2.2.2.1.toNatClampNeg p1), (upd sh.2.1 sh.2.2.2.2.2.2.2.1.toNatClampNeg (0 : Int32)), sh.2.2.1, sh.2.2.2.1, sh.2.2.2.2.1, sh.2.2.2.2.2.1, sh.2.2.2.2.2.2.1, sh.2.2.2.2.2.2.2.1, sh.2.2.2.2.2.2.2.2))) (
      fun (x56 : T3) =>
        bnd (iter (f3_open_L58) F ((0 : Int32), x56)) (
          fun (x97 : T3) =>
            some (x97.1, x97.2.1, x97.2.2.1, x97.2.2.2.1, x97.2.2.2.2.1, x97.2.2.2.2.2.1, x97.2.2.2.2.2.2.1, (x97.2.2.2.2.2.2.2.1 + (1 : Int32)), x97.2.2.2.2.2.2.2.2)
          )
      )
def f3_printedAt (p1 : Int32) (sh : T3) : Option (Int32) :=
  if p1 < (0 : Int32) then
    some (-1 : Int32)
  else
    if sh.2.2.2.2.2.2.2.2 ≤ p1 then
      some (-1 : Int32)
    else
      if (1240 : Int32) ≤ p1 then
        some (-1 : Int32)
      else
        grd (inb p1 1240) <|
        some (sh.2.2.2.2.2.2.1 p1.toNatClampNeg)
def f3_print (p1 : Int32) (sh : T3) : Option (T3) :=
  if (1240 : Int32) ≤ sh.2.2.2.2.2.2.2.2 then
    some sh
  else
    grd (inb sh.2.2.2.2.2.2.2.2 1240) <|
    some (sh.1, sh.2.1, sh.2.2.1, sh.2.2.2.1, sh.2.2.2.2.1, sh.2.2.2.2.2.1, (upd sh.2.2.2.2.2.2.1 sh.2.2.2.2.2.2.2.2.toNatClampNeg (vp_nar .char (xi2c p1))), sh.2.2.2.2.2.2.2.1, (sh.2.2.2.2.2.2.2.2 + (1 : Int32)))
def f3_printGap (sh : T3) : Option (T3) :=
  if sh.2.2.2.2.2.2.2.2 ≤ (0 : Int32) then
    some sh
  else
    bnd (f3_printedAt (sh.2.2.2.2.2.2.2.2 - (1 : Int32)) sh) fun u14 =>
    if u14 = (10 : Int32) then
      some sh
    else
      bnd (f3_print (32 : Int32) sh) fun u25 =>
      some u25
def f2_printWord_L12 (rd : T2) (tp : T4) (s12 : Int32 × T3) : Option ((Int32 × T3) ⊕ ((T3))) :=
  if rd.2.2.2.2.2 ≤ s12.1 then
    some (.inr s12.2)
  else
    bnd (f4_at s12.1 tp) fun u29 =>
    bnd (f3_print u29 s12.2) fun u32 =>
    some (.inl ((s12.1 + (1 : Int32)), u32))
def f2_printWord (F : Nat) (rd : T2) (sh : T3) (tp : T4) : Option (T3) :=
  bnd (f3_printGap sh) fun u4 =>
  bnd (iter (f2_printWord_L12 rd tp) F (rd.2.2.2.2.1, u4)) (
    fun (x41 : T3) =>
      some x41
    )
def f5_isSmallLetter (p1 : Int32) : Option (Int32) :=
  if p1 < (97 : Int32) then
    some (0 : Int32)
  else
    if (122 : Int32) < p1 then
      some (0 : Int32)
    else
      some (1 : Int32)
def f2_isNameInHand_L32 (rd : T2) (tp : T4) (s32 : Int32) : Option ((Int32) ⊕ ((Unit) ⊕ ((Unit)))) :=
  if rd.2.2.2.2.2 ≤ s32 then
    some (.inr (.inr ()))
  else
    bnd (f4_at s32 tp) fun u45 =>
    bnd (f5_isSmallLetter u45) fun u48 =>
    if u48 = (0 : Int32) then
      some (.inr (.inl ()))
    else
      some (.inl (s32 + (1 : Int32)))
def f2_isNameInHand (F : Nat) (rd : T2) (tp : T4) : Option (Int32) :=
  if rd.2.2.2.2.2 = rd.2.2.2.2.1 then
    some (0 : Int32)
  else
    if (rd.2.2.2.2.2 - rd.2.2.2.2.1) ≤ (8 : Int32) then
      bnd (iter (f2_isNameInHand_L32 rd tp) F rd.2.2.2.2.1) (
        fun (e32y : (Unit) ⊕ (Unit)) => cas e32y (fun (x54 : Unit) =>
          some (0 : Int32)
          ) (
          fun (x62 : Unit) =>
            some (1 : Int32)
          )
        )
    else
      some (0 : Int32)
def f2_isSameText_L3 (p1 : Int32) (p2 : Int32) (p3 : Int32) (tp : T4) (s3 : Int32) : Option ((Int32) ⊕ ((Unit) ⊕ ((Unit)))) :=
  if p3 ≤ s3 then
    some (.inr (.inr ()))
  else
    bnd (f4_at (p1 + s3) tp) fun u17 =>
    bnd (f4_at (p2 + s3) tp) fun u28 =>
    if u17 = u28 then
      some (.inl (s3 + (1 : Int32)))
    else
      some (.inr (.inl ()))
def f2_isSameText (F : Nat) (p1 : Int32) (p2 : Int32) (p3 : Int32) (rd : T2) (tp : T4) : Option (Int32) :=
  bnd (iter (f2_isSameText_L3 p1 p2 p3 tp) F (0 : Int32)) (
    fun (e3y : (Unit) ⊕ (Unit)) => cas e3y (fun (x34 : Unit) =>
      some (0 : Int32)
      ) (
      fun (x42 : Unit) =>
        some (1 : Int32)
      )
    )
def f2_clockNamed_L2 (F : Nat) (p1 : Int32) (p2 : Int32) (rd : T2) (ck : T0) (tp : T4) (s2 : Int32) : Option ((Int32) ⊕ ((Int32) ⊕ ((Unit)))) :=
  if ck.2.2.2.2.2.2.2.2.2.2.2 ≤ s2 then
    some (.inr (.inr ()))
  else
    grd (inb s2 12) <|
    jn (fun (v43 : Unit) =>
      some (.inl (s2 + (1 : Int32)))
      ) (fun k43 =>
      if (rd.2.1 s2.toNatClampNeg) = p2 then
        grd (inb s2 12) <|
        bnd (f2_isSameText F (rd.1 s2.toNatClampNeg) p1 p2 rd tp) fun u35 =>
        if u35 = (0 : Int32) then
          k43 ()
        else
          some (.inr (.inl s2))
      else
        k43 ()
      )
def f2_clockNamed (F : Nat) (p1 : Int32) (p2 : Int32) (rd : T2) (sh : T3) (ck : T0) (tp : T4) : Option (Int32) :=
  bnd (iter (f2_clockNamed_L2 F p1 p2 rd ck tp) F (0 : Int32)) (
    fun (e2y : (Int32) ⊕ (Unit)) => cas e2y (fun (x41 : Int32) =>
      some x41
      ) (
      fun (x49 : Unit) =>
        some (-1 : Int32)
      )
    )
def f2_takeNewClock (F : Nat) (rd : T2) (tp : T4) (sh : T3) (ck : T0) : Option (Int32 × T2 × T3 × T0) :=
  bnd (f2_takeWord F rd tp) fun u1 =>
  bnd (f2_isNameInHand F u1 tp) fun u16 =>
  if u16 = (0 : Int32) then
    some ((0 : Int32), u1, sh, ck)
  else
    if (12 : Int32) ≤ ck.2.2.2.2.2.2.2.2.2.2.2 then
      some ((0 : Int32), u1, sh, ck)
    else
      bnd (f2_clockNamed F u1.2.2.2.2.1 (u1.2.2.2.2.2 - u1.2.2.2.2.1) u1 sh ck tp) fun u42 =>
      if u42 = (-1 : Int32) then
        grd (inb ck.2.2.2.2.2.2.2.2.2.2.2 12) <|
        grd (inb ck.2.2.2.2.2.2.2.2.2.2.2 12) <|
        bnd (f0_open sh.2.2.2.2.2.2.2.1 ck) fun u90 =>
        bnd (f2_printWord F ((upd u1.1 ck.2.2.2.2.2.2.2.2.2.2.2.toNatClampNeg u1.2.2.2.2.1), (upd u1.2.1 ck.2.2.2.2.2.2.2.2.2.2.2.toNatClampNeg (u1.2.2.2.2.2 - u1.2.2.2.2.1)), u1.2.2.1, u1.2.2.2.1, u1.2.2.2.2.1, u1.2.2.2.2.2) sh tp) fun u94 =>
        some ((1 : Int32), ((upd u1.1 ck.2.2.2.2.2.2.2.2.2.2.2.toNatClampNeg u1.2.2.2.2.1), (upd u1.2.1 ck.2.2.2.2.2.2.2.2.2.2.2.toNatClampNeg (u1.2.2.2.2.2 - u1.2.2.2.2.1)), u1.2.2.1, u1.2.2.2.1, u1.2.2.2.2.1, u1.2.2.2.2.2), u94, u90)
      else
        some ((0 : Int32), u1, sh, ck)
def f5_isDigit (p1 : Int32) : Option (Int32) :=
  if p1 < (48 : Int32) then
    some (0 : Int32)
  else
    if (57 : Int32) < p1 then
      some (0 : Int32)
    else
      some (1 : Int32)
def f2_wholeInHand_L34 (rd : T2) (tp : T4) (s34 : Int32 × Int32) : Option ((Int32 × Int32) ⊕ ((Unit) ⊕ ((Int32)))) :=
  if rd.2.2.2.2.2 ≤ s34.2 then
    some (.inr (.inr s34.1))
  else
    bnd (f4_at s34.2 tp) fun u47 =>
    bnd (f5_isDigit u47) fun u52 =>
    if u52 = (0 : Int32) then
      some (.inr (.inl ()))
    else
      some (.inl (((s34.1 * (10 : Int32)) + (u47 - (48 : Int32))), (s34.2 + (1 : Int32))))
def f2_wholeInHand (F : Nat) (rd : T2) (tp : T4) : Option (Int32) :=
  if rd.2.2.2.2.2 = rd.2.2.2.2.1 then
    some (-1 : Int32)
  else
    if (rd.2.2.2.2.2 - rd.2.2.2.2.1) ≤ (6 : Int32) then
      bnd (iter (f2_wholeInHand_L34 rd tp) F ((0 : Int32), rd.2.2.2.2.1)) (
        fun (e34y : (Unit) ⊕ (Int32)) => cas e34y (fun (x58 : Unit) =>
          some (-1 : Int32)
          ) (
          fun (x76 : Int32) =>
            some x76
          )
        )
    else
      some (-1 : Int32)
def f3_printWhole_L7 (p1 : Int32) (s7 : Int32 × T3) : Option ((Int32 × T3) ⊕ ((T3))) :=
  if s7.1 ≤ (0 : Int32) then
    some (.inr s7.2)
  else
    jn (fun (v34 : T3) =>
      some (.inl ((s7.1 / (10 : Int32)), v34))
      ) (fun k34 =>
      jn (fun (v21 : Unit) =>
        grd (decide (¬ s7.1 = 0)) <|
        bnd (f3_print ((48 : Int32) + ((p1 / s7.1) - (p1 / s7.1) / (10 : Int32) * (10 : Int32))) s7.2) fun u31 =>
        k34 u31
        ) (fun k21 =>
        if s7.1 ≤ p1 then
          k21 ()
        else
          if s7.1 = (1 : Int32) then
            k21 ()
          else
            k34 s7.2
        )
      )
def f3_printWhole (F : Nat) (p1 : Int32) (sh : T3) : Option (T3) :=
  bnd (f3_printGap sh) fun u1 =>
  bnd (iter (f3_printWhole_L7 p1) F ((100000 : Int32), u1)) (
    fun (x42 : T3) =>
      some x42
    )
def f2_takeWhole (F : Nat) (p1 : Int32) (p2 : Int32) (rd : T2) (tp : T4) (sh : T3) : Option (Int32 × T2 × T3) :=
  bnd (f2_takeWord F rd tp) fun u1 =>
  bnd (f2_wholeInHand F u1 tp) fun u5 =>
  if u5 < p1 then
    some ((-1 : Int32), u1, sh)
  else
    if u5 ≤ p2 then
      bnd (f3_printWhole F u5 sh) fun u26 =>
      some (u5, u1, u26)
    else
      some ((-1 : Int32), u1, sh)
def f2_takeTimes (F : Nat) (rd : T2) (tp : T4) (sh : T3) (ck : T0) : Option (Int32 × T2 × T3 × T0) :=
  bnd (f2_takeWhole F (1 : Int32) (999999 : Int32) rd tp sh) fun u4 =>
  if u4.1 = (-1 : Int32) then
    some ((0 : Int32), u4.2.1, u4.2.2, ck)
  else
    bnd (f2_takeWhole F (0 : Int32) (u4.1 - (1 : Int32)) u4.2.1 tp u4.2.2) fun u20 =>
    if u20.1 = (-1 : Int32) then
      some ((0 : Int32), u20.2.1, u20.2.2, ck)
    else
      bnd (f2_takeWhole F (0 : Int32) (u4.1 - (1 : Int32)) u20.2.1 tp u20.2.2) fun u36 =>
      if u36.1 = (-1 : Int32) then
        some ((0 : Int32), u36.2.1, u36.2.2, ck)
      else
        if u36.1 = u20.1 then
          some ((0 : Int32), u36.2.1, u36.2.2, ck)
        else
          bnd (f0_setTimes u4.1 u20.1 u36.1 ck) fun u62 =>
          some ((1 : Int32), u36.2.1, u36.2.2, u62)
def f5_isNameUnit (p1 : Int32) : Option (Int32) :=
  bnd (f5_isSmallLetter p1) fun u1 =>
  if u1 = (0 : Int32) then
    bnd (f5_isDigit p1) fun u8 =>
    if u8 = (0 : Int32) then
      if p1 = (95 : Int32) then
        some (1 : Int32)
      else
        if p1 = (47 : Int32) then
          some (1 : Int32)
        else
          some (0 : Int32)
    else
      some (1 : Int32)
  else
    some (1 : Int32)
def f2_isPatternInHand_L32 (rd : T2) (tp : T4) (s32 : Int32) : Option ((Int32) ⊕ ((Unit) ⊕ ((Unit)))) :=
  if rd.2.2.2.2.2 ≤ s32 then
    some (.inr (.inr ()))
  else
    bnd (f4_at s32 tp) fun u45 =>
    bnd (f5_isNameUnit u45) fun u50 =>
    jn (fun (v70 : Unit) =>
      some (.inl (s32 + (1 : Int32)))
      ) (fun k70 =>
      if u50 = (0 : Int32) then
        if u45 = (42 : Int32) then
          k70 ()
        else
          if u45 = (63 : Int32) then
            k70 ()
          else
            some (.inr (.inl ()))
      else
        k70 ()
      )
def f2_isPatternInHand (F : Nat) (rd : T2) (tp : T4) : Option (Int32) :=
  if rd.2.2.2.2.2 = rd.2.2.2.2.1 then
    some (0 : Int32)
  else
    if (rd.2.2.2.2.2 - rd.2.2.2.2.1) ≤ (16 : Int32) then
      bnd (iter (f2_isPatternInHand_L32 rd tp) F rd.2.2.2.2.1) (
        fun (e32y : (Unit) ⊕ (Unit)) => cas e32y (fun (x68 : Unit) =>
          some (0 : Int32)
          ) (
          fun (x76 : Unit) =>
            some (1 : Int32)
          )
        )
    else
      some (0 : Int32)
def f3_patternOf (p1 : Int32) (p2 : Int32) (sh : T3) : Option (Int32) :=
  jn (fun (v27 : Int32) =>
    if v27 = (0 : Int32) then
      some (-1 : Int32)
    else
      some (((p1 - (1 : Int32)) * (3 : Int32)) + p2)
    ) (fun k27 =>
    if p1 < (1 : Int32) then
      k27 (0 : Int32)
    else
      if sh.2.2.2.2.2.2.2.1 < p1 then
        k27 (0 : Int32)
      else
        if p2 < (0 : Int32) then
          k27 (0 : Int32)
        else
          if (3 : Int32) ≤ p2 then
            k27 (0 : Int32)
          else
            k27 (1 : Int32)
    )
def f3_setPattern (p1 : Int32) (p2 : Int32) (sh : T3) : Option (T3) :=
  bnd (f3_patternOf sh.2.2.2.2.2.2.2.1 p1 sh) fun u6 =>
  if u6 = (-1 : Int32) then
    some sh
  else
    grd (inb u6 120) <|
    grd (inb u6 120) <|
    some (sh.1, sh.2.1, sh.2.2.1, (upd sh.2.2.2.1 u6.toNatClampNeg (sh.2.2.2.2.2.2.2.2 - p2)), (upd sh.2.2.2.2.1 u6.toNatClampNeg p2), sh.2.2.2.2.2.1, sh.2.2.2.2.2.2.1, sh.2.2.2.2.2.2.2.1, sh.2.2.2.2.2.2.2.2)
def f2_keepPattern (F : Nat) (p1 : Int32) (rd : T2) (tp : T4) (sh : T3) : Option (Int32 × T3) :=
  bnd (f2_isPatternInHand F rd tp) fun u1 =>
  if u1 = (0 : Int32) then
    some ((0 : Int32), sh)
  else
    bnd (f2_printWord F rd sh tp) fun u10 =>
    bnd (f3_setPattern p1 (rd.2.2.2.2.2 - rd.2.2.2.2.1) u10) fun u27 =>
    some ((1 : Int32), u27)
def f2_takePattern (F : Nat) (p1 : Int32) (rd : T2) (tp : T4) (sh : T3) : Option (Int32 × T2 × T3) :=
  bnd (f2_takeWord F rd tp) fun u1 =>
  bnd (f2_keepPattern F p1 u1 tp sh) fun u6 =>
  grd (isB u6.1) <|
  some (u6.1, u1, u6.2)
def f2_takeLink (F : Nat) (p1 : Int32) (rd : T2) (tp : T4) (sh : T3) : Option (Int32 × T2 × T3) :=
  bnd (f2_takeWord F rd tp) fun u1 =>
  bnd (f2_isNameInHand F u1 tp) fun u19 =>
  if u19 = (0 : Int32) then
    some ((0 : Int32), u1, sh)
  else
    if (((sh.2.2.2.2.2.2.2.1 - (1 : Int32)) * (2 : Int32)) + p1) < (0 : Int32) then
      some ((0 : Int32), u1, sh)
    else
      if (((sh.2.2.2.2.2.2.2.1 - (1 : Int32)) * (2 : Int32)) + p1) < (80 : Int32) then
        grd (inb (((sh.2.2.2.2.2.2.2.1 - (1 : Int32)) * (2 : Int32)) + p1) 80) <|
        grd (inb (((sh.2.2.2.2.2.2.2.1 - (1 : Int32)) * (2 : Int32)) + p1) 80) <|
        bnd (f2_printWord F (u1.1, u1.2.1, (upd u1.2.2.1 (((sh.2.2.2.2.2.2.2.1 - (1 : Int32)) * (2 : Int32)) + p1).toNatClampNeg u1.2.2.2.2.1), (upd u1.2.2.2.1 (((sh.2.2.2.2.2.2.2.1 - (1 : Int32)) * (2 : Int32)) + p1).toNatClampNeg (u1.2.2.2.2.2 - u1.2.2.2.2.1)), u1.2.2.2.2.1, u1.2.2.2.2.2) sh tp) fun u66 =>
        some ((1 : Int32), (u1.1, u1.2.1, (upd u1.2.2.1 (((sh.2.2.2.2.2.2.2.1 - (1 : Int32)) * (2 : Int32)) + p1).toNatClampNeg u1.2.2.2.2.1), (upd u1.2.2.2.1 (((sh.2.2.2.2.2.2.2.1 - (1 : Int32)) * (2 : Int32)) + p1).toNatClampNeg (u1.2.2.2.2.2 - u1.2.2.2.2.1)), u1.2.2.2.2.1, u1.2.2.2.2.2), u66)
      else
        some ((0 : Int32), u1, sh)
def f2_takeRatio (F : Nat) (p1 : Int32) (rd : T2) (tp : T4) (sh : T3) (ck : T0) : Option (Int32 × T2 × T3 × T0) :=
  bnd (f2_takeWhole F (1 : Int32) (1000 : Int32) rd tp sh) fun u5 =>
  if u5.1 = (-1 : Int32) then
    some ((0 : Int32), u5.2.1, u5.2.2, ck)
  else
    bnd (f2_takeWhole F (1 : Int32) (1000 : Int32) u5.2.1 tp u5.2.2) fun u21 =>
    if u21.1 = (-1 : Int32) then
      some ((0 : Int32), u21.2.1, u21.2.2, ck)
    else
      bnd (f0_setRatio u5.1 u21.1 p1 ck) fun u42 =>
      some ((1 : Int32), u21.2.1, u21.2.2, u42)
def f2_isAnyInHand (rd : T2) (tp : T4) : Option (Int32) :=
  if (rd.2.2.2.2.2 - rd.2.2.2.2.1) = (1 : Int32) then
    bnd (f4_at rd.2.2.2.2.1 tp) fun u21 =>
    if u21 = (45 : Int32) then
      some (1 : Int32)
    else
      some (0 : Int32)
  else
    some (0 : Int32)
def f3_hasPattern (p1 : Int32) (p2 : Int32) (sh : T3) : Option (Int32) :=
  bnd (f3_patternOf p1 p2 sh) fun u3 =>
  if u3 = (-1 : Int32) then
    some (0 : Int32)
  else
    grd (inb u3 120) <|
    if (sh.2.2.2.2.1 u3.toNatClampNeg) ≤ (0 : Int32) then
      some (0 : Int32)
    else
      some (1 : Int32)
def f3_newestHasPattern_L2 (sh : T3) (s2 : Int32) : Option ((Int32) ⊕ ((Unit) ⊕ ((Unit)))) :=
  if (3 : Int32) ≤ s2 then
    some (.inr (.inr ()))
  else
    bnd (f3_hasPattern sh.2.2.2.2.2.2.2.1 s2 sh) fun u13 =>
    if u13 = (0 : Int32) then
      some (.inl (s2 + (1 : Int32)))
    else
      some (.inr (.inl ()))
def f3_newestHasPattern (F : Nat) (sh : T3) : Option (Int32) :=
  bnd (iter (f3_newestHasPattern_L2 sh) F (0 : Int32)) (
    fun (e2y : (Unit) ⊕ (Unit)) => cas e2y (fun (x19 : Unit) =>
      some (1 : Int32)
      ) (
      fun (x27 : Unit) =>
        some (0 : Int32)
      )
    )
def f2_takePath_L2 (F : Nat) (tp : T4) (s2 : Int32 × T2 × T3) : Option ((Int32 × T2 × T3) ⊕ ((T2 × T3) ⊕ ((T2 × T3)))) :=
  if (3 : Int32) ≤ s2.1 then
    some (.inr (.inr (s2.2.1, s2.2.2)))
  else
    bnd (f2_takeWord F s2.2.1 tp) fun u8 =>
    bnd (f2_isAnyInHand u8 tp) fun u12 =>
    jn (fun (v35 : T3) =>
      some (.inl ((s2.1 + (1 : Int32)), u8, v35))
      ) (fun k35 =>
      if u12 = (0 : Int32) then
        bnd (f2_keepPattern F s2.1 u8 tp s2.2.2) fun u27 =>
        if u27.1 = (0 : Int32) then
          some (.inr (.inl (u8, u27.2)))
        else
          k35 u27.2
      else
        bnd (f2_printWord F u8 s2.2.2 tp) fun u19 =>
        k35 u19
      )
def f2_takePath (F : Nat) (rd : T2) (sh : T3) (tp : T4) : Option (Int32 × T2 × T3) :=
  bnd (iter (f2_takePath_L2 F tp) F ((0 : Int32), rd, sh)) (
    fun (e2y : (T2 × T3) ⊕ (T2 × T3)) => cas e2y (fun (x33 : T2 × T3) =>
      some ((0 : Int32), x33.1, x33.2)
      ) (
      fun (x41 : T2 × T3) =>
        bnd (f3_newestHasPattern F x41.2) fun u45 =>
        grd (isB u45) <|
        some (u45, x41.1, x41.2)
      )
    )
def f3_setValue (p1 : Int32) (sh : T3) : Option (T3) :=
  if sh.2.2.2.2.2.2.2.1 ≤ (0 : Int32) then
    some sh
  else
    grd (inb (sh.2.2.2.2.2.2.2.1 - (1 : Int32)) 40) <|
    some (sh.1, (upd sh.2.1 (sh.2.2.2.2.2.2.2.1 - (1 : Int32)).toNatClampNeg p1), sh.2.2.1, sh.2.2.2.1, sh.2.2.2.2.1, sh.2.2.2.2.2.1, sh.2.2.2.2.2.2.1, sh.2.2.2.2.2.2.2.1, sh.2.2.2.2.2.2.2.2)
def f2_takeValue (F : Nat) (p1 : Int32) (p2 : Int32) (rd : T2) (tp : T4) (sh : T3) : Option (Int32 × T2 × T3) :=
  bnd (f2_takeWhole F p1 p2 rd tp sh) fun u3 =>
  if u3.1 = (-1 : Int32) then
    some ((0 : Int32), u3.2.1, u3.2.2)
  else
    bnd (f3_setValue u3.1 u3.2.2) fun u19 =>
    some ((1 : Int32), u3.2.1, u19)
def f2_takeEnd (F : Nat) (rd : T2) (tp : T4) (sh : T3) : Option (Int32 × T2 × T3) :=
  bnd (f2_takeWord F rd tp) fun u1 =>
  bnd (f4_at u1.2.2.2.2.1 tp) fun u12 =>
  if u12 = (59 : Int32) then
    bnd (f3_print (59 : Int32) sh) fun u28 =>
    bnd (f3_print (10 : Int32) u28) fun u37 =>
    some ((1 : Int32), u1, u37)
  else
    some ((0 : Int32), u1, sh)
def f2_takeRow (F : Nat) (rd : T2) (tp : T4) (sh : T3) (ck : T0) : Option (Int32 × T2 × T3 × T0) :=
  bnd (f2_sortInHand F rd tp) fun u1 =>
  if u1 = (-1 : Int32) then
    some ((0 : Int32), rd, sh, ck)
  else
    bnd (f3_open F u1 sh) fun u17 =>
    bnd (f2_printWord F rd u17 tp) fun u21 =>
    jn (fun (v261 : Int32 × T2 × T3 × T0) =>
      if v261.1 = (0 : Int32) then
        some ((0 : Int32), v261.2.1, v261.2.2.1, v261.2.2.2)
      else
        bnd (f2_takeEnd F v261.2.1 tp v261.2.2.1) fun u266 =>
        if u266.1 = (0 : Int32) then
          some ((0 : Int32), u266.2.1, u266.2.2, v261.2.2.2)
        else
          some ((1 : Int32), u266.2.1, u266.2.2, v261.2.2.2)
      ) (fun k261 =>
      if u1 = (0 : Int32) then
        bnd (f2_takeNewClock F rd tp u21 ck) fun u73 =>
        jn (fun (v99 : Int32 × T2 × T3 × T0) =>
          k261 (v99.1, v99.2.1, v99.2.2.1, v99.2.2.2)
          ) (fun k99 =>
          if u73.1 = (0 : Int32) then
            k99 ((0 : Int32), u73.2.1, u73.2.2.1, u73.2.2.2)
          else
            bnd (f2_takeTimes F u73.2.1 tp u73.2.2.1 u73.2.2.2) fun u80 =>
            if u80.1 = (0 : Int32) then
              k99 ((0 : Int32), u80.2.1, u80.2.2.1, u80.2.2.2)
            else
              bnd (f2_takePattern F (0 : Int32) u80.2.1 tp u80.2.2.1) fun u88 =>
              if u88.1 = (0 : Int32) then
                k99 ((0 : Int32), u88.2.1, u88.2.2, u80.2.2.2)
              else
                k99 ((1 : Int32), u88.2.1, u88.2.2, u80.2.2.2)
          )
      else
        if u1 = (1 : Int32) then
          bnd (f2_takeNewClock F rd tp u21 ck) fun u104 =>
          jn (fun (v148 : Int32 × T2 × T3 × T0) =>
            k261 (v148.1, v148.2.1, v148.2.2.1, v148.2.2.2)
            ) (fun k148 =>
            if u104.1 = (0 : Int32) then
              k148 ((0 : Int32), u104.2.1, u104.2.2.1, u104.2.2.2)
            else
              bnd (f2_takeLink F (0 : Int32) u104.2.1 tp u104.2.2.1) fun u112 =>
              if u112.1 = (0 : Int32) then
                k148 ((0 : Int32), u112.2.1, u112.2.2, u104.2.2.2)
              else
                jn (fun (v129 : Int32) =>
                  bnd (f2_takeRatio F v129 u112.2.1 tp u112.2.2 u104.2.2.2) fun u129 =>
                  if u129.1 = (0 : Int32) then
                    k148 ((0 : Int32), u129.2.1, u129.2.2.1, u129.2.2.2)
                  else
                    bnd (f2_takePattern F (0 : Int32) u129.2.1 tp u129.2.2.1) fun u137 =>
                    if u137.1 = (0 : Int32) then
                      k148 ((0 : Int32), u137.2.1, u137.2.2, u129.2.2.2)
                    else
                      k148 ((1 : Int32), u137.2.1, u137.2.2, u129.2.2.2)
                  ) (fun k129 =>
                  if u1 = (2 : Int32) then
                    k129 (1 : Int32)
                  else
                    k129 (0 : Int32)
                  )
            )
        else
          if u1 = (2 : Int32) then
            bnd (f2_takeNewClock F rd tp u21 ck) fun u104 =>
            jn (fun (v148 : Int32 × T2 × T3 × T0) =>
              k261 (v148.1, v148.2.1, v148.2.2.1, v148.2.2.2)
              ) (fun k148 =>
              if u104.1 = (0 : Int32) then
                k148 ((0 : Int32), u104.2.1, u104.2.2.1, u104.2.2.2)
              else
                bnd (f2_takeLink F (0 : Int32) u104.2.1 tp u104.2.2.1) fun u112 =>
                if u112.1 = (0 : Int32) then
                  k148 ((0 : Int32), u112.2.1, u112.2.2, u104.2.2.2)
                else
                  jn (fun (v129 : Int32) =>
                    bnd (f2_takeRatio F v129 u112.2.1 tp u112.2.2 u104.2.2.2) fun u129 =>
                    if u129.1 = (0 : Int32) then
                      k148 ((0 : Int32), u129.2.1, u129.2.2.1, u129.2.2.2)
                    else
                      bnd (f2_takePattern F (0 : Int32) u129.2.1 tp u129.2.2.1) fun u137 =>
                      if u137.1 = (0 : Int32) then
                        k148 ((0 : Int32), u137.2.1, u137.2.2, u129.2.2.2)
                      else
                        k148 ((1 : Int32), u137.2.1, u137.2.2, u129.2.2.2)
                    ) (fun k129 =>
                    if u1 = (2 : Int32) then
                      k129 (1 : Int32)
                    else
                      k129 (0 : Int32)
                    )
              )
          else
            if u1 = (3 : Int32) then
              bnd (f2_takeLink F (0 : Int32) rd tp u21) fun u154 =>
              jn (fun (v173 : Int32 × T2 × T3) =>
                k261 (v173.1, v173.2.1, v173.2.2, ck)
                ) (fun k173 =>
                if u154.1 = (0 : Int32) then
                  k173 ((0 : Int32), u154.2.1, u154.2.2)
                else
                  bnd (f2_takeLink F (1 : Int32) u154.2.1 tp u154.2.2) fun u162 =>
                  if u162.1 = (0 : Int32) then
                    k173 ((0 : Int32), u162.2.1, u162.2.2)
                  else
                    k173 ((1 : Int32), u162.2.1, u162.2.2)
                )
            else
              if u1 = (4 : Int32) then
                bnd (f2_takePath F rd u21 tp) fun u178 =>
                k261 (u178.1, u178.2.1, u178.2.2, ck)
              else
                if u1 = (5 : Int32) then
                  bnd (f2_takeValue F (2 : Int32) (100 : Int32) rd tp u21) fun u189 =>
                  jn (fun (v207 : Int32 × T2 × T3) =>
                    k261 (v207.1, v207.2.1, v207.2.2, ck)
                    ) (fun k207 =>
                    if u189.1 = (0 : Int32) then
                      k207 ((0 : Int32), u189.2.1, u189.2.2)
                    else
                      bnd (f2_takePath F u189.2.1 u189.2.2 tp) fun u196 =>
                      if u196.1 = (0 : Int32) then
                        k207 ((0 : Int32), u196.2.1, u196.2.2)
                      else
                        k207 ((1 : Int32), u196.2.1, u196.2.2)
                    )
                else
                  if u1 = (6 : Int32) then
                    bnd (f2_takeValue F (0 : Int32) (999999 : Int32) rd tp u21) fun u215 =>
                    jn (fun (v233 : Int32 × T2 × T3) =>
                      k261 (v233.1, v233.2.1, v233.2.2, ck)
                      ) (fun k233 =>
                      if u215.1 = (0 : Int32) then
                        k233 ((0 : Int32), u215.2.1, u215.2.2)
                      else
                        bnd (f2_takePath F u215.2.1 u215.2.2 tp) fun u222 =>
                        if u222.1 = (0 : Int32) then
                          k233 ((0 : Int32), u222.2.1, u222.2.2)
                        else
                          k233 ((1 : Int32), u222.2.1, u222.2.2)
                      )
                  else
                    if u1 = (7 : Int32) then
                      bnd (f2_takeValue F (0 : Int32) (999999 : Int32) rd tp u21) fun u215 =>
                      jn (fun (v233 : Int32 × T2 × T3) =>
                        k261 (v233.1, v233.2.1, v233.2.2, ck)
                        ) (fun k233 =>
                        if u215.1 = (0 : Int32) then
                          k233 ((0 : Int32), u215.2.1, u215.2.2)
                        else
                          bnd (f2_takePath F u215.2.1 u215.2.2 tp) fun u222 =>
                          if u222.1 = (0 : Int32) then
                            k233 ((0 : Int32), u222.2.1, u222.2.2)
                          else
                            k233 ((1 : Int32), u222.2.1, u222.2.2)
                        )
                    else
                      bnd (f2_takeValue F (0 : Int32) (999999 : Int32) rd tp u21) fun u241 =>
                      jn (fun (v260 : Int32 × T2 × T3) =>
                        k261 (v260.1, v260.2.1, v260.2.2, ck)
                        ) (fun k260 =>
                        if u241.1 = (0 : Int32) then
                          k260 ((0 : Int32), u241.2.1, u241.2.2)
                        else
                          bnd (f2_takePattern F (0 : Int32) u241.2.1 tp u241.2.2) fun u249 =>
                          if u249.1 = (0 : Int32) then
                            k260 ((0 : Int32), u249.2.1, u249.2.2)
                          else
                            k260 ((1 : Int32), u249.2.1, u249.2.2)
                        )
      )
def f3_linkOf (p1 : Int32) (p2 : Int32) (sh : T3) : Option (Int32) :=
  jn (fun (v27 : Int32) =>
    if v27 = (0 : Int32) then
      some (-1 : Int32)
    else
      grd (inb (((p1 - (1 : Int32)) * (2 : Int32)) + p2) 80) <|
      some (sh.2.2.1 (((p1 - (1 : Int32)) * (2 : Int32)) + p2).toNatClampNeg)
    ) (fun k27 =>
    if p1 < (1 : Int32) then
      k27 (0 : Int32)
    else
      if sh.2.2.2.2.2.2.2.1 < p1 then
        k27 (0 : Int32)
      else
        if p2 < (0 : Int32) then
          k27 (0 : Int32)
        else
          if (2 : Int32) ≤ p2 then
            k27 (0 : Int32)
          else
            k27 (1 : Int32)
    )
def f2_bindLinks_L2 (F : Nat) (rd : T2) (ck : T0) (tp : T4) (s2 : Int32 × T3) : Option ((Int32 × T3) ⊕ ((Int32 × T3) ⊕ ((T3)))) :=
  if (s2.2.2.2.2.2.2.2.2.1 * (2 : Int32)) ≤ s2.1 then
    some (.inr (.inr s2.2))
  else
    grd (inb s2.1 80) <|
    jn (fun (v68 : T3) =>
      some (.inl ((s2.1 + (1 : Int32)), v68))
      ) (fun k68 =>
      if (rd.2.2.2.1 s2.1.toNatClampNeg) ≤ (0 : Int32) then
        k68 s2.2
      else
        grd (inb s2.1 80) <|
        grd (inb s2.1 80) <|
        bnd (f2_clockNamed F (rd.2.2.1 s2.1.toNatClampNeg) (rd.2.2.2.1 s2.1.toNatClampNeg) rd s2.2 ck tp) fun u37 =>
        if u37 = (-1 : Int32) then
          some (.inr (.inl (s2.1, s2.2)))
        else
          grd (inb s2.1 80) <|
          k68 (s2.2.1, s2.2.2.1, (upd s2.2.2.2.1 s2.1.toNatClampNeg u37), s2.2.2.2.2.1, s2.2.2.2.2.2.1, s2.2.2.2.2.2.2.1, s2.2.2.2.2.2.2.2.1, s2.2.2.2.2.2.2.2.2.1, s2.2.2.2.2.2.2.2.2.2)
      )
def f2_bindLinks_L76 (x74 : T3) (s76 : Int32 × T0) : Option ((Int32 × T0) ⊕ ((T0))) :=
  if s76.2.2.2.2.2.2.2.2.2.2.2.2 ≤ s76.1 then
    some (.inr s76.2)
  else
    grd (inb s76.1 12) <|
    bnd (f3_linkOf (s76.2.1 s76.1.toNatClampNeg) (0 : Int32) x74) fun u118 =>
    grd (inb s76.1 12) <|
    some (.inl ((s76.1 + (1 : Int32)), (s76.2.1, (upd s76.2.2.1 s76.1.toNatClampNeg u118), s76.2.2.2.1, s76.2.2.2.2.1, s76.2.2.2.2.2.1, s76.2.2.2.2.2.2.1, s76.2.2.2.2.2.2.2.1, s76.2.2.2.2.2.2.2.2.1, s76.2.2.2.2.2.2.2.2.2.1, s76.2.2.2.2.2.2.2.2.2.2.1, s76.2.2.2.2.2.2.2.2.2.2.2.1, s76.2.2.2.2.2.2.2.2.2.2.2.2)))
def f2_bindLinks (F : Nat) (rd : T2) (sh : T3) (ck : T0) (tp : T4) : Option (Int32 × T2 × T3 × T0) :=
  bnd (iter (f2_bindLinks_L2 F rd ck tp) F ((0 : Int32), sh)) (
    fun (e2y : (Int32 × T3) ⊕ (T3)) => cas e2y (fun (x46 : Int32 × T3) =>
      grd (inb x46.1 80) <|
      some ((0 : Int32), (rd.1, rd.2.1, rd.2.2.1, rd.2.2.2.1, (rd.2.2.1 x46.1.toNatClampNeg), rd.2.2.2.2.2), x46.2, ck)
      ) (
      fun (x74 : T3) =>
        bnd (iter (f2_bindLinks_L76 x74) F ((0 : Int32), ck)) (
          fun (x128 : T0) =>
            some ((1 : Int32), rd, x74, x128)
          )
      )
    )
def f2_hasNoRing_L2 (F : Nat) (ck : T0) (s2 : Int32) : Option ((Int32) ⊕ ((Int32) ⊕ ((Unit)))) :=
  if ck.2.2.2.2.2.2.2.2.2.2.2 ≤ s2 then
    some (.inr (.inr ()))
  else
    bnd (f0_inRing F s2 ck) fun u24 =>
    if u24 = (0 : Int32) then
      some (.inl (s2 + (1 : Int32)))
    else
      some (.inr (.inl s2))
def f2_hasNoRing (F : Nat) (rd : T2) (sh : T3) (ck : T0) : Option (Int32 × T2) :=
  bnd (iter (f2_hasNoRing_L2 F ck) F (0 : Int32)) (
    fun (e2y : (Int32) ⊕ (Unit)) => cas e2y (fun (x30 : Int32) =>
      grd (inb x30 12) <|
      some ((0 : Int32), (rd.1, rd.2.1, rd.2.2.1, rd.2.2.2.1, (rd.1 x30.toNatClampNeg), rd.2.2.2.2.2))
      ) (
      fun (x48 : Unit) =>
        some ((1 : Int32), rd)
      )
    )
def f2_hasNoneGreat_L12 (u7 : T0) (s12 : Int32) : Option ((Int32) ⊕ ((Int32) ⊕ ((Unit)))) :=
  if u7.2.2.2.2.2.2.2.2.2.2.2 ≤ s12 then
    some (.inr (.inr ()))
  else
    grd (inb s12 12) <|
    if (u7.2.2.2.2.2.2.2.2.2.2.1 s12.toNatClampNeg) = (0 : Int32) then
      some (.inl (s12 + (1 : Int32)))
    else
      some (.inr (.inl s12))
def f2_hasNoneGreat (F : Nat) (rd : T2) (sh : T3) (ck : T0) : Option (Int32 × T2 × T0) :=
  bnd (f0_settleAll F ck) fun u7 =>
  bnd (iter (f2_hasNoneGreat_L12 u7) F (0 : Int32)) (
    fun (e12y : (Int32) ⊕ (Unit)) => cas e12y (fun (x41 : Int32) =>
      grd (inb x41 12) <|
      some ((0 : Int32), (rd.1, rd.2.1, rd.2.2.1, rd.2.2.2.1, (rd.1 x41.toNatClampNeg), rd.2.2.2.2.2), u7)
      ) (
      fun (x59 : Unit) =>
        some ((1 : Int32), rd, u7)
      )
    )
def f2_faultOfTape_L27 (F : Nat) (tp : T4) (s27 : Int32 × T2 × T3 × T0) : Option ((Int32 × T2 × T3 × T0) ⊕ ((T2 × T3 × T0) ⊕ ((T2 × T3 × T0) ⊕ ((T2 × T3 × T0))))) :=
  if (40 : Int32) < s27.1 then
    some (.inr (.inr (.inr (s27.2.1, s27.2.2.1, s27.2.2.2))))
  else
    bnd (f2_takeWord F s27.2.1 tp) fun u34 =>
    if u34.2.2.2.2.1 = tp.2 then
      some (.inr (.inl (u34, s27.2.2.1, s27.2.2.2)))
    else
      if s27.1 = (40 : Int32) then
        some (.inr (.inr (.inl (u34, s27.2.2.1, s27.2.2.2))))
      else
        bnd (f2_takeRow F u34 tp s27.2.2.1 s27.2.2.2) fun u61 =>
        if u61.1 = (0 : Int32) then
          some (.inr (.inr (.inl (u61.2.1, u61.2.2.1, u61.2.2.2))))
        else
          some (.inl ((s27.1 + (1 : Int32)), u61.2.1, u61.2.2.1, u61.2.2.2))
def f2_faultOfTape (F : Nat) (rd : T2) (sh : T3) (ck : T0) (tp : T4) : Option (Int32 × T2 × T3 × T0) :=
  bnd (f3_wipe sh ck) fun u4 =>
  bnd (iter (f2_faultOfTape_L27 F tp) F ((0 : Int32), (rd.1, rd.2.1, rd.2.2.1, (fillA rd.2.2.2.1 80 (0 : Int32)), (0 : Int32), (0 : Int32)), u4.1, u4.2)) (
    fun (e27y : (T2 × T3 × T0) ⊕ ((T2 × T3 × T0) ⊕ (T2 × T3 × T0))) => cas e27y (fun (x51 : T2 × T3 × T0) =>
      bnd (f2_bindLinks F x51.1 x51.2.1 x51.2.2 tp) fun u79 =>
      if u79.1 = (0 : Int32) then
        some (u79.2.1.2.2.2.2.1, u79.2.1, u79.2.2.1, u79.2.2.2)
      else
        bnd (f2_hasNoRing F u79.2.1 u79.2.2.1 u79.2.2.2) fun u86 =>
        if u86.1 = (0 : Int32) then
          some (u86.2.2.2.2.2.1, u86.2, u79.2.2.1, u79.2.2.2)
        else
          bnd (f2_hasNoneGreat F u86.2 u79.2.2.1 u79.2.2.2) fun u93 =>
          if u93.1 = (0 : Int32) then
            some (u93.2.1.2.2.2.2.1, u93.2.1, u79.2.2.1, u93.2.2)
          else
            some ((-1 : Int32), u93.2.1, u79.2.2.1, u93.2.2)
      ) (
      fun (e27yy : (T2 × T3 × T0) ⊕ (T2 × T3 × T0)) => cas e27yy (fun (x67 : T2 × T3 × T0) =>
        some (x67.1.2.2.2.2.1, x67.1, x67.2.1, x67.2.2)
        ) (
        fun (x78 : T2 × T3 × T0) =>
          bnd (f2_bindLinks F x78.1 x78.2.1 x78.2.2 tp) fun u79 =>
          if u79.1 = (0 : Int32) then
            some (u79.2.1.2.2.2.2.1, u79.2.1, u79.2.2.1, u79.2.2.2)
          else
            bnd (f2_hasNoRing F u79.2.1 u79.2.2.1 u79.2.2.2) fun u86 =>
            if u86.1 = (0 : Int32) then
              some (u86.2.2.2.2.2.1, u86.2, u79.2.2.1, u79.2.2.2)
            else
              bnd (f2_hasNoneGreat F u86.2 u79.2.2.1 u79.2.2.2) fun u93 =>
              if u93.1 = (0 : Int32) then
                some (u93.2.1.2.2.2.2.1, u93.2.1, u79.2.2.1, u93.2.2)
              else
                some ((-1 : Int32), u93.2.1, u79.2.2.1, u93.2.2)
        )
      )
    )
def f3_hitsOf (p1 : Int32) (p2 : Int32) (sh : T3) : Option (Int64) :=
  bnd (f3_patternOf p1 p2 sh) fun u3 =>
  if u3 = (-1 : Int32) then
    some (0 : Int64)
  else
    grd (inb u3 120) <|
    some (sh.2.2.2.2.2.1 u3.toNatClampNeg)
def f3_reachedByStars_L4 (p1 : Int32) (sh : T3) (s4 : Int32 × Int32) : Option ((Int32 × Int32) ⊕ ((Int32) ⊕ ((Int32)))) :=
  grd (inb p1 120) <|
  if (sh.2.2.2.2.1 p1.toNatClampNeg) ≤ s4.2 then
    some (.inr (.inr s4.1))
  else
    grd (inb p1 120) <|
    bnd (f3_printedAt ((sh.2.2.2.1 p1.toNatClampNeg) + s4.2) sh) fun u23 =>
    if u23 = (42 : Int32) then
      some (.inl ((s4.1 ||| ((2 : Int32) <<< (s4.2 &&& 31))), (s4.2 + (1 : Int32))))
    else
      some (.inr (.inl s4.1))
def f3_reachedByStars (F : Nat) (p1 : Int32) (sh : T3) : Option (Int32) :=
  bnd (iter (f3_reachedByStars_L4 p1 sh) F ((1 : Int32), (0 : Int32))) (
    fun (e4y : (Int32) ⊕ (Int32)) => cas e4y (fun (x31 : Int32) =>
      some x31
      ) (
      fun (x46 : Int32) =>
        some x46
      )
    )
def f3_reachedBy_L6 (p1 : Int32) (p2 : Int32) (p3 : Int32) (sh : T3) (s6 : Int32 × Int32) : Option ((Int32 × Int32) ⊕ ((Int32))) :=
  grd (inb p1 120) <|
  if (sh.2.2.2.2.1 p1.toNatClampNeg) ≤ s6.2 then
    some (.inr s6.1)
  else
    grd (inb p1 120) <|
    bnd (f3_printedAt ((sh.2.2.2.1 p1.toNatClampNeg) + s6.2) sh) fun u27 =>
    jn (fun (v93 : Int32) =>
      some (.inl (v93, (s6.2 + (1 : Int32))))
      ) (fun k93 =>
      if u27 = (42 : Int32) then
        k93 ((s6.1 ||| (p2 &&& ((1 : Int32) <<< (s6.2 &&& 31)))) ||| (((s6.1 ||| (p2 &&& ((1 : Int32) <<< (s6.2 &&& 31)))) &&& ((1 : Int32) <<< (s6.2 &&& 31))) <<< ((1 : Int32) &&& 31)))
      else
        jn (fun (v84 : Unit) =>
          k93 (s6.1 ||| ((p2 &&& ((1 : Int32) <<< (s6.2 &&& 31))) <<< ((1 : Int32) &&& 31)))
          ) (fun k84 =>
          if u27 = (63 : Int32) then
            k84 ()
          else
            if u27 = p3 then
              k84 ()
            else
              k93 s6.1
          )
      )
def f3_reachedBy (F : Nat) (p1 : Int32) (p2 : Int32) (p3 : Int32) (sh : T3) : Option (Int32) :=
  bnd (iter (f3_reachedBy_L6 p1 p2 p3 sh) F ((0 : Int32), (0 : Int32))) (
    fun (x99 : Int32) =>
      some x99
    )
def f3_fits_L24 (F : Nat) (p1 : Int32) (p3 : Int32) (pn : T1) (sh : T3) (u2 : Int32) (s24 : Int32 × Int32) : Option ((Int32 × Int32) ⊕ ((Int32))) :=
  if u2 ≤ s24.2 then
    some (.inr s24.1)
  else
    if s24.1 = (0 : Int32) then
      some (.inr s24.1)
    else
      bnd (f1_at p3 s24.2 pn) fun u44 =>
      bnd (f3_reachedBy F p1 s24.1 u44 sh) fun u47 =>
      some (.inl (u47, (s24.2 + (1 : Int32))))
def f3_fits (F : Nat) (p1 : Int32) (p3 : Int32) (pn : T1) (sh : T3) : Option (Int32) :=
  bnd (f1_lengthOf p3 pn) fun u2 =>
  if u2 = (0 : Int32) then
    some (0 : Int32)
  else
    bnd (f3_reachedByStars F p1 sh) fun u16 =>
    bnd (iter (f3_fits_L24 F p1 p3 pn sh u2) F (u16, (0 : Int32))) (
      fun (x58 : Int32) =>
        grd (inb p1 120) <|
        if ((x58 >>> ((sh.2.2.2.2.1 p1.toNatClampNeg) &&& 31)) &&& (1 : Int32)) = (1 : Int32) then
          some (1 : Int32)
        else
          some (0 : Int32)
      )
def f3_matchPin_L2 (F : Nat) (p2 : Int32) (pn : T1) (s2 : Int32 × T3) : Option ((Int32 × T3) ⊕ ((T3))) :=
  if (s2.2.2.2.2.2.2.2.2.1 * (3 : Int32)) ≤ s2.1 then
    some (.inr s2.2)
  else
    grd (inb s2.1 120) <|
    jn (fun (v64 : T3) =>
      some (.inl ((s2.1 + (1 : Int32)), v64))
      ) (fun k64 =>
      if (s2.2.2.2.2.2.1 s2.1.toNatClampNeg) ≤ (0 : Int32) then
        k64 s2.2
      else
        grd (inb s2.1 120) <|
        bnd (f3_fits F s2.1 p2 pn s2.2) fun u46 =>
        jn (fun (v63 : Int64) =>
          grd (inb s2.1 120) <|
          k64 (s2.2.1, s2.2.2.1, s2.2.2.2.1, s2.2.2.2.2.1, s2.2.2.2.2.2.1, (vp_updL s2.2.2.2.2.2.2.1 s2.1.toNatClampNeg v63), s2.2.2.2.2.2.2.2.1, s2.2.2.2.2.2.2.2.2.1, s2.2.2.2.2.2.2.2.2.2)
          ) (fun k63 =>
          if u46 = (0 : Int32) then
            k63 ((s2.2.2.2.2.2.2.1 s2.1.toNatClampNeg) &&& ((xlshl (1 : Int64) p2) ^^^ (-1 : Int64)))
          else
            k63 (((s2.2.2.2.2.2.2.1 s2.1.toNatClampNeg) &&& ((xlshl (1 : Int64) p2) ^^^ (-1 : Int64))) ||| (xlshl (1 : Int64) p2))
          )
      )
def f3_matchPin (F : Nat) (p2 : Int32) (sh : T3) (pn : T1) : Option (T3) :=
  bnd (iter (f3_matchPin_L2 F p2 pn) F ((0 : Int32), sh)) (
    fun (x70 : T3) =>
      some x70
    )
def f3_saysApart_L2 (p1 : Int32) (p2 : Int32) (sh : T3) (s2 : Int32) : Option ((Int32) ⊕ ((Unit) ⊕ ((Unit)))) :=
  if sh.2.2.2.2.2.2.2.1 < s2 then
    some (.inr (.inr ()))
  else
    grd (inb (s2 - (1 : Int32)) 40) <|
    jn (fun (v64 : Unit) =>
      some (.inl (s2 + (1 : Int32)))
      ) (fun k64 =>
      if (sh.1 (s2 - (1 : Int32)).toNatClampNeg) = (3 : Int32) then
        bnd (f3_linkOf s2 (0 : Int32) sh) fun u25 =>
        bnd (f3_linkOf s2 (1 : Int32) sh) fun u33 =>
        jn (fun (v50 : Unit) =>
          if u25 = p2 then
            if u33 = p1 then
              some (.inr (.inl ()))
            else
              k64 ()
          else
            k64 ()
          ) (fun k50 =>
          if u25 = p1 then
            if u33 = p2 then
              some (.inr (.inl ()))
            else
              k50 ()
          else
            k50 ()
          )
      else
        k64 ()
      )
def f3_saysApart (F : Nat) (p1 : Int32) (p2 : Int32) (sh : T3) : Option (Int32) :=
  bnd (iter (f3_saysApart_L2 p1 p2 sh) F (1 : Int32)) (
    fun (e2y : (Unit) ⊕ (Unit)) => cas e2y (fun (x62 : Unit) =>
      some (1 : Int32)
      ) (
      fun (x70 : Unit) =>
        some (0 : Int32)
      )
    )
def f3_strengthOf (p1 : Int32) : Option (Int32) :=
  if p1 = (4 : Int32) then
    some (3 : Int32)
  else
    if p1 = (5 : Int32) then
      some (1 : Int32)
    else
      if p1 = (6 : Int32) then
        some (2 : Int32)
      else
        if p1 = (7 : Int32) then
          some (2 : Int32)
        else
          some (0 : Int32)
def f3_matches (p1 : Int32) (p2 : Int32) (p3 : Int32) (sh : T3) : Option (Int32) :=
  if p3 = (-1 : Int32) then
    some (0 : Int32)
  else
    bnd (f3_hitsOf p1 p2 sh) fun u8 =>
    if (lg_cmp ((xlushr u8 p3) &&& (1 : Int64)) (1 : Int64)) = (0 : Int32) then
      some (1 : Int32)
    else
      some (0 : Int32)
def f3_admits (p1 : Int32) (p2 : Int32) (p3 : Int32) (sh : T3) : Option (Int32) :=
  bnd (f3_hasPattern p1 p2 sh) fun u3 =>
  if u3 = (0 : Int32) then
    some (1 : Int32)
  else
    bnd (f3_matches p1 p2 p3 sh) fun u13 =>
    if u13 = (0 : Int32) then
      some (0 : Int32)
    else
      some (1 : Int32)
def f3_weightOf (p1 : Int32) (sh : T3) : Option (Int32) :=
  bnd (f3_hasPattern p1 (0 : Int32) sh) fun u3 =>
  jn (fun (v14 : Int32) =>
    bnd (f3_hasPattern p1 (2 : Int32) sh) fun u17 =>
    jn (fun (v28 : Int32) =>
      bnd (f3_hasPattern p1 (1 : Int32) sh) fun u32 =>
      if u32 = (0 : Int32) then
        some ((v14 + v28) + (0 : Int32))
      else
        some ((v14 + v28) + (1 : Int32))
      ) (fun k28 =>
      if u17 = (0 : Int32) then
        k28 (0 : Int32)
      else
        k28 (2 : Int32)
      )
    ) (fun k14 =>
    if u3 = (0 : Int32) then
      k14 (0 : Int32)
    else
      k14 (4 : Int32)
    )
def f3_winner_L9 (p1 : Int32) (p2 : Int32) (p3 : Int32) (sh : T3) (s9 : Int32 × Int32 × Int32) : Option ((Int32 × Int32 × Int32) ⊕ ((Int32))) :=
  if sh.2.2.2.2.2.2.2.1 < s9.2.2 then
    some (.inr s9.1)
  else
    grd (inb (s9.2.2 - (1 : Int32)) 40) <|
    bnd (f3_strengthOf (sh.1 (s9.2.2 - (1 : Int32)).toNatClampNeg)) fun u27 =>
    jn (fun (v75 : Int32) =>
      bnd (f3_weightOf s9.2.2 sh) fun u85 =>
      jn (fun (v111 : Int32 × Int32) =>
        some (.inl (v111.1, v111.2, (s9.2.2 + (1 : Int32))))
        ) (fun k111 =>
        if v75 = (0 : Int32) then
          k111 (s9.1, s9.2.1)
        else
          if ((u27 * (8 : Int32)) + u85) < s9.2.1 then
            k111 (s9.1, s9.2.1)
          else
            k111 (s9.2.2, ((u27 * (8 : Int32)) + u85))
        )
      ) (fun k75 =>
      if u27 ≤ (0 : Int32) then
        k75 (0 : Int32)
      else
        bnd (f3_admits s9.2.2 (0 : Int32) p1 sh) fun u42 =>
        if u42 = (0 : Int32) then
          k75 (0 : Int32)
        else
          bnd (f3_admits s9.2.2 (1 : Int32) p2 sh) fun u53 =>
          if u53 = (0 : Int32) then
            k75 (0 : Int32)
          else
            bnd (f3_admits s9.2.2 (2 : Int32) p3 sh) fun u64 =>
            if u64 = (0 : Int32) then
              k75 (0 : Int32)
            else
              k75 (1 : Int32)
      )
def f3_winner (F : Nat) (p1 : Int32) (p2 : Int32) (p3 : Int32) (sh : T3) : Option (Int32) :=
  bnd (iter (f3_winner_L9 p1 p2 p3 sh) F ((0 : Int32), (0 : Int32), (1 : Int32))) (
    fun (x117 : Int32) =>
      some x117
    )
def f3_latestValue_L5 (p1 : Int32) (p2 : Int32) (sh : T3) (s5 : Int32) : Option ((Int32) ⊕ ((Int32) ⊕ ((Unit)))) :=
  if s5 < (1 : Int32) then
    some (.inr (.inr ()))
  else
    grd (inb (s5 - (1 : Int32)) 40) <|
    jn (fun (v41 : Unit) =>
      some (.inl (s5 + (-1 : Int32)))
      ) (fun k41 =>
      if (sh.1 (s5 - (1 : Int32)).toNatClampNeg) = p1 then
        bnd (f3_matches s5 (0 : Int32) p2 sh) fun u26 =>
        if u26 = (0 : Int32) then
          k41 ()
        else
          some (.inr (.inl s5))
      else
        k41 ()
      )
def f3_latestValue (F : Nat) (p1 : Int32) (p2 : Int32) (sh : T3) : Option (Int32) :=
  bnd (iter (f3_latestValue_L5 p1 p2 sh) F sh.2.2.2.2.2.2.2.1) (
    fun (e5y : (Int32) ⊕ (Unit)) => cas e5y (fun (x32 : Int32) =>
      grd (inb (x32 - (1 : Int32)) 40) <|
      some (sh.2.1 (x32 - (1 : Int32)).toNatClampNeg)
      ) (
      fun (x47 : Unit) =>
        some (-1 : Int32)
      )
    )
def f3_isIdle_L2 (p1 : Int32) (sh : T3) (s2 : Int32) : Option ((Int32) ⊕ ((Unit) ⊕ ((Unit)))) :=
  if (3 : Int32) ≤ s2 then
    some (.inr (.inr ()))
  else
    bnd (f3_hasPattern p1 s2 sh) fun u10 =>
    jn (fun (v29 : Unit) =>
      some (.inl (s2 + (1 : Int32)))
      ) (fun k29 =>
      if u10 = (0 : Int32) then
        k29 ()
      else
        bnd (f3_hitsOf p1 s2 sh) fun u19 =>
        if (lg_cmp u19 (0 : Int64)) = (0 : Int32) then
          some (.inr (.inl ()))
        else
          k29 ()
      )
def f3_isIdle (F : Nat) (p1 : Int32) (sh : T3) : Option (Int32) :=
  bnd (iter (f3_isIdle_L2 p1 sh) F (0 : Int32)) (
    fun (e2y : (Unit) ⊕ (Unit)) => cas e2y (fun (x27 : Unit) =>
      some (1 : Int32)
      ) (
      fun (x35 : Unit) =>
        some (0 : Int32)
      )
    )
def f3_idleRow_L4 (F : Nat) (p1 : Int32) (sh : T3) (s4 : Int32 × Int32) : Option ((Int32 × Int32) ⊕ ((Int32) ⊕ ((Unit)))) :=
  if sh.2.2.2.2.2.2.2.1 < s4.2 then
    some (.inr (.inr ()))
  else
    bnd (f3_isIdle F s4.2 sh) fun u14 =>
    jn (fun (v30 : Int32) =>
      some (.inl (v30, (s4.2 + (1 : Int32))))
      ) (fun k30 =>
      if u14 = (0 : Int32) then
        k30 s4.1
      else
        if s4.1 = p1 then
          some (.inr (.inl s4.2))
        else
          k30 (s4.1 + (1 : Int32))
      )
def f3_idleRow (F : Nat) (p1 : Int32) (sh : T3) : Option (Int32) :=
  bnd (iter (f3_idleRow_L4 F p1 sh) F ((0 : Int32), (1 : Int32))) (
    fun (e4y : (Int32) ⊕ (Unit)) => cas e4y (fun (x25 : Int32) =>
      some x25
      ) (
      fun (x36 : Unit) =>
        some (-1 : Int32)
      )
    )
def f5_makesClock (p1 : Int32) : Option (Int32) :=
  if p1 = (0 : Int32) then
    some (1 : Int32)
  else
    if p1 = (1 : Int32) then
      some (1 : Int32)
    else
      if p1 = (2 : Int32) then
        some (1 : Int32)
      else
        some (0 : Int32)
def f3_haveClash (p1 : Int32) (p2 : Int32) (sh : T3) : Option (Int32) :=
  grd (inb (p1 - (1 : Int32)) 40) <|
  grd (inb (p2 - (1 : Int32)) 40) <|
  bnd (f5_makesClock (sh.1 (p1 - (1 : Int32)).toNatClampNeg)) fun u20 =>
  jn (fun (v39 : Int32) =>
    jn (fun (v83 : Int32) =>
      jn (fun (v95 : Unit) =>
        bnd (f3_hitsOf p1 (0 : Int32) sh) fun u98 =>
        bnd (f3_hitsOf p2 (0 : Int32) sh) fun u104 =>
        if (lg_cmp (u98 &&& u104) (0 : Int64)) = (0 : Int32) then
          some (0 : Int32)
        else
          some (1 : Int32)
        ) (fun k95 =>
        if v39 = (0 : Int32) then
          if v83 = (0 : Int32) then
            some (0 : Int32)
          else
            k95 ()
        else
          k95 ()
        )
      ) (fun k83 =>
      jn (fun (v53 : Unit) =>
        if (sh.1 (p1 - (1 : Int32)).toNatClampNeg) = (sh.1 (p2 - (1 : Int32)).toNatClampNeg) then
          grd (inb (p1 - (1 : Int32)) 40) <|
          grd (inb (p2 - (1 : Int32)) 40) <|
          if (sh.2.1 (p1 - (1 : Int32)).toNatClampNeg) = (sh.2.1 (p2 - (1 : Int32)).toNatClampNeg) then
            k83 (0 : Int32)
          else
            k83 (1 : Int32)
        else
          k83 (0 : Int32)
        ) (fun k53 =>
        if (sh.1 (p1 - (1 : Int32)).toNatClampNeg) = (8 : Int32) then
          k53 ()
        else
          if (sh.1 (p1 - (1 : Int32)).toNatClampNeg) = (9 : Int32) then
            k53 ()
          else
            k83 (0 : Int32)
        )
      )
    ) (fun k39 =>
    if u20 = (0 : Int32) then
      k39 (0 : Int32)
    else
      bnd (f5_makesClock (sh.1 (p2 - (1 : Int32)).toNatClampNeg)) fun u28 =>
      if u28 = (0 : Int32) then
        k39 (0 : Int32)
      else
        k39 (1 : Int32)
    )
def f3_clashingRow_L20 (p1 : Int32) (sh : T3) (s5 : Int32 × Int32) (s20 : Int32 × Int32) : Option ((Int32 × Int32) ⊕ ((Int32) ⊕ ((Int32)))) :=
  if sh.2.2.2.2.2.2.2.1 < s20.2 then
    some (.inr (.inr s20.1))
  else
    bnd (f3_haveClash s5.2 s20.2 sh) fun u34 =>
    jn (fun (v60 : Int32) =>
      some (.inl (v60, (s20.2 + (1 : Int32))))
      ) (fun k60 =>
      if u34 = (0 : Int32) then
        k60 s20.1
      else
        if s20.1 = p1 then
          some (.inr (.inl s20.2))
        else
          k60 (s20.1 + (1 : Int32))
      )
def f3_clashingRow_L5 (F : Nat) (p1 : Int32) (sh : T3) (s5 : Int32 × Int32) : Option ((Int32 × Int32) ⊕ ((Int32 × Int32) ⊕ ((Unit)))) :=
  if sh.2.2.2.2.2.2.2.1 < s5.2 then
    some (.inr (.inr ()))
  else
    bnd (iter (f3_clashingRow_L20 p1 sh s5) F (s5.1, (s5.2 + (1 : Int32)))) (
      fun (e20y : (Int32) ⊕ (Int32)) => cas e20y (fun (x45 : Int32) =>
        some (.inr (.inl (s5.2, x45)))
        ) (
        fun (x66 : Int32) =>
          some (.inl (x66, (s5.2 + (1 : Int32))))
        )
      )
def f3_clashingRow (F : Nat) (p1 : Int32) (p2 : Int32) (sh : T3) : Option (Int32) :=
  bnd (iter (f3_clashingRow_L5 F p1 sh) F ((0 : Int32), (1 : Int32))) (
    fun (e5y : (Int32 × Int32) ⊕ (Unit)) => cas e5y (fun (x45 : Int32 × Int32) =>
      if p2 = (0 : Int32) then
        some x45.1
      else
        some x45.2
      ) (
      fun (x72 : Unit) =>
        some (-1 : Int32)
      )
    )
def f4_takes (p1 : Int32) : Option (Int32) :=
  jn (fun (v12 : Unit) =>
    if p1 = (10 : Int32) then
      some (1 : Int32)
    else
      some (0 : Int32)
    ) (fun k12 =>
    if p1 < (32 : Int32) then
      k12 ()
    else
      if p1 ≤ (126 : Int32) then
        some (1 : Int32)
      else
        k12 ()
    )
def f4_room (tp : T4) : Option (Int32) :=
  some ((1200 : Int32) - tp.2)
def f4_append (p1 : Int32) (tp : T4) : Option (T4) :=
  if (1200 : Int32) ≤ tp.2 then
    some tp
  else
    grd (inb tp.2 1200) <|
    some ((upd tp.1 tp.2.toNatClampNeg (vp_nar .char (xi2c p1))), (tp.2 + (1 : Int32)))
def f4_wipe (tp : T4) : Option (T4) :=
  some (tp.1, (0 : Int32))
def f5_unit (p1 : Int32) (tp : T4) : Option (Int32 × T4) :=
  bnd (f4_takes p1) fun u1 =>
  if u1 = (0 : Int32) then
    some ((0 : Int32), tp)
  else
    bnd (f4_room tp) fun u11 =>
    if (1 : Int32) ≤ u11 then
      bnd (f4_append p1 tp) fun u25 =>
      some ((1 : Int32), u25)
    else
      some ((0 : Int32), tp)
def f5_units_L5 (p1 : Int32) (s5 : Int32 × Int32) : Option ((Int32 × Int32) ⊕ ((Unit) ⊕ ((Int32)))) :=
  if s5.2 < (0 : Int32) then
    some (.inr (.inr s5.1))
  else
    jn (fun (v36 : Int32) =>
      some (.inl (v36, (s5.2 + (-8 : Int32))))
      ) (fun k36 =>
      if ((xiushr p1 s5.2) &&& (255 : Int32)) = (0 : Int32) then
        k36 s5.1
      else
        bnd (f4_takes ((xiushr p1 s5.2) &&& (255 : Int32))) fun u25 =>
        if u25 = (0 : Int32) then
          some (.inr (.inl ()))
        else
          k36 (s5.1 + (1 : Int32))
      )
def f5_units_L58 (p1 : Int32) (s58 : Int32 × T4) : Option ((Int32 × T4) ⊕ ((T4))) :=
  if s58.1 < (0 : Int32) then
    some (.inr s58.2)
  else
    jn (fun (v85 : T4) =>
      some (.inl ((s58.1 + (-8 : Int32)), v85))
      ) (fun k85 =>
      if ((xiushr p1 s58.1) &&& (255 : Int32)) = (0 : Int32) then
        k85 s58.2
      else
        bnd (f4_append ((xiushr p1 s58.1) &&& (255 : Int32)) s58.2) fun u82 =>
        k85 u82
      )
def f5_units (F : Nat) (p1 : Int32) (tp : T4) : Option (Int32 × T4) :=
  bnd (iter (f5_units_L5 p1) F ((0 : Int32), (24 : Int32))) (
    fun (e5y : (Unit) ⊕ (Int32)) => cas e5y (fun (x31 : Unit) =>
      some ((0 : Int32), tp)
      ) (
      fun (x42 : Int32) =>
        bnd (f4_room tp) fun u46 =>
        if x42 ≤ u46 then
          bnd (iter (f5_units_L58 p1) F ((24 : Int32), tp)) (
            fun (x91 : T4) =>
              some ((1 : Int32), x91)
            )
        else
          some ((0 : Int32), tp)
      )
    )
def f5_name (F : Nat) (p1 : Int32) (p2 : Int32) (pn : T1) (sh : T3) : Option (Option (Int32 × T1 × T3)) :=
  bnd (f1_has p1) fun u1 =>
  if u1 = (0 : Int32) then
    some none
  else
    bnd (f5_isNameUnit p2) fun u18 =>
    if u18 = (0 : Int32) then
      some (some ((0 : Int32), pn, sh))
    else
      bnd (f1_grow p1 p2 pn) fun u30 =>
      if u30.1 = (0 : Int32) then
        some (some ((0 : Int32), u30.2, sh))
      else
        bnd (f3_matchPin F p1 sh u30.2) fun u47 =>
        some (some ((1 : Int32), u30.2, u47))
def f5_read_L41 (F : Nat) (pn : T1) (s41 : Int32 × T3) : Option ((Int32 × T3) ⊕ ((T3))) :=
  if (40 : Int32) ≤ s41.1 then
    some (.inr s41.2)
  else
    bnd (f3_matchPin F s41.1 s41.2 pn) fun u56 =>
    some (.inl ((s41.1 + (1 : Int32)), u56))
def f5_read (F : Nat) (rd : T2) (sp : T3) (sk : T0) (tp : T4) (sh : T3) (ck : T0) (pn : T1) : Option (Int32 × T2 × T3 × T0 × T4 × T3 × T0 × Bool) :=
  bnd (f2_faultOfTape F rd sp sk tp) fun u4 =>
  bnd (f4_wipe tp) fun u12 =>
  if u4.1 = (-1 : Int32) then
    bnd (iter (f5_read_L41 F pn) F ((0 : Int32), u4.2.2.1)) (
      fun (x65 : T3) =>
        some (x65.2.2.2.2.2.2.2.1, u4.2.1, sh, ck, u12, x65, u4.2.2.2, true)
      )
  else
    some (((-1 : Int32) - u4.1), u4.2.1, u4.2.2.1, u4.2.2.2, u12, sh, ck, false)
def f113_bitCount (p1 : Int64) : Option (Int32) :=
  some (((((((((p1 - ((xlushr p1 (1 : Int32)) &&& (6148914691236517205 : Int64))) &&& (3689348814741910323 : Int64)) + ((xlushr (p1 - ((xlushr p1 (1 : Int32)) &&& (6148914691236517205 : Int64))) (2 : Int32)) &&& (3689348814741910323 : Int64))) + (xlushr (((p1 - ((xlushr p1 (1 : Int32)) &&& (6148914691236517205 : Int64))) &&& (3689348814741910323 : Int64)) + ((xlushr (p1 - ((xlushr p1 (1 : Int32)) &&& (6148914691236517205 : Int64))) (2 : Int32)) &&& (3689348814741910323 : Int64))) (4 : Int32))) &&& (1085102592571150095 : Int64)) + (xlushr (((((p1 - ((xlushr p1 (1 : Int32)) &&& (6148914691236517205 : Int64))) &&& (3689348814741910323 : Int64)) + ((xlushr (p1 - ((xlushr p1 (1 : Int32)) &&& (6148914691236517205 : Int64))) (2 : Int32)) &&& (3689348814741910323 : Int64))) + (xlushr (((p1 - ((xlushr p1 (1 : Int32)) &&& (6148914691236517205 : Int64))) &&& (3689348814741910323 : Int64)) + ((xlushr (p1 - ((xlushr p1 (1 : Int32)) &&& (6148914691236517205 : Int64))) (2 : Int32)) &&& (3689348814741910323 : Int64))) (4 : Int32))) &&& (1085102592571150095 : Int64)) (8 : Int32))) + (xlushr ((((((p1 - ((xlushr p1 (1 : Int32)) &&& (6148914691236517205 : Int64))) &&& (3689348814741910323 : Int64)) + ((xlushr (p1 - ((xlushr p1 (1 : Int32)) &&& (6148914691236517205 : Int64))) (2 : Int32)) &&& (3689348814741910323 : Int64))) + (xlushr (((p1 - ((xlushr p1 (1 : Int32)) &&& (6148914691236517205 : Int64))) &&& (3689348814741910323 : Int64)) + ((xlushr (p1 - ((xlushr p1 (1 : Int32)) &&& (6148914691236517205 : Int64))) (2 : Int32)) &&& (3689348814741910323 : Int64))) (4 : Int32))) &&& (1085102592571150095 : Int64)) + (xlushr (((((p1 - ((xlushr p1 (1 : Int32)) &&& (6148914691236517205 : Int64))) &&& (3689348814741910323 : Int64)) + ((xlushr (p1 - ((xlushr p1 (1 : Int32)) &&& (6148914691236517205 : Int64))) (2 : Int32)) &&& (3689348814741910323 : Int64))) + (xlushr (((p1 - ((xlushr p1 (1 : Int32)) &&& (6148914691236517205 : Int64))) &&& (3689348814741910323 : Int64)) + ((xlushr (p1 - ((xlushr p1 (1 : Int32)) &&& (6148914691236517205 : Int64))) (2 : Int32)) &&& (3689348814741910323 : Int64))) (4 : Int32))) &&& (1085102592571150095 : Int64)) (8 : Int32))) (16 : Int32))) + (xlushr (((((((p1 - ((xlushr p1 (1 : Int32)) &&& (6148914691236517205 : Int64))) &&& (3689348814741910323 : Int64)) + ((xlushr (p1 - ((xlushr p1 (1 : Int32)) &&& (6148914691236517205 : Int64))) (2 : Int32)) &&& (3689348814741910323 : Int64))) + (xlushr (((p1 - ((xlushr p1 (1 : Int32)) &&& (6148914691236517205 : Int64))) &&& (3689348814741910323 : Int64)) + ((xlushr (p1 - ((xlushr p1 (1 : Int32)) &&& (6148914691236517205 : Int64))) (2 : Int32)) &&& (3689348814741910323 : Int64))) (4 : Int32))) &&& (1085102592571150095 : Int64)) + (xlushr (((((p1 - ((xlushr p1 (1 : Int32)) &&& (6148914691236517205 : Int64))) &&& (3689348814741910323 : Int64)) + ((xlushr (p1 - ((xlushr p1 (1 : Int32)) &&& (6148914691236517205 : Int64))) (2 : Int32)) &&& (3689348814741910323 : Int64))) + (xlushr (((p1 - ((xlushr p1 (1 : Int32)) &&& (6148914691236517205 : Int64))) &&& (3689348814741910323 : Int64)) + ((xlushr (p1 - ((xlushr p1 (1 : Int32)) &&& (6148914691236517205 : Int64))) (2 : Int32)) &&& (3689348814741910323 : Int64))) (4 : Int32))) &&& (1085102592571150095 : Int64)) (8 : Int32))) + (xlushr ((((((p1 - ((xlushr p1 (1 : Int32)) &&& (6148914691236517205 : Int64))) &&& (3689348814741910323 : Int64)) + ((xlushr (p1 - ((xlushr p1 (1 : Int32)) &&& (6148914691236517205 : Int64))) (2 : Int32)) &&& (3689348814741910323 : Int64))) + (xlushr (((p1 - ((xlushr p1 (1 : Int32)) &&& (6148914691236517205 : Int64))) &&& (3689348814741910323 : Int64)) + ((xlushr (p1 - ((xlushr p1 (1 : Int32)) &&& (6148914691236517205 : Int64))) (2 : Int32)) &&& (3689348814741910323 : Int64))) (4 : Int32))) &&& (1085102592571150095 : Int64)) + (xlushr (((((p1 - ((xlushr p1 (1 : Int32)) &&& (6148914691236517205 : Int64))) &&& (3689348814741910323 : Int64)) + ((xlushr (p1 - ((xlushr p1 (1 : Int32)) &&& (6148914691236517205 : Int64))) (2 : Int32)) &&& (3689348814741910323 : Int64))) + (xlushr (((p1 - ((xlushr p1 (1 : Int32)) &&& (6148914691236517205 : Int64))) &&& (3689348814741910323 : Int64)) + ((xlushr (p1 - ((xlushr p1 (1 : Int32)) &&& (6148914691236517205 : Int64))) (2 : Int32)) &&& (3689348814741910323 : Int64))) (4 : Int32))) &&& (1085102592571150095 : Int64)) (8 : Int32))) (16 : Int32))) (32 : Int32))).toInt32 &&& (127 : Int32))
def f5_clock (p1 : Int32) (p2 : Int32) (sh : T3) (ck : T0) : Option (Option (Int32)) :=
  bnd (f0_has p1 ck) fun u8 =>
  if u8 = (0 : Int32) then
    some none
  else
    if p2 < (0 : Int32) then
      some none
    else
      if p2 ≤ (6 : Int32) then
        if p2 = (6 : Int32) then
          grd (inb p1 12) <|
          bnd (f3_hitsOf (ck.1 p1.toNatClampNeg) (0 : Int32) sh) fun u57 =>
          bnd (f113_bitCount u57) fun u60 =>
          some (some u60)
        else
          bnd (f0_fact p1 p2 ck) fun u73 =>
          some (some u73)
      else
        some none
def f5_edge (F : Nat) (p1 : Int32) (p2 : Int32) (p3 : Int32) (sh : T3) (ck : T0) : Option (Option (Int64)) :=
  bnd (f0_has p1 ck) fun u8 =>
  if u8 = (0 : Int32) then
    some none
  else
    if p2 < (0 : Int32) then
      some none
    else
      if (1000 : Int32) < p2 then
        some none
      else
        if p3 < (0 : Int32) then
          some none
        else
          if p3 ≤ (2 : Int32) then
            bnd (f0_edgePart F p1 p2 p3 ck) fun u54 =>
            some (some u54)
          else
            some none
def f5_distance (F : Nat) (p1 : Int32) (p2 : Int32) (p3 : Int32) (sh : T3) (ck : T0) : Option (Option (Int64)) :=
  bnd (f0_has p1 ck) fun u8 =>
  if u8 = (0 : Int32) then
    some none
  else
    bnd (f0_has p2 ck) fun u22 =>
    if u22 = (0 : Int32) then
      some none
    else
      if p3 < (0 : Int32) then
        some none
      else
        if p3 ≤ (1 : Int32) then
          bnd (f3_saysApart F p1 p2 sh) fun u53 =>
          if u53 = (0 : Int32) then
            bnd (f0_distancePart F p1 p2 p3 ck) fun u72 =>
            some (some u72)
          else
            some (some p3.toInt64)
        else
          some none
def f5_isPinOrNone (p1 : Int32) : Option (Int32) :=
  if p1 = (-1 : Int32) then
    some (1 : Int32)
  else
    bnd (f1_has p1) fun u6 =>
    if u6 = (0 : Int32) then
      some (0 : Int32)
    else
      some (1 : Int32)
def f5_exception (F : Nat) (p1 : Int32) (p2 : Int32) (p3 : Int32) (sh : T3) : Option (Option (Int32)) :=
  bnd (f5_isPinOrNone p1) fun u1 =>
  if u1 = (0 : Int32) then
    some none
  else
    bnd (f5_isPinOrNone p2) fun u8 =>
    if u8 = (0 : Int32) then
      some none
    else
      bnd (f5_isPinOrNone p3) fun u15 =>
      if u15 = (0 : Int32) then
        some none
      else
        bnd (f3_winner F p1 p2 p3 sh) fun u38 =>
        some (some u38)
def f5_row (p1 : Int32) (p2 : Int32) (sh : T3) : Option (Option (Int32)) :=
  if p1 < (1 : Int32) then
    some none
  else
    if sh.2.2.2.2.2.2.2.1 < p1 then
      some none
    else
      if p2 < (0 : Int32) then
        some none
      else
        if p2 ≤ (1 : Int32) then
          if p2 = (0 : Int32) then
            grd (inb (p1 - (1 : Int32)) 40) <|
            some (some (sh.1 (p1 - (1 : Int32)).toNatClampNeg))
          else
            grd (inb (p1 - (1 : Int32)) 40) <|
            some (some (sh.2.1 (p1 - (1 : Int32)).toNatClampNeg))
        else
          some none
def f5_load (F : Nat) (p1 : Int32) (p2 : Int32) (sh : T3) : Option (Option (Int32)) :=
  bnd (f1_has p1) fun u1 =>
  if u1 = (0 : Int32) then
    some none
  else
    if p2 < (0 : Int32) then
      some none
    else
      if p2 ≤ (1 : Int32) then
        jn (fun (v41 : Int32) =>
          bnd (f3_latestValue F v41 p1 sh) fun u42 =>
          some (some u42)
          ) (fun k41 =>
          if p2 = (0 : Int32) then
            k41 (8 : Int32)
          else
            k41 (9 : Int32)
          )
      else
        some none
def f5_unmatched (F : Nat) (p1 : Int32) (sh : T3) : Option (Option (Int32)) :=
  if (0 : Int32) ≤ p1 then
    bnd (f3_idleRow F p1 sh) fun u19 =>
    some (some u19)
  else
    some none
def f5_clash (F : Nat) (p1 : Int32) (p2 : Int32) (sh : T3) : Option (Option (Int32)) :=
  if p1 < (0 : Int32) then
    some none
  else
    if p2 < (0 : Int32) then
      some none
    else
      if p2 ≤ (1 : Int32) then
        bnd (f3_clashingRow F p1 p2 sh) fun u29 =>
        some (some u29)
      else
        some none
def f5_write (p1 : Int32) (sh : T3) : Option (Option (Int32)) :=
  if (0 : Int32) ≤ p1 then
    if sh.2.2.2.2.2.2.2.2 ≤ p1 then
      some (some (-1 : Int32))
    else
      bnd (f3_printedAt p1 sh) fun u30 =>
      some (some u30)
  else
    some none
def f5_count (p1 : Int32) (sh : T3) (tp : T4) (ck : T0) : Option (Option (Int32)) :=
  if p1 = (0 : Int32) then
    some (some sh.2.2.2.2.2.2.2.1)
  else
    if p1 = (1 : Int32) then
      some (some ck.2.2.2.2.2.2.2.2.2.2.2)
    else
      if p1 = (2 : Int32) then
        some (some tp.2)
      else
        if p1 = (3 : Int32) then
          some (some sh.2.2.2.2.2.2.2.2)
        else
          some none
