abbrev rm0_has : Room := { frames := 0, cells := 0, slots := 0, locals := 0 }
set_option maxHeartbeats 4000000 in
set_option maxRecDepth 100000 in
theorem c0_has (l : Launch) (D : va_G) (kA : Nat → ClassId) (a_ck : Nat → Nat) (p1 : Int32) (ck : T0) (res : Int32) (h : f0_has p1 ck = some res) : Ro l yX0_has cX0_has 2 (some .boolean) rm0_has D kA [.ref (a_ck 0), .int p1] [(a_ck 0, .inr (0, [.ref (a_ck 1), .ref (a_ck 2), .ref (a_ck 3), .ref (a_ck 4), .ref (a_ck 5), .ref (a_ck 6), .ref (a_ck 7), .ref (a_ck 8), .ref (a_ck 9), .ref (a_ck 10), .ref (a_ck 11), .int ck.2.2.2.2.2.2.2.2.2.2.2])), (a_ck 1, .inl (kA 0, 12, .inl ck.1)), (a_ck 2, .inl (kA 0, 12, .inl ck.2.1)), (a_ck 3, .inl (kA 3, 12, .inl ck.2.2.1)), (a_ck 4, .inl (kA 0, 12, .inl ck.2.2.2.1)), (a_ck 5, .inl (kA 0, 12, .inl ck.2.2.2.2.1)), (a_ck 6, .inl (kA 2, 12, .inr (.inl ck.2.2.2.2.2.1))), (a_ck 7, .inl (kA 2, 12, .inr (.inl ck.2.2.2.2.2.2.1))), (a_ck 8, .inl (kA 2, 12, .inr (.inl ck.2.2.2.2.2.2.2.1))), (a_ck 9, .inl (kA 2, 12, .inr (.inl ck.2.2.2.2.2.2.2.2.1))), (a_ck 10, .inl (kA 3, 12, .inl ck.2.2.2.2.2.2.2.2.2.1)), (a_ck 11, .inl (kA 3, 12, .inl ck.2.2.2.2.2.2.2.2.2.2.1))] (.int res) := by
  refine Ro.of (by decide +kernel) (Nat.le_of_ble_eq_true rfl) ?_
  intro p e s m args below meth c hF hP hK ls hl
  generalize hQ : roQ below _ args s = Q
  obtain ⟨hx, hb, hml, hown, hr, hk, hts, hN⟩ := hF
  have hl : lv_has ls 2 [(0, .ref (a_ck 0)), (1, .int p1)] := hl
  unfold f0_has at h
  refine lv_iload_n hx hb dX0_has_0 rfl (lv_at hl 1 rfl) ?_
  refine lv_if_lt (tgt := 16) hx hb dX0_has_1 (by decide) (fun bc => ?_) (fun bc => ?_)
  · have h := ite_t bc h
    refine lv_iconst (v := 0) hx hb dX0_has_16 (by decide) ?_
    obtain rfl := Option.some.inj h
    rw [← hQ]
    exact ro_zreturn hx hb hr hk nz_Z0 dX0_has_17
  · have h := ite_f bc h
    refine lv_iload_n hx hb dX0_has_4 rfl (lv_at hl 1 rfl) ?_
    refine lv_aload_n hx hb dX0_has_5 rfl (lv_at hl 0 rfl) ?_
    refine va_get (D := D) (ci := 0) (v := .int ck.2.2.2.2.2.2.2.2.2.2.2) (C := "ConstraintText$ClockTable") (T := TX0) (N := 12) hx hb hts ing0 hown hK hP 0 rfl rfl 11 (by decide) (hts _ tw_149) (fun _ h9 => h9) rfl dX0_has_6 ?_
    refine lv_icmp_ge (tgt := 16) hx hb dX0_has_9 (by decide) (fun bc => ?_) (fun bc => ?_)
    · have h := ite_t bc h
      refine lv_iconst (v := 0) hx hb dX0_has_16 (by decide) ?_
      obtain rfl := Option.some.inj h
      rw [← hQ]
      exact ro_zreturn hx hb hr hk nz_Z0 dX0_has_17
    · have h := ite_f bc h
      refine lv_iconst (v := 1) hx hb dX0_has_12 (by decide) ?_
      refine lv_goto (tgt := 17) hx hb dX0_has_13 (by decide) ?_
      obtain rfl := Option.some.inj h
      rw [← hQ]
      exact ro_zreturn hx hb hr hk nz_Z1 dX0_has_17
abbrev rm0_wipe : Room := { frames := 0, cells := 0, slots := 0, locals := 0 }
set_option maxHeartbeats 4000000 in
set_option maxRecDepth 100000 in
theorem c0_wipe (l : Launch) (D : va_G) (kA : Nat → ClassId) (a_ck : Nat → Nat) (ck : T0) (res : T0) (h : f0_wipe ck = some res) : Rw l yX0_wipe cX0_wipe 1 none rm0_wipe D kA [.ref (a_ck 0)] [(a_ck 0, .inr (0, [.ref (a_ck 1), .ref (a_ck 2), .ref (a_ck 3), .ref (a_ck 4), .ref (a_ck 5), .ref (a_ck 6), .ref (a_ck 7), .ref (a_ck 8), .ref (a_ck 9), .ref (a_ck 10), .ref (a_ck 11), .int ck.2.2.2.2.2.2.2.2.2.2.2])), (a_ck 1, .inl (kA 0, 12, .inl ck.1)), (a_ck 2, .inl (kA 0, 12, .inl ck.2.1)), (a_ck 3, .inl (kA 3, 12, .inl ck.2.2.1)), (a_ck 4, .inl (kA 0, 12, .inl ck.2.2.2.1)), (a_ck 5, .inl (kA 0, 12, .inl ck.2.2.2.2.1)), (a_ck 6, .inl (kA 2, 12, .inr (.inl ck.2.2.2.2.2.1))), (a_ck 7, .inl (kA 2, 12, .inr (.inl ck.2.2.2.2.2.2.1))), (a_ck 8, .inl (kA 2, 12, .inr (.inl ck.2.2.2.2.2.2.2.1))), (a_ck 9, .inl (kA 2, 12, .inr (.inl ck.2.2.2.2.2.2.2.2.1))), (a_ck 10, .inl (kA 3, 12, .inl ck.2.2.2.2.2.2.2.2.2.1)), (a_ck 11, .inl (kA 3, 12, .inl ck.2.2.2.2.2.2.2.2.2.2.1))] none [(a_ck 0, .inr (0, [.ref (a_ck 1), .ref (a_ck 2), .ref (a_ck 3), .ref (a_ck 4), .ref (a_ck 5), .ref (a_ck 6), .ref (a_ck 7), .ref (a_ck 8), .ref (a_ck 9), .ref (a_ck 10), .ref (a_ck 11), .int res.2.2.2.2.2.2.2.2.2.2.2])), (a_ck 1, .inl (kA 0, 12, .inl res.1)), (a_ck 2, .inl (kA 0, 12, .inl res.2.1)), (a_ck 3, .inl (kA 3, 12, .inl res.2.2.1)), (a_ck 4, .inl (kA 0, 12, .inl res.2.2.2.1)), (a_ck 5, .inl (kA 0, 12, .inl res.2.2.2.2.1)), (a_ck 6, .inl (kA 2, 12, .inr (.inl res.2.2.2.2.2.1))), (a_ck 7, .inl (kA 2, 12, .inr (.inl res.2.2.2.2.2.2.1))), (a_ck 8, .inl (kA 2, 12, .inr (.inl res.2.2.2.2.2.2.2.1))), (a_ck 9, .inl (kA 2, 12, .inr (.inl res.2.2.2.2.2.2.2.2.1))), (a_ck 10, .inl (kA 3, 12, .inl res.2.2.2.2.2.2.2.2.2.1)), (a_ck 11, .inl (kA 3, 12, .inl res.2.2.2.2.2.2.2.2.2.2.1))] := by
  refine Rw.of (by decide) (Nat.le_of_ble_eq_true rfl) ?_
  intro p e s m args below meth c A hF hP hD hS hA hK ls hl
  generalize hQ : rwQ below D A _ _ args s = Q
  obtain ⟨hx, hb, hml, hown, hr, hk, hts, hN⟩ := hF
  have hl : lv_has ls 1 [(0, .ref (a_ck 0))] := hl
  unfold f0_wipe at h
  refine lv_aload_n hx hb dX0_wipe_0 rfl (lv_at hl 0 rfl) ?_
  refine lv_iconst (v := 0) hx hb dX0_wipe_1 (by decide) ?_
  refine va_put (D := D) (ci := 0) (v := .int (0 : Int32)) (ty := .int) (C := "ConstraintText$ClockTable") (T := TX0) (N := 12) hx hb hts ing0 tyX0 tyX0_ok nmX0 hown hK hP hD hS 0 rfl rfl 11 (by decide) (hts _ tw_149) (fun _ h9 => h9) rfl (tyX0_ok 11 (by decide)) rfl rfl (Nat.le_of_ble_eq_true rfl) dX0_wipe_2 (fun H locs hP hD hS => ?_)
  have hP : va_P D vwCl [(a_ck 0, .inr (0, [.ref (a_ck 1), .ref (a_ck 2), .ref (a_ck 3), .ref (a_ck 4), .ref (a_ck 5), .ref (a_ck 6), .ref (a_ck 7), .ref (a_ck 8), .ref (a_ck 9), .ref (a_ck 10), .ref (a_ck 11), .int (0 : Int32)])), (a_ck 1, .inl (kA 0, 12, .inl ck.1)), (a_ck 2, .inl (kA 0, 12, .inl ck.2.1)), (a_ck 3, .inl (kA 3, 12, .inl ck.2.2.1)), (a_ck 4, .inl (kA 0, 12, .inl ck.2.2.2.1)), (a_ck 5, .inl (kA 0, 12, .inl ck.2.2.2.2.1)), (a_ck 6, .inl (kA 2, 12, .inr (.inl ck.2.2.2.2.2.1))), (a_ck 7, .inl (kA 2, 12, .inr (.inl ck.2.2.2.2.2.2.1))), (a_ck 8, .inl (kA 2, 12, .inr (.inl ck.2.2.2.2.2.2.2.1))), (a_ck 9, .inl (kA 2, 12, .inr (.inl ck.2.2.2.2.2.2.2.2.1))), (a_ck 10, .inl (kA 3, 12, .inl ck.2.2.2.2.2.2.2.2.2.1)), (a_ck 11, .inl (kA 3, 12, .inl ck.2.2.2.2.2.2.2.2.2.2.1))] H := hP
  have hD : va_D A [(a_ck 0, .inr (0, [.ref (a_ck 1), .ref (a_ck 2), .ref (a_ck 3), .ref (a_ck 4), .ref (a_ck 5), .ref (a_ck 6), .ref (a_ck 7), .ref (a_ck 8), .ref (a_ck 9), .ref (a_ck 10), .ref (a_ck 11), .int (0 : Int32)])), (a_ck 1, .inl (kA 0, 12, .inl ck.1)), (a_ck 2, .inl (kA 0, 12, .inl ck.2.1)), (a_ck 3, .inl (kA 3, 12, .inl ck.2.2.1)), (a_ck 4, .inl (kA 0, 12, .inl ck.2.2.2.1)), (a_ck 5, .inl (kA 0, 12, .inl ck.2.2.2.2.1)), (a_ck 6, .inl (kA 2, 12, .inr (.inl ck.2.2.2.2.2.1))), (a_ck 7, .inl (kA 2, 12, .inr (.inl ck.2.2.2.2.2.2.1))), (a_ck 8, .inl (kA 2, 12, .inr (.inl ck.2.2.2.2.2.2.2.1))), (a_ck 9, .inl (kA 2, 12, .inr (.inl ck.2.2.2.2.2.2.2.2.1))), (a_ck 10, .inl (kA 3, 12, .inl ck.2.2.2.2.2.2.2.2.2.1)), (a_ck 11, .inl (kA 3, 12, .inl ck.2.2.2.2.2.2.2.2.2.2.1))] := hD
  obtain rfl := Option.some.inj h
  rw [← hQ]
  exact rw_return hx hb hr hk  dX0_wipe_5  hP hD hS
abbrev rm0_open : Room := { frames := 0, cells := 0, slots := 0, locals := 0 }
set_option maxHeartbeats 4000000 in
set_option maxRecDepth 100000 in
theorem c0_open (l : Launch) (D : va_G) (kA : Nat → ClassId) (a_ck : Nat → Nat) (p1 : Int32) (ck : T0) (res : T0) (h : f0_open p1 ck = some res) : Rw l yX0_open cX0_open 2 none rm0_open D kA [.ref (a_ck 0), .int p1] [(a_ck 0, .inr (0, [.ref (a_ck 1), .ref (a_ck 2), .ref (a_ck 3), .ref (a_ck 4), .ref (a_ck 5), .ref (a_ck 6), .ref (a_ck 7), .ref (a_ck 8), .ref (a_ck 9), .ref (a_ck 10), .ref (a_ck 11), .int ck.2.2.2.2.2.2.2.2.2.2.2])), (a_ck 1, .inl (kA 0, 12, .inl ck.1)), (a_ck 2, .inl (kA 0, 12, .inl ck.2.1)), (a_ck 3, .inl (kA 3, 12, .inl ck.2.2.1)), (a_ck 4, .inl (kA 0, 12, .inl ck.2.2.2.1)), (a_ck 5, .inl (kA 0, 12, .inl ck.2.2.2.2.1)), (a_ck 6, .inl (kA 2, 12, .inr (.inl ck.2.2.2.2.2.1))), (a_ck 7, .inl (kA 2, 12, .inr (.inl ck.2.2.2.2.2.2.1))), (a_ck 8, .inl (kA 2, 12, .inr (.inl ck.2.2.2.2.2.2.2.1))), (a_ck 9, .inl (kA 2, 12, .inr (.inl ck.2.2.2.2.2.2.2.2.1))), (a_ck 10, .inl (kA 3, 12, .inl ck.2.2.2.2.2.2.2.2.2.1)), (a_ck 11, .inl (kA 3, 12, .inl ck.2.2.2.2.2.2.2.2.2.2.1))] none [(a_ck 0, .inr (0, [.ref (a_ck 1), .ref (a_ck 2), .ref (a_ck 3), .ref (a_ck 4), .ref (a_ck 5), .ref (a_ck 6), .ref (a_ck 7), .ref (a_ck 8), .ref (a_ck 9), .ref (a_ck 10), .ref (a_ck 11), .int res.2.2.2.2.2.2.2.2.2.2.2])), (a_ck 1, .inl (kA 0, 12, .inl res.1)), (a_ck 2, .inl (kA 0, 12, .inl res.2.1)), (a_ck 3, .inl (kA 3, 12, .inl res.2.2.1)), (a_ck 4, .inl (kA 0, 12, .inl res.2.2.2.1)), (a_ck 5, .inl (kA 0, 12, .inl res.2.2.2.2.1)), (a_ck 6, .inl (kA 2, 12, .inr (.inl res.2.2.2.2.2.1))), (a_ck 7, .inl (kA 2, 12, .inr (.inl res.2.2.2.2.2.2.1))), (a_ck 8, .inl (kA 2, 12, .inr (.inl res.2.2.2.2.2.2.2.1))), (a_ck 9, .inl (kA 2, 12, .inr (.inl res.2.2.2.2.2.2.2.2.1))), (a_ck 10, .inl (kA 3, 12, .inl res.2.2.2.2.2.2.2.2.2.1)), (a_ck 11, .inl (kA 3, 12, .inl res.2.2.2.2.2.2.2.2.2.2.1))] := by
  refine Rw.of (by decide) (Nat.le_of_ble_eq_true rfl) ?_
  intro p e s m args below meth c A hF hP hD hS hA hK ls hl
  generalize hQ : rwQ below D A _ _ args s = Q
  obtain ⟨hx, hb, hml, hown, hr, hk, hts, hN⟩ := hF
  have hl : lv_has ls 2 [(0, .ref (a_ck 0)), (1, .int p1)] := hl
  unfold f0_open at h
  refine lv_aload_n hx hb dX0_open_0 rfl (lv_at hl 0 rfl) ?_
  refine va_get (D := D) (ci := 0) (v := .int ck.2.2.2.2.2.2.2.2.2.2.2) (C := "ConstraintText$ClockTable") (T := TX0) (N := 12) hx hb hts ing0 hown hK hP 0 rfl rfl 11 (by decide) (hts _ tw_149) (fun _ h9 => h9) rfl dX0_open_1 ?_
  refine lv_bipush (v := 12) hx hb dX0_open_4 (by decide) ?_
  refine lv_icmp_ge (tgt := 59) hx hb dX0_open_6 (by decide) (fun bc => ?_) (fun bc => ?_)
  · have h := ite_t bc h
    obtain rfl := Option.some.inj h
    rw [← hQ]
    exact rw_return hx hb hr hk  dX0_open_59  hP hD hS
  · have h := ite_f bc h
    refine lv_aload_n hx hb dX0_open_9 rfl (lv_at hl 0 rfl) ?_
    refine va_get (D := D) (ci := 0) (v := .ref (a_ck 1)) (C := "ConstraintText$ClockTable") (T := TX0) (N := 12) hx hb hts ing0 hown hK hP 0 rfl rfl 0 (by decide) (hts _ tw_134) (fun _ h9 => h9) rfl dX0_open_10 ?_
    refine lv_aload_n hx hb dX0_open_13 rfl (lv_at hl 0 rfl) ?_
    refine va_get (D := D) (ci := 0) (v := .int ck.2.2.2.2.2.2.2.2.2.2.2) (C := "ConstraintText$ClockTable") (T := TX0) (N := 12) hx hb hts ing0 hown hK hP 0 rfl rfl 11 (by decide) (hts _ tw_149) (fun _ h9 => h9) rfl dX0_open_14 ?_
    refine lv_iload_n hx hb dX0_open_17 rfl (lv_at hl 1 rfl) ?_
    obtain ⟨g18, h⟩ := grd_some h
    refine va_iast hx hb hK hP hD hS 1 0 rfl rfl (inb_in g18) dX0_open_18 (fun H locs hP hD hS => ?_)
    have hP : va_P D vwCl [(a_ck 0, .inr (0, [.ref (a_ck 1), .ref (a_ck 2), .ref (a_ck 3), .ref (a_ck 4), .ref (a_ck 5), .ref (a_ck 6), .ref (a_ck 7), .ref (a_ck 8), .ref (a_ck 9), .ref (a_ck 10), .ref (a_ck 11), .int ck.2.2.2.2.2.2.2.2.2.2.2])), (a_ck 1, .inl (kA 0, 12, .inl (upd ck.1 ck.2.2.2.2.2.2.2.2.2.2.2.toNatClampNeg p1))), (a_ck 2, .inl (kA 0, 12, .inl ck.2.1)), (a_ck 3, .inl (kA 3, 12, .inl ck.2.2.1)), (a_ck 4, .inl (kA 0, 12, .inl ck.2.2.2.1)), (a_ck 5, .inl (kA 0, 12, .inl ck.2.2.2.2.1)), (a_ck 6, .inl (kA 2, 12, .inr (.inl ck.2.2.2.2.2.1))), (a_ck 7, .inl (kA 2, 12, .inr (.inl ck.2.2.2.2.2.2.1))), (a_ck 8, .inl (kA 2, 12, .inr (.inl ck.2.2.2.2.2.2.2.1))), (a_ck 9, .inl (kA 2, 12, .inr (.inl ck.2.2.2.2.2.2.2.2.1))), (a_ck 10, .inl (kA 3, 12, .inl ck.2.2.2.2.2.2.2.2.2.1)), (a_ck 11, .inl (kA 3, 12, .inl ck.2.2.2.2.2.2.2.2.2.2.1))] H := hP
    have hD : va_D A [(a_ck 0, .inr (0, [.ref (a_ck 1), .ref (a_ck 2), .ref (a_ck 3), .ref (a_ck 4), .ref (a_ck 5), .ref (a_ck 6), .ref (a_ck 7), .ref (a_ck 8), .ref (a_ck 9), .ref (a_ck 10), .ref (a_ck 11), .int ck.2.2.2.2.2.2.2.2.2.2.2])), (a_ck 1, .inl (kA 0, 12, .inl (upd ck.1 ck.2.2.2.2.2.2.2.2.2.2.2.toNatClampNeg p1))), (a_ck 2, .inl (kA 0, 12, .inl ck.2.1)), (a_ck 3, .inl (kA 3, 12, .inl ck.2.2.1)), (a_ck 4, .inl (kA 0, 12, .inl ck.2.2.2.1)), (a_ck 5, .inl (kA 0, 12, .inl ck.2.2.2.2.1)), (a_ck 6, .inl (kA 2, 12, .inr (.inl ck.2.2.2.2.2.1))), (a_ck 7, .inl (kA 2, 12, .inr (.inl ck.2.2.2.2.2.2.1))), (a_ck 8, .inl (kA 2, 12, .inr (.inl ck.2.2.2.2.2.2.2.1))), (a_ck 9, .inl (kA 2, 12, .inr (.inl ck.2.2.2.2.2.2.2.2.1))), (a_ck 10, .inl (kA 3, 12, .inl ck.2.2.2.2.2.2.2.2.2.1)), (a_ck 11, .inl (kA 3, 12, .inl ck.2.2.2.2.2.2.2.2.2.2.1))] := hD
    refine lv_aload_n hx hb dX0_open_19 rfl (lv_at hl 0 rfl) ?_
    refine va_get (D := D) (ci := 0) (v := .ref (a_ck 2)) (C := "ConstraintText$ClockTable") (T := TX0) (N := 12) hx hb hts ing0 hown hK hP 0 rfl rfl 1 (by decide) (hts _ tw_137) (fun _ h9 => h9) rfl dX0_open_20 ?_
    refine lv_aload_n hx hb dX0_open_23 rfl (lv_at hl 0 rfl) ?_
    refine va_get (D := D) (ci := 0) (v := .int ck.2.2.2.2.2.2.2.2.2.2.2) (C := "ConstraintText$ClockTable") (T := TX0) (N := 12) hx hb hts ing0 hown hK hP 0 rfl rfl 11 (by decide) (hts _ tw_149) (fun _ h9 => h9) rfl dX0_open_24 ?_
    refine lv_iconst (v := -1) hx hb dX0_open_27 (by decide) ?_
    obtain ⟨g28, h⟩ := grd_some h
    refine va_iast hx hb hK hP hD hS 2 0 rfl rfl (inb_in g28) dX0_open_28 (fun H locs hP hD hS => ?_)
    have hP : va_P D vwCl [(a_ck 0, .inr (0, [.ref (a_ck 1), .ref (a_ck 2), .ref (a_ck 3), .ref (a_ck 4), .ref (a_ck 5), .ref (a_ck 6), .ref (a_ck 7), .ref (a_ck 8), .ref (a_ck 9), .ref (a_ck 10), .ref (a_ck 11), .int ck.2.2.2.2.2.2.2.2.2.2.2])), (a_ck 1, .inl (kA 0, 12, .inl (upd ck.1 ck.2.2.2.2.2.2.2.2.2.2.2.toNatClampNeg p1))), (a_ck 2, .inl (kA 0, 12, .inl (upd ck.2.1 ck.2.2.2.2.2.2.2.2.2.2.2.toNatClampNeg (-1 : Int32)))), (a_ck 3, .inl (kA 3, 12, .inl ck.2.2.1)), (a_ck 4, .inl (kA 0, 12, .inl ck.2.2.2.1)), (a_ck 5, .inl (kA 0, 12, .inl ck.2.2.2.2.1)), (a_ck 6, .inl (kA 2, 12, .inr (.inl ck.2.2.2.2.2.1))), (a_ck 7, .inl (kA 2, 12, .inr (.inl ck.2.2.2.2.2.2.1))), (a_ck 8, .inl (kA 2, 12, .inr (.inl ck.2.2.2.2.2.2.2.1))), (a_ck 9, .inl (kA 2, 12, .inr (.inl ck.2.2.2.2.2.2.2.2.1))), (a_ck 10, .inl (kA 3, 12, .inl ck.2.2.2.2.2.2.2.2.2.1)), (a_ck 11, .inl (kA 3, 12, .inl ck.2.2.2.2.2.2.2.2.2.2.1))] H := hP
    have hD : va_D A [(a_ck 0, .inr (0, [.ref (a_ck 1), .ref (a_ck 2), .ref (a_ck 3), .ref (a_ck 4), .ref (a_ck 5), .ref (a_ck 6), .ref (a_ck 7), .ref (a_ck 8), .ref (a_ck 9), .ref (a_ck 10), .ref (a_ck 11), .int ck.2.2.2.2.2.2.2.2.2.2.2])), (a_ck 1, .inl (kA 0, 12, .inl (upd ck.1 ck.2.2.2.2.2.2.2.2.2.2.2.toNatClampNeg p1))), (a_ck 2, .inl (kA 0, 12, .inl (upd ck.2.1 ck.2.2.2.2.2.2.2.2.2.2.2.toNatClampNeg (-1 : Int32)))), (a_ck 3, .inl (kA 3, 12, .inl ck.2.2.1)), (a_ck 4, .inl (kA 0, 12, .inl ck.2.2.2.1)), (a_ck 5, .inl (kA 0, 12, .inl ck.2.2.2.2.1)), (a_ck 6, .inl (kA 2, 12, .inr (.inl ck.2.2.2.2.2.1))), (a_ck 7, .inl (kA 2, 12, .inr (.inl ck.2.2.2.2.2.2.1))), (a_ck 8, .inl (kA 2, 12, .inr (.inl ck.2.2.2.2.2.2.2.1))), (a_ck 9, .inl (kA 2, 12, .inr (.inl ck.2.2.2.2.2.2.2.2.1))), (a_ck 10, .inl (kA 3, 12, .inl ck.2.2.2.2.2.2.2.2.2.1)), (a_ck 11, .inl (kA 3, 12, .inl ck.2.2.2.2.2.2.2.2.2.2.1))] := hD
    refine lv_aload_n hx hb dX0_open_29 rfl (lv_at hl 0 rfl) ?_
    refine va_get (D := D) (ci := 0) (v := .ref (a_ck 10)) (C := "ConstraintText$ClockTable") (T := TX0) (N := 12) hx hb hts ing0 hown hK hP 0 rfl rfl 9 (by decide) (hts _ tw_146) (fun _ h9 => h9) rfl dX0_open_30 ?_
    refine lv_aload_n hx hb dX0_open_33 rfl (lv_at hl 0 rfl) ?_
    refine va_get (D := D) (ci := 0) (v := .int ck.2.2.2.2.2.2.2.2.2.2.2) (C := "ConstraintText$ClockTable") (T := TX0) (N := 12) hx hb hts ing0 hown hK hP 0 rfl rfl 11 (by decide) (hts _ tw_149) (fun _ h9 => h9) rfl dX0_open_34 ?_
    refine lv_iconst (v := 0) hx hb dX0_open_37 (by decide) ?_
    obtain ⟨g38, h⟩ := grd_some h
    refine va_zast hx hb hK hP hD hS 10 3 rfl rfl (inb_in g38) dX0_open_38 (fun H locs hP hD hS => ?_)
    have hP : va_P D vwCl [(a_ck 0, .inr (0, [.ref (a_ck 1), .ref (a_ck 2), .ref (a_ck 3), .ref (a_ck 4), .ref (a_ck 5), .ref (a_ck 6), .ref (a_ck 7), .ref (a_ck 8), .ref (a_ck 9), .ref (a_ck 10), .ref (a_ck 11), .int ck.2.2.2.2.2.2.2.2.2.2.2])), (a_ck 1, .inl (kA 0, 12, .inl (upd ck.1 ck.2.2.2.2.2.2.2.2.2.2.2.toNatClampNeg p1))), (a_ck 2, .inl (kA 0, 12, .inl (upd ck.2.1 ck.2.2.2.2.2.2.2.2.2.2.2.toNatClampNeg (-1 : Int32)))), (a_ck 3, .inl (kA 3, 12, .inl ck.2.2.1)), (a_ck 4, .inl (kA 0, 12, .inl ck.2.2.2.1)), (a_ck 5, .inl (kA 0, 12, .inl ck.2.2.2.2.1)), (a_ck 6, .inl (kA 2, 12, .inr (.inl ck.2.2.2.2.2.1))), (a_ck 7, .inl (kA 2, 12, .inr (.inl ck.2.2.2.2.2.2.1))), (a_ck 8, .inl (kA 2, 12, .inr (.inl ck.2.2.2.2.2.2.2.1))), (a_ck 9, .inl (kA 2, 12, .inr (.inl ck.2.2.2.2.2.2.2.2.1))), (a_ck 10, .inl (kA 3, 12, .inl (upd ck.2.2.2.2.2.2.2.2.2.1 ck.2.2.2.2.2.2.2.2.2.2.2.toNatClampNeg (vp_nar .boolean (0 : Int32))))), (a_ck 11, .inl (kA 3, 12, .inl ck.2.2.2.2.2.2.2.2.2.2.1))] H := hP
    have hD : va_D A [(a_ck 0, .inr (0, [.ref (a_ck 1), .ref (a_ck 2), .ref (a_ck 3), .ref (a_ck 4), .ref (a_ck 5), .ref (a_ck 6), .ref (a_ck 7), .ref (a_ck 8), .ref (a_ck 9), .ref (a_ck 10), .ref (a_ck 11), .int ck.2.2.2.2.2.2.2.2.2.2.2])), (a_ck 1, .inl (kA 0, 12, .inl (upd ck.1 ck.2.2.2.2.2.2.2.2.2.2.2.toNatClampNeg p1))), (a_ck 2, .inl (kA 0, 12, .inl (upd ck.2.1 ck.2.2.2.2.2.2.2.2.2.2.2.toNatClampNeg (-1 : Int32)))), (a_ck 3, .inl (kA 3, 12, .inl ck.2.2.1)), (a_ck 4, .inl (kA 0, 12, .inl ck.2.2.2.1)), (a_ck 5, .inl (kA 0, 12, .inl ck.2.2.2.2.1)), (a_ck 6, .inl (kA 2, 12, .inr (.inl ck.2.2.2.2.2.1))), (a_ck 7, .inl (kA 2, 12, .inr (.inl ck.2.2.2.2.2.2.1))), (a_ck 8, .inl (kA 2, 12, .inr (.inl ck.2.2.2.2.2.2.2.1))), (a_ck 9, .inl (kA 2, 12, .inr (.inl ck.2.2.2.2.2.2.2.2.1))), (a_ck 10, .inl (kA 3, 12, .inl (upd ck.2.2.2.2.2.2.2.2.2.1 ck.2.2.2.2.2.2.2.2.2.2.2.toNatClampNeg (vp_nar .boolean (0 : Int32))))), (a_ck 11, .inl (kA 3, 12, .inl ck.2.2.2.2.2.2.2.2.2.2.1))] := hD
    refine lv_aload_n hx hb dX0_open_39 rfl (lv_at hl 0 rfl) ?_
    refine va_get (D := D) (ci := 0) (v := .ref (a_ck 11)) (C := "ConstraintText$ClockTable") (T := TX0) (N := 12) hx hb hts ing0 hown hK hP 0 rfl rfl 10 (by decide) (hts _ tw_147) (fun _ h9 => h9) rfl dX0_open_40 ?_
    refine lv_aload_n hx hb dX0_open_43 rfl (lv_at hl 0 rfl) ?_
    refine va_get (D := D) (ci := 0) (v := .int ck.2.2.2.2.2.2.2.2.2.2.2) (C := "ConstraintText$ClockTable") (T := TX0) (N := 12) hx hb hts ing0 hown hK hP 0 rfl rfl 11 (by decide) (hts _ tw_149) (fun _ h9 => h9) rfl dX0_open_44 ?_
    refine lv_iconst (v := 0) hx hb dX0_open_47 (by decide) ?_
    obtain ⟨g48, h⟩ := grd_some h
    refine va_zast hx hb hK hP hD hS 11 3 rfl rfl (inb_in g48) dX0_open_48 (fun H locs hP hD hS => ?_)
    have hP : va_P D vwCl [(a_ck 0, .inr (0, [.ref (a_ck 1), .ref (a_ck 2), .ref (a_ck 3), .ref (a_ck 4), .ref (a_ck 5), .ref (a_ck 6), .ref (a_ck 7), .ref (a_ck 8), .ref (a_ck 9), .ref (a_ck 10), .ref (a_ck 11), .int ck.2.2.2.2.2.2.2.2.2.2.2])), (a_ck 1, .inl (kA 0, 12, .inl (upd ck.1 ck.2.2.2.2.2.2.2.2.2.2.2.toNatClampNeg p1))), (a_ck 2, .inl (kA 0, 12, .inl (upd ck.2.1 ck.2.2.2.2.2.2.2.2.2.2.2.toNatClampNeg (-1 : Int32)))), (a_ck 3, .inl (kA 3, 12, .inl ck.2.2.1)), (a_ck 4, .inl (kA 0, 12, .inl ck.2.2.2.1)), (a_ck 5, .inl (kA 0, 12, .inl ck.2.2.2.2.1)), (a_ck 6, .inl (kA 2, 12, .inr (.inl ck.2.2.2.2.2.1))), (a_ck 7, .inl (kA 2, 12, .inr (.inl ck.2.2.2.2.2.2.1))), (a_ck 8, .inl (kA 2, 12, .inr (.inl ck.2.2.2.2.2.2.2.1))), (a_ck 9, .inl (kA 2, 12, .inr (.inl ck.2.2.2.2.2.2.2.2.1))), (a_ck 10, .inl (kA 3, 12, .inl (upd ck.2.2.2.2.2.2.2.2.2.1 ck.2.2.2.2.2.2.2.2.2.2.2.toNatClampNeg (vp_nar .boolean (0 : Int32))))), (a_ck 11, .inl (kA 3, 12, .inl (upd ck.2.2.2.2.2.2.2.2.2.2.1 ck.2.2.2.2.2.2.2.2.2.2.2.toNatClampNeg (vp_nar .boolean (0 : Int32)))))] H := hP
    have hD : va_D A [(a_ck 0, .inr (0, [.ref (a_ck 1), .ref (a_ck 2), .ref (a_ck 3), .ref (a_ck 4), .ref (a_ck 5), .ref (a_ck 6), .ref (a_ck 7), .ref (a_ck 8), .ref (a_ck 9), .ref (a_ck 10), .ref (a_ck 11), .int ck.2.2.2.2.2.2.2.2.2.2.2])), (a_ck 1, .inl (kA 0, 12, .inl (upd ck.1 ck.2.2.2.2.2.2.2.2.2.2.2.toNatClampNeg p1))), (a_ck 2, .inl (kA 0, 12, .inl (upd ck.2.1 ck.2.2.2.2.2.2.2.2.2.2.2.toNatClampNeg (-1 : Int32)))), (a_ck 3, .inl (kA 3, 12, .inl ck.2.2.1)), (a_ck 4, .inl (kA 0, 12, .inl ck.2.2.2.1)), (a_ck 5, .inl (kA 0, 12, .inl ck.2.2.2.2.1)), (a_ck 6, .inl (kA 2, 12, .inr (.inl ck.2.2.2.2.2.1))), (a_ck 7, .inl (kA 2, 12, .inr (.inl ck.2.2.2.2.2.2.1))), (a_ck 8, .inl (kA 2, 12, .inr (.inl ck.2.2.2.2.2.2.2.1))), (a_ck 9, .inl (kA 2, 12, .inr (.inl ck.2.2.2.2.2.2.2.2.1))), (a_ck 10, .inl (kA 3, 12, .inl (upd ck.2.2.2.2.2.2.2.2.2.1 ck.2.2.2.2.2.2.2.2.2.2.2.toNatClampNeg (vp_nar .boolean (0 : Int32))))), (a_ck 11, .inl (kA 3, 12, .inl (upd ck.2.2.2.2.2.2.2.2.2.2.1 ck.2.2.2.2.2.2.2.2.2.2.2.toNatClampNeg (vp_nar .boolean (0 : Int32)))))] := hD
    refine lv_aload_n hx hb dX0_open_49 rfl (lv_at hl 0 rfl) ?_
    refine lv_dup hx hb dX0_open_50 rfl ?_
    refine va_get (D := D) (ci := 0) (v := .int ck.2.2.2.2.2.2.2.2.2.2.2) (C := "ConstraintText$ClockTable") (T := TX0) (N := 12) hx hb hts ing0 hown hK hP 0 rfl rfl 11 (by decide) (hts _ tw_149) (fun _ h9 => h9) rfl dX0_open_51 ?_
    refine lv_iconst (v := 1) hx hb dX0_open_54 (by decide) ?_
    refine lv_iadd hx hb dX0_open_55 ?_
    refine va_put (D := D) (ci := 0) (v := .int (ck.2.2.2.2.2.2.2.2.2.2.2 + (1 : Int32))) (ty := .int) (C := "ConstraintText$ClockTable") (T := TX0) (N := 12) hx hb hts ing0 tyX0 tyX0_ok nmX0 hown hK hP hD hS 0 rfl rfl 11 (by decide) (hts _ tw_149) (fun _ h9 => h9) rfl (tyX0_ok 11 (by decide)) rfl rfl (Nat.le_of_ble_eq_true rfl) dX0_open_56 (fun H locs hP hD hS => ?_)
    have hP : va_P D vwCl [(a_ck 0, .inr (0, [.ref (a_ck 1), .ref (a_ck 2), .ref (a_ck 3), .ref (a_ck 4), .ref (a_ck 5), .ref (a_ck 6), .ref (a_ck 7), .ref (a_ck 8), .ref (a_ck 9), .ref (a_ck 10), .ref (a_ck 11), .int (ck.2.2.2.2.2.2.2.2.2.2.2 + (1 : Int32))])), (a_ck 1, .inl (kA 0, 12, .inl (upd ck.1 ck.2.2.2.2.2.2.2.2.2.2.2.toNatClampNeg p1))), (a_ck 2, .inl (kA 0, 12, .inl (upd ck.2.1 ck.2.2.2.2.2.2.2.2.2.2.2.toNatClampNeg (-1 : Int32)))), (a_ck 3, .inl (kA 3, 12, .inl ck.2.2.1)), (a_ck 4, .inl (kA 0, 12, .inl ck.2.2.2.1)), (a_ck 5, .inl (kA 0, 12, .inl ck.2.2.2.2.1)), (a_ck 6, .inl (kA 2, 12, .inr (.inl ck.2.2.2.2.2.1))), (a_ck 7, .inl (kA 2, 12, .inr (.inl ck.2.2.2.2.2.2.1))), (a_ck 8, .inl (kA 2, 12, .inr (.inl ck.2.2.2.2.2.2.2.1))), (a_ck 9, .inl (kA 2, 12, .inr (.inl ck.2.2.2.2.2.2.2.2.1))), (a_ck 10, .inl (kA 3, 12, .inl (upd ck.2.2.2.2.2.2.2.2.2.1 ck.2.2.2.2.2.2.2.2.2.2.2.toNatClampNeg (vp_nar .boolean (0 : Int32))))), (a_ck 11, .inl (kA 3, 12, .inl (upd ck.2.2.2.2.2.2.2.2.2.2.1 ck.2.2.2.2.2.2.2.2.2.2.2.toNatClampNeg (vp_nar .boolean (0 : Int32)))))] H := hP
    have hD : va_D A [(a_ck 0, .inr (0, [.ref (a_ck 1), .ref (a_ck 2), .ref (a_ck 3), .ref (a_ck 4), .ref (a_ck 5), .ref (a_ck 6), .ref (a_ck 7), .ref (a_ck 8), .ref (a_ck 9), .ref (a_ck 10), .ref (a_ck 11), .int (ck.2.2.2.2.2.2.2.2.2.2.2 + (1 : Int32))])), (a_ck 1, .inl (kA 0, 12, .inl (upd ck.1 ck.2.2.2.2.2.2.2.2.2.2.2.toNatClampNeg p1))), (a_ck 2, .inl (kA 0, 12, .inl (upd ck.2.1 ck.2.2.2.2.2.2.2.2.2.2.2.toNatClampNeg (-1 : Int32)))), (a_ck 3, .inl (kA 3, 12, .inl ck.2.2.1)), (a_ck 4, .inl (kA 0, 12, .inl ck.2.2.2.1)), (a_ck 5, .inl (kA 0, 12, .inl ck.2.2.2.2.1)), (a_ck 6, .inl (kA 2, 12, .inr (.inl ck.2.2.2.2.2.1))), (a_ck 7, .inl (kA 2, 12, .inr (.inl ck.2.2.2.2.2.2.1))), (a_ck 8, .inl (kA 2, 12, .inr (.inl ck.2.2.2.2.2.2.2.1))), (a_ck 9, .inl (kA 2, 12, .inr (.inl ck.2.2.2.2.2.2.2.2.1))), (a_ck 10, .inl (kA 3, 12, .inl (upd ck.2.2.2.2.2.2.2.2.2.1 ck.2.2.2.2.2.2.2.2.2.2.2.toNatClampNeg (vp_nar .boolean (0 : Int32))))), (a_ck 11, .inl (kA 3, 12, .inl (upd ck.2.2.2.2.2.2.2.2.2.2.1 ck.2.2.2.2.2.2.2.2.2.2.2.toNatClampNeg (vp_nar .boolean (0 : Int32)))))] := hD
    obtain rfl := Option.some.inj h
    rw [← hQ]
    exact rw_return hx hb hr hk  dX0_open_59  hP hD hS
abbrev rm0_setTimes : Room := { frames := 1, cells := 0, slots := 0, locals := 21 }
set_option maxHeartbeats 4000000 in
set_option maxRecDepth 100000 in
theorem c0_setTimes (l : Launch) (D : va_G) (kA : Nat → ClassId) (a_ck : Nat → Nat) (p1 : Int32) (p2 : Int32) (p3 : Int32) (ck : T0) (res : T0) (h : f0_setTimes p1 p2 p3 ck = some res) : Rw l yX0_setTimes cX0_setTimes 5 none rm0_setTimes D kA [.ref (a_ck 0), .int p1, .int p2, .int p3] [(a_ck 0, .inr (0, [.ref (a_ck 1), .ref (a_ck 2), .ref (a_ck 3), .ref (a_ck 4), .ref (a_ck 5), .ref (a_ck 6), .ref (a_ck 7), .ref (a_ck 8), .ref (a_ck 9), .ref (a_ck 10), .ref (a_ck 11), .int ck.2.2.2.2.2.2.2.2.2.2.2])), (a_ck 1, .inl (kA 0, 12, .inl ck.1)), (a_ck 2, .inl (kA 0, 12, .inl ck.2.1)), (a_ck 3, .inl (kA 3, 12, .inl ck.2.2.1)), (a_ck 4, .inl (kA 0, 12, .inl ck.2.2.2.1)), (a_ck 5, .inl (kA 0, 12, .inl ck.2.2.2.2.1)), (a_ck 6, .inl (kA 2, 12, .inr (.inl ck.2.2.2.2.2.1))), (a_ck 7, .inl (kA 2, 12, .inr (.inl ck.2.2.2.2.2.2.1))), (a_ck 8, .inl (kA 2, 12, .inr (.inl ck.2.2.2.2.2.2.2.1))), (a_ck 9, .inl (kA 2, 12, .inr (.inl ck.2.2.2.2.2.2.2.2.1))), (a_ck 10, .inl (kA 3, 12, .inl ck.2.2.2.2.2.2.2.2.2.1)), (a_ck 11, .inl (kA 3, 12, .inl ck.2.2.2.2.2.2.2.2.2.2.1))] none [(a_ck 0, .inr (0, [.ref (a_ck 1), .ref (a_ck 2), .ref (a_ck 3), .ref (a_ck 4), .ref (a_ck 5), .ref (a_ck 6), .ref (a_ck 7), .ref (a_ck 8), .ref (a_ck 9), .ref (a_ck 10), .ref (a_ck 11), .int res.2.2.2.2.2.2.2.2.2.2.2])), (a_ck 1, .inl (kA 0, 12, .inl res.1)), (a_ck 2, .inl (kA 0, 12, .inl res.2.1)), (a_ck 3, .inl (kA 3, 12, .inl res.2.2.1)), (a_ck 4, .inl (kA 0, 12, .inl res.2.2.2.1)), (a_ck 5, .inl (kA 0, 12, .inl res.2.2.2.2.1)), (a_ck 6, .inl (kA 2, 12, .inr (.inl res.2.2.2.2.2.1))), (a_ck 7, .inl (kA 2, 12, .inr (.inl res.2.2.2.2.2.2.1))), (a_ck 8, .inl (kA 2, 12, .inr (.inl res.2.2.2.2.2.2.2.1))), (a_ck 9, .inl (kA 2, 12, .inr (.inl res.2.2.2.2.2.2.2.2.1))), (a_ck 10, .inl (kA 3, 12, .inl res.2.2.2.2.2.2.2.2.2.1)), (a_ck 11, .inl (kA 3, 12, .inl res.2.2.2.2.2.2.2.2.2.2.1))] := by
  refine Rw.of (by decide) (Nat.le_of_ble_eq_true rfl) ?_
  intro p e s m args below meth c A hF hP hD hS hA hK ls hl
  generalize hQ : rwQ below D A _ _ args s = Q
  obtain ⟨hx, hb, hml, hown, hr, hk, hts, hN⟩ := hF
  have hl : lv_has ls 5 [(0, .ref (a_ck 0)), (1, .int p1), (2, .int p2), (3, .int p3)] := hl
  unfold f0_setTimes at h
  refine lv_aload_n hx hb dX0_setTimes_0 rfl (lv_at hl 0 rfl) ?_
  refine va_get (D := D) (ci := 0) (v := .int ck.2.2.2.2.2.2.2.2.2.2.2) (C := "ConstraintText$ClockTable") (T := TX0) (N := 12) hx hb hts ing0 hown hK hP 0 rfl rfl 11 (by decide) (hts _ tw_149) (fun _ h9 => h9) rfl dX0_setTimes_1 ?_
  refine lv_iconst (v := 1) hx hb dX0_setTimes_4 (by decide) ?_
  refine lv_isub hx hb dX0_setTimes_5 ?_
  refine lv_istore (lv' := [(4, .int (ck.2.2.2.2.2.2.2.2.2.2.2 - (1 : Int32))), (0, .ref (a_ck 0)), (1, .int p1), (2, .int p2), (3, .int p3)]) hx hb dX0_setTimes_6 hl (by decide) rfl (fun ls hl => ?_)
  refine lv_aload_n hx hb dX0_setTimes_8 rfl (lv_at hl 1 rfl) ?_
  refine lv_iload hx hb dX0_setTimes_9 (lv_at hl 0 rfl) ?_
  obtain ⟨u11, hc_11, h⟩ := bnd_some h
  refine ro_V (n := 1) (As := [.int (ck.2.2.2.2.2.2.2.2.2.2.2 - (1 : Int32))]) (rest := []) hx hb hml hown hts hN hS hK hP (c0_has l D kA a_ck (ck.2.2.2.2.2.2.2.2.2.2.2 - (1 : Int32)) ck u11 hc_11) [0, 1, 2, 3, 4, 5, 6, 7, 8, 9, 10, 11] rfl 0 0 rfl rfl rfl tw_465 tw_466 tw_467 tw_78 tw_468 rfl rfl (by decide) ⟨Nat.le_of_ble_eq_true rfl, Nat.le_of_ble_eq_true rfl⟩ rfl hl.1 rfl (Nat.le_of_ble_eq_true rfl) dX0_setTimes_11 ⟨Nat.le_of_ble_eq_true rfl, Nat.le_of_ble_eq_true rfl⟩ ?_
  refine lv_if_eq (tgt := 60) hx hb dX0_setTimes_14 (by decide) (fun bc => ?_) (fun bc => ?_)
  · have h := ite_t bc h
    obtain rfl := Option.some.inj h
    rw [← hQ]
    exact rw_return hx hb hr hk  dX0_setTimes_60  hP hD hS
  · have h := ite_f bc h
    refine lv_aload_n hx hb dX0_setTimes_17 rfl (lv_at hl 1 rfl) ?_
    refine va_get (D := D) (ci := 0) (v := .ref (a_ck 6)) (C := "ConstraintText$ClockTable") (T := TX0) (N := 12) hx hb hts ing0 hown hK hP 0 rfl rfl 5 (by decide) (hts _ tw_142) (fun _ h9 => h9) rfl dX0_setTimes_18 ?_
    refine lv_iload hx hb dX0_setTimes_21 (lv_at hl 0 rfl) ?_
    refine lv_iload_n hx hb dX0_setTimes_23 rfl (lv_at hl 2 rfl) ?_
    refine lv_i2l (v := p1.toInt64) hx hb dX0_setTimes_24 rfl ?_
    obtain ⟨g25, h⟩ := grd_some h
    refine va_last hx hb hK hP hD hS 6 2 rfl rfl (inb_in g25) dX0_setTimes_25 (fun H locs hP hD hS => ?_)
    have hP : va_P D vwCl [(a_ck 0, .inr (0, [.ref (a_ck 1), .ref (a_ck 2), .ref (a_ck 3), .ref (a_ck 4), .ref (a_ck 5), .ref (a_ck 6), .ref (a_ck 7), .ref (a_ck 8), .ref (a_ck 9), .ref (a_ck 10), .ref (a_ck 11), .int ck.2.2.2.2.2.2.2.2.2.2.2])), (a_ck 1, .inl (kA 0, 12, .inl ck.1)), (a_ck 2, .inl (kA 0, 12, .inl ck.2.1)), (a_ck 3, .inl (kA 3, 12, .inl ck.2.2.1)), (a_ck 4, .inl (kA 0, 12, .inl ck.2.2.2.1)), (a_ck 5, .inl (kA 0, 12, .inl ck.2.2.2.2.1)), (a_ck 6, .inl (kA 2, 12, .inr (.inl (vp_updL ck.2.2.2.2.2.1 (ck.2.2.2.2.2.2.2.2.2.2.2 - (1 : Int32)).toNatClampNeg p1.toInt64)))), (a_ck 7, .inl (kA 2, 12, .inr (.inl ck.2.2.2.2.2.2.1))), (a_ck 8, .inl (kA 2, 12, .inr (.inl ck.2.2.2.2.2.2.2.1))), (a_ck 9, .inl (kA 2, 12, .inr (.inl ck.2.2.2.2.2.2.2.2.1))), (a_ck 10, .inl (kA 3, 12, .inl ck.2.2.2.2.2.2.2.2.2.1)), (a_ck 11, .inl (kA 3, 12, .inl ck.2.2.2.2.2.2.2.2.2.2.1))] H := hP
    have hD : va_D A [(a_ck 0, .inr (0, [.ref (a_ck 1), .ref (a_ck 2), .ref (a_ck 3), .ref (a_ck 4), .ref (a_ck 5), .ref (a_ck 6), .ref (a_ck 7), .ref (a_ck 8), .ref (a_ck 9), .ref (a_ck 10), .ref (a_ck 11), .int ck.2.2.2.2.2.2.2.2.2.2.2])), (a_ck 1, .inl (kA 0, 12, .inl ck.1)), (a_ck 2, .inl (kA 0, 12, .inl ck.2.1)), (a_ck 3, .inl (kA 3, 12, .inl ck.2.2.1)), (a_ck 4, .inl (kA 0, 12, .inl ck.2.2.2.1)), (a_ck 5, .inl (kA 0, 12, .inl ck.2.2.2.2.1)), (a_ck 6, .inl (kA 2, 12, .inr (.inl (vp_updL ck.2.2.2.2.2.1 (ck.2.2.2.2.2.2.2.2.2.2.2 - (1 : Int32)).toNatClampNeg p1.toInt64)))), (a_ck 7, .inl (kA 2, 12, .inr (.inl ck.2.2.2.2.2.2.1))), (a_ck 8, .inl (kA 2, 12, .inr (.inl ck.2.2.2.2.2.2.2.1))), (a_ck 9, .inl (kA 2, 12, .inr (.inl ck.2.2.2.2.2.2.2.2.1))), (a_ck 10, .inl (kA 3, 12, .inl ck.2.2.2.2.2.2.2.2.2.1)), (a_ck 11, .inl (kA 3, 12, .inl ck.2.2.2.2.2.2.2.2.2.2.1))] := hD
    refine lv_aload_n hx hb dX0_setTimes_26 rfl (lv_at hl 1 rfl) ?_
    refine va_get (D := D) (ci := 0) (v := .ref (a_ck 7)) (C := "ConstraintText$ClockTable") (T := TX0) (N := 12) hx hb hts ing0 hown hK hP 0 rfl rfl 6 (by decide) (hts _ tw_143) (fun _ h9 => h9) rfl dX0_setTimes_27 ?_
    refine lv_iload hx hb dX0_setTimes_30 (lv_at hl 0 rfl) ?_
    refine lv_iload_n hx hb dX0_setTimes_32 rfl (lv_at hl 3 rfl) ?_
    refine lv_i2l (v := p2.toInt64) hx hb dX0_setTimes_33 rfl ?_
    obtain ⟨g34, h⟩ := grd_some h
    refine va_last hx hb hK hP hD hS 7 2 rfl rfl (inb_in g34) dX0_setTimes_34 (fun H locs hP hD hS => ?_)
    have hP : va_P D vwCl [(a_ck 0, .inr (0, [.ref (a_ck 1), .ref (a_ck 2), .ref (a_ck 3), .ref (a_ck 4), .ref (a_ck 5), .ref (a_ck 6), .ref (a_ck 7), .ref (a_ck 8), .ref (a_ck 9), .ref (a_ck 10), .ref (a_ck 11), .int ck.2.2.2.2.2.2.2.2.2.2.2])), (a_ck 1, .inl (kA 0, 12, .inl ck.1)), (a_ck 2, .inl (kA 0, 12, .inl ck.2.1)), (a_ck 3, .inl (kA 3, 12, .inl ck.2.2.1)), (a_ck 4, .inl (kA 0, 12, .inl ck.2.2.2.1)), (a_ck 5, .inl (kA 0, 12, .inl ck.2.2.2.2.1)), (a_ck 6, .inl (kA 2, 12, .inr (.inl (vp_updL ck.2.2.2.2.2.1 (ck.2.2.2.2.2.2.2.2.2.2.2 - (1 : Int32)).toNatClampNeg p1.toInt64)))), (a_ck 7, .inl (kA 2, 12, .inr (.inl (vp_updL ck.2.2.2.2.2.2.1 (ck.2.2.2.2.2.2.2.2.2.2.2 - (1 : Int32)).toNatClampNeg p2.toInt64)))), (a_ck 8, .inl (kA 2, 12, .inr (.inl ck.2.2.2.2.2.2.2.1))), (a_ck 9, .inl (kA 2, 12, .inr (.inl ck.2.2.2.2.2.2.2.2.1))), (a_ck 10, .inl (kA 3, 12, .inl ck.2.2.2.2.2.2.2.2.2.1)), (a_ck 11, .inl (kA 3, 12, .inl ck.2.2.2.2.2.2.2.2.2.2.1))] H := hP
    have hD : va_D A [(a_ck 0, .inr (0, [.ref (a_ck 1), .ref (a_ck 2), .ref (a_ck 3), .ref (a_ck 4), .ref (a_ck 5), .ref (a_ck 6), .ref (a_ck 7), .ref (a_ck 8), .ref (a_ck 9), .ref (a_ck 10), .ref (a_ck 11), .int ck.2.2.2.2.2.2.2.2.2.2.2])), (a_ck 1, .inl (kA 0, 12, .inl ck.1)), (a_ck 2, .inl (kA 0, 12, .inl ck.2.1)), (a_ck 3, .inl (kA 3, 12, .inl ck.2.2.1)), (a_ck 4, .inl (kA 0, 12, .inl ck.2.2.2.1)), (a_ck 5, .inl (kA 0, 12, .inl ck.2.2.2.2.1)), (a_ck 6, .inl (kA 2, 12, .inr (.inl (vp_updL ck.2.2.2.2.2.1 (ck.2.2.2.2.2.2.2.2.2.2.2 - (1 : Int32)).toNatClampNeg p1.toInt64)))), (a_ck 7, .inl (kA 2, 12, .inr (.inl (vp_updL ck.2.2.2.2.2.2.1 (ck.2.2.2.2.2.2.2.2.2.2.2 - (1 : Int32)).toNatClampNeg p2.toInt64)))), (a_ck 8, .inl (kA 2, 12, .inr (.inl ck.2.2.2.2.2.2.2.1))), (a_ck 9, .inl (kA 2, 12, .inr (.inl ck.2.2.2.2.2.2.2.2.1))), (a_ck 10, .inl (kA 3, 12, .inl ck.2.2.2.2.2.2.2.2.2.1)), (a_ck 11, .inl (kA 3, 12, .inl ck.2.2.2.2.2.2.2.2.2.2.1))] := hD
    refine lv_aload_n hx hb dX0_setTimes_35 rfl (lv_at hl 1 rfl) ?_
    refine va_get (D := D) (ci := 0) (v := .ref (a_ck 8)) (C := "ConstraintText$ClockTable") (T := TX0) (N := 12) hx hb hts ing0 hown hK hP 0 rfl rfl 7 (by decide) (hts _ tw_144) (fun _ h9 => h9) rfl dX0_setTimes_36 ?_
    refine lv_iload hx hb dX0_setTimes_39 (lv_at hl 0 rfl) ?_
    refine lv_iload_n hx hb dX0_setTimes_41 rfl (lv_at hl 4 rfl) ?_
    refine lv_i2l (v := p3.toInt64) hx hb dX0_setTimes_42 rfl ?_
    obtain ⟨g43, h⟩ := grd_some h
    refine va_last hx hb hK hP hD hS 8 2 rfl rfl (inb_in g43) dX0_setTimes_43 (fun H locs hP hD hS => ?_)
    have hP : va_P D vwCl [(a_ck 0, .inr (0, [.ref (a_ck 1), .ref (a_ck 2), .ref (a_ck 3), .ref (a_ck 4), .ref (a_ck 5), .ref (a_ck 6), .ref (a_ck 7), .ref (a_ck 8), .ref (a_ck 9), .ref (a_ck 10), .ref (a_ck 11), .int ck.2.2.2.2.2.2.2.2.2.2.2])), (a_ck 1, .inl (kA 0, 12, .inl ck.1)), (a_ck 2, .inl (kA 0, 12, .inl ck.2.1)), (a_ck 3, .inl (kA 3, 12, .inl ck.2.2.1)), (a_ck 4, .inl (kA 0, 12, .inl ck.2.2.2.1)), (a_ck 5, .inl (kA 0, 12, .inl ck.2.2.2.2.1)), (a_ck 6, .inl (kA 2, 12, .inr (.inl (vp_updL ck.2.2.2.2.2.1 (ck.2.2.2.2.2.2.2.2.2.2.2 - (1 : Int32)).toNatClampNeg p1.toInt64)))), (a_ck 7, .inl (kA 2, 12, .inr (.inl (vp_updL ck.2.2.2.2.2.2.1 (ck.2.2.2.2.2.2.2.2.2.2.2 - (1 : Int32)).toNatClampNeg p2.toInt64)))), (a_ck 8, .inl (kA 2, 12, .inr (.inl (vp_updL ck.2.2.2.2.2.2.2.1 (ck.2.2.2.2.2.2.2.2.2.2.2 - (1 : Int32)).toNatClampNeg p3.toInt64)))), (a_ck 9, .inl (kA 2, 12, .inr (.inl ck.2.2.2.2.2.2.2.2.1))), (a_ck 10, .inl (kA 3, 12, .inl ck.2.2.2.2.2.2.2.2.2.1)), (a_ck 11, .inl (kA 3, 12, .inl ck.2.2.2.2.2.2.2.2.2.2.1))] H := hP
    have hD : va_D A [(a_ck 0, .inr (0, [.ref (a_ck 1), .ref (a_ck 2), .ref (a_ck 3), .ref (a_ck 4), .ref (a_ck 5), .ref (a_ck 6), .ref (a_ck 7), .ref (a_ck 8), .ref (a_ck 9), .ref (a_ck 10), .ref (a_ck 11), .int ck.2.2.2.2.2.2.2.2.2.2.2])), (a_ck 1, .inl (kA 0, 12, .inl ck.1)), (a_ck 2, .inl (kA 0, 12, .inl ck.2.1)), (a_ck 3, .inl (kA 3, 12, .inl ck.2.2.1)), (a_ck 4, .inl (kA 0, 12, .inl ck.2.2.2.1)), (a_ck 5, .inl (kA 0, 12, .inl ck.2.2.2.2.1)), (a_ck 6, .inl (kA 2, 12, .inr (.inl (vp_updL ck.2.2.2.2.2.1 (ck.2.2.2.2.2.2.2.2.2.2.2 - (1 : Int32)).toNatClampNeg p1.toInt64)))), (a_ck 7, .inl (kA 2, 12, .inr (.inl (vp_updL ck.2.2.2.2.2.2.1 (ck.2.2.2.2.2.2.2.2.2.2.2 - (1 : Int32)).toNatClampNeg p2.toInt64)))), (a_ck 8, .inl (kA 2, 12, .inr (.inl (vp_updL ck.2.2.2.2.2.2.2.1 (ck.2.2.2.2.2.2.2.2.2.2.2 - (1 : Int32)).toNatClampNeg p3.toInt64)))), (a_ck 9, .inl (kA 2, 12, .inr (.inl ck.2.2.2.2.2.2.2.2.1))), (a_ck 10, .inl (kA 3, 12, .inl ck.2.2.2.2.2.2.2.2.2.1)), (a_ck 11, .inl (kA 3, 12, .inl ck.2.2.2.2.2.2.2.2.2.2.1))] := hD
    refine lv_aload_n hx hb dX0_setTimes_44 rfl (lv_at hl 1 rfl) ?_
    refine va_get (D := D) (ci := 0) (v := .ref (a_ck 9)) (C := "ConstraintText$ClockTable") (T := TX0) (N := 12) hx hb hts ing0 hown hK hP 0 rfl rfl 8 (by decide) (hts _ tw_145) (fun _ h9 => h9) rfl dX0_setTimes_45 ?_
    refine lv_iload hx hb dX0_setTimes_48 (lv_at hl 0 rfl) ?_
    refine lv_lconst (v := 1) hx hb dX0_setTimes_50 (by decide) ?_
    obtain ⟨g51, h⟩ := grd_some h
    refine va_last hx hb hK hP hD hS 9 2 rfl rfl (inb_in g51) dX0_setTimes_51 (fun H locs hP hD hS => ?_)
    have hP : va_P D vwCl [(a_ck 0, .inr (0, [.ref (a_ck 1), .ref (a_ck 2), .ref (a_ck 3), .ref (a_ck 4), .ref (a_ck 5), .ref (a_ck 6), .ref (a_ck 7), .ref (a_ck 8), .ref (a_ck 9), .ref (a_ck 10), .ref (a_ck 11), .int ck.2.2.2.2.2.2.2.2.2.2.2])), (a_ck 1, .inl (kA 0, 12, .inl ck.1)), (a_ck 2, .inl (kA 0, 12, .inl ck.2.1)), (a_ck 3, .inl (kA 3, 12, .inl ck.2.2.1)), (a_ck 4, .inl (kA 0, 12, .inl ck.2.2.2.1)), (a_ck 5, .inl (kA 0, 12, .inl ck.2.2.2.2.1)), (a_ck 6, .inl (kA 2, 12, .inr (.inl (vp_updL ck.2.2.2.2.2.1 (ck.2.2.2.2.2.2.2.2.2.2.2 - (1 : Int32)).toNatClampNeg p1.toInt64)))), (a_ck 7, .inl (kA 2, 12, .inr (.inl (vp_updL ck.2.2.2.2.2.2.1 (ck.2.2.2.2.2.2.2.2.2.2.2 - (1 : Int32)).toNatClampNeg p2.toInt64)))), (a_ck 8, .inl (kA 2, 12, .inr (.inl (vp_updL ck.2.2.2.2.2.2.2.1 (ck.2.2.2.2.2.2.2.2.2.2.2 - (1 : Int32)).toNatClampNeg p3.toInt64)))), (a_ck 9, .inl (kA 2, 12, .inr (.inl (vp_updL ck.2.2.2.2.2.2.2.2.1 (ck.2.2.2.2.2.2.2.2.2.2.2 - (1 : Int32)).toNatClampNeg (1 : Int64))))), (a_ck 10, .inl (kA 3, 12, .inl ck.2.2.2.2.2.2.2.2.2.1)), (a_ck 11, .inl (kA 3, 12, .inl ck.2.2.2.2.2.2.2.2.2.2.1))] H := hP
    have hD : va_D A [(a_ck 0, .inr (0, [.ref (a_ck 1), .ref (a_ck 2), .ref (a_ck 3), .ref (a_ck 4), .ref (a_ck 5), .ref (a_ck 6), .ref (a_ck 7), .ref (a_ck 8), .ref (a_ck 9), .ref (a_ck 10), .ref (a_ck 11), .int ck.2.2.2.2.2.2.2.2.2.2.2])), (a_ck 1, .inl (kA 0, 12, .inl ck.1)), (a_ck 2, .inl (kA 0, 12, .inl ck.2.1)), (a_ck 3, .inl (kA 3, 12, .inl ck.2.2.1)), (a_ck 4, .inl (kA 0, 12, .inl ck.2.2.2.1)), (a_ck 5, .inl (kA 0, 12, .inl ck.2.2.2.2.1)), (a_ck 6, .inl (kA 2, 12, .inr (.inl (vp_updL ck.2.2.2.2.2.1 (ck.2.2.2.2.2.2.2.2.2.2.2 - (1 : Int32)).toNatClampNeg p1.toInt64)))), (a_ck 7, .inl (kA 2, 12, .inr (.inl (vp_updL ck.2.2.2.2.2.2.1 (ck.2.2.2.2.2.2.2.2.2.2.2 - (1 : Int32)).toNatClampNeg p2.toInt64)))), (a_ck 8, .inl (kA 2, 12, .inr (.inl (vp_updL ck.2.2.2.2.2.2.2.1 (ck.2.2.2.2.2.2.2.2.2.2.2 - (1 : Int32)).toNatClampNeg p3.toInt64)))), (a_ck 9, .inl (kA 2, 12, .inr (.inl (vp_updL ck.2.2.2.2.2.2.2.2.1 (ck.2.2.2.2.2.2.2.2.2.2.2 - (1 : Int32)).toNatClampNeg (1 : Int64))))), (a_ck 10, .inl (kA 3, 12, .inl ck.2.2.2.2.2.2.2.2.2.1)), (a_ck 11, .inl (kA 3, 12, .inl ck.2.2.2.2.2.2.2.2.2.2.1))] := hD
    refine lv_aload_n hx hb dX0_setTimes_52 rfl (lv_at hl 1 rfl) ?_
    refine va_get (D := D) (ci := 0) (v := .ref (a_ck 10)) (C := "ConstraintText$ClockTable") (T := TX0) (N := 12) hx hb hts ing0 hown hK hP 0 rfl rfl 9 (by decide) (hts _ tw_146) (fun _ h9 => h9) rfl dX0_setTimes_53 ?_
    refine lv_iload hx hb dX0_setTimes_56 (lv_at hl 0 rfl) ?_
    refine lv_iconst (v := 1) hx hb dX0_setTimes_58 (by decide) ?_
    obtain ⟨g59, h⟩ := grd_some h
    refine va_zast hx hb hK hP hD hS 10 3 rfl rfl (inb_in g59) dX0_setTimes_59 (fun H locs hP hD hS => ?_)
    have hP : va_P D vwCl [(a_ck 0, .inr (0, [.ref (a_ck 1), .ref (a_ck 2), .ref (a_ck 3), .ref (a_ck 4), .ref (a_ck 5), .ref (a_ck 6), .ref (a_ck 7), .ref (a_ck 8), .ref (a_ck 9), .ref (a_ck 10), .ref (a_ck 11), .int ck.2.2.2.2.2.2.2.2.2.2.2])), (a_ck 1, .inl (kA 0, 12, .inl ck.1)), (a_ck 2, .inl (kA 0, 12, .inl ck.2.1)), (a_ck 3, .inl (kA 3, 12, .inl ck.2.2.1)), (a_ck 4, .inl (kA 0, 12, .inl ck.2.2.2.1)), (a_ck 5, .inl (kA 0, 12, .inl ck.2.2.2.2.1)), (a_ck 6, .inl (kA 2, 12, .inr (.inl (vp_updL ck.2.2.2.2.2.1 (ck.2.2.2.2.2.2.2.2.2.2.2 - (1 : Int32)).toNatClampNeg p1.toInt64)))), (a_ck 7, .inl (kA 2, 12, .inr (.inl (vp_updL ck.2.2.2.2.2.2.1 (ck.2.2.2.2.2.2.2.2.2.2.2 - (1 : Int32)).toNatClampNeg p2.toInt64)))), (a_ck 8, .inl (kA 2, 12, .inr (.inl (vp_updL ck.2.2.2.2.2.2.2.1 (ck.2.2.2.2.2.2.2.2.2.2.2 - (1 : Int32)).toNatClampNeg p3.toInt64)))), (a_ck 9, .inl (kA 2, 12, .inr (.inl (vp_updL ck.2.2.2.2.2.2.2.2.1 (ck.2.2.2.2.2.2.2.2.2.2.2 - (1 : Int32)).toNatClampNeg (1 : Int64))))), (a_ck 10, .inl (kA 3, 12, .inl (upd ck.2.2.2.2.2.2.2.2.2.1 (ck.2.2.2.2.2.2.2.2.2.2.2 - (1 : Int32)).toNatClampNeg (vp_nar .boolean (1 : Int32))))), (a_ck 11, .inl (kA 3, 12, .inl ck.2.2.2.2.2.2.2.2.2.2.1))] H := hP
    have hD : va_D A [(a_ck 0, .inr (0, [.ref (a_ck 1), .ref (a_ck 2), .ref (a_ck 3), .ref (a_ck 4), .ref (a_ck 5), .ref (a_ck 6), .ref (a_ck 7), .ref (a_ck 8), .ref (a_ck 9), .ref (a_ck 10), .ref (a_ck 11), .int ck.2.2.2.2.2.2.2.2.2.2.2])), (a_ck 1, .inl (kA 0, 12, .inl ck.1)), (a_ck 2, .inl (kA 0, 12, .inl ck.2.1)), (a_ck 3, .inl (kA 3, 12, .inl ck.2.2.1)), (a_ck 4, .inl (kA 0, 12, .inl ck.2.2.2.1)), (a_ck 5, .inl (kA 0, 12, .inl ck.2.2.2.2.1)), (a_ck 6, .inl (kA 2, 12, .inr (.inl (vp_updL ck.2.2.2.2.2.1 (ck.2.2.2.2.2.2.2.2.2.2.2 - (1 : Int32)).toNatClampNeg p1.toInt64)))), (a_ck 7, .inl (kA 2, 12, .inr (.inl (vp_updL ck.2.2.2.2.2.2.1 (ck.2.2.2.2.2.2.2.2.2.2.2 - (1 : Int32)).toNatClampNeg p2.toInt64)))), (a_ck 8, .inl (kA 2, 12, .inr (.inl (vp_updL ck.2.2.2.2.2.2.2.1 (ck.2.2.2.2.2.2.2.2.2.2.2 - (1 : Int32)).toNatClampNeg p3.toInt64)))), (a_ck 9, .inl (kA 2, 12, .inr (.inl (vp_updL ck.2.2.2.2.2.2.2.2.1 (ck.2.2.2.2.2.2.2.2.2.2.2 - (1 : Int32)).toNatClampNeg (1 : Int64))))), (a_ck 10, .inl (kA 3, 12, .inl (upd ck.2.2.2.2.2.2.2.2.2.1 (ck.2.2.2.2.2.2.2.2.2.2.2 - (1 : Int32)).toNatClampNeg (vp_nar .boolean (1 : Int32))))), (a_ck 11, .inl (kA 3, 12, .inl ck.2.2.2.2.2.2.2.2.2.2.1))] := hD
    obtain rfl := Option.some.inj h
    rw [← hQ]
    exact rw_return hx hb hr hk  dX0_setTimes_60  hP hD hS
abbrev rm0_setRatio : Room := { frames := 1, cells := 0, slots := 0, locals := 21 }
set_option maxHeartbeats 4000000 in
set_option maxRecDepth 100000 in
theorem c0_setRatio (l : Launch) (D : va_G) (kA : Nat → ClassId) (a_ck : Nat → Nat) (p1 : Int32) (p2 : Int32) (p3 : Int32) (ck : T0) (res : T0) (h : f0_setRatio p1 p2 p3 ck = some res) : Rw l yX0_setRatio cX0_setRatio 5 none rm0_setRatio D kA [.ref (a_ck 0), .int p1, .int p2, .int p3] [(a_ck 0, .inr (0, [.ref (a_ck 1), .ref (a_ck 2), .ref (a_ck 3), .ref (a_ck 4), .ref (a_ck 5), .ref (a_ck 6), .ref (a_ck 7), .ref (a_ck 8), .ref (a_ck 9), .ref (a_ck 10), .ref (a_ck 11), .int ck.2.2.2.2.2.2.2.2.2.2.2])), (a_ck 1, .inl (kA 0, 12, .inl ck.1)), (a_ck 2, .inl (kA 0, 12, .inl ck.2.1)), (a_ck 3, .inl (kA 3, 12, .inl ck.2.2.1)), (a_ck 4, .inl (kA 0, 12, .inl ck.2.2.2.1)), (a_ck 5, .inl (kA 0, 12, .inl ck.2.2.2.2.1)), (a_ck 6, .inl (kA 2, 12, .inr (.inl ck.2.2.2.2.2.1))), (a_ck 7, .inl (kA 2, 12, .inr (.inl ck.2.2.2.2.2.2.1))), (a_ck 8, .inl (kA 2, 12, .inr (.inl ck.2.2.2.2.2.2.2.1))), (a_ck 9, .inl (kA 2, 12, .inr (.inl ck.2.2.2.2.2.2.2.2.1))), (a_ck 10, .inl (kA 3, 12, .inl ck.2.2.2.2.2.2.2.2.2.1)), (a_ck 11, .inl (kA 3, 12, .inl ck.2.2.2.2.2.2.2.2.2.2.1))] none [(a_ck 0, .inr (0, [.ref (a_ck 1), .ref (a_ck 2), .ref (a_ck 3), .ref (a_ck 4), .ref (a_ck 5), .ref (a_ck 6), .ref (a_ck 7), .ref (a_ck 8), .ref (a_ck 9), .ref (a_ck 10), .ref (a_ck 11), .int res.2.2.2.2.2.2.2.2.2.2.2])), (a_ck 1, .inl (kA 0, 12, .inl res.1)), (a_ck 2, .inl (kA 0, 12, .inl res.2.1)), (a_ck 3, .inl (kA 3, 12, .inl res.2.2.1)), (a_ck 4, .inl (kA 0, 12, .inl res.2.2.2.1)), (a_ck 5, .inl (kA 0, 12, .inl res.2.2.2.2.1)), (a_ck 6, .inl (kA 2, 12, .inr (.inl res.2.2.2.2.2.1))), (a_ck 7, .inl (kA 2, 12, .inr (.inl res.2.2.2.2.2.2.1))), (a_ck 8, .inl (kA 2, 12, .inr (.inl res.2.2.2.2.2.2.2.1))), (a_ck 9, .inl (kA 2, 12, .inr (.inl res.2.2.2.2.2.2.2.2.1))), (a_ck 10, .inl (kA 3, 12, .inl res.2.2.2.2.2.2.2.2.2.1)), (a_ck 11, .inl (kA 3, 12, .inl res.2.2.2.2.2.2.2.2.2.2.1))] := by
  refine Rw.of (by decide) (Nat.le_of_ble_eq_true rfl) ?_
  intro p e s m args below meth c A hF hP hD hS hA hK ls hl
  generalize hQ : rwQ below D A _ _ args s = Q
  obtain ⟨hx, hb, hml, hown, hr, hk, hts, hN⟩ := hF
  have hl : lv_has ls 5 [(0, .ref (a_ck 0)), (1, .int p1), (2, .int p2), (3, .int p3)] := hl
  unfold f0_setRatio at h
  refine lv_aload_n hx hb dX0_setRatio_0 rfl (lv_at hl 0 rfl) ?_
  refine va_get (D := D) (ci := 0) (v := .int ck.2.2.2.2.2.2.2.2.2.2.2) (C := "ConstraintText$ClockTable") (T := TX0) (N := 12) hx hb hts ing0 hown hK hP 0 rfl rfl 11 (by decide) (hts _ tw_149) (fun _ h9 => h9) rfl dX0_setRatio_1 ?_
  refine lv_iconst (v := 1) hx hb dX0_setRatio_4 (by decide) ?_
  refine lv_isub hx hb dX0_setRatio_5 ?_
  refine lv_istore (lv' := [(4, .int (ck.2.2.2.2.2.2.2.2.2.2.2 - (1 : Int32))), (0, .ref (a_ck 0)), (1, .int p1), (2, .int p2), (3, .int p3)]) hx hb dX0_setRatio_6 hl (by decide) rfl (fun ls hl => ?_)
  refine lv_aload_n hx hb dX0_setRatio_8 rfl (lv_at hl 1 rfl) ?_
  refine lv_iload hx hb dX0_setRatio_9 (lv_at hl 0 rfl) ?_
  obtain ⟨u11, hc_11, h⟩ := bnd_some h
  refine ro_V (n := 1) (As := [.int (ck.2.2.2.2.2.2.2.2.2.2.2 - (1 : Int32))]) (rest := []) hx hb hml hown hts hN hS hK hP (c0_has l D kA a_ck (ck.2.2.2.2.2.2.2.2.2.2.2 - (1 : Int32)) ck u11 hc_11) [0, 1, 2, 3, 4, 5, 6, 7, 8, 9, 10, 11] rfl 0 0 rfl rfl rfl tw_465 tw_466 tw_467 tw_78 tw_468 rfl rfl (by decide) ⟨Nat.le_of_ble_eq_true rfl, Nat.le_of_ble_eq_true rfl⟩ rfl hl.1 rfl (Nat.le_of_ble_eq_true rfl) dX0_setRatio_11 ⟨Nat.le_of_ble_eq_true rfl, Nat.le_of_ble_eq_true rfl⟩ ?_
  refine lv_if_eq (tgt := 41) hx hb dX0_setRatio_14 (by decide) (fun bc => ?_) (fun bc => ?_)
  · have h := ite_t bc h
    obtain rfl := Option.some.inj h
    rw [← hQ]
    exact rw_return hx hb hr hk  dX0_setRatio_41  hP hD hS
  · have h := ite_f bc h
    refine lv_aload_n hx hb dX0_setRatio_17 rfl (lv_at hl 1 rfl) ?_
    refine va_get (D := D) (ci := 0) (v := .ref (a_ck 4)) (C := "ConstraintText$ClockTable") (T := TX0) (N := 12) hx hb hts ing0 hown hK hP 0 rfl rfl 3 (by decide) (hts _ tw_140) (fun _ h9 => h9) rfl dX0_setRatio_18 ?_
    refine lv_iload hx hb dX0_setRatio_21 (lv_at hl 0 rfl) ?_
    refine lv_iload_n hx hb dX0_setRatio_23 rfl (lv_at hl 2 rfl) ?_
    obtain ⟨g24, h⟩ := grd_some h
    refine va_iast hx hb hK hP hD hS 4 0 rfl rfl (inb_in g24) dX0_setRatio_24 (fun H locs hP hD hS => ?_)
    have hP : va_P D vwCl [(a_ck 0, .inr (0, [.ref (a_ck 1), .ref (a_ck 2), .ref (a_ck 3), .ref (a_ck 4), .ref (a_ck 5), .ref (a_ck 6), .ref (a_ck 7), .ref (a_ck 8), .ref (a_ck 9), .ref (a_ck 10), .ref (a_ck 11), .int ck.2.2.2.2.2.2.2.2.2.2.2])), (a_ck 1, .inl (kA 0, 12, .inl ck.1)), (a_ck 2, .inl (kA 0, 12, .inl ck.2.1)), (a_ck 3, .inl (kA 3, 12, .inl ck.2.2.1)), (a_ck 4, .inl (kA 0, 12, .inl (upd ck.2.2.2.1 (ck.2.2.2.2.2.2.2.2.2.2.2 - (1 : Int32)).toNatClampNeg p1))), (a_ck 5, .inl (kA 0, 12, .inl ck.2.2.2.2.1)), (a_ck 6, .inl (kA 2, 12, .inr (.inl ck.2.2.2.2.2.1))), (a_ck 7, .inl (kA 2, 12, .inr (.inl ck.2.2.2.2.2.2.1))), (a_ck 8, .inl (kA 2, 12, .inr (.inl ck.2.2.2.2.2.2.2.1))), (a_ck 9, .inl (kA 2, 12, .inr (.inl ck.2.2.2.2.2.2.2.2.1))), (a_ck 10, .inl (kA 3, 12, .inl ck.2.2.2.2.2.2.2.2.2.1)), (a_ck 11, .inl (kA 3, 12, .inl ck.2.2.2.2.2.2.2.2.2.2.1))] H := hP
    have hD : va_D A [(a_ck 0, .inr (0, [.ref (a_ck 1), .ref (a_ck 2), .ref (a_ck 3), .ref (a_ck 4), .ref (a_ck 5), .ref (a_ck 6), .ref (a_ck 7), .ref (a_ck 8), .ref (a_ck 9), .ref (a_ck 10), .ref (a_ck 11), .int ck.2.2.2.2.2.2.2.2.2.2.2])), (a_ck 1, .inl (kA 0, 12, .inl ck.1)), (a_ck 2, .inl (kA 0, 12, .inl ck.2.1)), (a_ck 3, .inl (kA 3, 12, .inl ck.2.2.1)), (a_ck 4, .inl (kA 0, 12, .inl (upd ck.2.2.2.1 (ck.2.2.2.2.2.2.2.2.2.2.2 - (1 : Int32)).toNatClampNeg p1))), (a_ck 5, .inl (kA 0, 12, .inl ck.2.2.2.2.1)), (a_ck 6, .inl (kA 2, 12, .inr (.inl ck.2.2.2.2.2.1))), (a_ck 7, .inl (kA 2, 12, .inr (.inl ck.2.2.2.2.2.2.1))), (a_ck 8, .inl (kA 2, 12, .inr (.inl ck.2.2.2.2.2.2.2.1))), (a_ck 9, .inl (kA 2, 12, .inr (.inl ck.2.2.2.2.2.2.2.2.1))), (a_ck 10, .inl (kA 3, 12, .inl ck.2.2.2.2.2.2.2.2.2.1)), (a_ck 11, .inl (kA 3, 12, .inl ck.2.2.2.2.2.2.2.2.2.2.1))] := hD
    refine lv_aload_n hx hb dX0_setRatio_25 rfl (lv_at hl 1 rfl) ?_
    refine va_get (D := D) (ci := 0) (v := .ref (a_ck 5)) (C := "ConstraintText$ClockTable") (T := TX0) (N := 12) hx hb hts ing0 hown hK hP 0 rfl rfl 4 (by decide) (hts _ tw_141) (fun _ h9 => h9) rfl dX0_setRatio_26 ?_
    refine lv_iload hx hb dX0_setRatio_29 (lv_at hl 0 rfl) ?_
    refine lv_iload_n hx hb dX0_setRatio_31 rfl (lv_at hl 3 rfl) ?_
    obtain ⟨g32, h⟩ := grd_some h
    refine va_iast hx hb hK hP hD hS 5 0 rfl rfl (inb_in g32) dX0_setRatio_32 (fun H locs hP hD hS => ?_)
    have hP : va_P D vwCl [(a_ck 0, .inr (0, [.ref (a_ck 1), .ref (a_ck 2), .ref (a_ck 3), .ref (a_ck 4), .ref (a_ck 5), .ref (a_ck 6), .ref (a_ck 7), .ref (a_ck 8), .ref (a_ck 9), .ref (a_ck 10), .ref (a_ck 11), .int ck.2.2.2.2.2.2.2.2.2.2.2])), (a_ck 1, .inl (kA 0, 12, .inl ck.1)), (a_ck 2, .inl (kA 0, 12, .inl ck.2.1)), (a_ck 3, .inl (kA 3, 12, .inl ck.2.2.1)), (a_ck 4, .inl (kA 0, 12, .inl (upd ck.2.2.2.1 (ck.2.2.2.2.2.2.2.2.2.2.2 - (1 : Int32)).toNatClampNeg p1))), (a_ck 5, .inl (kA 0, 12, .inl (upd ck.2.2.2.2.1 (ck.2.2.2.2.2.2.2.2.2.2.2 - (1 : Int32)).toNatClampNeg p2))), (a_ck 6, .inl (kA 2, 12, .inr (.inl ck.2.2.2.2.2.1))), (a_ck 7, .inl (kA 2, 12, .inr (.inl ck.2.2.2.2.2.2.1))), (a_ck 8, .inl (kA 2, 12, .inr (.inl ck.2.2.2.2.2.2.2.1))), (a_ck 9, .inl (kA 2, 12, .inr (.inl ck.2.2.2.2.2.2.2.2.1))), (a_ck 10, .inl (kA 3, 12, .inl ck.2.2.2.2.2.2.2.2.2.1)), (a_ck 11, .inl (kA 3, 12, .inl ck.2.2.2.2.2.2.2.2.2.2.1))] H := hP
    have hD : va_D A [(a_ck 0, .inr (0, [.ref (a_ck 1), .ref (a_ck 2), .ref (a_ck 3), .ref (a_ck 4), .ref (a_ck 5), .ref (a_ck 6), .ref (a_ck 7), .ref (a_ck 8), .ref (a_ck 9), .ref (a_ck 10), .ref (a_ck 11), .int ck.2.2.2.2.2.2.2.2.2.2.2])), (a_ck 1, .inl (kA 0, 12, .inl ck.1)), (a_ck 2, .inl (kA 0, 12, .inl ck.2.1)), (a_ck 3, .inl (kA 3, 12, .inl ck.2.2.1)), (a_ck 4, .inl (kA 0, 12, .inl (upd ck.2.2.2.1 (ck.2.2.2.2.2.2.2.2.2.2.2 - (1 : Int32)).toNatClampNeg p1))), (a_ck 5, .inl (kA 0, 12, .inl (upd ck.2.2.2.2.1 (ck.2.2.2.2.2.2.2.2.2.2.2 - (1 : Int32)).toNatClampNeg p2))), (a_ck 6, .inl (kA 2, 12, .inr (.inl ck.2.2.2.2.2.1))), (a_ck 7, .inl (kA 2, 12, .inr (.inl ck.2.2.2.2.2.2.1))), (a_ck 8, .inl (kA 2, 12, .inr (.inl ck.2.2.2.2.2.2.2.1))), (a_ck 9, .inl (kA 2, 12, .inr (.inl ck.2.2.2.2.2.2.2.2.1))), (a_ck 10, .inl (kA 3, 12, .inl ck.2.2.2.2.2.2.2.2.2.1)), (a_ck 11, .inl (kA 3, 12, .inl ck.2.2.2.2.2.2.2.2.2.2.1))] := hD
    refine lv_aload_n hx hb dX0_setRatio_33 rfl (lv_at hl 1 rfl) ?_
    refine va_get (D := D) (ci := 0) (v := .ref (a_ck 3)) (C := "ConstraintText$ClockTable") (T := TX0) (N := 12) hx hb hts ing0 hown hK hP 0 rfl rfl 2 (by decide) (hts _ tw_139) (fun _ h9 => h9) rfl dX0_setRatio_34 ?_
    refine lv_iload hx hb dX0_setRatio_37 (lv_at hl 0 rfl) ?_
    refine lv_iload_n hx hb dX0_setRatio_39 rfl (lv_at hl 4 rfl) ?_
    obtain ⟨g40, h⟩ := grd_some h
    refine va_zast hx hb hK hP hD hS 3 3 rfl rfl (inb_in g40) dX0_setRatio_40 (fun H locs hP hD hS => ?_)
    have hP : va_P D vwCl [(a_ck 0, .inr (0, [.ref (a_ck 1), .ref (a_ck 2), .ref (a_ck 3), .ref (a_ck 4), .ref (a_ck 5), .ref (a_ck 6), .ref (a_ck 7), .ref (a_ck 8), .ref (a_ck 9), .ref (a_ck 10), .ref (a_ck 11), .int ck.2.2.2.2.2.2.2.2.2.2.2])), (a_ck 1, .inl (kA 0, 12, .inl ck.1)), (a_ck 2, .inl (kA 0, 12, .inl ck.2.1)), (a_ck 3, .inl (kA 3, 12, .inl (upd ck.2.2.1 (ck.2.2.2.2.2.2.2.2.2.2.2 - (1 : Int32)).toNatClampNeg (vp_nar .boolean p3)))), (a_ck 4, .inl (kA 0, 12, .inl (upd ck.2.2.2.1 (ck.2.2.2.2.2.2.2.2.2.2.2 - (1 : Int32)).toNatClampNeg p1))), (a_ck 5, .inl (kA 0, 12, .inl (upd ck.2.2.2.2.1 (ck.2.2.2.2.2.2.2.2.2.2.2 - (1 : Int32)).toNatClampNeg p2))), (a_ck 6, .inl (kA 2, 12, .inr (.inl ck.2.2.2.2.2.1))), (a_ck 7, .inl (kA 2, 12, .inr (.inl ck.2.2.2.2.2.2.1))), (a_ck 8, .inl (kA 2, 12, .inr (.inl ck.2.2.2.2.2.2.2.1))), (a_ck 9, .inl (kA 2, 12, .inr (.inl ck.2.2.2.2.2.2.2.2.1))), (a_ck 10, .inl (kA 3, 12, .inl ck.2.2.2.2.2.2.2.2.2.1)), (a_ck 11, .inl (kA 3, 12, .inl ck.2.2.2.2.2.2.2.2.2.2.1))] H := hP
    have hD : va_D A [(a_ck 0, .inr (0, [.ref (a_ck 1), .ref (a_ck 2), .ref (a_ck 3), .ref (a_ck 4), .ref (a_ck 5), .ref (a_ck 6), .ref (a_ck 7), .ref (a_ck 8), .ref (a_ck 9), .ref (a_ck 10), .ref (a_ck 11), .int ck.2.2.2.2.2.2.2.2.2.2.2])), (a_ck 1, .inl (kA 0, 12, .inl ck.1)), (a_ck 2, .inl (kA 0, 12, .inl ck.2.1)), (a_ck 3, .inl (kA 3, 12, .inl (upd ck.2.2.1 (ck.2.2.2.2.2.2.2.2.2.2.2 - (1 : Int32)).toNatClampNeg (vp_nar .boolean p3)))), (a_ck 4, .inl (kA 0, 12, .inl (upd ck.2.2.2.1 (ck.2.2.2.2.2.2.2.2.2.2.2 - (1 : Int32)).toNatClampNeg p1))), (a_ck 5, .inl (kA 0, 12, .inl (upd ck.2.2.2.2.1 (ck.2.2.2.2.2.2.2.2.2.2.2 - (1 : Int32)).toNatClampNeg p2))), (a_ck 6, .inl (kA 2, 12, .inr (.inl ck.2.2.2.2.2.1))), (a_ck 7, .inl (kA 2, 12, .inr (.inl ck.2.2.2.2.2.2.1))), (a_ck 8, .inl (kA 2, 12, .inr (.inl ck.2.2.2.2.2.2.2.1))), (a_ck 9, .inl (kA 2, 12, .inr (.inl ck.2.2.2.2.2.2.2.2.1))), (a_ck 10, .inl (kA 3, 12, .inl ck.2.2.2.2.2.2.2.2.2.1)), (a_ck 11, .inl (kA 3, 12, .inl ck.2.2.2.2.2.2.2.2.2.2.1))] := hD
    obtain rfl := Option.some.inj h
    rw [← hQ]
    exact rw_return hx hb hr hk  dX0_setRatio_41  hP hD hS
abbrev rm0_inRing : Room := { frames := 1, cells := 0, slots := 0, locals := 21 }
set_option maxHeartbeats 4000000 in
set_option maxRecDepth 100000 in
theorem c0_inRing (l : Launch) (D : va_G) (kA : Nat → ClassId) (a_ck : Nat → Nat) (F : Nat) (p1 : Int32) (ck : T0) (res : Int32) (h : f0_inRing F p1 ck = some res) : Ro l yX0_inRing cX0_inRing 4 (some .boolean) rm0_inRing D kA [.ref (a_ck 0), .int p1] [(a_ck 0, .inr (0, [.ref (a_ck 1), .ref (a_ck 2), .ref (a_ck 3), .ref (a_ck 4), .ref (a_ck 5), .ref (a_ck 6), .ref (a_ck 7), .ref (a_ck 8), .ref (a_ck 9), .ref (a_ck 10), .ref (a_ck 11), .int ck.2.2.2.2.2.2.2.2.2.2.2])), (a_ck 1, .inl (kA 0, 12, .inl ck.1)), (a_ck 2, .inl (kA 0, 12, .inl ck.2.1)), (a_ck 3, .inl (kA 3, 12, .inl ck.2.2.1)), (a_ck 4, .inl (kA 0, 12, .inl ck.2.2.2.1)), (a_ck 5, .inl (kA 0, 12, .inl ck.2.2.2.2.1)), (a_ck 6, .inl (kA 2, 12, .inr (.inl ck.2.2.2.2.2.1))), (a_ck 7, .inl (kA 2, 12, .inr (.inl ck.2.2.2.2.2.2.1))), (a_ck 8, .inl (kA 2, 12, .inr (.inl ck.2.2.2.2.2.2.2.1))), (a_ck 9, .inl (kA 2, 12, .inr (.inl ck.2.2.2.2.2.2.2.2.1))), (a_ck 10, .inl (kA 3, 12, .inl ck.2.2.2.2.2.2.2.2.2.1)), (a_ck 11, .inl (kA 3, 12, .inl ck.2.2.2.2.2.2.2.2.2.2.1))] (.int res) := by
  refine Ro.of (by decide +kernel) (Nat.le_of_ble_eq_true rfl) ?_
  intro p e s m args below meth c hF hP hK ls hl
  generalize hQ : roQ below _ args s = Q
  obtain ⟨hx, hb, hml, hown, hr, hk, hts, hN⟩ := hF
  have hl : lv_has ls 4 [(0, .ref (a_ck 0)), (1, .int p1)] := hl
  unfold f0_inRing at h
  refine lv_iload_n hx hb dX0_inRing_0 rfl (lv_at hl 1 rfl) ?_
  refine lv_istore_n (lv' := [(2, .int p1), (0, .ref (a_ck 0)), (1, .int p1)]) hx hb dX0_inRing_1 rfl hl (by decide) rfl (fun ls hl => ?_)
  refine lv_iconst (v := 0) hx hb dX0_inRing_2 (by decide) ?_
  refine lv_istore_n (lv' := [(3, .int (0 : Int32)), (2, .int p1), (0, .ref (a_ck 0)), (1, .int p1)]) hx hb dX0_inRing_3 rfl hl (by decide) rfl (fun ls hl => ?_)
  obtain ⟨k4, e4, hk4, hi4, hc4⟩ := bnd_name h
  have x30w : ∀ (x30 : Unit) (ls : Array Slot), k4 (.inl x30) = some res → lv_has ls 4 [] → W p l e rm0_inRing s m args below meth c s.heap [] 0 0 Q (F0 m 30 ls []) := by
    intro x30 ls h hl
    have h := app_of hk4 h
    have h := cas_l h
    refine lv_iconst (v := 1) hx hb dX0_inRing_30 (by decide) ?_
    obtain rfl := Option.some.inj h
    rw [← hQ]
    exact ro_zreturn hx hb hr hk nz_Z1 dX0_inRing_31
  have x38w : ∀ (x38 : Unit) (ls : Array Slot), k4 (.inr x38) = some res → lv_has ls 4 [] → W p l e rm0_inRing s m args below meth c s.heap [] 0 0 Q (F0 m 38 ls []) := by
    intro x38 ls h hl
    have h := app_of hk4 h
    have h := cas_r h
    refine lv_iconst (v := 0) hx hb dX0_inRing_38 (by decide) ?_
    obtain rfl := Option.some.inj h
    rw [← hQ]
    exact ro_zreturn hx hb hr hk nz_Z0 dX0_inRing_39
  have lp4 : ∀ (n4 : Nat) (s4 : Int32 × Int32) (ls : Array Slot), iter (f0_inRing_L4 p1 ck) n4 s4 = some e4 → lv_has ls 4 [(0, .ref (a_ck 0)), (1, .int p1), (2, .int s4.1), (3, .int s4.2)] → W p l e rm0_inRing s m args below meth c s.heap [] 0 0 Q (F0 m 4 ls []) := by
    intro n4
    induction n4 with
    | zero =>
      intro s4 ls h hl
      exact (iter_zero h).elim
    | succ n4 ih4 =>
      intro s4 ls h hl
      obtain ⟨z4, h, hL4, hR4⟩ := iter_split h
      unfold f0_inRing_L4 at h
      refine lv_iload_n hx hb dX0_inRing_4 rfl (lv_at hl 3 rfl) ?_
      refine lv_bipush (v := 12) hx hb dX0_inRing_5 (by decide) ?_
      refine lv_icmp_ge (tgt := 38) hx hb dX0_inRing_7 (by decide) (fun bc => ?_) (fun bc => ?_)
      · have h := ite_t bc h
        obtain rfl := Option.some.inj h
        exact x38w _ ls (eq_some_app (hR4 _ rfl) hc4) (lv_sub hl [] rfl)
      · have h := ite_f bc h
        refine lv_aload_n hx hb dX0_inRing_10 rfl (lv_at hl 0 rfl) ?_
        refine lv_iload_n hx hb dX0_inRing_11 rfl (lv_at hl 2 rfl) ?_
        obtain ⟨u12, hc_12, h⟩ := bnd_some h
        refine ro_V (n := 1) (As := [.int s4.1]) (rest := []) hx hb hml hown hts hN va_S.rf hK hP (c0_has l D kA a_ck s4.1 ck u12 hc_12) [0, 1, 2, 3, 4, 5, 6, 7, 8, 9, 10, 11] rfl 0 0 rfl rfl rfl tw_465 tw_466 tw_467 tw_78 tw_468 rfl rfl (by decide) ⟨Nat.le_of_ble_eq_true rfl, Nat.le_of_ble_eq_true rfl⟩ rfl hl.1 rfl (Nat.le_of_ble_eq_true rfl) dX0_inRing_12 ⟨Nat.le_of_ble_eq_true rfl, Nat.le_of_ble_eq_true rfl⟩ ?_
        refine lv_if_eq (tgt := 38) hx hb dX0_inRing_15 (by decide) (fun bc => ?_) (fun bc => ?_)
        · have h := ite_t bc h
          obtain rfl := Option.some.inj h
          exact x38w _ ls (eq_some_app (hR4 _ rfl) hc4) (lv_sub hl [] rfl)
        · have h := ite_f bc h
          refine lv_aload_n hx hb dX0_inRing_18 rfl (lv_at hl 0 rfl) ?_
          refine va_get (D := D) (ci := 0) (v := .ref (a_ck 2)) (C := "ConstraintText$ClockTable") (T := TX0) (N := 12) hx hb hts ing0 hown hK hP 0 rfl rfl 1 (by decide) (hts _ tw_137) (fun _ h9 => h9) rfl dX0_inRing_19 ?_
          refine lv_iload_n hx hb dX0_inRing_22 rfl (lv_at hl 2 rfl) ?_
          obtain ⟨g23, h⟩ := grd_some h
          refine va_iald hx hb hK hP 2 0 rfl rfl (inb_in g23) dX0_inRing_23 ?_
          refine lv_istore_n (lv' := [(2, .int (ck.2.1 s4.1.toNatClampNeg)), (0, .ref (a_ck 0)), (1, .int p1), (3, .int s4.2)]) hx hb dX0_inRing_24 rfl hl (by decide) rfl (fun ls hl => ?_)
          refine lv_iload_n hx hb dX0_inRing_25 rfl (lv_at hl 0 rfl) ?_
          refine lv_iload_n hx hb dX0_inRing_26 rfl (lv_at hl 2 rfl) ?_
          refine lv_icmp_ne (tgt := 32) hx hb dX0_inRing_27 (by decide) (fun bc => ?_) (fun bc => ?_)
          · have h := ite_f bc h
            refine lv_iinc (v := (s4.2 + (1 : Int32))) (lv' := [(3, .int (s4.2 + (1 : Int32))), (2, .int (ck.2.1 s4.1.toNatClampNeg)), (0, .ref (a_ck 0)), (1, .int p1)]) hx hb dX0_inRing_32 hl (k := 3) rfl rfl (by decide) rfl (fun ls hl => ?_)
            refine lv_goto (tgt := 4) hx hb dX0_inRing_35 (by decide) ?_
            obtain rfl := Option.some.inj h
            exact ih4 _ ls (hL4 _ rfl) (lv_sub hl [2, 3, 1, 0] rfl)
          · have h := ite_t bc h
            obtain rfl := Option.some.inj h
            exact x30w _ ls (eq_some_app (hR4 _ rfl) hc4) (lv_sub hl [] rfl)
  exact lp4 F (p1, (0 : Int32)) ls hi4 (lv_sub hl [2, 3, 1, 0] rfl)
abbrev rm5_commonDivisor : Room := { frames := 0, cells := 0, slots := 0, locals := 0 }
set_option maxHeartbeats 4000000 in
set_option maxRecDepth 100000 in
theorem c5_commonDivisor (l : Launch) (D : va_G) (kA : Nat → ClassId)  (F : Nat) (p1 : Int64) (p2 : Int64) (res : Int64) (h : f5_commonDivisor F p1 p2 = some res) : Ro l yX5_commonDivisor cX5_commonDivisor 11 (some .long) rm5_commonDivisor D kA [.long p1, .long p2] [] (.long res) := by
  refine Ro.of (by decide +kernel) (Nat.le_of_ble_eq_true rfl) ?_
  intro p e s m args below meth c hF hP hK ls hl
  generalize hQ : roQ below _ args s = Q
  obtain ⟨hx, hb, hml, hown, hr, hk, hts, hN⟩ := hF
  have hl : lv_has ls 11 [(0, .long p1), (2, .long p2)] := hl
  unfold f5_commonDivisor at h
  refine lv_lload_n hx hb dX5_commonDivisor_0 rfl (lv_at hl 0 rfl) ?_
  refine lv_lstore (lv' := [(4, .long p1), (0, .long p1), (2, .long p2)]) hx hb dX5_commonDivisor_1 hl (by decide) rfl (fun ls hl => ?_)
  refine lv_lload_n hx hb dX5_commonDivisor_3 rfl (lv_at hl 2 rfl) ?_
  refine lv_lstore (lv' := [(6, .long p2), (4, .long p1), (0, .long p1), (2, .long p2)]) hx hb dX5_commonDivisor_4 hl (by decide) rfl (fun ls hl => ?_)
  refine lv_iconst (v := 0) hx hb dX5_commonDivisor_6 (by decide) ?_
  refine lv_istore (lv' := [(8, .int (0 : Int32)), (6, .long p2), (4, .long p1), (0, .long p1), (2, .long p2)]) hx hb dX5_commonDivisor_7 hl (by decide) rfl (fun ls hl => ?_)
  obtain ⟨k9, e9, hk9, hi9, hc9⟩ := bnd_name h
  have x45w : ∀ (x45 : Int64) (ls : Array Slot), k9 x45 = some res → lv_has ls 11 [(4, .long x45)] → W p l e rm5_commonDivisor s m args below meth c s.heap [] 0 0 Q (F0 m 45 ls []) := by
    intro x45 ls h hl
    have h := app_of hk9 h
    refine lv_lload hx hb dX5_commonDivisor_45 (lv_at hl 0 rfl) ?_
    refine lv_lconst (v := 0) hx hb dX5_commonDivisor_47 (by decide) ?_
    refine W.lcmp hx hb dX5_commonDivisor_48 ?_
    refine lv_if_le (tgt := 57) hx hb dX5_commonDivisor_49 (by decide) (fun bc => ?_) (fun bc => ?_)
    · have h := ite_t bc h
      refine lv_lconst (v := 1) hx hb dX5_commonDivisor_57 (by decide) ?_
      obtain rfl := Option.some.inj h
      rw [← hQ]
      exact ro_lreturn hx hb hr hk  dX5_commonDivisor_58
    · have h := ite_f bc h
      refine lv_lload hx hb dX5_commonDivisor_52 (lv_at hl 0 rfl) ?_
      refine lv_goto (tgt := 58) hx hb dX5_commonDivisor_54 (by decide) ?_
      obtain rfl := Option.some.inj h
      rw [← hQ]
      exact ro_lreturn hx hb hr hk  dX5_commonDivisor_58
  have lp9 : ∀ (n9 : Nat) (s9 : Int64 × Int64 × Int32) (ls : Array Slot), iter (f5_commonDivisor_L9) n9 s9 = some e9 → lv_has ls 11 [(4, .long s9.1), (6, .long s9.2.1), (8, .int s9.2.2)] → W p l e rm5_commonDivisor s m args below meth c s.heap [] 0 0 Q (F0 m 9 ls []) := by
    intro n9
    induction n9 with
    | zero =>
      intro s9 ls h hl
      exact (iter_zero h).elim
    | succ n9 ih9 =>
      intro s9 ls h hl
      obtain ⟨z9, h, hL9, hR9⟩ := iter_split h
      unfold f5_commonDivisor_L9 at h
      refine lv_lload hx hb dX5_commonDivisor_9 (lv_at hl 1 rfl) ?_
      refine lv_lconst (v := 0) hx hb dX5_commonDivisor_11 (by decide) ?_
      refine W.lcmp hx hb dX5_commonDivisor_12 ?_
      refine lv_if_le (tgt := 45) hx hb dX5_commonDivisor_13 (by decide) (fun bc => ?_) (fun bc => ?_)
      · have h := ite_t bc h
        obtain rfl := Option.some.inj h
        exact x45w _ ls (eq_some_app (hR9 _ rfl) hc9) (lv_sub hl [0] rfl)
      · have h := ite_f bc h
        refine lv_iload hx hb dX5_commonDivisor_16 (lv_at hl 2 rfl) ?_
        refine lv_sipush (v := 200) hx hb dX5_commonDivisor_18 (by decide) ?_
        refine lv_icmp_ge (tgt := 45) hx hb dX5_commonDivisor_21 (by decide) (fun bc => ?_) (fun bc => ?_)
        · have h := ite_t bc h
          obtain rfl := Option.some.inj h
          exact x45w _ ls (eq_some_app (hR9 _ rfl) hc9) (lv_sub hl [0] rfl)
        · have h := ite_f bc h
          refine lv_lload hx hb dX5_commonDivisor_24 (lv_at hl 0 rfl) ?_
          refine lv_lload hx hb dX5_commonDivisor_26 (lv_at hl 1 rfl) ?_
          obtain ⟨g28, h⟩ := grd_some h
          refine lv_lrem hx hb dX5_commonDivisor_28 (of_decide_eq_true g28) ?_
          refine lv_lstore (lv' := [(9, .long (s9.1 - s9.1 / s9.2.1 * s9.2.1)), (4, .long s9.1), (6, .long s9.2.1), (8, .int s9.2.2)]) hx hb dX5_commonDivisor_29 hl (by decide) rfl (fun ls hl => ?_)
          refine lv_lload hx hb dX5_commonDivisor_31 (lv_at hl 2 rfl) ?_
          refine lv_lstore (lv' := [(4, .long s9.2.1), (9, .long (s9.1 - s9.1 / s9.2.1 * s9.2.1)), (6, .long s9.2.1), (8, .int s9.2.2)]) hx hb dX5_commonDivisor_33 hl (by decide) rfl (fun ls hl => ?_)
          refine lv_lload hx hb dX5_commonDivisor_35 (lv_at hl 1 rfl) ?_
          refine lv_lstore (lv' := [(6, .long (s9.1 - s9.1 / s9.2.1 * s9.2.1)), (4, .long s9.2.1), (9, .long (s9.1 - s9.1 / s9.2.1 * s9.2.1)), (8, .int s9.2.2)]) hx hb dX5_commonDivisor_37 hl (by decide) rfl (fun ls hl => ?_)
          refine lv_iinc (v := (s9.2.2 + (1 : Int32))) (lv' := [(8, .int (s9.2.2 + (1 : Int32))), (6, .long (s9.1 - s9.1 / s9.2.1 * s9.2.1)), (4, .long s9.2.1), (9, .long (s9.1 - s9.1 / s9.2.1 * s9.2.1))]) hx hb dX5_commonDivisor_39 hl (k := 3) rfl rfl (by decide) rfl (fun ls hl => ?_)
          refine lv_goto (tgt := 9) hx hb dX5_commonDivisor_42 (by decide) ?_
          obtain rfl := Option.some.inj h
          exact ih9 _ ls (hL9 _ rfl) (lv_sub hl [2, 1, 0] rfl)
  exact lp9 F (p1, p2, (0 : Int32)) ls hi9 (lv_sub hl [2, 1, 0] rfl)
abbrev rm0_settle : Room := { frames := 1, cells := 0, slots := 0, locals := 30 }
set_option maxHeartbeats 4000000 in
set_option maxRecDepth 100000 in
theorem c0_settle (l : Launch) (D : va_G) (kA : Nat → ClassId) (a_ck : Nat → Nat) (F : Nat) (p1 : Int32) (p2 : Int32) (ck : T0) (res : T0) (h : f0_settle F p1 p2 ck = some res) : Rw l yX0_settle cX0_settle 13 none rm0_settle D kA [.ref (a_ck 0), .int p1, .int p2] [(a_ck 0, .inr (0, [.ref (a_ck 1), .ref (a_ck 2), .ref (a_ck 3), .ref (a_ck 4), .ref (a_ck 5), .ref (a_ck 6), .ref (a_ck 7), .ref (a_ck 8), .ref (a_ck 9), .ref (a_ck 10), .ref (a_ck 11), .int ck.2.2.2.2.2.2.2.2.2.2.2])), (a_ck 1, .inl (kA 0, 12, .inl ck.1)), (a_ck 2, .inl (kA 0, 12, .inl ck.2.1)), (a_ck 3, .inl (kA 3, 12, .inl ck.2.2.1)), (a_ck 4, .inl (kA 0, 12, .inl ck.2.2.2.1)), (a_ck 5, .inl (kA 0, 12, .inl ck.2.2.2.2.1)), (a_ck 6, .inl (kA 2, 12, .inr (.inl ck.2.2.2.2.2.1))), (a_ck 7, .inl (kA 2, 12, .inr (.inl ck.2.2.2.2.2.2.1))), (a_ck 8, .inl (kA 2, 12, .inr (.inl ck.2.2.2.2.2.2.2.1))), (a_ck 9, .inl (kA 2, 12, .inr (.inl ck.2.2.2.2.2.2.2.2.1))), (a_ck 10, .inl (kA 3, 12, .inl ck.2.2.2.2.2.2.2.2.2.1)), (a_ck 11, .inl (kA 3, 12, .inl ck.2.2.2.2.2.2.2.2.2.2.1))] none [(a_ck 0, .inr (0, [.ref (a_ck 1), .ref (a_ck 2), .ref (a_ck 3), .ref (a_ck 4), .ref (a_ck 5), .ref (a_ck 6), .ref (a_ck 7), .ref (a_ck 8), .ref (a_ck 9), .ref (a_ck 10), .ref (a_ck 11), .int res.2.2.2.2.2.2.2.2.2.2.2])), (a_ck 1, .inl (kA 0, 12, .inl res.1)), (a_ck 2, .inl (kA 0, 12, .inl res.2.1)), (a_ck 3, .inl (kA 3, 12, .inl res.2.2.1)), (a_ck 4, .inl (kA 0, 12, .inl res.2.2.2.1)), (a_ck 5, .inl (kA 0, 12, .inl res.2.2.2.2.1)), (a_ck 6, .inl (kA 2, 12, .inr (.inl res.2.2.2.2.2.1))), (a_ck 7, .inl (kA 2, 12, .inr (.inl res.2.2.2.2.2.2.1))), (a_ck 8, .inl (kA 2, 12, .inr (.inl res.2.2.2.2.2.2.2.1))), (a_ck 9, .inl (kA 2, 12, .inr (.inl res.2.2.2.2.2.2.2.2.1))), (a_ck 10, .inl (kA 3, 12, .inl res.2.2.2.2.2.2.2.2.2.1)), (a_ck 11, .inl (kA 3, 12, .inl res.2.2.2.2.2.2.2.2.2.2.1))] := by
  refine Rw.of (by decide) (Nat.le_of_ble_eq_true rfl) ?_
  intro p e s m args below meth c A hF hP hD hS hA hK ls hl
  generalize hQ : rwQ below D A _ _ args s = Q
  obtain ⟨hx, hb, hml, hown, hr, hk, hts, hN⟩ := hF
  have hl : lv_has ls 13 [(0, .ref (a_ck 0)), (1, .int p1), (2, .int p2)] := hl
  unfold f0_settle at h
  refine lv_aload_n hx hb dX0_settle_0 rfl (lv_at hl 0 rfl) ?_
  refine va_get (D := D) (ci := 0) (v := .ref (a_ck 10)) (C := "ConstraintText$ClockTable") (T := TX0) (N := 12) hx hb hts ing0 hown hK hP 0 rfl rfl 9 (by decide) (hts _ tw_146) (fun _ h9 => h9) rfl dX0_settle_1 ?_
  refine lv_iload_n hx hb dX0_settle_4 rfl (lv_at hl 1 rfl) ?_
  refine lv_iconst (v := 1) hx hb dX0_settle_5 (by decide) ?_
  obtain ⟨g6, h⟩ := grd_some h
  refine va_zast hx hb hK hP hD hS 10 3 rfl rfl (inb_in g6) dX0_settle_6 (fun H locs hP hD hS => ?_)
  have hP : va_P D vwCl [(a_ck 0, .inr (0, [.ref (a_ck 1), .ref (a_ck 2), .ref (a_ck 3), .ref (a_ck 4), .ref (a_ck 5), .ref (a_ck 6), .ref (a_ck 7), .ref (a_ck 8), .ref (a_ck 9), .ref (a_ck 10), .ref (a_ck 11), .int ck.2.2.2.2.2.2.2.2.2.2.2])), (a_ck 1, .inl (kA 0, 12, .inl ck.1)), (a_ck 2, .inl (kA 0, 12, .inl ck.2.1)), (a_ck 3, .inl (kA 3, 12, .inl ck.2.2.1)), (a_ck 4, .inl (kA 0, 12, .inl ck.2.2.2.1)), (a_ck 5, .inl (kA 0, 12, .inl ck.2.2.2.2.1)), (a_ck 6, .inl (kA 2, 12, .inr (.inl ck.2.2.2.2.2.1))), (a_ck 7, .inl (kA 2, 12, .inr (.inl ck.2.2.2.2.2.2.1))), (a_ck 8, .inl (kA 2, 12, .inr (.inl ck.2.2.2.2.2.2.2.1))), (a_ck 9, .inl (kA 2, 12, .inr (.inl ck.2.2.2.2.2.2.2.2.1))), (a_ck 10, .inl (kA 3, 12, .inl (upd ck.2.2.2.2.2.2.2.2.2.1 p1.toNatClampNeg (vp_nar .boolean (1 : Int32))))), (a_ck 11, .inl (kA 3, 12, .inl ck.2.2.2.2.2.2.2.2.2.2.1))] H := hP
  have hD : va_D A [(a_ck 0, .inr (0, [.ref (a_ck 1), .ref (a_ck 2), .ref (a_ck 3), .ref (a_ck 4), .ref (a_ck 5), .ref (a_ck 6), .ref (a_ck 7), .ref (a_ck 8), .ref (a_ck 9), .ref (a_ck 10), .ref (a_ck 11), .int ck.2.2.2.2.2.2.2.2.2.2.2])), (a_ck 1, .inl (kA 0, 12, .inl ck.1)), (a_ck 2, .inl (kA 0, 12, .inl ck.2.1)), (a_ck 3, .inl (kA 3, 12, .inl ck.2.2.1)), (a_ck 4, .inl (kA 0, 12, .inl ck.2.2.2.1)), (a_ck 5, .inl (kA 0, 12, .inl ck.2.2.2.2.1)), (a_ck 6, .inl (kA 2, 12, .inr (.inl ck.2.2.2.2.2.1))), (a_ck 7, .inl (kA 2, 12, .inr (.inl ck.2.2.2.2.2.2.1))), (a_ck 8, .inl (kA 2, 12, .inr (.inl ck.2.2.2.2.2.2.2.1))), (a_ck 9, .inl (kA 2, 12, .inr (.inl ck.2.2.2.2.2.2.2.2.1))), (a_ck 10, .inl (kA 3, 12, .inl (upd ck.2.2.2.2.2.2.2.2.2.1 p1.toNatClampNeg (vp_nar .boolean (1 : Int32))))), (a_ck 11, .inl (kA 3, 12, .inl ck.2.2.2.2.2.2.2.2.2.2.1))] := hD
  refine lv_aload_n hx hb dX0_settle_7 rfl (lv_at hl 0 rfl) ?_
  refine va_get (D := D) (ci := 0) (v := .ref (a_ck 11)) (C := "ConstraintText$ClockTable") (T := TX0) (N := 12) hx hb hts ing0 hown hK hP 0 rfl rfl 10 (by decide) (hts _ tw_147) (fun _ h9 => h9) rfl dX0_settle_8 ?_
  refine lv_iload_n hx hb dX0_settle_11 rfl (lv_at hl 1 rfl) ?_
  refine lv_aload_n hx hb dX0_settle_12 rfl (lv_at hl 0 rfl) ?_
  refine va_get (D := D) (ci := 0) (v := .ref (a_ck 11)) (C := "ConstraintText$ClockTable") (T := TX0) (N := 12) hx hb hts ing0 hown hK hP 0 rfl rfl 10 (by decide) (hts _ tw_147) (fun _ h9 => h9) rfl dX0_settle_13 ?_
  refine lv_iload_n hx hb dX0_settle_16 rfl (lv_at hl 2 rfl) ?_
  obtain ⟨g17, h⟩ := grd_some h
  refine va_zald hx hb hK hP 11 3 rfl rfl (inb_in g17) dX0_settle_17 ?_
  obtain ⟨g18, h⟩ := grd_some h
  refine va_zast hx hb hK hP hD hS 11 3 rfl rfl (inb_in g18) dX0_settle_18 (fun H locs hP hD hS => ?_)
  have hP : va_P D vwCl [(a_ck 0, .inr (0, [.ref (a_ck 1), .ref (a_ck 2), .ref (a_ck 3), .ref (a_ck 4), .ref (a_ck 5), .ref (a_ck 6), .ref (a_ck 7), .ref (a_ck 8), .ref (a_ck 9), .ref (a_ck 10), .ref (a_ck 11), .int ck.2.2.2.2.2.2.2.2.2.2.2])), (a_ck 1, .inl (kA 0, 12, .inl ck.1)), (a_ck 2, .inl (kA 0, 12, .inl ck.2.1)), (a_ck 3, .inl (kA 3, 12, .inl ck.2.2.1)), (a_ck 4, .inl (kA 0, 12, .inl ck.2.2.2.1)), (a_ck 5, .inl (kA 0, 12, .inl ck.2.2.2.2.1)), (a_ck 6, .inl (kA 2, 12, .inr (.inl ck.2.2.2.2.2.1))), (a_ck 7, .inl (kA 2, 12, .inr (.inl ck.2.2.2.2.2.2.1))), (a_ck 8, .inl (kA 2, 12, .inr (.inl ck.2.2.2.2.2.2.2.1))), (a_ck 9, .inl (kA 2, 12, .inr (.inl ck.2.2.2.2.2.2.2.2.1))), (a_ck 10, .inl (kA 3, 12, .inl (upd ck.2.2.2.2.2.2.2.2.2.1 p1.toNatClampNeg (vp_nar .boolean (1 : Int32))))), (a_ck 11, .inl (kA 3, 12, .inl (upd ck.2.2.2.2.2.2.2.2.2.2.1 p1.toNatClampNeg (vp_nar .boolean (ck.2.2.2.2.2.2.2.2.2.2.1 p2.toNatClampNeg)))))] H := hP
  have hD : va_D A [(a_ck 0, .inr (0, [.ref (a_ck 1), .ref (a_ck 2), .ref (a_ck 3), .ref (a_ck 4), .ref (a_ck 5), .ref (a_ck 6), .ref (a_ck 7), .ref (a_ck 8), .ref (a_ck 9), .ref (a_ck 10), .ref (a_ck 11), .int ck.2.2.2.2.2.2.2.2.2.2.2])), (a_ck 1, .inl (kA 0, 12, .inl ck.1)), (a_ck 2, .inl (kA 0, 12, .inl ck.2.1)), (a_ck 3, .inl (kA 3, 12, .inl ck.2.2.1)), (a_ck 4, .inl (kA 0, 12, .inl ck.2.2.2.1)), (a_ck 5, .inl (kA 0, 12, .inl ck.2.2.2.2.1)), (a_ck 6, .inl (kA 2, 12, .inr (.inl ck.2.2.2.2.2.1))), (a_ck 7, .inl (kA 2, 12, .inr (.inl ck.2.2.2.2.2.2.1))), (a_ck 8, .inl (kA 2, 12, .inr (.inl ck.2.2.2.2.2.2.2.1))), (a_ck 9, .inl (kA 2, 12, .inr (.inl ck.2.2.2.2.2.2.2.2.1))), (a_ck 10, .inl (kA 3, 12, .inl (upd ck.2.2.2.2.2.2.2.2.2.1 p1.toNatClampNeg (vp_nar .boolean (1 : Int32))))), (a_ck 11, .inl (kA 3, 12, .inl (upd ck.2.2.2.2.2.2.2.2.2.2.1 p1.toNatClampNeg (vp_nar .boolean (ck.2.2.2.2.2.2.2.2.2.2.1 p2.toNatClampNeg)))))] := hD
  refine lv_aload_n hx hb dX0_settle_19 rfl (lv_at hl 0 rfl) ?_
  refine va_get (D := D) (ci := 0) (v := .ref (a_ck 11)) (C := "ConstraintText$ClockTable") (T := TX0) (N := 12) hx hb hts ing0 hown hK hP 0 rfl rfl 10 (by decide) (hts _ tw_147) (fun _ h9 => h9) rfl dX0_settle_20 ?_
  refine lv_iload_n hx hb dX0_settle_23 rfl (lv_at hl 2 rfl) ?_
  obtain ⟨g24, h⟩ := grd_some h
  refine va_zald hx hb hK hP 11 3 rfl rfl (inb_in g24) dX0_settle_24 ?_
  refine lv_if_eq (tgt := 29) hx hb dX0_settle_25 (by decide) (fun bc => ?_) (fun bc => ?_)
  · have h := ite_t bc h
    refine lv_aload_n hx hb dX0_settle_29 rfl (lv_at hl 0 rfl) ?_
    refine va_get (D := D) (ci := 0) (v := .ref (a_ck 6)) (C := "ConstraintText$ClockTable") (T := TX0) (N := 12) hx hb hts ing0 hown hK hP 0 rfl rfl 5 (by decide) (hts _ tw_142) (fun _ h9 => h9) rfl dX0_settle_30 ?_
    refine lv_iload_n hx hb dX0_settle_33 rfl (lv_at hl 2 rfl) ?_
    obtain ⟨g34, h⟩ := grd_some h
    refine va_lald hx hb hK hP 6 2 rfl rfl (inb_in g34) dX0_settle_34 ?_
    refine lv_aload_n hx hb dX0_settle_35 rfl (lv_at hl 0 rfl) ?_
    refine va_get (D := D) (ci := 0) (v := .ref (a_ck 4)) (C := "ConstraintText$ClockTable") (T := TX0) (N := 12) hx hb hts ing0 hown hK hP 0 rfl rfl 3 (by decide) (hts _ tw_140) (fun _ h9 => h9) rfl dX0_settle_36 ?_
    refine lv_iload_n hx hb dX0_settle_39 rfl (lv_at hl 1 rfl) ?_
    obtain ⟨g40, h⟩ := grd_some h
    refine va_iald hx hb hK hP 4 0 rfl rfl (inb_in g40) dX0_settle_40 ?_
    refine lv_i2l (v := (ck.2.2.2.1 p1.toNatClampNeg).toInt64) hx hb dX0_settle_41 rfl ?_
    refine lv_lmul hx hb dX0_settle_42 ?_
    refine lv_lstore_n (lv' := [(3, .long ((ck.2.2.2.2.2.1 p2.toNatClampNeg) * (ck.2.2.2.1 p1.toNatClampNeg).toInt64)), (0, .ref (a_ck 0)), (1, .int p1), (2, .int p2)]) hx hb dX0_settle_43 rfl hl (by decide) rfl (fun ls hl => ?_)
    refine lv_aload_n hx hb dX0_settle_44 rfl (lv_at hl 1 rfl) ?_
    refine va_get (D := D) (ci := 0) (v := .ref (a_ck 3)) (C := "ConstraintText$ClockTable") (T := TX0) (N := 12) hx hb hts ing0 hown hK hP 0 rfl rfl 2 (by decide) (hts _ tw_139) (fun _ h9 => h9) rfl dX0_settle_45 ?_
    refine lv_iload_n hx hb dX0_settle_48 rfl (lv_at hl 2 rfl) ?_
    obtain ⟨g49, h⟩ := grd_some h
    refine va_zald hx hb hK hP 3 3 rfl rfl (inb_in g49) dX0_settle_49 ?_
    obtain ⟨k68, hk68, h⟩ := jn_name h
    have j68 : ∀ (v68 : Int64) (H : Heap) (locs : List Loc) (ls : Array Slot), k68 v68 = some res → va_P D vwCl [(a_ck 0, .inr (0, [.ref (a_ck 1), .ref (a_ck 2), .ref (a_ck 3), .ref (a_ck 4), .ref (a_ck 5), .ref (a_ck 6), .ref (a_ck 7), .ref (a_ck 8), .ref (a_ck 9), .ref (a_ck 10), .ref (a_ck 11), .int ck.2.2.2.2.2.2.2.2.2.2.2])), (a_ck 1, .inl (kA 0, 12, .inl ck.1)), (a_ck 2, .inl (kA 0, 12, .inl ck.2.1)), (a_ck 3, .inl (kA 3, 12, .inl ck.2.2.1)), (a_ck 4, .inl (kA 0, 12, .inl ck.2.2.2.1)), (a_ck 5, .inl (kA 0, 12, .inl ck.2.2.2.2.1)), (a_ck 6, .inl (kA 2, 12, .inr (.inl ck.2.2.2.2.2.1))), (a_ck 7, .inl (kA 2, 12, .inr (.inl ck.2.2.2.2.2.2.1))), (a_ck 8, .inl (kA 2, 12, .inr (.inl ck.2.2.2.2.2.2.2.1))), (a_ck 9, .inl (kA 2, 12, .inr (.inl ck.2.2.2.2.2.2.2.2.1))), (a_ck 10, .inl (kA 3, 12, .inl (upd ck.2.2.2.2.2.2.2.2.2.1 p1.toNatClampNeg (vp_nar .boolean (1 : Int32))))), (a_ck 11, .inl (kA 3, 12, .inl (upd ck.2.2.2.2.2.2.2.2.2.2.1 p1.toNatClampNeg (vp_nar .boolean (ck.2.2.2.2.2.2.2.2.2.2.1 p2.toNatClampNeg)))))] H → va_D A [(a_ck 0, .inr (0, [.ref (a_ck 1), .ref (a_ck 2), .ref (a_ck 3), .ref (a_ck 4), .ref (a_ck 5), .ref (a_ck 6), .ref (a_ck 7), .ref (a_ck 8), .ref (a_ck 9), .ref (a_ck 10), .ref (a_ck 11), .int ck.2.2.2.2.2.2.2.2.2.2.2])), (a_ck 1, .inl (kA 0, 12, .inl ck.1)), (a_ck 2, .inl (kA 0, 12, .inl ck.2.1)), (a_ck 3, .inl (kA 3, 12, .inl ck.2.2.1)), (a_ck 4, .inl (kA 0, 12, .inl ck.2.2.2.1)), (a_ck 5, .inl (kA 0, 12, .inl ck.2.2.2.2.1)), (a_ck 6, .inl (kA 2, 12, .inr (.inl ck.2.2.2.2.2.1))), (a_ck 7, .inl (kA 2, 12, .inr (.inl ck.2.2.2.2.2.2.1))), (a_ck 8, .inl (kA 2, 12, .inr (.inl ck.2.2.2.2.2.2.2.1))), (a_ck 9, .inl (kA 2, 12, .inr (.inl ck.2.2.2.2.2.2.2.2.1))), (a_ck 10, .inl (kA 3, 12, .inl (upd ck.2.2.2.2.2.2.2.2.2.1 p1.toNatClampNeg (vp_nar .boolean (1 : Int32))))), (a_ck 11, .inl (kA 3, 12, .inl (upd ck.2.2.2.2.2.2.2.2.2.2.1 p1.toNatClampNeg (vp_nar .boolean (ck.2.2.2.2.2.2.2.2.2.2.1 p2.toNatClampNeg)))))] → va_S A s.heap H locs → lv_has ls 13 [(0, .ref (a_ck 0)), (1, .int p1), (2, .int p2), (3, .long ((ck.2.2.2.2.2.1 p2.toNatClampNeg) * (ck.2.2.2.1 p1.toNatClampNeg).toInt64))] → W p l e rm0_settle s m args below meth c H locs 0 0 Q (F0 m 68 ls [.long v68]) := by
      intro v68 H locs ls h hP hD hS hl
      have h := app_of hk68 h
      refine lv_aload_n hx hb dX0_settle_68 rfl (lv_at hl 0 rfl) ?_
      refine va_get (D := D) (ci := 0) (v := .ref (a_ck 4)) (C := "ConstraintText$ClockTable") (T := TX0) (N := 12) hx hb hts ing0 hown hK hP 0 rfl rfl 3 (by decide) (hts _ tw_140) (fun _ h9 => h9) rfl dX0_settle_69 ?_
      refine lv_iload_n hx hb dX0_settle_72 rfl (lv_at hl 1 rfl) ?_
      obtain ⟨g73, h⟩ := grd_some h
      refine va_iald hx hb hK hP 4 0 rfl rfl (inb_in g73) dX0_settle_73 ?_
      refine lv_i2l (v := (ck.2.2.2.1 p1.toNatClampNeg).toInt64) hx hb dX0_settle_74 rfl ?_
      refine lv_lmul hx hb dX0_settle_75 ?_
      refine lv_lstore (lv' := [(5, .long (v68 * (ck.2.2.2.1 p1.toNatClampNeg).toInt64)), (0, .ref (a_ck 0)), (1, .int p1), (2, .int p2), (3, .long ((ck.2.2.2.2.2.1 p2.toNatClampNeg) * (ck.2.2.2.1 p1.toNatClampNeg).toInt64))]) hx hb dX0_settle_76 hl (by decide) rfl (fun ls hl => ?_)
      refine lv_aload_n hx hb dX0_settle_78 rfl (lv_at hl 1 rfl) ?_
      refine va_get (D := D) (ci := 0) (v := .ref (a_ck 3)) (C := "ConstraintText$ClockTable") (T := TX0) (N := 12) hx hb hts ing0 hown hK hP 0 rfl rfl 2 (by decide) (hts _ tw_139) (fun _ h9 => h9) rfl dX0_settle_79 ?_
      refine lv_iload_n hx hb dX0_settle_82 rfl (lv_at hl 2 rfl) ?_
      obtain ⟨g83, h⟩ := grd_some h
      refine va_zald hx hb hK hP 3 3 rfl rfl (inb_in g83) dX0_settle_83 ?_
      obtain ⟨k102, hk102, h⟩ := jn_name h
      have j102 : ∀ (v102 : Int64) (H : Heap) (locs : List Loc) (ls : Array Slot), k102 v102 = some res → va_P D vwCl [(a_ck 0, .inr (0, [.ref (a_ck 1), .ref (a_ck 2), .ref (a_ck 3), .ref (a_ck 4), .ref (a_ck 5), .ref (a_ck 6), .ref (a_ck 7), .ref (a_ck 8), .ref (a_ck 9), .ref (a_ck 10), .ref (a_ck 11), .int ck.2.2.2.2.2.2.2.2.2.2.2])), (a_ck 1, .inl (kA 0, 12, .inl ck.1)), (a_ck 2, .inl (kA 0, 12, .inl ck.2.1)), (a_ck 3, .inl (kA 3, 12, .inl ck.2.2.1)), (a_ck 4, .inl (kA 0, 12, .inl ck.2.2.2.1)), (a_ck 5, .inl (kA 0, 12, .inl ck.2.2.2.2.1)), (a_ck 6, .inl (kA 2, 12, .inr (.inl ck.2.2.2.2.2.1))), (a_ck 7, .inl (kA 2, 12, .inr (.inl ck.2.2.2.2.2.2.1))), (a_ck 8, .inl (kA 2, 12, .inr (.inl ck.2.2.2.2.2.2.2.1))), (a_ck 9, .inl (kA 2, 12, .inr (.inl ck.2.2.2.2.2.2.2.2.1))), (a_ck 10, .inl (kA 3, 12, .inl (upd ck.2.2.2.2.2.2.2.2.2.1 p1.toNatClampNeg (vp_nar .boolean (1 : Int32))))), (a_ck 11, .inl (kA 3, 12, .inl (upd ck.2.2.2.2.2.2.2.2.2.2.1 p1.toNatClampNeg (vp_nar .boolean (ck.2.2.2.2.2.2.2.2.2.2.1 p2.toNatClampNeg)))))] H → va_D A [(a_ck 0, .inr (0, [.ref (a_ck 1), .ref (a_ck 2), .ref (a_ck 3), .ref (a_ck 4), .ref (a_ck 5), .ref (a_ck 6), .ref (a_ck 7), .ref (a_ck 8), .ref (a_ck 9), .ref (a_ck 10), .ref (a_ck 11), .int ck.2.2.2.2.2.2.2.2.2.2.2])), (a_ck 1, .inl (kA 0, 12, .inl ck.1)), (a_ck 2, .inl (kA 0, 12, .inl ck.2.1)), (a_ck 3, .inl (kA 3, 12, .inl ck.2.2.1)), (a_ck 4, .inl (kA 0, 12, .inl ck.2.2.2.1)), (a_ck 5, .inl (kA 0, 12, .inl ck.2.2.2.2.1)), (a_ck 6, .inl (kA 2, 12, .inr (.inl ck.2.2.2.2.2.1))), (a_ck 7, .inl (kA 2, 12, .inr (.inl ck.2.2.2.2.2.2.1))), (a_ck 8, .inl (kA 2, 12, .inr (.inl ck.2.2.2.2.2.2.2.1))), (a_ck 9, .inl (kA 2, 12, .inr (.inl ck.2.2.2.2.2.2.2.2.1))), (a_ck 10, .inl (kA 3, 12, .inl (upd ck.2.2.2.2.2.2.2.2.2.1 p1.toNatClampNeg (vp_nar .boolean (1 : Int32))))), (a_ck 11, .inl (kA 3, 12, .inl (upd ck.2.2.2.2.2.2.2.2.2.2.1 p1.toNatClampNeg (vp_nar .boolean (ck.2.2.2.2.2.2.2.2.2.2.1 p2.toNatClampNeg)))))] → va_S A s.heap H locs → lv_has ls 13 [(0, .ref (a_ck 0)), (1, .int p1), (2, .int p2), (3, .long ((ck.2.2.2.2.2.1 p2.toNatClampNeg) * (ck.2.2.2.1 p1.toNatClampNeg).toInt64)), (5, .long (v68 * (ck.2.2.2.1 p1.toNatClampNeg).toInt64))] → W p l e rm0_settle s m args below meth c H locs 0 0 Q (F0 m 102 ls [.long v102]) := by
        intro v102 H locs ls h hP hD hS hl
        have h := app_of hk102 h
        refine lv_aload_n hx hb dX0_settle_102 rfl (lv_at hl 0 rfl) ?_
        refine va_get (D := D) (ci := 0) (v := .ref (a_ck 4)) (C := "ConstraintText$ClockTable") (T := TX0) (N := 12) hx hb hts ing0 hown hK hP 0 rfl rfl 3 (by decide) (hts _ tw_140) (fun _ h9 => h9) rfl dX0_settle_103 ?_
        refine lv_iload_n hx hb dX0_settle_106 rfl (lv_at hl 1 rfl) ?_
        obtain ⟨g107, h⟩ := grd_some h
        refine va_iald hx hb hK hP 4 0 rfl rfl (inb_in g107) dX0_settle_107 ?_
        refine lv_i2l (v := (ck.2.2.2.1 p1.toNatClampNeg).toInt64) hx hb dX0_settle_108 rfl ?_
        refine lv_lmul hx hb dX0_settle_109 ?_
        refine lv_lstore (lv' := [(7, .long (v102 * (ck.2.2.2.1 p1.toNatClampNeg).toInt64)), (0, .ref (a_ck 0)), (1, .int p1), (2, .int p2), (3, .long ((ck.2.2.2.2.2.1 p2.toNatClampNeg) * (ck.2.2.2.1 p1.toNatClampNeg).toInt64)), (5, .long (v68 * (ck.2.2.2.1 p1.toNatClampNeg).toInt64))]) hx hb dX0_settle_110 hl (by decide) rfl (fun ls hl => ?_)
        refine lv_aload_n hx hb dX0_settle_112 rfl (lv_at hl 1 rfl) ?_
        refine va_get (D := D) (ci := 0) (v := .ref (a_ck 9)) (C := "ConstraintText$ClockTable") (T := TX0) (N := 12) hx hb hts ing0 hown hK hP 0 rfl rfl 8 (by decide) (hts _ tw_145) (fun _ h9 => h9) rfl dX0_settle_113 ?_
        refine lv_iload_n hx hb dX0_settle_116 rfl (lv_at hl 3 rfl) ?_
        obtain ⟨g117, h⟩ := grd_some h
        refine va_lald hx hb hK hP 9 2 rfl rfl (inb_in g117) dX0_settle_117 ?_
        refine lv_aload_n hx hb dX0_settle_118 rfl (lv_at hl 1 rfl) ?_
        refine va_get (D := D) (ci := 0) (v := .ref (a_ck 5)) (C := "ConstraintText$ClockTable") (T := TX0) (N := 12) hx hb hts ing0 hown hK hP 0 rfl rfl 4 (by decide) (hts _ tw_141) (fun _ h9 => h9) rfl dX0_settle_119 ?_
        refine lv_iload_n hx hb dX0_settle_122 rfl (lv_at hl 2 rfl) ?_
        obtain ⟨g123, h⟩ := grd_some h
        refine va_iald hx hb hK hP 5 0 rfl rfl (inb_in g123) dX0_settle_123 ?_
        refine lv_i2l (v := (ck.2.2.2.2.1 p1.toNatClampNeg).toInt64) hx hb dX0_settle_124 rfl ?_
        refine lv_lmul hx hb dX0_settle_125 ?_
        refine lv_lstore (lv' := [(9, .long ((ck.2.2.2.2.2.2.2.2.1 p2.toNatClampNeg) * (ck.2.2.2.2.1 p1.toNatClampNeg).toInt64)), (7, .long (v102 * (ck.2.2.2.1 p1.toNatClampNeg).toInt64)), (0, .ref (a_ck 0)), (1, .int p1), (2, .int p2), (3, .long ((ck.2.2.2.2.2.1 p2.toNatClampNeg) * (ck.2.2.2.1 p1.toNatClampNeg).toInt64)), (5, .long (v68 * (ck.2.2.2.1 p1.toNatClampNeg).toInt64))]) hx hb dX0_settle_126 hl (by decide) rfl (fun ls hl => ?_)
        refine lv_lload_n hx hb dX0_settle_128 rfl (lv_at hl 5 rfl) ?_
        refine lv_lload hx hb dX0_settle_129 (lv_at hl 6 rfl) ?_
        obtain ⟨u131, hc_131, h⟩ := bnd_some h
        refine ro_SN (n := 2) (As := [.long ((ck.2.2.2.2.2.1 p2.toNatClampNeg) * (ck.2.2.2.1 p1.toNatClampNeg).toInt64), .long (v68 * (ck.2.2.2.1 p1.toNatClampNeg).toInt64)]) (rest := []) hx hb hml hown hts hN hS hK hP (c5_commonDivisor l D kA F ((ck.2.2.2.2.2.1 p2.toNatClampNeg) * (ck.2.2.2.1 p1.toNatClampNeg).toInt64) (v68 * (ck.2.2.2.1 p1.toNatClampNeg).toInt64) u131 hc_131) [] rfl nw_562 tw_563 tw_74 tw_564 rfl rfl (by decide) ⟨Nat.le_of_ble_eq_true rfl, Nat.le_of_ble_eq_true rfl⟩ rfl hl.1 rfl (Nat.le_of_ble_eq_true rfl) dX0_settle_131 ⟨Nat.le_of_ble_eq_true rfl, Nat.le_of_ble_eq_true rfl⟩ ?_
        refine lv_lload hx hb dX0_settle_134 (lv_at hl 1 rfl) ?_
        refine lv_lload hx hb dX0_settle_136 (lv_at hl 0 rfl) ?_
        obtain ⟨u138, hc_138, h⟩ := bnd_some h
        refine ro_SN (n := 2) (As := [.long (v102 * (ck.2.2.2.1 p1.toNatClampNeg).toInt64), .long ((ck.2.2.2.2.2.2.2.2.1 p2.toNatClampNeg) * (ck.2.2.2.2.1 p1.toNatClampNeg).toInt64)]) (rest := [.long u131]) hx hb hml hown hts hN hS hK hP (c5_commonDivisor l D kA F (v102 * (ck.2.2.2.1 p1.toNatClampNeg).toInt64) ((ck.2.2.2.2.2.2.2.2.1 p2.toNatClampNeg) * (ck.2.2.2.2.1 p1.toNatClampNeg).toInt64) u138 hc_138) [] rfl nw_562 tw_563 tw_74 tw_564 rfl rfl (by decide) ⟨Nat.le_of_ble_eq_true rfl, Nat.le_of_ble_eq_true rfl⟩ rfl hl.1 rfl (Nat.le_of_ble_eq_true rfl) dX0_settle_138 ⟨Nat.le_of_ble_eq_true rfl, Nat.le_of_ble_eq_true rfl⟩ ?_
        obtain ⟨u141, hc_141, h⟩ := bnd_some h
        refine ro_SN (n := 2) (As := [.long u131, .long u138]) (rest := []) hx hb hml hown hts hN hS hK hP (c5_commonDivisor l D kA F u131 u138 u141 hc_141) [] rfl nw_562 tw_563 tw_74 tw_564 rfl rfl (by decide) ⟨Nat.le_of_ble_eq_true rfl, Nat.le_of_ble_eq_true rfl⟩ rfl hl.1 rfl (Nat.le_of_ble_eq_true rfl) dX0_settle_141 ⟨Nat.le_of_ble_eq_true rfl, Nat.le_of_ble_eq_true rfl⟩ ?_
        refine lv_lstore (lv' := [(11, .long u141), (9, .long ((ck.2.2.2.2.2.2.2.2.1 p2.toNatClampNeg) * (ck.2.2.2.2.1 p1.toNatClampNeg).toInt64)), (7, .long (v102 * (ck.2.2.2.1 p1.toNatClampNeg).toInt64)), (0, .ref (a_ck 0)), (1, .int p1), (2, .int p2), (3, .long ((ck.2.2.2.2.2.1 p2.toNatClampNeg) * (ck.2.2.2.1 p1.toNatClampNeg).toInt64)), (5, .long (v68 * (ck.2.2.2.1 p1.toNatClampNeg).toInt64))]) hx hb dX0_settle_144 hl (by decide) rfl (fun ls hl => ?_)
        refine lv_aload_n hx hb dX0_settle_146 rfl (lv_at hl 3 rfl) ?_
        refine va_get (D := D) (ci := 0) (v := .ref (a_ck 6)) (C := "ConstraintText$ClockTable") (T := TX0) (N := 12) hx hb hts ing0 hown hK hP 0 rfl rfl 5 (by decide) (hts _ tw_142) (fun _ h9 => h9) rfl dX0_settle_147 ?_
        refine lv_iload_n hx hb dX0_settle_150 rfl (lv_at hl 4 rfl) ?_
        refine lv_lload_n hx hb dX0_settle_151 rfl (lv_at hl 6 rfl) ?_
        refine lv_lload hx hb dX0_settle_152 (lv_at hl 0 rfl) ?_
        obtain ⟨g154, h⟩ := grd_some h
        refine lv_ldiv hx hb dX0_settle_154 (of_decide_eq_true g154) ?_
        obtain ⟨g155, h⟩ := grd_some h
        refine va_last hx hb hK hP hD hS 6 2 rfl rfl (inb_in g155) dX0_settle_155 (fun H locs hP hD hS => ?_)
        have hP : va_P D vwCl [(a_ck 0, .inr (0, [.ref (a_ck 1), .ref (a_ck 2), .ref (a_ck 3), .ref (a_ck 4), .ref (a_ck 5), .ref (a_ck 6), .ref (a_ck 7), .ref (a_ck 8), .ref (a_ck 9), .ref (a_ck 10), .ref (a_ck 11), .int ck.2.2.2.2.2.2.2.2.2.2.2])), (a_ck 1, .inl (kA 0, 12, .inl ck.1)), (a_ck 2, .inl (kA 0, 12, .inl ck.2.1)), (a_ck 3, .inl (kA 3, 12, .inl ck.2.2.1)), (a_ck 4, .inl (kA 0, 12, .inl ck.2.2.2.1)), (a_ck 5, .inl (kA 0, 12, .inl ck.2.2.2.2.1)), (a_ck 6, .inl (kA 2, 12, .inr (.inl (vp_updL ck.2.2.2.2.2.1 p1.toNatClampNeg (((ck.2.2.2.2.2.1 p2.toNatClampNeg) * (ck.2.2.2.1 p1.toNatClampNeg).toInt64) / u141))))), (a_ck 7, .inl (kA 2, 12, .inr (.inl ck.2.2.2.2.2.2.1))), (a_ck 8, .inl (kA 2, 12, .inr (.inl ck.2.2.2.2.2.2.2.1))), (a_ck 9, .inl (kA 2, 12, .inr (.inl ck.2.2.2.2.2.2.2.2.1))), (a_ck 10, .inl (kA 3, 12, .inl (upd ck.2.2.2.2.2.2.2.2.2.1 p1.toNatClampNeg (vp_nar .boolean (1 : Int32))))), (a_ck 11, .inl (kA 3, 12, .inl (upd ck.2.2.2.2.2.2.2.2.2.2.1 p1.toNatClampNeg (vp_nar .boolean (ck.2.2.2.2.2.2.2.2.2.2.1 p2.toNatClampNeg)))))] H := hP
        have hD : va_D A [(a_ck 0, .inr (0, [.ref (a_ck 1), .ref (a_ck 2), .ref (a_ck 3), .ref (a_ck 4), .ref (a_ck 5), .ref (a_ck 6), .ref (a_ck 7), .ref (a_ck 8), .ref (a_ck 9), .ref (a_ck 10), .ref (a_ck 11), .int ck.2.2.2.2.2.2.2.2.2.2.2])), (a_ck 1, .inl (kA 0, 12, .inl ck.1)), (a_ck 2, .inl (kA 0, 12, .inl ck.2.1)), (a_ck 3, .inl (kA 3, 12, .inl ck.2.2.1)), (a_ck 4, .inl (kA 0, 12, .inl ck.2.2.2.1)), (a_ck 5, .inl (kA 0, 12, .inl ck.2.2.2.2.1)), (a_ck 6, .inl (kA 2, 12, .inr (.inl (vp_updL ck.2.2.2.2.2.1 p1.toNatClampNeg (((ck.2.2.2.2.2.1 p2.toNatClampNeg) * (ck.2.2.2.1 p1.toNatClampNeg).toInt64) / u141))))), (a_ck 7, .inl (kA 2, 12, .inr (.inl ck.2.2.2.2.2.2.1))), (a_ck 8, .inl (kA 2, 12, .inr (.inl ck.2.2.2.2.2.2.2.1))), (a_ck 9, .inl (kA 2, 12, .inr (.inl ck.2.2.2.2.2.2.2.2.1))), (a_ck 10, .inl (kA 3, 12, .inl (upd ck.2.2.2.2.2.2.2.2.2.1 p1.toNatClampNeg (vp_nar .boolean (1 : Int32))))), (a_ck 11, .inl (kA 3, 12, .inl (upd ck.2.2.2.2.2.2.2.2.2.2.1 p1.toNatClampNeg (vp_nar .boolean (ck.2.2.2.2.2.2.2.2.2.2.1 p2.toNatClampNeg)))))] := hD
        refine lv_aload_n hx hb dX0_settle_156 rfl (lv_at hl 3 rfl) ?_
        refine va_get (D := D) (ci := 0) (v := .ref (a_ck 7)) (C := "ConstraintText$ClockTable") (T := TX0) (N := 12) hx hb hts ing0 hown hK hP 0 rfl rfl 6 (by decide) (hts _ tw_143) (fun _ h9 => h9) rfl dX0_settle_157 ?_
        refine lv_iload_n hx hb dX0_settle_160 rfl (lv_at hl 4 rfl) ?_
        refine lv_lload hx hb dX0_settle_161 (lv_at hl 7 rfl) ?_
        refine lv_lload hx hb dX0_settle_163 (lv_at hl 0 rfl) ?_
        obtain ⟨g165, h⟩ := grd_some h
        refine lv_ldiv hx hb dX0_settle_165 (of_decide_eq_true g165) ?_
        obtain ⟨g166, h⟩ := grd_some h
        refine va_last hx hb hK hP hD hS 7 2 rfl rfl (inb_in g166) dX0_settle_166 (fun H locs hP hD hS => ?_)
        have hP : va_P D vwCl [(a_ck 0, .inr (0, [.ref (a_ck 1), .ref (a_ck 2), .ref (a_ck 3), .ref (a_ck 4), .ref (a_ck 5), .ref (a_ck 6), .ref (a_ck 7), .ref (a_ck 8), .ref (a_ck 9), .ref (a_ck 10), .ref (a_ck 11), .int ck.2.2.2.2.2.2.2.2.2.2.2])), (a_ck 1, .inl (kA 0, 12, .inl ck.1)), (a_ck 2, .inl (kA 0, 12, .inl ck.2.1)), (a_ck 3, .inl (kA 3, 12, .inl ck.2.2.1)), (a_ck 4, .inl (kA 0, 12, .inl ck.2.2.2.1)), (a_ck 5, .inl (kA 0, 12, .inl ck.2.2.2.2.1)), (a_ck 6, .inl (kA 2, 12, .inr (.inl (vp_updL ck.2.2.2.2.2.1 p1.toNatClampNeg (((ck.2.2.2.2.2.1 p2.toNatClampNeg) * (ck.2.2.2.1 p1.toNatClampNeg).toInt64) / u141))))), (a_ck 7, .inl (kA 2, 12, .inr (.inl (vp_updL ck.2.2.2.2.2.2.1 p1.toNatClampNeg ((v68 * (ck.2.2.2.1 p1.toNatClampNeg).toInt64) / u141))))), (a_ck 8, .inl (kA 2, 12, .inr (.inl ck.2.2.2.2.2.2.2.1))), (a_ck 9, .inl (kA 2, 12, .inr (.inl ck.2.2.2.2.2.2.2.2.1))), (a_ck 10, .inl (kA 3, 12, .inl (upd ck.2.2.2.2.2.2.2.2.2.1 p1.toNatClampNeg (vp_nar .boolean (1 : Int32))))), (a_ck 11, .inl (kA 3, 12, .inl (upd ck.2.2.2.2.2.2.2.2.2.2.1 p1.toNatClampNeg (vp_nar .boolean (ck.2.2.2.2.2.2.2.2.2.2.1 p2.toNatClampNeg)))))] H := hP
        have hD : va_D A [(a_ck 0, .inr (0, [.ref (a_ck 1), .ref (a_ck 2), .ref (a_ck 3), .ref (a_ck 4), .ref (a_ck 5), .ref (a_ck 6), .ref (a_ck 7), .ref (a_ck 8), .ref (a_ck 9), .ref (a_ck 10), .ref (a_ck 11), .int ck.2.2.2.2.2.2.2.2.2.2.2])), (a_ck 1, .inl (kA 0, 12, .inl ck.1)), (a_ck 2, .inl (kA 0, 12, .inl ck.2.1)), (a_ck 3, .inl (kA 3, 12, .inl ck.2.2.1)), (a_ck 4, .inl (kA 0, 12, .inl ck.2.2.2.1)), (a_ck 5, .inl (kA 0, 12, .inl ck.2.2.2.2.1)), (a_ck 6, .inl (kA 2, 12, .inr (.inl (vp_updL ck.2.2.2.2.2.1 p1.toNatClampNeg (((ck.2.2.2.2.2.1 p2.toNatClampNeg) * (ck.2.2.2.1 p1.toNatClampNeg).toInt64) / u141))))), (a_ck 7, .inl (kA 2, 12, .inr (.inl (vp_updL ck.2.2.2.2.2.2.1 p1.toNatClampNeg ((v68 * (ck.2.2.2.1 p1.toNatClampNeg).toInt64) / u141))))), (a_ck 8, .inl (kA 2, 12, .inr (.inl ck.2.2.2.2.2.2.2.1))), (a_ck 9, .inl (kA 2, 12, .inr (.inl ck.2.2.2.2.2.2.2.2.1))), (a_ck 10, .inl (kA 3, 12, .inl (upd ck.2.2.2.2.2.2.2.2.2.1 p1.toNatClampNeg (vp_nar .boolean (1 : Int32))))), (a_ck 11, .inl (kA 3, 12, .inl (upd ck.2.2.2.2.2.2.2.2.2.2.1 p1.toNatClampNeg (vp_nar .boolean (ck.2.2.2.2.2.2.2.2.2.2.1 p2.toNatClampNeg)))))] := hD
        refine lv_aload_n hx hb dX0_settle_167 rfl (lv_at hl 3 rfl) ?_
        refine va_get (D := D) (ci := 0) (v := .ref (a_ck 8)) (C := "ConstraintText$ClockTable") (T := TX0) (N := 12) hx hb hts ing0 hown hK hP 0 rfl rfl 7 (by decide) (hts _ tw_144) (fun _ h9 => h9) rfl dX0_settle_168 ?_
        refine lv_iload_n hx hb dX0_settle_171 rfl (lv_at hl 4 rfl) ?_
        refine lv_lload hx hb dX0_settle_172 (lv_at hl 2 rfl) ?_
        refine lv_lload hx hb dX0_settle_174 (lv_at hl 0 rfl) ?_
        obtain ⟨g176, h⟩ := grd_some h
        refine lv_ldiv hx hb dX0_settle_176 (of_decide_eq_true g176) ?_
        obtain ⟨g177, h⟩ := grd_some h
        refine va_last hx hb hK hP hD hS 8 2 rfl rfl (inb_in g177) dX0_settle_177 (fun H locs hP hD hS => ?_)
        have hP : va_P D vwCl [(a_ck 0, .inr (0, [.ref (a_ck 1), .ref (a_ck 2), .ref (a_ck 3), .ref (a_ck 4), .ref (a_ck 5), .ref (a_ck 6), .ref (a_ck 7), .ref (a_ck 8), .ref (a_ck 9), .ref (a_ck 10), .ref (a_ck 11), .int ck.2.2.2.2.2.2.2.2.2.2.2])), (a_ck 1, .inl (kA 0, 12, .inl ck.1)), (a_ck 2, .inl (kA 0, 12, .inl ck.2.1)), (a_ck 3, .inl (kA 3, 12, .inl ck.2.2.1)), (a_ck 4, .inl (kA 0, 12, .inl ck.2.2.2.1)), (a_ck 5, .inl (kA 0, 12, .inl ck.2.2.2.2.1)), (a_ck 6, .inl (kA 2, 12, .inr (.inl (vp_updL ck.2.2.2.2.2.1 p1.toNatClampNeg (((ck.2.2.2.2.2.1 p2.toNatClampNeg) * (ck.2.2.2.1 p1.toNatClampNeg).toInt64) / u141))))), (a_ck 7, .inl (kA 2, 12, .inr (.inl (vp_updL ck.2.2.2.2.2.2.1 p1.toNatClampNeg ((v68 * (ck.2.2.2.1 p1.toNatClampNeg).toInt64) / u141))))), (a_ck 8, .inl (kA 2, 12, .inr (.inl (vp_updL ck.2.2.2.2.2.2.2.1 p1.toNatClampNeg ((v102 * (ck.2.2.2.1 p1.toNatClampNeg).toInt64) / u141))))), (a_ck 9, .inl (kA 2, 12, .inr (.inl ck.2.2.2.2.2.2.2.2.1))), (a_ck 10, .inl (kA 3, 12, .inl (upd ck.2.2.2.2.2.2.2.2.2.1 p1.toNatClampNeg (vp_nar .boolean (1 : Int32))))), (a_ck 11, .inl (kA 3, 12, .inl (upd ck.2.2.2.2.2.2.2.2.2.2.1 p1.toNatClampNeg (vp_nar .boolean (ck.2.2.2.2.2.2.2.2.2.2.1 p2.toNatClampNeg)))))] H := hP
        have hD : va_D A [(a_ck 0, .inr (0, [.ref (a_ck 1), .ref (a_ck 2), .ref (a_ck 3), .ref (a_ck 4), .ref (a_ck 5), .ref (a_ck 6), .ref (a_ck 7), .ref (a_ck 8), .ref (a_ck 9), .ref (a_ck 10), .ref (a_ck 11), .int ck.2.2.2.2.2.2.2.2.2.2.2])), (a_ck 1, .inl (kA 0, 12, .inl ck.1)), (a_ck 2, .inl (kA 0, 12, .inl ck.2.1)), (a_ck 3, .inl (kA 3, 12, .inl ck.2.2.1)), (a_ck 4, .inl (kA 0, 12, .inl ck.2.2.2.1)), (a_ck 5, .inl (kA 0, 12, .inl ck.2.2.2.2.1)), (a_ck 6, .inl (kA 2, 12, .inr (.inl (vp_updL ck.2.2.2.2.2.1 p1.toNatClampNeg (((ck.2.2.2.2.2.1 p2.toNatClampNeg) * (ck.2.2.2.1 p1.toNatClampNeg).toInt64) / u141))))), (a_ck 7, .inl (kA 2, 12, .inr (.inl (vp_updL ck.2.2.2.2.2.2.1 p1.toNatClampNeg ((v68 * (ck.2.2.2.1 p1.toNatClampNeg).toInt64) / u141))))), (a_ck 8, .inl (kA 2, 12, .inr (.inl (vp_updL ck.2.2.2.2.2.2.2.1 p1.toNatClampNeg ((v102 * (ck.2.2.2.1 p1.toNatClampNeg).toInt64) / u141))))), (a_ck 9, .inl (kA 2, 12, .inr (.inl ck.2.2.2.2.2.2.2.2.1))), (a_ck 10, .inl (kA 3, 12, .inl (upd ck.2.2.2.2.2.2.2.2.2.1 p1.toNatClampNeg (vp_nar .boolean (1 : Int32))))), (a_ck 11, .inl (kA 3, 12, .inl (upd ck.2.2.2.2.2.2.2.2.2.2.1 p1.toNatClampNeg (vp_nar .boolean (ck.2.2.2.2.2.2.2.2.2.2.1 p2.toNatClampNeg)))))] := hD
        refine lv_aload_n hx hb dX0_settle_178 rfl (lv_at hl 3 rfl) ?_
        refine va_get (D := D) (ci := 0) (v := .ref (a_ck 9)) (C := "ConstraintText$ClockTable") (T := TX0) (N := 12) hx hb hts ing0 hown hK hP 0 rfl rfl 8 (by decide) (hts _ tw_145) (fun _ h9 => h9) rfl dX0_settle_179 ?_
        refine lv_iload_n hx hb dX0_settle_182 rfl (lv_at hl 4 rfl) ?_
        refine lv_lload hx hb dX0_settle_183 (lv_at hl 1 rfl) ?_
        refine lv_lload hx hb dX0_settle_185 (lv_at hl 0 rfl) ?_
        obtain ⟨g187, h⟩ := grd_some h
        refine lv_ldiv hx hb dX0_settle_187 (of_decide_eq_true g187) ?_
        obtain ⟨g188, h⟩ := grd_some h
        refine va_last hx hb hK hP hD hS 9 2 rfl rfl (inb_in g188) dX0_settle_188 (fun H locs hP hD hS => ?_)
        have hP : va_P D vwCl [(a_ck 0, .inr (0, [.ref (a_ck 1), .ref (a_ck 2), .ref (a_ck 3), .ref (a_ck 4), .ref (a_ck 5), .ref (a_ck 6), .ref (a_ck 7), .ref (a_ck 8), .ref (a_ck 9), .ref (a_ck 10), .ref (a_ck 11), .int ck.2.2.2.2.2.2.2.2.2.2.2])), (a_ck 1, .inl (kA 0, 12, .inl ck.1)), (a_ck 2, .inl (kA 0, 12, .inl ck.2.1)), (a_ck 3, .inl (kA 3, 12, .inl ck.2.2.1)), (a_ck 4, .inl (kA 0, 12, .inl ck.2.2.2.1)), (a_ck 5, .inl (kA 0, 12, .inl ck.2.2.2.2.1)), (a_ck 6, .inl (kA 2, 12, .inr (.inl (vp_updL ck.2.2.2.2.2.1 p1.toNatClampNeg (((ck.2.2.2.2.2.1 p2.toNatClampNeg) * (ck.2.2.2.1 p1.toNatClampNeg).toInt64) / u141))))), (a_ck 7, .inl (kA 2, 12, .inr (.inl (vp_updL ck.2.2.2.2.2.2.1 p1.toNatClampNeg ((v68 * (ck.2.2.2.1 p1.toNatClampNeg).toInt64) / u141))))), (a_ck 8, .inl (kA 2, 12, .inr (.inl (vp_updL ck.2.2.2.2.2.2.2.1 p1.toNatClampNeg ((v102 * (ck.2.2.2.1 p1.toNatClampNeg).toInt64) / u141))))), (a_ck 9, .inl (kA 2, 12, .inr (.inl (vp_updL ck.2.2.2.2.2.2.2.2.1 p1.toNatClampNeg (((ck.2.2.2.2.2.2.2.2.1 p2.toNatClampNeg) * (ck.2.2.2.2.1 p1.toNatClampNeg).toInt64) / u141))))), (a_ck 10, .inl (kA 3, 12, .inl (upd ck.2.2.2.2.2.2.2.2.2.1 p1.toNatClampNeg (vp_nar .boolean (1 : Int32))))), (a_ck 11, .inl (kA 3, 12, .inl (upd ck.2.2.2.2.2.2.2.2.2.2.1 p1.toNatClampNeg (vp_nar .boolean (ck.2.2.2.2.2.2.2.2.2.2.1 p2.toNatClampNeg)))))] H := hP
        have hD : va_D A [(a_ck 0, .inr (0, [.ref (a_ck 1), .ref (a_ck 2), .ref (a_ck 3), .ref (a_ck 4), .ref (a_ck 5), .ref (a_ck 6), .ref (a_ck 7), .ref (a_ck 8), .ref (a_ck 9), .ref (a_ck 10), .ref (a_ck 11), .int ck.2.2.2.2.2.2.2.2.2.2.2])), (a_ck 1, .inl (kA 0, 12, .inl ck.1)), (a_ck 2, .inl (kA 0, 12, .inl ck.2.1)), (a_ck 3, .inl (kA 3, 12, .inl ck.2.2.1)), (a_ck 4, .inl (kA 0, 12, .inl ck.2.2.2.1)), (a_ck 5, .inl (kA 0, 12, .inl ck.2.2.2.2.1)), (a_ck 6, .inl (kA 2, 12, .inr (.inl (vp_updL ck.2.2.2.2.2.1 p1.toNatClampNeg (((ck.2.2.2.2.2.1 p2.toNatClampNeg) * (ck.2.2.2.1 p1.toNatClampNeg).toInt64) / u141))))), (a_ck 7, .inl (kA 2, 12, .inr (.inl (vp_updL ck.2.2.2.2.2.2.1 p1.toNatClampNeg ((v68 * (ck.2.2.2.1 p1.toNatClampNeg).toInt64) / u141))))), (a_ck 8, .inl (kA 2, 12, .inr (.inl (vp_updL ck.2.2.2.2.2.2.2.1 p1.toNatClampNeg ((v102 * (ck.2.2.2.1 p1.toNatClampNeg).toInt64) / u141))))), (a_ck 9, .inl (kA 2, 12, .inr (.inl (vp_updL ck.2.2.2.2.2.2.2.2.1 p1.toNatClampNeg (((ck.2.2.2.2.2.2.2.2.1 p2.toNatClampNeg) * (ck.2.2.2.2.1 p1.toNatClampNeg).toInt64) / u141))))), (a_ck 10, .inl (kA 3, 12, .inl (upd ck.2.2.2.2.2.2.2.2.2.1 p1.toNatClampNeg (vp_nar .boolean (1 : Int32))))), (a_ck 11, .inl (kA 3, 12, .inl (upd ck.2.2.2.2.2.2.2.2.2.2.1 p1.toNatClampNeg (vp_nar .boolean (ck.2.2.2.2.2.2.2.2.2.2.1 p2.toNatClampNeg)))))] := hD
        refine lv_aload_n hx hb dX0_settle_189 rfl (lv_at hl 3 rfl) ?_
        refine va_get (D := D) (ci := 0) (v := .ref (a_ck 11)) (C := "ConstraintText$ClockTable") (T := TX0) (N := 12) hx hb hts ing0 hown hK hP 0 rfl rfl 10 (by decide) (hts _ tw_147) (fun _ h9 => h9) rfl dX0_settle_190 ?_
        refine lv_iload_n hx hb dX0_settle_193 rfl (lv_at hl 4 rfl) ?_
        refine lv_aload_n hx hb dX0_settle_194 rfl (lv_at hl 3 rfl) ?_
        refine va_get (D := D) (ci := 0) (v := .ref (a_ck 6)) (C := "ConstraintText$ClockTable") (T := TX0) (N := 12) hx hb hts ing0 hown hK hP 0 rfl rfl 5 (by decide) (hts _ tw_142) (fun _ h9 => h9) rfl dX0_settle_195 ?_
        refine lv_iload_n hx hb dX0_settle_198 rfl (lv_at hl 4 rfl) ?_
        obtain ⟨g199, h⟩ := grd_some h
        refine va_lald hx hb hK hP 6 2 rfl rfl (inb_in g199) dX0_settle_199 ?_
        refine lv_ldc2 (own := "ConstraintText$ClockTable") (v := 1000000) hx hb hown (hts _ tw_565) dX0_settle_200 ?_
        refine W.lcmp hx hb dX0_settle_203 ?_
        obtain ⟨k225, hk225, h⟩ := jn_name h
        have j225 : ∀ (v225 : Int32) (H : Heap) (locs : List Loc) (ls : Array Slot), k225 v225 = some res → va_P D vwCl [(a_ck 0, .inr (0, [.ref (a_ck 1), .ref (a_ck 2), .ref (a_ck 3), .ref (a_ck 4), .ref (a_ck 5), .ref (a_ck 6), .ref (a_ck 7), .ref (a_ck 8), .ref (a_ck 9), .ref (a_ck 10), .ref (a_ck 11), .int ck.2.2.2.2.2.2.2.2.2.2.2])), (a_ck 1, .inl (kA 0, 12, .inl ck.1)), (a_ck 2, .inl (kA 0, 12, .inl ck.2.1)), (a_ck 3, .inl (kA 3, 12, .inl ck.2.2.1)), (a_ck 4, .inl (kA 0, 12, .inl ck.2.2.2.1)), (a_ck 5, .inl (kA 0, 12, .inl ck.2.2.2.2.1)), (a_ck 6, .inl (kA 2, 12, .inr (.inl (vp_updL ck.2.2.2.2.2.1 p1.toNatClampNeg (((ck.2.2.2.2.2.1 p2.toNatClampNeg) * (ck.2.2.2.1 p1.toNatClampNeg).toInt64) / u141))))), (a_ck 7, .inl (kA 2, 12, .inr (.inl (vp_updL ck.2.2.2.2.2.2.1 p1.toNatClampNeg ((v68 * (ck.2.2.2.1 p1.toNatClampNeg).toInt64) / u141))))), (a_ck 8, .inl (kA 2, 12, .inr (.inl (vp_updL ck.2.2.2.2.2.2.2.1 p1.toNatClampNeg ((v102 * (ck.2.2.2.1 p1.toNatClampNeg).toInt64) / u141))))), (a_ck 9, .inl (kA 2, 12, .inr (.inl (vp_updL ck.2.2.2.2.2.2.2.2.1 p1.toNatClampNeg (((ck.2.2.2.2.2.2.2.2.1 p2.toNatClampNeg) * (ck.2.2.2.2.1 p1.toNatClampNeg).toInt64) / u141))))), (a_ck 10, .inl (kA 3, 12, .inl (upd ck.2.2.2.2.2.2.2.2.2.1 p1.toNatClampNeg (vp_nar .boolean (1 : Int32))))), (a_ck 11, .inl (kA 3, 12, .inl (upd ck.2.2.2.2.2.2.2.2.2.2.1 p1.toNatClampNeg (vp_nar .boolean (ck.2.2.2.2.2.2.2.2.2.2.1 p2.toNatClampNeg)))))] H → va_D A [(a_ck 0, .inr (0, [.ref (a_ck 1), .ref (a_ck 2), .ref (a_ck 3), .ref (a_ck 4), .ref (a_ck 5), .ref (a_ck 6), .ref (a_ck 7), .ref (a_ck 8), .ref (a_ck 9), .ref (a_ck 10), .ref (a_ck 11), .int ck.2.2.2.2.2.2.2.2.2.2.2])), (a_ck 1, .inl (kA 0, 12, .inl ck.1)), (a_ck 2, .inl (kA 0, 12, .inl ck.2.1)), (a_ck 3, .inl (kA 3, 12, .inl ck.2.2.1)), (a_ck 4, .inl (kA 0, 12, .inl ck.2.2.2.1)), (a_ck 5, .inl (kA 0, 12, .inl ck.2.2.2.2.1)), (a_ck 6, .inl (kA 2, 12, .inr (.inl (vp_updL ck.2.2.2.2.2.1 p1.toNatClampNeg (((ck.2.2.2.2.2.1 p2.toNatClampNeg) * (ck.2.2.2.1 p1.toNatClampNeg).toInt64) / u141))))), (a_ck 7, .inl (kA 2, 12, .inr (.inl (vp_updL ck.2.2.2.2.2.2.1 p1.toNatClampNeg ((v68 * (ck.2.2.2.1 p1.toNatClampNeg).toInt64) / u141))))), (a_ck 8, .inl (kA 2, 12, .inr (.inl (vp_updL ck.2.2.2.2.2.2.2.1 p1.toNatClampNeg ((v102 * (ck.2.2.2.1 p1.toNatClampNeg).toInt64) / u141))))), (a_ck 9, .inl (kA 2, 12, .inr (.inl (vp_updL ck.2.2.2.2.2.2.2.2.1 p1.toNatClampNeg (((ck.2.2.2.2.2.2.2.2.1 p2.toNatClampNeg) * (ck.2.2.2.2.1 p1.toNatClampNeg).toInt64) / u141))))), (a_ck 10, .inl (kA 3, 12, .inl (upd ck.2.2.2.2.2.2.2.2.2.1 p1.toNatClampNeg (vp_nar .boolean (1 : Int32))))), (a_ck 11, .inl (kA 3, 12, .inl (upd ck.2.2.2.2.2.2.2.2.2.2.1 p1.toNatClampNeg (vp_nar .boolean (ck.2.2.2.2.2.2.2.2.2.2.1 p2.toNatClampNeg)))))] → va_S A s.heap H locs → lv_has ls 13 [] → W p l e rm0_settle s m args below meth c H locs 0 0 Q (F0 m 225 ls [.int v225, .int p1, .ref (a_ck 11)]) := by
          intro v225 H locs ls h hP hD hS hl
          have h := app_of hk225 h
          obtain ⟨g225, h⟩ := grd_some h
          refine va_zast hx hb hK hP hD hS 11 3 rfl rfl (inb_in g225) dX0_settle_225 (fun H locs hP hD hS => ?_)
          have hP : va_P D vwCl [(a_ck 0, .inr (0, [.ref (a_ck 1), .ref (a_ck 2), .ref (a_ck 3), .ref (a_ck 4), .ref (a_ck 5), .ref (a_ck 6), .ref (a_ck 7), .ref (a_ck 8), .ref (a_ck 9), .ref (a_ck 10), .ref (a_ck 11), .int ck.2.2.2.2.2.2.2.2.2.2.2])), (a_ck 1, .inl (kA 0, 12, .inl ck.1)), (a_ck 2, .inl (kA 0, 12, .inl ck.2.1)), (a_ck 3, .inl (kA 3, 12, .inl ck.2.2.1)), (a_ck 4, .inl (kA 0, 12, .inl ck.2.2.2.1)), (a_ck 5, .inl (kA 0, 12, .inl ck.2.2.2.2.1)), (a_ck 6, .inl (kA 2, 12, .inr (.inl (vp_updL ck.2.2.2.2.2.1 p1.toNatClampNeg (((ck.2.2.2.2.2.1 p2.toNatClampNeg) * (ck.2.2.2.1 p1.toNatClampNeg).toInt64) / u141))))), (a_ck 7, .inl (kA 2, 12, .inr (.inl (vp_updL ck.2.2.2.2.2.2.1 p1.toNatClampNeg ((v68 * (ck.2.2.2.1 p1.toNatClampNeg).toInt64) / u141))))), (a_ck 8, .inl (kA 2, 12, .inr (.inl (vp_updL ck.2.2.2.2.2.2.2.1 p1.toNatClampNeg ((v102 * (ck.2.2.2.1 p1.toNatClampNeg).toInt64) / u141))))), (a_ck 9, .inl (kA 2, 12, .inr (.inl (vp_updL ck.2.2.2.2.2.2.2.2.1 p1.toNatClampNeg (((ck.2.2.2.2.2.2.2.2.1 p2.toNatClampNeg) * (ck.2.2.2.2.1 p1.toNatClampNeg).toInt64) / u141))))), (a_ck 10, .inl (kA 3, 12, .inl (upd ck.2.2.2.2.2.2.2.2.2.1 p1.toNatClampNeg (vp_nar .boolean (1 : Int32))))), (a_ck 11, .inl (kA 3, 12, .inl (upd (upd ck.2.2.2.2.2.2.2.2.2.2.1 p1.toNatClampNeg (vp_nar .boolean (ck.2.2.2.2.2.2.2.2.2.2.1 p2.toNatClampNeg))) p1.toNatClampNeg (vp_nar .boolean v225))))] H := hP
          have hD : va_D A [(a_ck 0, .inr (0, [.ref (a_ck 1), .ref (a_ck 2), .ref (a_ck 3), .ref (a_ck 4), .ref (a_ck 5), .ref (a_ck 6), .ref (a_ck 7), .ref (a_ck 8), .ref (a_ck 9), .ref (a_ck 10), .ref (a_ck 11), .int ck.2.2.2.2.2.2.2.2.2.2.2])), (a_ck 1, .inl (kA 0, 12, .inl ck.1)), (a_ck 2, .inl (kA 0, 12, .inl ck.2.1)), (a_ck 3, .inl (kA 3, 12, .inl ck.2.2.1)), (a_ck 4, .inl (kA 0, 12, .inl ck.2.2.2.1)), (a_ck 5, .inl (kA 0, 12, .inl ck.2.2.2.2.1)), (a_ck 6, .inl (kA 2, 12, .inr (.inl (vp_updL ck.2.2.2.2.2.1 p1.toNatClampNeg (((ck.2.2.2.2.2.1 p2.toNatClampNeg) * (ck.2.2.2.1 p1.toNatClampNeg).toInt64) / u141))))), (a_ck 7, .inl (kA 2, 12, .inr (.inl (vp_updL ck.2.2.2.2.2.2.1 p1.toNatClampNeg ((v68 * (ck.2.2.2.1 p1.toNatClampNeg).toInt64) / u141))))), (a_ck 8, .inl (kA 2, 12, .inr (.inl (vp_updL ck.2.2.2.2.2.2.2.1 p1.toNatClampNeg ((v102 * (ck.2.2.2.1 p1.toNatClampNeg).toInt64) / u141))))), (a_ck 9, .inl (kA 2, 12, .inr (.inl (vp_updL ck.2.2.2.2.2.2.2.2.1 p1.toNatClampNeg (((ck.2.2.2.2.2.2.2.2.1 p2.toNatClampNeg) * (ck.2.2.2.2.1 p1.toNatClampNeg).toInt64) / u141))))), (a_ck 10, .inl (kA 3, 12, .inl (upd ck.2.2.2.2.2.2.2.2.2.1 p1.toNatClampNeg (vp_nar .boolean (1 : Int32))))), (a_ck 11, .inl (kA 3, 12, .inl (upd (upd ck.2.2.2.2.2.2.2.2.2.2.1 p1.toNatClampNeg (vp_nar .boolean (ck.2.2.2.2.2.2.2.2.2.2.1 p2.toNatClampNeg))) p1.toNatClampNeg (vp_nar .boolean v225))))] := hD
          obtain rfl := Option.some.inj h
          rw [← hQ]
          exact rw_return hx hb hr hk  dX0_settle_226  hP hD hS
        obtain ⟨k220, hk220, h⟩ := jn_name h
        have j220 : ∀ (v220 : Unit) (H : Heap) (locs : List Loc) (ls : Array Slot), k220 v220 = some res → va_P D vwCl [(a_ck 0, .inr (0, [.ref (a_ck 1), .ref (a_ck 2), .ref (a_ck 3), .ref (a_ck 4), .ref (a_ck 5), .ref (a_ck 6), .ref (a_ck 7), .ref (a_ck 8), .ref (a_ck 9), .ref (a_ck 10), .ref (a_ck 11), .int ck.2.2.2.2.2.2.2.2.2.2.2])), (a_ck 1, .inl (kA 0, 12, .inl ck.1)), (a_ck 2, .inl (kA 0, 12, .inl ck.2.1)), (a_ck 3, .inl (kA 3, 12, .inl ck.2.2.1)), (a_ck 4, .inl (kA 0, 12, .inl ck.2.2.2.1)), (a_ck 5, .inl (kA 0, 12, .inl ck.2.2.2.2.1)), (a_ck 6, .inl (kA 2, 12, .inr (.inl (vp_updL ck.2.2.2.2.2.1 p1.toNatClampNeg (((ck.2.2.2.2.2.1 p2.toNatClampNeg) * (ck.2.2.2.1 p1.toNatClampNeg).toInt64) / u141))))), (a_ck 7, .inl (kA 2, 12, .inr (.inl (vp_updL ck.2.2.2.2.2.2.1 p1.toNatClampNeg ((v68 * (ck.2.2.2.1 p1.toNatClampNeg).toInt64) / u141))))), (a_ck 8, .inl (kA 2, 12, .inr (.inl (vp_updL ck.2.2.2.2.2.2.2.1 p1.toNatClampNeg ((v102 * (ck.2.2.2.1 p1.toNatClampNeg).toInt64) / u141))))), (a_ck 9, .inl (kA 2, 12, .inr (.inl (vp_updL ck.2.2.2.2.2.2.2.2.1 p1.toNatClampNeg (((ck.2.2.2.2.2.2.2.2.1 p2.toNatClampNeg) * (ck.2.2.2.2.1 p1.toNatClampNeg).toInt64) / u141))))), (a_ck 10, .inl (kA 3, 12, .inl (upd ck.2.2.2.2.2.2.2.2.2.1 p1.toNatClampNeg (vp_nar .boolean (1 : Int32))))), (a_ck 11, .inl (kA 3, 12, .inl (upd ck.2.2.2.2.2.2.2.2.2.2.1 p1.toNatClampNeg (vp_nar .boolean (ck.2.2.2.2.2.2.2.2.2.2.1 p2.toNatClampNeg)))))] H → va_D A [(a_ck 0, .inr (0, [.ref (a_ck 1), .ref (a_ck 2), .ref (a_ck 3), .ref (a_ck 4), .ref (a_ck 5), .ref (a_ck 6), .ref (a_ck 7), .ref (a_ck 8), .ref (a_ck 9), .ref (a_ck 10), .ref (a_ck 11), .int ck.2.2.2.2.2.2.2.2.2.2.2])), (a_ck 1, .inl (kA 0, 12, .inl ck.1)), (a_ck 2, .inl (kA 0, 12, .inl ck.2.1)), (a_ck 3, .inl (kA 3, 12, .inl ck.2.2.1)), (a_ck 4, .inl (kA 0, 12, .inl ck.2.2.2.1)), (a_ck 5, .inl (kA 0, 12, .inl ck.2.2.2.2.1)), (a_ck 6, .inl (kA 2, 12, .inr (.inl (vp_updL ck.2.2.2.2.2.1 p1.toNatClampNeg (((ck.2.2.2.2.2.1 p2.toNatClampNeg) * (ck.2.2.2.1 p1.toNatClampNeg).toInt64) / u141))))), (a_ck 7, .inl (kA 2, 12, .inr (.inl (vp_updL ck.2.2.2.2.2.2.1 p1.toNatClampNeg ((v68 * (ck.2.2.2.1 p1.toNatClampNeg).toInt64) / u141))))), (a_ck 8, .inl (kA 2, 12, .inr (.inl (vp_updL ck.2.2.2.2.2.2.2.1 p1.toNatClampNeg ((v102 * (ck.2.2.2.1 p1.toNatClampNeg).toInt64) / u141))))), (a_ck 9, .inl (kA 2, 12, .inr (.inl (vp_updL ck.2.2.2.2.2.2.2.2.1 p1.toNatClampNeg (((ck.2.2.2.2.2.2.2.2.1 p2.toNatClampNeg) * (ck.2.2.2.2.1 p1.toNatClampNeg).toInt64) / u141))))), (a_ck 10, .inl (kA 3, 12, .inl (upd ck.2.2.2.2.2.2.2.2.2.1 p1.toNatClampNeg (vp_nar .boolean (1 : Int32))))), (a_ck 11, .inl (kA 3, 12, .inl (upd ck.2.2.2.2.2.2.2.2.2.2.1 p1.toNatClampNeg (vp_nar .boolean (ck.2.2.2.2.2.2.2.2.2.2.1 p2.toNatClampNeg)))))] → va_S A s.heap H locs → lv_has ls 13 [] → W p l e rm0_settle s m args below meth c H locs 0 0 Q (F0 m 220 ls [.int p1, .ref (a_ck 11)]) := by
          intro v220 H locs ls h hP hD hS hl
          have h := app_of hk220 h
          refine lv_iconst (v := 1) hx hb dX0_settle_220 (by decide) ?_
          refine lv_goto (tgt := 225) hx hb dX0_settle_221 (by decide) ?_
          exact j225 _ _ _ ls h hP hD hS hl
        refine lv_if_gt (tgt := 220) hx hb dX0_settle_204 (by decide) (fun bc => ?_) (fun bc => ?_)
        · have h := ite_t bc h
          exact j220 _ _ _ ls h hP hD hS (lv_sub hl [] rfl)
        · have h := ite_f bc h
          refine lv_aload_n hx hb dX0_settle_207 rfl (lv_at hl 3 rfl) ?_
          refine va_get (D := D) (ci := 0) (v := .ref (a_ck 9)) (C := "ConstraintText$ClockTable") (T := TX0) (N := 12) hx hb hts ing0 hown hK hP 0 rfl rfl 8 (by decide) (hts _ tw_145) (fun _ h9 => h9) rfl dX0_settle_208 ?_
          refine lv_iload_n hx hb dX0_settle_211 rfl (lv_at hl 4 rfl) ?_
          obtain ⟨g212, h⟩ := grd_some h
          refine va_lald hx hb hK hP 9 2 rfl rfl (inb_in g212) dX0_settle_212 ?_
          refine lv_ldc2 (own := "ConstraintText$ClockTable") (v := 1000000) hx hb hown (hts _ tw_565) dX0_settle_213 ?_
          refine W.lcmp hx hb dX0_settle_216 ?_
          refine lv_if_le (tgt := 224) hx hb dX0_settle_217 (by decide) (fun bc => ?_) (fun bc => ?_)
          · have h := ite_t bc h
            refine lv_iconst (v := 0) hx hb dX0_settle_224 (by decide) ?_
            exact j225 _ _ _ ls h hP hD hS (lv_sub hl [] rfl)
          · have h := ite_f bc h
            exact j220 _ _ _ ls h hP hD hS (lv_sub hl [] rfl)
      refine lv_if_eq (tgt := 96) hx hb dX0_settle_84 (by decide) (fun bc => ?_) (fun bc => ?_)
      · have h := ite_t bc h
        refine lv_aload_n hx hb dX0_settle_96 rfl (lv_at hl 1 rfl) ?_
        refine va_get (D := D) (ci := 0) (v := .ref (a_ck 8)) (C := "ConstraintText$ClockTable") (T := TX0) (N := 12) hx hb hts ing0 hown hK hP 0 rfl rfl 7 (by decide) (hts _ tw_144) (fun _ h9 => h9) rfl dX0_settle_97 ?_
        refine lv_iload_n hx hb dX0_settle_100 rfl (lv_at hl 3 rfl) ?_
        obtain ⟨g101, h⟩ := grd_some h
        refine va_lald hx hb hK hP 8 2 rfl rfl (inb_in g101) dX0_settle_101 ?_
        exact j102 _ _ _ ls h hP hD hS (lv_sub hl [1, 2, 3, 4, 0] rfl)
      · have h := ite_f bc h
        refine lv_aload_n hx hb dX0_settle_87 rfl (lv_at hl 1 rfl) ?_
        refine va_get (D := D) (ci := 0) (v := .ref (a_ck 7)) (C := "ConstraintText$ClockTable") (T := TX0) (N := 12) hx hb hts ing0 hown hK hP 0 rfl rfl 6 (by decide) (hts _ tw_143) (fun _ h9 => h9) rfl dX0_settle_88 ?_
        refine lv_iload_n hx hb dX0_settle_91 rfl (lv_at hl 3 rfl) ?_
        obtain ⟨g92, h⟩ := grd_some h
        refine va_lald hx hb hK hP 7 2 rfl rfl (inb_in g92) dX0_settle_92 ?_
        refine lv_goto (tgt := 102) hx hb dX0_settle_93 (by decide) ?_
        exact j102 _ _ _ ls h hP hD hS (lv_sub hl [1, 2, 3, 4, 0] rfl)
    refine lv_if_eq (tgt := 62) hx hb dX0_settle_50 (by decide) (fun bc => ?_) (fun bc => ?_)
    · have h := ite_t bc h
      refine lv_aload_n hx hb dX0_settle_62 rfl (lv_at hl 1 rfl) ?_
      refine va_get (D := D) (ci := 0) (v := .ref (a_ck 7)) (C := "ConstraintText$ClockTable") (T := TX0) (N := 12) hx hb hts ing0 hown hK hP 0 rfl rfl 6 (by decide) (hts _ tw_143) (fun _ h9 => h9) rfl dX0_settle_63 ?_
      refine lv_iload_n hx hb dX0_settle_66 rfl (lv_at hl 3 rfl) ?_
      obtain ⟨g67, h⟩ := grd_some h
      refine va_lald hx hb hK hP 7 2 rfl rfl (inb_in g67) dX0_settle_67 ?_
      exact j68 _ _ _ ls h hP hD hS (lv_sub hl [1, 2, 3, 0] rfl)
    · have h := ite_f bc h
      refine lv_aload_n hx hb dX0_settle_53 rfl (lv_at hl 1 rfl) ?_
      refine va_get (D := D) (ci := 0) (v := .ref (a_ck 8)) (C := "ConstraintText$ClockTable") (T := TX0) (N := 12) hx hb hts ing0 hown hK hP 0 rfl rfl 7 (by decide) (hts _ tw_144) (fun _ h9 => h9) rfl dX0_settle_54 ?_
      refine lv_iload_n hx hb dX0_settle_57 rfl (lv_at hl 3 rfl) ?_
      obtain ⟨g58, h⟩ := grd_some h
      refine va_lald hx hb hK hP 8 2 rfl rfl (inb_in g58) dX0_settle_58 ?_
      refine lv_goto (tgt := 68) hx hb dX0_settle_59 (by decide) ?_
      exact j68 _ _ _ ls h hP hD hS (lv_sub hl [1, 2, 3, 0] rfl)
  · have h := ite_f bc h
    obtain rfl := Option.some.inj h
    rw [← hQ]
    exact rw_return hx hb hr hk  dX0_settle_28  hP hD hS
abbrev rm0_settleAll : Room := { frames := 2, cells := 0, slots := 0, locals := 62 }
set_option maxHeartbeats 4000000 in
set_option maxRecDepth 100000 in
theorem c0_settleAll (l : Launch) (D : va_G) (kA : Nat → ClassId) (a_ck : Nat → Nat) (F : Nat) (ck : T0) (res : T0) (h : f0_settleAll F ck = some res) : Rw l yX0_settleAll cX0_settleAll 4 none rm0_settleAll D kA [.ref (a_ck 0)] [(a_ck 0, .inr (0, [.ref (a_ck 1), .ref (a_ck 2), .ref (a_ck 3), .ref (a_ck 4), .ref (a_ck 5), .ref (a_ck 6), .ref (a_ck 7), .ref (a_ck 8), .ref (a_ck 9), .ref (a_ck 10), .ref (a_ck 11), .int ck.2.2.2.2.2.2.2.2.2.2.2])), (a_ck 1, .inl (kA 0, 12, .inl ck.1)), (a_ck 2, .inl (kA 0, 12, .inl ck.2.1)), (a_ck 3, .inl (kA 3, 12, .inl ck.2.2.1)), (a_ck 4, .inl (kA 0, 12, .inl ck.2.2.2.1)), (a_ck 5, .inl (kA 0, 12, .inl ck.2.2.2.2.1)), (a_ck 6, .inl (kA 2, 12, .inr (.inl ck.2.2.2.2.2.1))), (a_ck 7, .inl (kA 2, 12, .inr (.inl ck.2.2.2.2.2.2.1))), (a_ck 8, .inl (kA 2, 12, .inr (.inl ck.2.2.2.2.2.2.2.1))), (a_ck 9, .inl (kA 2, 12, .inr (.inl ck.2.2.2.2.2.2.2.2.1))), (a_ck 10, .inl (kA 3, 12, .inl ck.2.2.2.2.2.2.2.2.2.1)), (a_ck 11, .inl (kA 3, 12, .inl ck.2.2.2.2.2.2.2.2.2.2.1))] none [(a_ck 0, .inr (0, [.ref (a_ck 1), .ref (a_ck 2), .ref (a_ck 3), .ref (a_ck 4), .ref (a_ck 5), .ref (a_ck 6), .ref (a_ck 7), .ref (a_ck 8), .ref (a_ck 9), .ref (a_ck 10), .ref (a_ck 11), .int res.2.2.2.2.2.2.2.2.2.2.2])), (a_ck 1, .inl (kA 0, 12, .inl res.1)), (a_ck 2, .inl (kA 0, 12, .inl res.2.1)), (a_ck 3, .inl (kA 3, 12, .inl res.2.2.1)), (a_ck 4, .inl (kA 0, 12, .inl res.2.2.2.1)), (a_ck 5, .inl (kA 0, 12, .inl res.2.2.2.2.1)), (a_ck 6, .inl (kA 2, 12, .inr (.inl res.2.2.2.2.2.1))), (a_ck 7, .inl (kA 2, 12, .inr (.inl res.2.2.2.2.2.2.1))), (a_ck 8, .inl (kA 2, 12, .inr (.inl res.2.2.2.2.2.2.2.1))), (a_ck 9, .inl (kA 2, 12, .inr (.inl res.2.2.2.2.2.2.2.2.1))), (a_ck 10, .inl (kA 3, 12, .inl res.2.2.2.2.2.2.2.2.2.1)), (a_ck 11, .inl (kA 3, 12, .inl res.2.2.2.2.2.2.2.2.2.2.1))] := by
  refine Rw.of (by decide) (Nat.le_of_ble_eq_true rfl) ?_
  intro p e s m args below meth c A hF hP hD hS hA hK ls hl
  generalize hQ : rwQ below D A _ _ args s = Q
  obtain ⟨hx, hb, hml, hown, hr, hk, hts, hN⟩ := hF
  have hl : lv_has ls 4 [(0, .ref (a_ck 0))] := hl
  unfold f0_settleAll at h
  refine lv_iconst (v := 0) hx hb dX0_settleAll_0 (by decide) ?_
  refine lv_istore_n (lv' := [(1, .int (0 : Int32)), (0, .ref (a_ck 0))]) hx hb dX0_settleAll_1 rfl hl (by decide) rfl (fun ls hl => ?_)
  obtain ⟨k2, e2, hk2, hi2, hc2⟩ := bnd_name h
  have x71w : ∀ (x71 : T0) (H : Heap) (locs : List Loc) (ls : Array Slot), k2 x71 = some res → va_P D vwCl [(a_ck 0, .inr (0, [.ref (a_ck 1), .ref (a_ck 2), .ref (a_ck 3), .ref (a_ck 4), .ref (a_ck 5), .ref (a_ck 6), .ref (a_ck 7), .ref (a_ck 8), .ref (a_ck 9), .ref (a_ck 10), .ref (a_ck 11), .int x71.2.2.2.2.2.2.2.2.2.2.2])), (a_ck 1, .inl (kA 0, 12, .inl x71.1)), (a_ck 2, .inl (kA 0, 12, .inl x71.2.1)), (a_ck 3, .inl (kA 3, 12, .inl x71.2.2.1)), (a_ck 4, .inl (kA 0, 12, .inl x71.2.2.2.1)), (a_ck 5, .inl (kA 0, 12, .inl x71.2.2.2.2.1)), (a_ck 6, .inl (kA 2, 12, .inr (.inl x71.2.2.2.2.2.1))), (a_ck 7, .inl (kA 2, 12, .inr (.inl x71.2.2.2.2.2.2.1))), (a_ck 8, .inl (kA 2, 12, .inr (.inl x71.2.2.2.2.2.2.2.1))), (a_ck 9, .inl (kA 2, 12, .inr (.inl x71.2.2.2.2.2.2.2.2.1))), (a_ck 10, .inl (kA 3, 12, .inl x71.2.2.2.2.2.2.2.2.2.1)), (a_ck 11, .inl (kA 3, 12, .inl x71.2.2.2.2.2.2.2.2.2.2.1))] H → va_D A [(a_ck 0, .inr (0, [.ref (a_ck 1), .ref (a_ck 2), .ref (a_ck 3), .ref (a_ck 4), .ref (a_ck 5), .ref (a_ck 6), .ref (a_ck 7), .ref (a_ck 8), .ref (a_ck 9), .ref (a_ck 10), .ref (a_ck 11), .int x71.2.2.2.2.2.2.2.2.2.2.2])), (a_ck 1, .inl (kA 0, 12, .inl x71.1)), (a_ck 2, .inl (kA 0, 12, .inl x71.2.1)), (a_ck 3, .inl (kA 3, 12, .inl x71.2.2.1)), (a_ck 4, .inl (kA 0, 12, .inl x71.2.2.2.1)), (a_ck 5, .inl (kA 0, 12, .inl x71.2.2.2.2.1)), (a_ck 6, .inl (kA 2, 12, .inr (.inl x71.2.2.2.2.2.1))), (a_ck 7, .inl (kA 2, 12, .inr (.inl x71.2.2.2.2.2.2.1))), (a_ck 8, .inl (kA 2, 12, .inr (.inl x71.2.2.2.2.2.2.2.1))), (a_ck 9, .inl (kA 2, 12, .inr (.inl x71.2.2.2.2.2.2.2.2.1))), (a_ck 10, .inl (kA 3, 12, .inl x71.2.2.2.2.2.2.2.2.2.1)), (a_ck 11, .inl (kA 3, 12, .inl x71.2.2.2.2.2.2.2.2.2.2.1))] → va_S A s.heap H locs → lv_has ls 4 [] → W p l e rm0_settleAll s m args below meth c H locs 0 0 Q (F0 m 71 ls []) := by
    intro x71 H locs ls h hP hD hS hl
    have h := app_of hk2 h
    obtain rfl := Option.some.inj h
    rw [← hQ]
    exact rw_return hx hb hr hk  dX0_settleAll_71  hP hD hS
  have lp2 : ∀ (n2 : Nat) (s2 : Int32 × T0) (H : Heap) (locs : List Loc) (ls : Array Slot), iter (f0_settleAll_L2 F) n2 s2 = some e2 → va_P D vwCl [(a_ck 0, .inr (0, [.ref (a_ck 1), .ref (a_ck 2), .ref (a_ck 3), .ref (a_ck 4), .ref (a_ck 5), .ref (a_ck 6), .ref (a_ck 7), .ref (a_ck 8), .ref (a_ck 9), .ref (a_ck 10), .ref (a_ck 11), .int s2.2.2.2.2.2.2.2.2.2.2.2.2])), (a_ck 1, .inl (kA 0, 12, .inl s2.2.1)), (a_ck 2, .inl (kA 0, 12, .inl s2.2.2.1)), (a_ck 3, .inl (kA 3, 12, .inl s2.2.2.2.1)), (a_ck 4, .inl (kA 0, 12, .inl s2.2.2.2.2.1)), (a_ck 5, .inl (kA 0, 12, .inl s2.2.2.2.2.2.1)), (a_ck 6, .inl (kA 2, 12, .inr (.inl s2.2.2.2.2.2.2.1))), (a_ck 7, .inl (kA 2, 12, .inr (.inl s2.2.2.2.2.2.2.2.1))), (a_ck 8, .inl (kA 2, 12, .inr (.inl s2.2.2.2.2.2.2.2.2.1))), (a_ck 9, .inl (kA 2, 12, .inr (.inl s2.2.2.2.2.2.2.2.2.2.1))), (a_ck 10, .inl (kA 3, 12, .inl s2.2.2.2.2.2.2.2.2.2.2.1)), (a_ck 11, .inl (kA 3, 12, .inl s2.2.2.2.2.2.2.2.2.2.2.2.1))] H → va_D A [(a_ck 0, .inr (0, [.ref (a_ck 1), .ref (a_ck 2), .ref (a_ck 3), .ref (a_ck 4), .ref (a_ck 5), .ref (a_ck 6), .ref (a_ck 7), .ref (a_ck 8), .ref (a_ck 9), .ref (a_ck 10), .ref (a_ck 11), .int s2.2.2.2.2.2.2.2.2.2.2.2.2])), (a_ck 1, .inl (kA 0, 12, .inl s2.2.1)), (a_ck 2, .inl (kA 0, 12, .inl s2.2.2.1)), (a_ck 3, .inl (kA 3, 12, .inl s2.2.2.2.1)), (a_ck 4, .inl (kA 0, 12, .inl s2.2.2.2.2.1)), (a_ck 5, .inl (kA 0, 12, .inl s2.2.2.2.2.2.1)), (a_ck 6, .inl (kA 2, 12, .inr (.inl s2.2.2.2.2.2.2.1))), (a_ck 7, .inl (kA 2, 12, .inr (.inl s2.2.2.2.2.2.2.2.1))), (a_ck 8, .inl (kA 2, 12, .inr (.inl s2.2.2.2.2.2.2.2.2.1))), (a_ck 9, .inl (kA 2, 12, .inr (.inl s2.2.2.2.2.2.2.2.2.2.1))), (a_ck 10, .inl (kA 3, 12, .inl s2.2.2.2.2.2.2.2.2.2.2.1)), (a_ck 11, .inl (kA 3, 12, .inl s2.2.2.2.2.2.2.2.2.2.2.2.1))] → va_S A s.heap H locs → lv_has ls 4 [(0, .ref (a_ck 0)), (1, .int s2.1)] → W p l e rm0_settleAll s m args below meth c H locs 0 0 Q (F0 m 2 ls []) := by
    intro n2
    induction n2 with
    | zero =>
      intro s2 H locs ls h hP hD hS hl
      exact (iter_zero h).elim
    | succ n2 ih2 =>
      intro s2 H locs ls h hP hD hS hl
      obtain ⟨z2, h, hL2, hR2⟩ := iter_split h
      unfold f0_settleAll_L2 at h
      refine lv_iload_n hx hb dX0_settleAll_2 rfl (lv_at hl 1 rfl) ?_
      refine lv_aload_n hx hb dX0_settleAll_3 rfl (lv_at hl 0 rfl) ?_
      refine va_get (D := D) (ci := 0) (v := .int s2.2.2.2.2.2.2.2.2.2.2.2.2) (C := "ConstraintText$ClockTable") (T := TX0) (N := 12) hx hb hts ing0 hown hK hP 0 rfl rfl 11 (by decide) (hts _ tw_149) (fun _ h9 => h9) rfl dX0_settleAll_4 ?_
      refine lv_icmp_ge (tgt := 71) hx hb dX0_settleAll_7 (by decide) (fun bc => ?_) (fun bc => ?_)
      · have h := ite_t bc h
        obtain rfl := Option.some.inj h
        exact x71w _ _ _ ls (eq_some_app (hR2 _ rfl) hc2) hP hD hS (lv_sub hl [] rfl)
      · have h := ite_f bc h
        refine lv_iconst (v := 0) hx hb dX0_settleAll_10 (by decide) ?_
        refine lv_istore_n (lv' := [(2, .int (0 : Int32)), (0, .ref (a_ck 0)), (1, .int s2.1)]) hx hb dX0_settleAll_11 rfl hl (by decide) rfl (fun ls hl => ?_)
        obtain ⟨k12, e12, hk12, hi12, hc12⟩ := bnd_name h
        have x65w : ∀ (x65 : T0) (H : Heap) (locs : List Loc) (ls : Array Slot), k12 x65 = some z2 → va_P D vwCl [(a_ck 0, .inr (0, [.ref (a_ck 1), .ref (a_ck 2), .ref (a_ck 3), .ref (a_ck 4), .ref (a_ck 5), .ref (a_ck 6), .ref (a_ck 7), .ref (a_ck 8), .ref (a_ck 9), .ref (a_ck 10), .ref (a_ck 11), .int x65.2.2.2.2.2.2.2.2.2.2.2])), (a_ck 1, .inl (kA 0, 12, .inl x65.1)), (a_ck 2, .inl (kA 0, 12, .inl x65.2.1)), (a_ck 3, .inl (kA 3, 12, .inl x65.2.2.1)), (a_ck 4, .inl (kA 0, 12, .inl x65.2.2.2.1)), (a_ck 5, .inl (kA 0, 12, .inl x65.2.2.2.2.1)), (a_ck 6, .inl (kA 2, 12, .inr (.inl x65.2.2.2.2.2.1))), (a_ck 7, .inl (kA 2, 12, .inr (.inl x65.2.2.2.2.2.2.1))), (a_ck 8, .inl (kA 2, 12, .inr (.inl x65.2.2.2.2.2.2.2.1))), (a_ck 9, .inl (kA 2, 12, .inr (.inl x65.2.2.2.2.2.2.2.2.1))), (a_ck 10, .inl (kA 3, 12, .inl x65.2.2.2.2.2.2.2.2.2.1)), (a_ck 11, .inl (kA 3, 12, .inl x65.2.2.2.2.2.2.2.2.2.2.1))] H → va_D A [(a_ck 0, .inr (0, [.ref (a_ck 1), .ref (a_ck 2), .ref (a_ck 3), .ref (a_ck 4), .ref (a_ck 5), .ref (a_ck 6), .ref (a_ck 7), .ref (a_ck 8), .ref (a_ck 9), .ref (a_ck 10), .ref (a_ck 11), .int x65.2.2.2.2.2.2.2.2.2.2.2])), (a_ck 1, .inl (kA 0, 12, .inl x65.1)), (a_ck 2, .inl (kA 0, 12, .inl x65.2.1)), (a_ck 3, .inl (kA 3, 12, .inl x65.2.2.1)), (a_ck 4, .inl (kA 0, 12, .inl x65.2.2.2.1)), (a_ck 5, .inl (kA 0, 12, .inl x65.2.2.2.2.1)), (a_ck 6, .inl (kA 2, 12, .inr (.inl x65.2.2.2.2.2.1))), (a_ck 7, .inl (kA 2, 12, .inr (.inl x65.2.2.2.2.2.2.1))), (a_ck 8, .inl (kA 2, 12, .inr (.inl x65.2.2.2.2.2.2.2.1))), (a_ck 9, .inl (kA 2, 12, .inr (.inl x65.2.2.2.2.2.2.2.2.1))), (a_ck 10, .inl (kA 3, 12, .inl x65.2.2.2.2.2.2.2.2.2.1)), (a_ck 11, .inl (kA 3, 12, .inl x65.2.2.2.2.2.2.2.2.2.2.1))] → va_S A s.heap H locs → lv_has ls 4 [(0, .ref (a_ck 0)), (1, .int s2.1)] → W p l e rm0_settleAll s m args below meth c H locs 0 0 Q (F0 m 65 ls []) := by
          intro x65 H locs ls h hP hD hS hl
          have h := app_of hk12 h
          refine lv_iinc (v := (s2.1 + (1 : Int32))) (lv' := [(1, .int (s2.1 + (1 : Int32))), (0, .ref (a_ck 0))]) hx hb dX0_settleAll_65 hl (k := 1) rfl rfl (by decide) rfl (fun ls hl => ?_)
          refine lv_goto (tgt := 2) hx hb dX0_settleAll_68 (by decide) ?_
          obtain rfl := Option.some.inj h
          exact ih2 _ _ _ ls (hL2 _ rfl) hP hD hS (lv_sub hl [1, 0] rfl)
        have lp12 : ∀ (n12 : Nat) (s12 : Int32 × T0) (H : Heap) (locs : List Loc) (ls : Array Slot), iter (f0_settleAll_L12 F) n12 s12 = some e12 → va_P D vwCl [(a_ck 0, .inr (0, [.ref (a_ck 1), .ref (a_ck 2), .ref (a_ck 3), .ref (a_ck 4), .ref (a_ck 5), .ref (a_ck 6), .ref (a_ck 7), .ref (a_ck 8), .ref (a_ck 9), .ref (a_ck 10), .ref (a_ck 11), .int s12.2.2.2.2.2.2.2.2.2.2.2.2])), (a_ck 1, .inl (kA 0, 12, .inl s12.2.1)), (a_ck 2, .inl (kA 0, 12, .inl s12.2.2.1)), (a_ck 3, .inl (kA 3, 12, .inl s12.2.2.2.1)), (a_ck 4, .inl (kA 0, 12, .inl s12.2.2.2.2.1)), (a_ck 5, .inl (kA 0, 12, .inl s12.2.2.2.2.2.1)), (a_ck 6, .inl (kA 2, 12, .inr (.inl s12.2.2.2.2.2.2.1))), (a_ck 7, .inl (kA 2, 12, .inr (.inl s12.2.2.2.2.2.2.2.1))), (a_ck 8, .inl (kA 2, 12, .inr (.inl s12.2.2.2.2.2.2.2.2.1))), (a_ck 9, .inl (kA 2, 12, .inr (.inl s12.2.2.2.2.2.2.2.2.2.1))), (a_ck 10, .inl (kA 3, 12, .inl s12.2.2.2.2.2.2.2.2.2.2.1)), (a_ck 11, .inl (kA 3, 12, .inl s12.2.2.2.2.2.2.2.2.2.2.2.1))] H → va_D A [(a_ck 0, .inr (0, [.ref (a_ck 1), .ref (a_ck 2), .ref (a_ck 3), .ref (a_ck 4), .ref (a_ck 5), .ref (a_ck 6), .ref (a_ck 7), .ref (a_ck 8), .ref (a_ck 9), .ref (a_ck 10), .ref (a_ck 11), .int s12.2.2.2.2.2.2.2.2.2.2.2.2])), (a_ck 1, .inl (kA 0, 12, .inl s12.2.1)), (a_ck 2, .inl (kA 0, 12, .inl s12.2.2.1)), (a_ck 3, .inl (kA 3, 12, .inl s12.2.2.2.1)), (a_ck 4, .inl (kA 0, 12, .inl s12.2.2.2.2.1)), (a_ck 5, .inl (kA 0, 12, .inl s12.2.2.2.2.2.1)), (a_ck 6, .inl (kA 2, 12, .inr (.inl s12.2.2.2.2.2.2.1))), (a_ck 7, .inl (kA 2, 12, .inr (.inl s12.2.2.2.2.2.2.2.1))), (a_ck 8, .inl (kA 2, 12, .inr (.inl s12.2.2.2.2.2.2.2.2.1))), (a_ck 9, .inl (kA 2, 12, .inr (.inl s12.2.2.2.2.2.2.2.2.2.1))), (a_ck 10, .inl (kA 3, 12, .inl s12.2.2.2.2.2.2.2.2.2.2.1)), (a_ck 11, .inl (kA 3, 12, .inl s12.2.2.2.2.2.2.2.2.2.2.2.1))] → va_S A s.heap H locs → lv_has ls 4 [(0, .ref (a_ck 0)), (1, .int s2.1), (2, .int s12.1)] → W p l e rm0_settleAll s m args below meth c H locs 0 0 Q (F0 m 12 ls []) := by
          intro n12
          induction n12 with
          | zero =>
            intro s12 H locs ls h hP hD hS hl
            exact (iter_zero h).elim
          | succ n12 ih12 =>
            intro s12 H locs ls h hP hD hS hl
            obtain ⟨z12, h, hL12, hR12⟩ := iter_split h
            unfold f0_settleAll_L12 at h
            refine lv_iload_n hx hb dX0_settleAll_12 rfl (lv_at hl 2 rfl) ?_
            refine lv_aload_n hx hb dX0_settleAll_13 rfl (lv_at hl 0 rfl) ?_
            refine va_get (D := D) (ci := 0) (v := .int s12.2.2.2.2.2.2.2.2.2.2.2.2) (C := "ConstraintText$ClockTable") (T := TX0) (N := 12) hx hb hts ing0 hown hK hP 0 rfl rfl 11 (by decide) (hts _ tw_149) (fun _ h9 => h9) rfl dX0_settleAll_14 ?_
            refine lv_icmp_ge (tgt := 65) hx hb dX0_settleAll_17 (by decide) (fun bc => ?_) (fun bc => ?_)
            · have h := ite_t bc h
              obtain rfl := Option.some.inj h
              exact x65w _ _ _ ls (eq_some_app (hR12 _ rfl) hc12) hP hD hS (lv_sub hl [0, 1] rfl)
            · have h := ite_f bc h
              refine lv_aload_n hx hb dX0_settleAll_20 rfl (lv_at hl 0 rfl) ?_
              refine va_get (D := D) (ci := 0) (v := .ref (a_ck 2)) (C := "ConstraintText$ClockTable") (T := TX0) (N := 12) hx hb hts ing0 hown hK hP 0 rfl rfl 1 (by decide) (hts _ tw_137) (fun _ h9 => h9) rfl dX0_settleAll_21 ?_
              refine lv_iload_n hx hb dX0_settleAll_24 rfl (lv_at hl 2 rfl) ?_
              obtain ⟨g25, h⟩ := grd_some h
              refine va_iald hx hb hK hP 2 0 rfl rfl (inb_in g25) dX0_settleAll_25 ?_
              refine lv_istore_n (lv' := [(3, .int (s12.2.2.1 s12.1.toNatClampNeg)), (0, .ref (a_ck 0)), (1, .int s2.1), (2, .int s12.1)]) hx hb dX0_settleAll_26 rfl hl (by decide) rfl (fun ls hl => ?_)
              refine lv_aload_n hx hb dX0_settleAll_27 rfl (lv_at hl 1 rfl) ?_
              refine va_get (D := D) (ci := 0) (v := .ref (a_ck 10)) (C := "ConstraintText$ClockTable") (T := TX0) (N := 12) hx hb hts ing0 hown hK hP 0 rfl rfl 9 (by decide) (hts _ tw_146) (fun _ h9 => h9) rfl dX0_settleAll_28 ?_
              refine lv_iload_n hx hb dX0_settleAll_31 rfl (lv_at hl 3 rfl) ?_
              obtain ⟨g32, h⟩ := grd_some h
              refine va_zald hx hb hK hP 10 3 rfl rfl (inb_in g32) dX0_settleAll_32 ?_
              obtain ⟨k59, hk59, h⟩ := jn_name h
              have j59 : ∀ (v59 : T0) (H : Heap) (locs : List Loc) (ls : Array Slot), k59 v59 = some z12 → va_P D vwCl [(a_ck 0, .inr (0, [.ref (a_ck 1), .ref (a_ck 2), .ref (a_ck 3), .ref (a_ck 4), .ref (a_ck 5), .ref (a_ck 6), .ref (a_ck 7), .ref (a_ck 8), .ref (a_ck 9), .ref (a_ck 10), .ref (a_ck 11), .int v59.2.2.2.2.2.2.2.2.2.2.2])), (a_ck 1, .inl (kA 0, 12, .inl v59.1)), (a_ck 2, .inl (kA 0, 12, .inl v59.2.1)), (a_ck 3, .inl (kA 3, 12, .inl v59.2.2.1)), (a_ck 4, .inl (kA 0, 12, .inl v59.2.2.2.1)), (a_ck 5, .inl (kA 0, 12, .inl v59.2.2.2.2.1)), (a_ck 6, .inl (kA 2, 12, .inr (.inl v59.2.2.2.2.2.1))), (a_ck 7, .inl (kA 2, 12, .inr (.inl v59.2.2.2.2.2.2.1))), (a_ck 8, .inl (kA 2, 12, .inr (.inl v59.2.2.2.2.2.2.2.1))), (a_ck 9, .inl (kA 2, 12, .inr (.inl v59.2.2.2.2.2.2.2.2.1))), (a_ck 10, .inl (kA 3, 12, .inl v59.2.2.2.2.2.2.2.2.2.1)), (a_ck 11, .inl (kA 3, 12, .inl v59.2.2.2.2.2.2.2.2.2.2.1))] H → va_D A [(a_ck 0, .inr (0, [.ref (a_ck 1), .ref (a_ck 2), .ref (a_ck 3), .ref (a_ck 4), .ref (a_ck 5), .ref (a_ck 6), .ref (a_ck 7), .ref (a_ck 8), .ref (a_ck 9), .ref (a_ck 10), .ref (a_ck 11), .int v59.2.2.2.2.2.2.2.2.2.2.2])), (a_ck 1, .inl (kA 0, 12, .inl v59.1)), (a_ck 2, .inl (kA 0, 12, .inl v59.2.1)), (a_ck 3, .inl (kA 3, 12, .inl v59.2.2.1)), (a_ck 4, .inl (kA 0, 12, .inl v59.2.2.2.1)), (a_ck 5, .inl (kA 0, 12, .inl v59.2.2.2.2.1)), (a_ck 6, .inl (kA 2, 12, .inr (.inl v59.2.2.2.2.2.1))), (a_ck 7, .inl (kA 2, 12, .inr (.inl v59.2.2.2.2.2.2.1))), (a_ck 8, .inl (kA 2, 12, .inr (.inl v59.2.2.2.2.2.2.2.1))), (a_ck 9, .inl (kA 2, 12, .inr (.inl v59.2.2.2.2.2.2.2.2.1))), (a_ck 10, .inl (kA 3, 12, .inl v59.2.2.2.2.2.2.2.2.2.1)), (a_ck 11, .inl (kA 3, 12, .inl v59.2.2.2.2.2.2.2.2.2.2.1))] → va_S A s.heap H locs → lv_has ls 4 [(0, .ref (a_ck 0)), (1, .int s2.1), (2, .int s12.1)] → W p l e rm0_settleAll s m args below meth c H locs 0 0 Q (F0 m 59 ls []) := by
                intro v59 H locs ls h hP hD hS hl
                have h := app_of hk59 h
                refine lv_iinc (v := (s12.1 + (1 : Int32))) (lv' := [(2, .int (s12.1 + (1 : Int32))), (0, .ref (a_ck 0)), (1, .int s2.1)]) hx hb dX0_settleAll_59 hl (k := 2) rfl rfl (by decide) rfl (fun ls hl => ?_)
                refine lv_goto (tgt := 12) hx hb dX0_settleAll_62 (by decide) ?_
                obtain rfl := Option.some.inj h
                exact ih12 _ _ _ ls (hL12 _ rfl) hP hD hS (lv_sub hl [1, 2, 0] rfl)
              refine lv_if_ne (tgt := 59) hx hb dX0_settleAll_33 (by decide) (fun bc => ?_) (fun bc => ?_)
              · have h := ite_f bc h
                exact j59 _ _ _ ls h hP hD hS (lv_sub hl [1, 2, 3] rfl)
              · have h := ite_t bc h
                refine lv_aload_n hx hb dX0_settleAll_36 rfl (lv_at hl 1 rfl) ?_
                refine lv_iload_n hx hb dX0_settleAll_37 rfl (lv_at hl 0 rfl) ?_
                obtain ⟨u38, hc_38, h⟩ := bnd_some h
                refine ro_V (n := 1) (As := [.int (s12.2.2.1 s12.1.toNatClampNeg)]) (rest := []) hx hb hml hown hts hN hS hK hP (c0_has l D kA a_ck (s12.2.2.1 s12.1.toNatClampNeg) s12.2 u38 hc_38) [0, 1, 2, 3, 4, 5, 6, 7, 8, 9, 10, 11] rfl 0 0 rfl rfl rfl tw_465 tw_466 tw_467 tw_78 tw_468 rfl rfl (by decide) ⟨Nat.le_of_ble_eq_true rfl, Nat.le_of_ble_eq_true rfl⟩ rfl hl.1 rfl (Nat.le_of_ble_eq_true rfl) dX0_settleAll_38 ⟨Nat.le_of_ble_eq_true rfl, Nat.le_of_ble_eq_true rfl⟩ ?_
                refine lv_if_eq (tgt := 59) hx hb dX0_settleAll_41 (by decide) (fun bc => ?_) (fun bc => ?_)
                · have h := ite_t bc h
                  exact j59 _ _ _ ls h hP hD hS (lv_sub hl [1, 2, 3] rfl)
                · have h := ite_f bc h
                  refine lv_aload_n hx hb dX0_settleAll_44 rfl (lv_at hl 1 rfl) ?_
                  refine va_get (D := D) (ci := 0) (v := .ref (a_ck 10)) (C := "ConstraintText$ClockTable") (T := TX0) (N := 12) hx hb hts ing0 hown hK hP 0 rfl rfl 9 (by decide) (hts _ tw_146) (fun _ h9 => h9) rfl dX0_settleAll_45 ?_
                  refine lv_iload_n hx hb dX0_settleAll_48 rfl (lv_at hl 0 rfl) ?_
                  obtain ⟨g49, h⟩ := grd_some h
                  refine va_zald hx hb hK hP 10 3 rfl rfl (inb_in g49) dX0_settleAll_49 ?_
                  refine lv_if_eq (tgt := 59) hx hb dX0_settleAll_50 (by decide) (fun bc => ?_) (fun bc => ?_)
                  · have h := ite_t bc h
                    exact j59 _ _ _ ls h hP hD hS (lv_sub hl [1, 2, 3] rfl)
                  · have h := ite_f bc h
                    refine lv_aload_n hx hb dX0_settleAll_53 rfl (lv_at hl 1 rfl) ?_
                    refine lv_iload_n hx hb dX0_settleAll_54 rfl (lv_at hl 3 rfl) ?_
                    refine lv_iload_n hx hb dX0_settleAll_55 rfl (lv_at hl 0 rfl) ?_
                    obtain ⟨u56, hc_56, h⟩ := bnd_some h
                    refine rw_V (wr := []) (n := 2) (As := [.int s12.1, .int (s12.2.2.1 s12.1.toNatClampNeg)]) (rest := []) hx hb hml hown hts hN hS hK hP hD hA (c0_settle l D kA a_ck F s12.1 (s12.2.2.1 s12.1.toNatClampNeg) s12.2 u56 hc_56) [0, 1, 2, 3, 4, 5, 6, 7, 8, 9, 10, 11] [] rfl (by decide) rfl (by decide) (by decide) 0 0 rfl rfl rfl tw_558 tw_560 tw_26 tw_78 tw_561 rfl rfl (by decide) ⟨Nat.le_of_ble_eq_true rfl, Nat.le_of_ble_eq_true rfl⟩ rfl hl.1 rfl (Nat.le_of_ble_eq_true rfl) dX0_settleAll_56 ⟨Nat.le_of_ble_eq_true rfl, Nat.le_of_ble_eq_true rfl⟩ (fun H locs hP hD hS => ?_)
                    have hP : va_P D vwCl [(a_ck 0, .inr (0, [.ref (a_ck 1), .ref (a_ck 2), .ref (a_ck 3), .ref (a_ck 4), .ref (a_ck 5), .ref (a_ck 6), .ref (a_ck 7), .ref (a_ck 8), .ref (a_ck 9), .ref (a_ck 10), .ref (a_ck 11), .int u56.2.2.2.2.2.2.2.2.2.2.2])), (a_ck 1, .inl (kA 0, 12, .inl u56.1)), (a_ck 2, .inl (kA 0, 12, .inl u56.2.1)), (a_ck 3, .inl (kA 3, 12, .inl u56.2.2.1)), (a_ck 4, .inl (kA 0, 12, .inl u56.2.2.2.1)), (a_ck 5, .inl (kA 0, 12, .inl u56.2.2.2.2.1)), (a_ck 6, .inl (kA 2, 12, .inr (.inl u56.2.2.2.2.2.1))), (a_ck 7, .inl (kA 2, 12, .inr (.inl u56.2.2.2.2.2.2.1))), (a_ck 8, .inl (kA 2, 12, .inr (.inl u56.2.2.2.2.2.2.2.1))), (a_ck 9, .inl (kA 2, 12, .inr (.inl u56.2.2.2.2.2.2.2.2.1))), (a_ck 10, .inl (kA 3, 12, .inl u56.2.2.2.2.2.2.2.2.2.1)), (a_ck 11, .inl (kA 3, 12, .inl u56.2.2.2.2.2.2.2.2.2.2.1))] H := hP
                    have hD : va_D A [(a_ck 0, .inr (0, [.ref (a_ck 1), .ref (a_ck 2), .ref (a_ck 3), .ref (a_ck 4), .ref (a_ck 5), .ref (a_ck 6), .ref (a_ck 7), .ref (a_ck 8), .ref (a_ck 9), .ref (a_ck 10), .ref (a_ck 11), .int u56.2.2.2.2.2.2.2.2.2.2.2])), (a_ck 1, .inl (kA 0, 12, .inl u56.1)), (a_ck 2, .inl (kA 0, 12, .inl u56.2.1)), (a_ck 3, .inl (kA 3, 12, .inl u56.2.2.1)), (a_ck 4, .inl (kA 0, 12, .inl u56.2.2.2.1)), (a_ck 5, .inl (kA 0, 12, .inl u56.2.2.2.2.1)), (a_ck 6, .inl (kA 2, 12, .inr (.inl u56.2.2.2.2.2.1))), (a_ck 7, .inl (kA 2, 12, .inr (.inl u56.2.2.2.2.2.2.1))), (a_ck 8, .inl (kA 2, 12, .inr (.inl u56.2.2.2.2.2.2.2.1))), (a_ck 9, .inl (kA 2, 12, .inr (.inl u56.2.2.2.2.2.2.2.2.1))), (a_ck 10, .inl (kA 3, 12, .inl u56.2.2.2.2.2.2.2.2.2.1)), (a_ck 11, .inl (kA 3, 12, .inl u56.2.2.2.2.2.2.2.2.2.2.1))] := hD
                    exact j59 _ _ _ ls h hP hD hS (lv_sub hl [1, 2, 3] rfl)
        exact lp12 F ((0 : Int32), s2.2) _ _ ls hi12 hP hD hS (lv_sub hl [1, 2, 0] rfl)
  exact lp2 F ((0 : Int32), ck) _ _ ls hi2 hP hD hS (lv_sub hl [1, 0] rfl)
abbrev rm0_fact : Room := { frames := 1, cells := 0, slots := 0, locals := 21 }
set_option maxHeartbeats 4000000 in
set_option maxRecDepth 100000 in
theorem c0_fact (l : Launch) (D : va_G) (kA : Nat → ClassId) (a_ck : Nat → Nat) (p1 : Int32) (p2 : Int32) (ck : T0) (res : Int32) (h : f0_fact p1 p2 ck = some res) : Ro l yX0_fact cX0_fact 3 (some .int) rm0_fact D kA [.ref (a_ck 0), .int p1, .int p2] [(a_ck 0, .inr (0, [.ref (a_ck 1), .ref (a_ck 2), .ref (a_ck 3), .ref (a_ck 4), .ref (a_ck 5), .ref (a_ck 6), .ref (a_ck 7), .ref (a_ck 8), .ref (a_ck 9), .ref (a_ck 10), .ref (a_ck 11), .int ck.2.2.2.2.2.2.2.2.2.2.2])), (a_ck 1, .inl (kA 0, 12, .inl ck.1)), (a_ck 2, .inl (kA 0, 12, .inl ck.2.1)), (a_ck 3, .inl (kA 3, 12, .inl ck.2.2.1)), (a_ck 4, .inl (kA 0, 12, .inl ck.2.2.2.1)), (a_ck 5, .inl (kA 0, 12, .inl ck.2.2.2.2.1)), (a_ck 6, .inl (kA 2, 12, .inr (.inl ck.2.2.2.2.2.1))), (a_ck 7, .inl (kA 2, 12, .inr (.inl ck.2.2.2.2.2.2.1))), (a_ck 8, .inl (kA 2, 12, .inr (.inl ck.2.2.2.2.2.2.2.1))), (a_ck 9, .inl (kA 2, 12, .inr (.inl ck.2.2.2.2.2.2.2.2.1))), (a_ck 10, .inl (kA 3, 12, .inl ck.2.2.2.2.2.2.2.2.2.1)), (a_ck 11, .inl (kA 3, 12, .inl ck.2.2.2.2.2.2.2.2.2.2.1))] (.int res) := by
  refine Ro.of (by decide +kernel) (Nat.le_of_ble_eq_true rfl) ?_
  intro p e s m args below meth c hF hP hK ls hl
  generalize hQ : roQ below _ args s = Q
  obtain ⟨hx, hb, hml, hown, hr, hk, hts, hN⟩ := hF
  have hl : lv_has ls 3 [(0, .ref (a_ck 0)), (1, .int p1), (2, .int p2)] := hl
  unfold f0_fact at h
  refine lv_aload_n hx hb dX0_fact_0 rfl (lv_at hl 0 rfl) ?_
  refine lv_iload_n hx hb dX0_fact_1 rfl (lv_at hl 1 rfl) ?_
  obtain ⟨u2, hc_2, h⟩ := bnd_some h
  refine ro_V (n := 1) (As := [.int p1]) (rest := []) hx hb hml hown hts hN va_S.rf hK hP (c0_has l D kA a_ck p1 ck u2 hc_2) [0, 1, 2, 3, 4, 5, 6, 7, 8, 9, 10, 11] rfl 0 0 rfl rfl rfl tw_465 tw_466 tw_467 tw_78 tw_468 rfl rfl (by decide) ⟨Nat.le_of_ble_eq_true rfl, Nat.le_of_ble_eq_true rfl⟩ rfl hl.1 rfl (Nat.le_of_ble_eq_true rfl) dX0_fact_2 ⟨Nat.le_of_ble_eq_true rfl, Nat.le_of_ble_eq_true rfl⟩ ?_
  refine lv_if_ne (tgt := 10) hx hb dX0_fact_5 (by decide) (fun bc => ?_) (fun bc => ?_)
  · have h := ite_f bc h
    refine lv_iload_n hx hb dX0_fact_10 rfl (lv_at hl 2 rfl) ?_
    by_cases sw0 : p2 = (0 : Int32)
    · have h := ite_t sw0 h
      refine lv_tableIn (tgt := 44) hx hb dX0_fact_11 (by rw [sw0]; decide) (by rw [sw0]; decide) (by rw [sw0]; rfl) (by decide) ?_
      refine lv_aload_n hx hb dX0_fact_44 rfl (lv_at hl 0 rfl) ?_
      refine va_get (D := D) (ci := 0) (v := .ref (a_ck 6)) (C := "ConstraintText$ClockTable") (T := TX0) (N := 12) hx hb hts ing0 hown hK hP 0 rfl rfl 5 (by decide) (hts _ tw_142) (fun _ h9 => h9) rfl dX0_fact_45 ?_
      refine lv_iload_n hx hb dX0_fact_48 rfl (lv_at hl 1 rfl) ?_
      obtain ⟨g49, h⟩ := grd_some h
      refine va_lald hx hb hK hP 6 2 rfl rfl (inb_in g49) dX0_fact_49 ?_
      refine lv_l2i (v := (ck.2.2.2.2.2.1 p1.toNatClampNeg).toInt32) hx hb dX0_fact_50 rfl ?_
      obtain rfl := Option.some.inj h
      rw [← hQ]
      exact ro_ireturn hx hb hr hk  dX0_fact_51
    · have h := ite_f sw0 h
      by_cases sw1 : p2 = (1 : Int32)
      · have h := ite_t sw1 h
        refine lv_tableIn (tgt := 52) hx hb dX0_fact_11 (by rw [sw1]; decide) (by rw [sw1]; decide) (by rw [sw1]; rfl) (by decide) ?_
        refine lv_aload_n hx hb dX0_fact_52 rfl (lv_at hl 0 rfl) ?_
        refine va_get (D := D) (ci := 0) (v := .ref (a_ck 7)) (C := "ConstraintText$ClockTable") (T := TX0) (N := 12) hx hb hts ing0 hown hK hP 0 rfl rfl 6 (by decide) (hts _ tw_143) (fun _ h9 => h9) rfl dX0_fact_53 ?_
        refine lv_iload_n hx hb dX0_fact_56 rfl (lv_at hl 1 rfl) ?_
        obtain ⟨g57, h⟩ := grd_some h
        refine va_lald hx hb hK hP 7 2 rfl rfl (inb_in g57) dX0_fact_57 ?_
        refine lv_l2i (v := (ck.2.2.2.2.2.2.1 p1.toNatClampNeg).toInt32) hx hb dX0_fact_58 rfl ?_
        obtain rfl := Option.some.inj h
        rw [← hQ]
        exact ro_ireturn hx hb hr hk  dX0_fact_59
      · have h := ite_f sw1 h
        by_cases sw2 : p2 = (2 : Int32)
        · have h := ite_t sw2 h
          refine lv_tableIn (tgt := 60) hx hb dX0_fact_11 (by rw [sw2]; decide) (by rw [sw2]; decide) (by rw [sw2]; rfl) (by decide) ?_
          refine lv_aload_n hx hb dX0_fact_60 rfl (lv_at hl 0 rfl) ?_
          refine va_get (D := D) (ci := 0) (v := .ref (a_ck 8)) (C := "ConstraintText$ClockTable") (T := TX0) (N := 12) hx hb hts ing0 hown hK hP 0 rfl rfl 7 (by decide) (hts _ tw_144) (fun _ h9 => h9) rfl dX0_fact_61 ?_
          refine lv_iload_n hx hb dX0_fact_64 rfl (lv_at hl 1 rfl) ?_
          obtain ⟨g65, h⟩ := grd_some h
          refine va_lald hx hb hK hP 8 2 rfl rfl (inb_in g65) dX0_fact_65 ?_
          refine lv_l2i (v := (ck.2.2.2.2.2.2.2.1 p1.toNatClampNeg).toInt32) hx hb dX0_fact_66 rfl ?_
          obtain rfl := Option.some.inj h
          rw [← hQ]
          exact ro_ireturn hx hb hr hk  dX0_fact_67
        · have h := ite_f sw2 h
          by_cases sw3 : p2 = (3 : Int32)
          · have h := ite_t sw3 h
            refine lv_tableIn (tgt := 68) hx hb dX0_fact_11 (by rw [sw3]; decide) (by rw [sw3]; decide) (by rw [sw3]; rfl) (by decide) ?_
            refine lv_aload_n hx hb dX0_fact_68 rfl (lv_at hl 0 rfl) ?_
            refine va_get (D := D) (ci := 0) (v := .ref (a_ck 9)) (C := "ConstraintText$ClockTable") (T := TX0) (N := 12) hx hb hts ing0 hown hK hP 0 rfl rfl 8 (by decide) (hts _ tw_145) (fun _ h9 => h9) rfl dX0_fact_69 ?_
            refine lv_iload_n hx hb dX0_fact_72 rfl (lv_at hl 1 rfl) ?_
            obtain ⟨g73, h⟩ := grd_some h
            refine va_lald hx hb hK hP 9 2 rfl rfl (inb_in g73) dX0_fact_73 ?_
            refine lv_l2i (v := (ck.2.2.2.2.2.2.2.2.1 p1.toNatClampNeg).toInt32) hx hb dX0_fact_74 rfl ?_
            obtain rfl := Option.some.inj h
            rw [← hQ]
            exact ro_ireturn hx hb hr hk  dX0_fact_75
          · have h := ite_f sw3 h
            by_cases sw4 : p2 = (4 : Int32)
            · have h := ite_t sw4 h
              refine lv_tableIn (tgt := 76) hx hb dX0_fact_11 (by rw [sw4]; decide) (by rw [sw4]; decide) (by rw [sw4]; rfl) (by decide) ?_
              refine lv_aload_n hx hb dX0_fact_76 rfl (lv_at hl 0 rfl) ?_
              refine va_get (D := D) (ci := 0) (v := .ref (a_ck 1)) (C := "ConstraintText$ClockTable") (T := TX0) (N := 12) hx hb hts ing0 hown hK hP 0 rfl rfl 0 (by decide) (hts _ tw_134) (fun _ h9 => h9) rfl dX0_fact_77 ?_
              refine lv_iload_n hx hb dX0_fact_80 rfl (lv_at hl 1 rfl) ?_
              obtain ⟨g81, h⟩ := grd_some h
              refine va_iald hx hb hK hP 1 0 rfl rfl (inb_in g81) dX0_fact_81 ?_
              obtain rfl := Option.some.inj h
              rw [← hQ]
              exact ro_ireturn hx hb hr hk  dX0_fact_82
            · have h := ite_f sw4 h
              refine lv_tableOut (tgt := 83) hx hb dX0_fact_11 (by have q0 := lv_neT (a := 0) sw0 (by decide); have q1 := lv_neT (a := 1) sw1 (by decide); have q2 := lv_neT (a := 2) sw2 (by decide); have q3 := lv_neT (a := 3) sw3 (by decide); have q4 := lv_neT (a := 4) sw4 (by decide); omega) (by decide) ?_
              refine lv_aload_n hx hb dX0_fact_83 rfl (lv_at hl 0 rfl) ?_
              refine va_get (D := D) (ci := 0) (v := .ref (a_ck 2)) (C := "ConstraintText$ClockTable") (T := TX0) (N := 12) hx hb hts ing0 hown hK hP 0 rfl rfl 1 (by decide) (hts _ tw_137) (fun _ h9 => h9) rfl dX0_fact_84 ?_
              refine lv_iload_n hx hb dX0_fact_87 rfl (lv_at hl 1 rfl) ?_
              obtain ⟨g88, h⟩ := grd_some h
              refine va_iald hx hb hK hP 2 0 rfl rfl (inb_in g88) dX0_fact_88 ?_
              obtain rfl := Option.some.inj h
              rw [← hQ]
              exact ro_ireturn hx hb hr hk  dX0_fact_89
  · have h := ite_t bc h
    refine lv_iconst (v := -1) hx hb dX0_fact_8 (by decide) ?_
    obtain rfl := Option.some.inj h
    rw [← hQ]
    exact ro_ireturn hx hb hr hk  dX0_fact_9
abbrev rm5_lowestPart : Room := { frames := 1, cells := 0, slots := 0, locals := 30 }
set_option maxHeartbeats 4000000 in
set_option maxRecDepth 100000 in
theorem c5_lowestPart (l : Launch) (D : va_G) (kA : Nat → ClassId)  (F : Nat) (p1 : Int64) (p2 : Int64) (p3 : Int32) (res : Int64) (h : f5_lowestPart F p1 p2 p3 = some res) : Ro l yX5_lowestPart cX5_lowestPart 7 (some .long) rm5_lowestPart D kA [.long p1, .long p2, .int p3] [] (.long res) := by
  refine Ro.of (by decide +kernel) (Nat.le_of_ble_eq_true rfl) ?_
  intro p e s m args below meth c hF hP hK ls hl
  generalize hQ : roQ below _ args s = Q
  obtain ⟨hx, hb, hml, hown, hr, hk, hts, hN⟩ := hF
  have hl : lv_has ls 7 [(0, .long p1), (2, .long p2), (4, .int p3)] := hl
  unfold f5_lowestPart at h
  refine lv_lload_n hx hb dX5_lowestPart_0 rfl (lv_at hl 0 rfl) ?_
  refine lv_lload_n hx hb dX5_lowestPart_1 rfl (lv_at hl 1 rfl) ?_
  obtain ⟨u2, hc_2, h⟩ := bnd_some h
  refine ro_S (n := 2) (As := [.long p1, .long p2]) (rest := []) hx hb hml hown hts hN va_S.rf hK hP (c5_commonDivisor l D kA F p1 p2 u2 hc_2) [] rfl tw_722 tw_563 tw_74 tw_564 rfl rfl (by decide) ⟨Nat.le_of_ble_eq_true rfl, Nat.le_of_ble_eq_true rfl⟩ rfl hl.1 rfl (Nat.le_of_ble_eq_true rfl) dX5_lowestPart_2 ⟨Nat.le_of_ble_eq_true rfl, Nat.le_of_ble_eq_true rfl⟩ ?_
  refine lv_lstore (lv' := [(5, .long u2), (0, .long p1), (2, .long p2), (4, .int p3)]) hx hb dX5_lowestPart_5 hl (by decide) rfl (fun ls hl => ?_)
  refine lv_iload hx hb dX5_lowestPart_7 (lv_at hl 3 rfl) ?_
  refine lv_if_ne (tgt := 16) hx hb dX5_lowestPart_9 (by decide) (fun bc => ?_) (fun bc => ?_)
  · have h := ite_f bc h
    refine lv_lload_n hx hb dX5_lowestPart_16 rfl (lv_at hl 2 rfl) ?_
    refine lv_lload hx hb dX5_lowestPart_17 (lv_at hl 0 rfl) ?_
    obtain ⟨g19, h⟩ := grd_some h
    refine lv_ldiv hx hb dX5_lowestPart_19 (of_decide_eq_true g19) ?_
    obtain rfl := Option.some.inj h
    rw [← hQ]
    exact ro_lreturn hx hb hr hk  dX5_lowestPart_20
  · have h := ite_t bc h
    refine lv_lload_n hx hb dX5_lowestPart_12 rfl (lv_at hl 1 rfl) ?_
    refine lv_goto (tgt := 17) hx hb dX5_lowestPart_13 (by decide) ?_
    refine lv_lload hx hb dX5_lowestPart_17 (lv_at hl 0 rfl) ?_
    obtain ⟨g19, h⟩ := grd_some h
    refine lv_ldiv hx hb dX5_lowestPart_19 (of_decide_eq_true g19) ?_
    obtain rfl := Option.some.inj h
    rw [← hQ]
    exact ro_lreturn hx hb hr hk  dX5_lowestPart_20
abbrev rm0_edgePart : Room := { frames := 2, cells := 0, slots := 0, locals := 56 }
set_option maxHeartbeats 4000000 in
set_option maxRecDepth 100000 in
theorem c0_edgePart (l : Launch) (D : va_G) (kA : Nat → ClassId) (a_ck : Nat → Nat) (F : Nat) (p1 : Int32) (p2 : Int32) (p3 : Int32) (ck : T0) (res : Int64) (h : f0_edgePart F p1 p2 p3 ck = some res) : Ro l yX0_edgePart cX0_edgePart 8 (some .long) rm0_edgePart D kA [.ref (a_ck 0), .int p1, .int p2, .int p3] [(a_ck 0, .inr (0, [.ref (a_ck 1), .ref (a_ck 2), .ref (a_ck 3), .ref (a_ck 4), .ref (a_ck 5), .ref (a_ck 6), .ref (a_ck 7), .ref (a_ck 8), .ref (a_ck 9), .ref (a_ck 10), .ref (a_ck 11), .int ck.2.2.2.2.2.2.2.2.2.2.2])), (a_ck 1, .inl (kA 0, 12, .inl ck.1)), (a_ck 2, .inl (kA 0, 12, .inl ck.2.1)), (a_ck 3, .inl (kA 3, 12, .inl ck.2.2.1)), (a_ck 4, .inl (kA 0, 12, .inl ck.2.2.2.1)), (a_ck 5, .inl (kA 0, 12, .inl ck.2.2.2.2.1)), (a_ck 6, .inl (kA 2, 12, .inr (.inl ck.2.2.2.2.2.1))), (a_ck 7, .inl (kA 2, 12, .inr (.inl ck.2.2.2.2.2.2.1))), (a_ck 8, .inl (kA 2, 12, .inr (.inl ck.2.2.2.2.2.2.2.1))), (a_ck 9, .inl (kA 2, 12, .inr (.inl ck.2.2.2.2.2.2.2.2.1))), (a_ck 10, .inl (kA 3, 12, .inl ck.2.2.2.2.2.2.2.2.2.1)), (a_ck 11, .inl (kA 3, 12, .inl ck.2.2.2.2.2.2.2.2.2.2.1))] (.long res) := by
  refine Ro.of (by decide +kernel) (Nat.le_of_ble_eq_true rfl) ?_
  intro p e s m args below meth c hF hP hK ls hl
  generalize hQ : roQ below _ args s = Q
  obtain ⟨hx, hb, hml, hown, hr, hk, hts, hN⟩ := hF
  have hl : lv_has ls 8 [(0, .ref (a_ck 0)), (1, .int p1), (2, .int p2), (3, .int p3)] := hl
  unfold f0_edgePart at h
  refine lv_aload_n hx hb dX0_edgePart_0 rfl (lv_at hl 0 rfl) ?_
  refine lv_iload_n hx hb dX0_edgePart_1 rfl (lv_at hl 1 rfl) ?_
  obtain ⟨u2, hc_2, h⟩ := bnd_some h
  refine ro_V (n := 1) (As := [.int p1]) (rest := []) hx hb hml hown hts hN va_S.rf hK hP (c0_has l D kA a_ck p1 ck u2 hc_2) [0, 1, 2, 3, 4, 5, 6, 7, 8, 9, 10, 11] rfl 0 0 rfl rfl rfl tw_465 tw_466 tw_467 tw_78 tw_468 rfl rfl (by decide) ⟨Nat.le_of_ble_eq_true rfl, Nat.le_of_ble_eq_true rfl⟩ rfl hl.1 rfl (Nat.le_of_ble_eq_true rfl) dX0_edgePart_2 ⟨Nat.le_of_ble_eq_true rfl, Nat.le_of_ble_eq_true rfl⟩ ?_
  refine lv_if_ne (tgt := 12) hx hb dX0_edgePart_5 (by decide) (fun bc => ?_) (fun bc => ?_)
  · have h := ite_f bc h
    refine lv_aload_n hx hb dX0_edgePart_12 rfl (lv_at hl 0 rfl) ?_
    refine va_get (D := D) (ci := 0) (v := .ref (a_ck 7)) (C := "ConstraintText$ClockTable") (T := TX0) (N := 12) hx hb hts ing0 hown hK hP 0 rfl rfl 6 (by decide) (hts _ tw_143) (fun _ h9 => h9) rfl dX0_edgePart_13 ?_
    refine lv_iload_n hx hb dX0_edgePart_16 rfl (lv_at hl 1 rfl) ?_
    obtain ⟨g17, h⟩ := grd_some h
    refine va_lald hx hb hK hP 7 2 rfl rfl (inb_in g17) dX0_edgePart_17 ?_
    refine lv_aload_n hx hb dX0_edgePart_18 rfl (lv_at hl 0 rfl) ?_
    refine va_get (D := D) (ci := 0) (v := .ref (a_ck 8)) (C := "ConstraintText$ClockTable") (T := TX0) (N := 12) hx hb hts ing0 hown hK hP 0 rfl rfl 7 (by decide) (hts _ tw_144) (fun _ h9 => h9) rfl dX0_edgePart_19 ?_
    refine lv_iload_n hx hb dX0_edgePart_22 rfl (lv_at hl 1 rfl) ?_
    obtain ⟨g23, h⟩ := grd_some h
    refine va_lald hx hb hK hP 8 2 rfl rfl (inb_in g23) dX0_edgePart_23 ?_
    refine W.lcmp hx hb dX0_edgePart_24 ?_
    obtain ⟨k33, hk33, h⟩ := jn_name h
    have j33 : ∀ (v33 : Int32) (ls : Array Slot), k33 v33 = some res → lv_has ls 8 [(0, .ref (a_ck 0)), (1, .int p1), (2, .int p2), (3, .int p3)] → W p l e rm0_edgePart s m args below meth c s.heap [] 0 0 Q (F0 m 33 ls [.int v33]) := by
      intro v33 ls h hl
      have h := app_of hk33 h
      refine lv_istore (lv' := [(4, .int v33), (0, .ref (a_ck 0)), (1, .int p1), (2, .int p2), (3, .int p3)]) hx hb dX0_edgePart_33 hl (by decide) rfl (fun ls hl => ?_)
      refine lv_iload hx hb dX0_edgePart_35 (lv_at hl 0 rfl) ?_
      refine lv_iload_n hx hb dX0_edgePart_37 rfl (lv_at hl 3 rfl) ?_
      refine lv_iconst (v := 2) hx hb dX0_edgePart_38 (by decide) ?_
      refine lv_irem hx hb dX0_edgePart_39 (by decide) ?_
      obtain ⟨k48, hk48, h⟩ := jn_name h
      have j48 : ∀ (v48 : Int32) (ls : Array Slot), k48 v48 = some res → lv_has ls 8 [(0, .ref (a_ck 0)), (1, .int p1), (2, .int p2), (3, .int p3)] → W p l e rm0_edgePart s m args below meth c s.heap [] 0 0 Q (F0 m 48 ls [.int v48, .int v33]) := by
        intro v48 ls h hl
        have h := app_of hk48 h
        obtain ⟨k56, hk56, h⟩ := jn_name h
        have j56 : ∀ (v56 : Int32) (ls : Array Slot), k56 v56 = some res → lv_has ls 8 [(0, .ref (a_ck 0)), (1, .int p1), (2, .int p2), (3, .int p3)] → W p l e rm0_edgePart s m args below meth c s.heap [] 0 0 Q (F0 m 56 ls [.int v56]) := by
          intro v56 ls h hl
          have h := app_of hk56 h
          refine lv_istore (lv' := [(5, .int v56), (0, .ref (a_ck 0)), (1, .int p1), (2, .int p2), (3, .int p3)]) hx hb dX0_edgePart_56 hl (by decide) rfl (fun ls hl => ?_)
          refine lv_iload_n hx hb dX0_edgePart_58 rfl (lv_at hl 4 rfl) ?_
          refine lv_iconst (v := 2) hx hb dX0_edgePart_59 (by decide) ?_
          refine lv_icmp_ne (tgt := 74) hx hb dX0_edgePart_60 (by decide) (fun bc => ?_) (fun bc => ?_)
          · have h := ite_f bc h
            refine lv_iload hx hb dX0_edgePart_74 (lv_at hl 0 rfl) ?_
            obtain ⟨k94, hk94, h⟩ := jn_name h
            have j94 : ∀ (v94 : Int64) (ls : Array Slot), k94 v94 = some res → lv_has ls 8 [(0, .ref (a_ck 0)), (1, .int p1), (2, .int p2), (3, .int p3)] → W p l e rm0_edgePart s m args below meth c s.heap [] 0 0 Q (F0 m 94 ls [.long v94]) := by
              intro v94 ls h hl
              have h := app_of hk94 h
              refine lv_lstore (lv' := [(6, .long v94), (0, .ref (a_ck 0)), (1, .int p1), (2, .int p2), (3, .int p3)]) hx hb dX0_edgePart_94 hl (by decide) rfl (fun ls hl => ?_)
              refine lv_lload hx hb dX0_edgePart_96 (lv_at hl 0 rfl) ?_
              refine lv_iload_n hx hb dX0_edgePart_98 rfl (lv_at hl 3 rfl) ?_
              refine lv_iconst (v := 2) hx hb dX0_edgePart_99 (by decide) ?_
              refine lv_idiv hx hb dX0_edgePart_100 (by decide) ?_
              refine lv_i2l (v := (p2 / (2 : Int32)).toInt64) hx hb dX0_edgePart_101 rfl ?_
              refine lv_aload_n hx hb dX0_edgePart_102 rfl (lv_at hl 1 rfl) ?_
              refine va_get (D := D) (ci := 0) (v := .ref (a_ck 6)) (C := "ConstraintText$ClockTable") (T := TX0) (N := 12) hx hb hts ing0 hown hK hP 0 rfl rfl 5 (by decide) (hts _ tw_142) (fun _ h9 => h9) rfl dX0_edgePart_103 ?_
              refine lv_iload_n hx hb dX0_edgePart_106 rfl (lv_at hl 2 rfl) ?_
              obtain ⟨g107, h⟩ := grd_some h
              refine va_lald hx hb hK hP 6 2 rfl rfl (inb_in g107) dX0_edgePart_107 ?_
              refine lv_lmul hx hb dX0_edgePart_108 ?_
              refine lv_ladd hx hb dX0_edgePart_109 ?_
              refine lv_aload_n hx hb dX0_edgePart_110 rfl (lv_at hl 1 rfl) ?_
              refine va_get (D := D) (ci := 0) (v := .ref (a_ck 9)) (C := "ConstraintText$ClockTable") (T := TX0) (N := 12) hx hb hts ing0 hown hK hP 0 rfl rfl 8 (by decide) (hts _ tw_145) (fun _ h9 => h9) rfl dX0_edgePart_111 ?_
              refine lv_iload_n hx hb dX0_edgePart_114 rfl (lv_at hl 2 rfl) ?_
              obtain ⟨g115, h⟩ := grd_some h
              refine va_lald hx hb hK hP 9 2 rfl rfl (inb_in g115) dX0_edgePart_115 ?_
              refine lv_iload_n hx hb dX0_edgePart_116 rfl (lv_at hl 4 rfl) ?_
              obtain ⟨u117, hc_117, h⟩ := bnd_some h
              refine ro_SN (n := 3) (As := [.long (v94 + ((p2 / (2 : Int32)).toInt64 * (ck.2.2.2.2.2.1 p1.toNatClampNeg))), .long (ck.2.2.2.2.2.2.2.2.1 p1.toNatClampNeg), .int p3]) (rest := []) hx hb hml hown hts hN va_S.rf hK hP (c5_lowestPart l D kA F (v94 + ((p2 / (2 : Int32)).toInt64 * (ck.2.2.2.2.2.1 p1.toNatClampNeg))) (ck.2.2.2.2.2.2.2.2.1 p1.toNatClampNeg) p3 u117 hc_117) [] rfl nw_719 tw_720 tw_74 tw_721 rfl rfl (by decide) ⟨Nat.le_of_ble_eq_true rfl, Nat.le_of_ble_eq_true rfl⟩ rfl hl.1 rfl (Nat.le_of_ble_eq_true rfl) dX0_edgePart_117 ⟨Nat.le_of_ble_eq_true rfl, Nat.le_of_ble_eq_true rfl⟩ ?_
              obtain rfl := Option.some.inj h
              rw [← hQ]
              exact ro_lreturn hx hb hr hk  dX0_edgePart_120
            refine lv_if_eq (tgt := 88) hx hb dX0_edgePart_76 (by decide) (fun bc => ?_) (fun bc => ?_)
            · have h := ite_t bc h
              refine lv_aload_n hx hb dX0_edgePart_88 rfl (lv_at hl 1 rfl) ?_
              refine va_get (D := D) (ci := 0) (v := .ref (a_ck 8)) (C := "ConstraintText$ClockTable") (T := TX0) (N := 12) hx hb hts ing0 hown hK hP 0 rfl rfl 7 (by decide) (hts _ tw_144) (fun _ h9 => h9) rfl dX0_edgePart_89 ?_
              refine lv_iload_n hx hb dX0_edgePart_92 rfl (lv_at hl 2 rfl) ?_
              obtain ⟨g93, h⟩ := grd_some h
              refine va_lald hx hb hK hP 8 2 rfl rfl (inb_in g93) dX0_edgePart_93 ?_
              exact j94 _ ls h (lv_sub hl [1, 2, 3, 4] rfl)
            · have h := ite_f bc h
              refine lv_aload_n hx hb dX0_edgePart_79 rfl (lv_at hl 1 rfl) ?_
              refine va_get (D := D) (ci := 0) (v := .ref (a_ck 7)) (C := "ConstraintText$ClockTable") (T := TX0) (N := 12) hx hb hts ing0 hown hK hP 0 rfl rfl 6 (by decide) (hts _ tw_143) (fun _ h9 => h9) rfl dX0_edgePart_80 ?_
              refine lv_iload_n hx hb dX0_edgePart_83 rfl (lv_at hl 2 rfl) ?_
              obtain ⟨g84, h⟩ := grd_some h
              refine va_lald hx hb hK hP 7 2 rfl rfl (inb_in g84) dX0_edgePart_84 ?_
              refine lv_goto (tgt := 94) hx hb dX0_edgePart_85 (by decide) ?_
              exact j94 _ ls h (lv_sub hl [1, 2, 3, 4] rfl)
          · have h := ite_t bc h
            refine lv_iload hx hb dX0_edgePart_63 (lv_at hl 0 rfl) ?_
            refine lv_if_eq (tgt := 72) hx hb dX0_edgePart_65 (by decide) (fun bc => ?_) (fun bc => ?_)
            · have h := ite_t bc h
              refine lv_lconst (v := 0) hx hb dX0_edgePart_72 (by decide) ?_
              obtain rfl := Option.some.inj h
              rw [← hQ]
              exact ro_lreturn hx hb hr hk  dX0_edgePart_73
            · have h := ite_f bc h
              refine lv_lconst (v := 1) hx hb dX0_edgePart_68 (by decide) ?_
              refine lv_goto (tgt := 73) hx hb dX0_edgePart_69 (by decide) ?_
              obtain rfl := Option.some.inj h
              rw [← hQ]
              exact ro_lreturn hx hb hr hk  dX0_edgePart_73
        refine lv_icmp_ne (tgt := 55) hx hb dX0_edgePart_48 (by decide) (fun bc => ?_) (fun bc => ?_)
        · have h := ite_f bc h
          refine lv_iconst (v := 0) hx hb dX0_edgePart_55 (by decide) ?_
          exact j56 _ ls h hl
        · have h := ite_t bc h
          refine lv_iconst (v := 1) hx hb dX0_edgePart_51 (by decide) ?_
          refine lv_goto (tgt := 56) hx hb dX0_edgePart_52 (by decide) ?_
          exact j56 _ ls h hl
      refine lv_if_ne (tgt := 47) hx hb dX0_edgePart_40 (by decide) (fun bc => ?_) (fun bc => ?_)
      · have h := ite_f bc h
        refine lv_iconst (v := 0) hx hb dX0_edgePart_47 (by decide) ?_
        exact j48 _ ls h (lv_sub hl [1, 2, 3, 4] rfl)
      · have h := ite_t bc h
        refine lv_iconst (v := 1) hx hb dX0_edgePart_43 (by decide) ?_
        refine lv_goto (tgt := 48) hx hb dX0_edgePart_44 (by decide) ?_
        exact j48 _ ls h (lv_sub hl [1, 2, 3, 4] rfl)
    refine lv_if_ge (tgt := 32) hx hb dX0_edgePart_25 (by decide) (fun bc => ?_) (fun bc => ?_)
    · have h := ite_t bc h
      refine lv_iconst (v := 0) hx hb dX0_edgePart_32 (by decide) ?_
      exact j33 _ ls h hl
    · have h := ite_f bc h
      refine lv_iconst (v := 1) hx hb dX0_edgePart_28 (by decide) ?_
      refine lv_goto (tgt := 33) hx hb dX0_edgePart_29 (by decide) ?_
      exact j33 _ ls h hl
  · have h := ite_t bc h
    refine lv_ldc2 (own := "ConstraintText$ClockTable") (v := -1) hx hb hown (hts _ tw_718) dX0_edgePart_8 ?_
    obtain rfl := Option.some.inj h
    rw [← hQ]
    exact ro_lreturn hx hb hr hk  dX0_edgePart_11
abbrev rm109_floorMod : Room := { frames := 0, cells := 0, slots := 0, locals := 0 }
set_option maxHeartbeats 4000000 in
set_option maxRecDepth 100000 in
theorem c109_floorMod (l : Launch) (D : va_G) (kA : Nat → ClassId)  (p1 : Int64) (p2 : Int64) (res : Int64) (h : f109_floorMod p1 p2 = some res) : Ro l yJ9_floorMod_f86c9 cJ9_floorMod_f86c9 6 (some .long) rm109_floorMod D kA [.long p1, .long p2] [] (.long res) := by
  refine Ro.ofF (by decide +kernel) (Nat.le_of_ble_eq_true rfl) ?_
  intro p e s m args below meth c hF hP hK ls hl
  generalize hQ : roQ below _ args s = Q
  obtain ⟨hx, hb, hml, hown, hr, hk, hts, hN⟩ := hF
  have hl : lv_has ls 6 [(0, .long p1), (2, .long p2)] := hl
  unfold f109_floorMod at h
  refine lv_lload_n hx hb dJ9_floorMod_f86c9_0 rfl (lv_at hl 0 rfl) ?_
  refine lv_lload_n hx hb dJ9_floorMod_f86c9_1 rfl (lv_at hl 1 rfl) ?_
  obtain ⟨g2, h⟩ := grd_some h
  refine lv_lrem hx hb dJ9_floorMod_f86c9_2 (of_decide_eq_true g2) ?_
  refine lv_lstore (lv' := [(4, .long (p1 - p1 / p2 * p2)), (0, .long p1), (2, .long p2)]) hx hb dJ9_floorMod_f86c9_3 hl (by decide) rfl (fun ls hl => ?_)
  refine lv_lload_n hx hb dJ9_floorMod_f86c9_5 rfl (lv_at hl 1 rfl) ?_
  refine lv_lload_n hx hb dJ9_floorMod_f86c9_6 rfl (lv_at hl 2 rfl) ?_
  refine lv_lxor hx hb dJ9_floorMod_f86c9_7 ?_
  refine lv_lconst (v := 0) hx hb dJ9_floorMod_f86c9_8 (by decide) ?_
  refine W.lcmp hx hb dJ9_floorMod_f86c9_9 ?_
  refine lv_if_ge (tgt := 25) hx hb dJ9_floorMod_f86c9_10 (by decide) (fun bc => ?_) (fun bc => ?_)
  · have h := ite_t bc h
    refine lv_lload hx hb dJ9_floorMod_f86c9_25 (lv_at hl 0 rfl) ?_
    obtain rfl := Option.some.inj h
    rw [← hQ]
    exact ro_lreturn hx hb hr hk  dJ9_floorMod_f86c9_27
  · have h := ite_f bc h
    refine lv_lload hx hb dJ9_floorMod_f86c9_13 (lv_at hl 0 rfl) ?_
    refine lv_lconst (v := 0) hx hb dJ9_floorMod_f86c9_15 (by decide) ?_
    refine W.lcmp hx hb dJ9_floorMod_f86c9_16 ?_
    refine lv_if_eq (tgt := 25) hx hb dJ9_floorMod_f86c9_17 (by decide) (fun bc => ?_) (fun bc => ?_)
    · have h := ite_t bc h
      refine lv_lload hx hb dJ9_floorMod_f86c9_25 (lv_at hl 0 rfl) ?_
      obtain rfl := Option.some.inj h
      rw [← hQ]
      exact ro_lreturn hx hb hr hk  dJ9_floorMod_f86c9_27
    · have h := ite_f bc h
      refine lv_lload hx hb dJ9_floorMod_f86c9_20 (lv_at hl 0 rfl) ?_
      refine lv_lload_n hx hb dJ9_floorMod_f86c9_22 rfl (lv_at hl 2 rfl) ?_
      refine lv_ladd hx hb dJ9_floorMod_f86c9_23 ?_
      obtain rfl := Option.some.inj h
      rw [← hQ]
      exact ro_lreturn hx hb hr hk  dJ9_floorMod_f86c9_24
abbrev rm0_distancePart : Room := { frames := 2, cells := 0, slots := 0, locals := 56 }
set_option maxHeartbeats 4000000 in
set_option maxRecDepth 100000 in
theorem c0_distancePart (l : Launch) (D : va_G) (kA : Nat → ClassId) (a_ck : Nat → Nat) (F : Nat) (p1 : Int32) (p2 : Int32) (p3 : Int32) (ck : T0) (res : Int64) (h : f0_distancePart F p1 p2 p3 ck = some res) : Ro l yX0_distancePart cX0_distancePart 14 (some .long) rm0_distancePart D kA [.ref (a_ck 0), .int p1, .int p2, .int p3] [(a_ck 0, .inr (0, [.ref (a_ck 1), .ref (a_ck 2), .ref (a_ck 3), .ref (a_ck 4), .ref (a_ck 5), .ref (a_ck 6), .ref (a_ck 7), .ref (a_ck 8), .ref (a_ck 9), .ref (a_ck 10), .ref (a_ck 11), .int ck.2.2.2.2.2.2.2.2.2.2.2])), (a_ck 1, .inl (kA 0, 12, .inl ck.1)), (a_ck 2, .inl (kA 0, 12, .inl ck.2.1)), (a_ck 3, .inl (kA 3, 12, .inl ck.2.2.1)), (a_ck 4, .inl (kA 0, 12, .inl ck.2.2.2.1)), (a_ck 5, .inl (kA 0, 12, .inl ck.2.2.2.2.1)), (a_ck 6, .inl (kA 2, 12, .inr (.inl ck.2.2.2.2.2.1))), (a_ck 7, .inl (kA 2, 12, .inr (.inl ck.2.2.2.2.2.2.1))), (a_ck 8, .inl (kA 2, 12, .inr (.inl ck.2.2.2.2.2.2.2.1))), (a_ck 9, .inl (kA 2, 12, .inr (.inl ck.2.2.2.2.2.2.2.2.1))), (a_ck 10, .inl (kA 3, 12, .inl ck.2.2.2.2.2.2.2.2.2.1)), (a_ck 11, .inl (kA 3, 12, .inl ck.2.2.2.2.2.2.2.2.2.2.1))] (.long res) := by
  refine Ro.of (by decide +kernel) (Nat.le_of_ble_eq_true rfl) ?_
  intro p e s m args below meth c hF hP hK ls hl
  generalize hQ : roQ below _ args s = Q
  obtain ⟨hx, hb, hml, hown, hr, hk, hts, hN⟩ := hF
  have hl : lv_has ls 14 [(0, .ref (a_ck 0)), (1, .int p1), (2, .int p2), (3, .int p3)] := hl
  unfold f0_distancePart at h
  refine lv_aload_n hx hb dX0_distancePart_0 rfl (lv_at hl 0 rfl) ?_
  refine lv_iload_n hx hb dX0_distancePart_1 rfl (lv_at hl 1 rfl) ?_
  obtain ⟨u2, hc_2, h⟩ := bnd_some h
  refine ro_V (n := 1) (As := [.int p1]) (rest := []) hx hb hml hown hts hN va_S.rf hK hP (c0_has l D kA a_ck p1 ck u2 hc_2) [0, 1, 2, 3, 4, 5, 6, 7, 8, 9, 10, 11] rfl 0 0 rfl rfl rfl tw_465 tw_466 tw_467 tw_78 tw_468 rfl rfl (by decide) ⟨Nat.le_of_ble_eq_true rfl, Nat.le_of_ble_eq_true rfl⟩ rfl hl.1 rfl (Nat.le_of_ble_eq_true rfl) dX0_distancePart_2 ⟨Nat.le_of_ble_eq_true rfl, Nat.le_of_ble_eq_true rfl⟩ ?_
  refine lv_if_eq (tgt := 16) hx hb dX0_distancePart_5 (by decide) (fun bc => ?_) (fun bc => ?_)
  · have h := ite_t bc h
    refine lv_ldc2 (own := "ConstraintText$ClockTable") (v := -1) hx hb hown (hts _ tw_718) dX0_distancePart_16 ?_
    obtain rfl := Option.some.inj h
    rw [← hQ]
    exact ro_lreturn hx hb hr hk  dX0_distancePart_19
  · have h := ite_f bc h
    refine lv_aload_n hx hb dX0_distancePart_8 rfl (lv_at hl 0 rfl) ?_
    refine lv_iload_n hx hb dX0_distancePart_9 rfl (lv_at hl 2 rfl) ?_
    obtain ⟨u10, hc_10, h⟩ := bnd_some h
    refine ro_V (n := 1) (As := [.int p2]) (rest := []) hx hb hml hown hts hN va_S.rf hK hP (c0_has l D kA a_ck p2 ck u10 hc_10) [0, 1, 2, 3, 4, 5, 6, 7, 8, 9, 10, 11] rfl 0 0 rfl rfl rfl tw_465 tw_466 tw_467 tw_78 tw_468 rfl rfl (by decide) ⟨Nat.le_of_ble_eq_true rfl, Nat.le_of_ble_eq_true rfl⟩ rfl hl.1 rfl (Nat.le_of_ble_eq_true rfl) dX0_distancePart_10 ⟨Nat.le_of_ble_eq_true rfl, Nat.le_of_ble_eq_true rfl⟩ ?_
    refine lv_if_ne (tgt := 20) hx hb dX0_distancePart_13 (by decide) (fun bc => ?_) (fun bc => ?_)
    · have h := ite_f bc h
      refine lv_aload_n hx hb dX0_distancePart_20 rfl (lv_at hl 0 rfl) ?_
      refine va_get (D := D) (ci := 0) (v := .ref (a_ck 9)) (C := "ConstraintText$ClockTable") (T := TX0) (N := 12) hx hb hts ing0 hown hK hP 0 rfl rfl 8 (by decide) (hts _ tw_145) (fun _ h9 => h9) rfl dX0_distancePart_21 ?_
      refine lv_iload_n hx hb dX0_distancePart_24 rfl (lv_at hl 1 rfl) ?_
      obtain ⟨g25, h⟩ := grd_some h
      refine va_lald hx hb hK hP 9 2 rfl rfl (inb_in g25) dX0_distancePart_25 ?_
      refine lv_aload_n hx hb dX0_distancePart_26 rfl (lv_at hl 0 rfl) ?_
      refine va_get (D := D) (ci := 0) (v := .ref (a_ck 9)) (C := "ConstraintText$ClockTable") (T := TX0) (N := 12) hx hb hts ing0 hown hK hP 0 rfl rfl 8 (by decide) (hts _ tw_145) (fun _ h9 => h9) rfl dX0_distancePart_27 ?_
      refine lv_iload_n hx hb dX0_distancePart_30 rfl (lv_at hl 2 rfl) ?_
      obtain ⟨g31, h⟩ := grd_some h
      refine va_lald hx hb hK hP 9 2 rfl rfl (inb_in g31) dX0_distancePart_31 ?_
      obtain ⟨u32, hc_32, h⟩ := bnd_some h
      refine ro_SN (n := 2) (As := [.long (ck.2.2.2.2.2.2.2.2.1 p1.toNatClampNeg), .long (ck.2.2.2.2.2.2.2.2.1 p2.toNatClampNeg)]) (rest := []) hx hb hml hown hts hN va_S.rf hK hP (c5_commonDivisor l D kA F (ck.2.2.2.2.2.2.2.2.1 p1.toNatClampNeg) (ck.2.2.2.2.2.2.2.2.1 p2.toNatClampNeg) u32 hc_32) [] rfl nw_562 tw_563 tw_74 tw_564 rfl rfl (by decide) ⟨Nat.le_of_ble_eq_true rfl, Nat.le_of_ble_eq_true rfl⟩ rfl hl.1 rfl (Nat.le_of_ble_eq_true rfl) dX0_distancePart_32 ⟨Nat.le_of_ble_eq_true rfl, Nat.le_of_ble_eq_true rfl⟩ ?_
      refine lv_lstore (lv' := [(4, .long u32), (0, .ref (a_ck 0)), (1, .int p1), (2, .int p2), (3, .int p3)]) hx hb dX0_distancePart_35 hl (by decide) rfl (fun ls hl => ?_)
      refine lv_aload_n hx hb dX0_distancePart_37 rfl (lv_at hl 1 rfl) ?_
      refine va_get (D := D) (ci := 0) (v := .ref (a_ck 9)) (C := "ConstraintText$ClockTable") (T := TX0) (N := 12) hx hb hts ing0 hown hK hP 0 rfl rfl 8 (by decide) (hts _ tw_145) (fun _ h9 => h9) rfl dX0_distancePart_38 ?_
      refine lv_iload_n hx hb dX0_distancePart_41 rfl (lv_at hl 3 rfl) ?_
      obtain ⟨g42, h⟩ := grd_some h
      refine va_lald hx hb hK hP 9 2 rfl rfl (inb_in g42) dX0_distancePart_42 ?_
      refine lv_lload hx hb dX0_distancePart_43 (lv_at hl 0 rfl) ?_
      obtain ⟨g45, h⟩ := grd_some h
      refine lv_ldiv hx hb dX0_distancePart_45 (of_decide_eq_true g45) ?_
      refine lv_lstore (lv' := [(6, .long ((ck.2.2.2.2.2.2.2.2.1 p2.toNatClampNeg) / u32)), (4, .long u32), (0, .ref (a_ck 0)), (1, .int p1), (2, .int p2), (3, .int p3)]) hx hb dX0_distancePart_46 hl (by decide) rfl (fun ls hl => ?_)
      refine lv_aload_n hx hb dX0_distancePart_48 rfl (lv_at hl 2 rfl) ?_
      refine va_get (D := D) (ci := 0) (v := .ref (a_ck 9)) (C := "ConstraintText$ClockTable") (T := TX0) (N := 12) hx hb hts ing0 hown hK hP 0 rfl rfl 8 (by decide) (hts _ tw_145) (fun _ h9 => h9) rfl dX0_distancePart_49 ?_
      refine lv_iload_n hx hb dX0_distancePart_52 rfl (lv_at hl 3 rfl) ?_
      obtain ⟨g53, h⟩ := grd_some h
      refine va_lald hx hb hK hP 9 2 rfl rfl (inb_in g53) dX0_distancePart_53 ?_
      refine lv_lload hx hb dX0_distancePart_54 (lv_at hl 1 rfl) ?_
      obtain ⟨g56, h⟩ := grd_some h
      refine lv_ldiv hx hb dX0_distancePart_56 (of_decide_eq_true g56) ?_
      refine lv_lstore (lv' := [(8, .long ((ck.2.2.2.2.2.2.2.2.1 p1.toNatClampNeg) / u32)), (6, .long ((ck.2.2.2.2.2.2.2.2.1 p2.toNatClampNeg) / u32)), (4, .long u32), (0, .ref (a_ck 0)), (1, .int p1), (2, .int p2), (3, .int p3)]) hx hb dX0_distancePart_57 hl (by decide) rfl (fun ls hl => ?_)
      refine lv_aload_n hx hb dX0_distancePart_59 rfl (lv_at hl 3 rfl) ?_
      refine va_get (D := D) (ci := 0) (v := .ref (a_ck 6)) (C := "ConstraintText$ClockTable") (T := TX0) (N := 12) hx hb hts ing0 hown hK hP 0 rfl rfl 5 (by decide) (hts _ tw_142) (fun _ h9 => h9) rfl dX0_distancePart_60 ?_
      refine lv_iload_n hx hb dX0_distancePart_63 rfl (lv_at hl 4 rfl) ?_
      obtain ⟨g64, h⟩ := grd_some h
      refine va_lald hx hb hK hP 6 2 rfl rfl (inb_in g64) dX0_distancePart_64 ?_
      refine lv_lload hx hb dX0_distancePart_65 (lv_at hl 1 rfl) ?_
      refine lv_lmul hx hb dX0_distancePart_67 ?_
      refine lv_aload_n hx hb dX0_distancePart_68 rfl (lv_at hl 3 rfl) ?_
      refine va_get (D := D) (ci := 0) (v := .ref (a_ck 6)) (C := "ConstraintText$ClockTable") (T := TX0) (N := 12) hx hb hts ing0 hown hK hP 0 rfl rfl 5 (by decide) (hts _ tw_142) (fun _ h9 => h9) rfl dX0_distancePart_69 ?_
      refine lv_iload_n hx hb dX0_distancePart_72 rfl (lv_at hl 5 rfl) ?_
      obtain ⟨g73, h⟩ := grd_some h
      refine va_lald hx hb hK hP 6 2 rfl rfl (inb_in g73) dX0_distancePart_73 ?_
      refine lv_lload hx hb dX0_distancePart_74 (lv_at hl 0 rfl) ?_
      refine lv_lmul hx hb dX0_distancePart_76 ?_
      obtain ⟨u77, hc_77, h⟩ := bnd_some h
      refine ro_SN (n := 2) (As := [.long ((ck.2.2.2.2.2.1 p1.toNatClampNeg) * ((ck.2.2.2.2.2.2.2.2.1 p2.toNatClampNeg) / u32)), .long ((ck.2.2.2.2.2.1 p2.toNatClampNeg) * ((ck.2.2.2.2.2.2.2.2.1 p1.toNatClampNeg) / u32))]) (rest := []) hx hb hml hown hts hN va_S.rf hK hP (c5_commonDivisor l D kA F ((ck.2.2.2.2.2.1 p1.toNatClampNeg) * ((ck.2.2.2.2.2.2.2.2.1 p2.toNatClampNeg) / u32)) ((ck.2.2.2.2.2.1 p2.toNatClampNeg) * ((ck.2.2.2.2.2.2.2.2.1 p1.toNatClampNeg) / u32)) u77 hc_77) [] rfl nw_562 tw_563 tw_74 tw_564 rfl rfl (by decide) ⟨Nat.le_of_ble_eq_true rfl, Nat.le_of_ble_eq_true rfl⟩ rfl hl.1 rfl (Nat.le_of_ble_eq_true rfl) dX0_distancePart_77 ⟨Nat.le_of_ble_eq_true rfl, Nat.le_of_ble_eq_true rfl⟩ ?_
      refine lv_lstore (lv' := [(10, .long u77), (8, .long ((ck.2.2.2.2.2.2.2.2.1 p1.toNatClampNeg) / u32)), (6, .long ((ck.2.2.2.2.2.2.2.2.1 p2.toNatClampNeg) / u32)), (4, .long u32), (0, .ref (a_ck 0)), (1, .int p1), (2, .int p2), (3, .int p3)]) hx hb dX0_distancePart_80 hl (by decide) rfl (fun ls hl => ?_)
      refine lv_aload_n hx hb dX0_distancePart_82 rfl (lv_at hl 4 rfl) ?_
      refine va_get (D := D) (ci := 0) (v := .ref (a_ck 7)) (C := "ConstraintText$ClockTable") (T := TX0) (N := 12) hx hb hts ing0 hown hK hP 0 rfl rfl 6 (by decide) (hts _ tw_143) (fun _ h9 => h9) rfl dX0_distancePart_83 ?_
      refine lv_iload_n hx hb dX0_distancePart_86 rfl (lv_at hl 6 rfl) ?_
      obtain ⟨g87, h⟩ := grd_some h
      refine va_lald hx hb hK hP 7 2 rfl rfl (inb_in g87) dX0_distancePart_87 ?_
      refine lv_lload hx hb dX0_distancePart_88 (lv_at hl 1 rfl) ?_
      refine lv_lmul hx hb dX0_distancePart_90 ?_
      refine lv_aload_n hx hb dX0_distancePart_91 rfl (lv_at hl 4 rfl) ?_
      refine va_get (D := D) (ci := 0) (v := .ref (a_ck 7)) (C := "ConstraintText$ClockTable") (T := TX0) (N := 12) hx hb hts ing0 hown hK hP 0 rfl rfl 6 (by decide) (hts _ tw_143) (fun _ h9 => h9) rfl dX0_distancePart_92 ?_
      refine lv_iload_n hx hb dX0_distancePart_95 rfl (lv_at hl 5 rfl) ?_
      obtain ⟨g96, h⟩ := grd_some h
      refine va_lald hx hb hK hP 7 2 rfl rfl (inb_in g96) dX0_distancePart_96 ?_
      refine lv_lload hx hb dX0_distancePart_97 (lv_at hl 2 rfl) ?_
      refine lv_lmul hx hb dX0_distancePart_99 ?_
      refine lv_lsub hx hb dX0_distancePart_100 ?_
      refine lv_lload hx hb dX0_distancePart_101 (lv_at hl 0 rfl) ?_
      obtain ⟨u103, hc_103, h⟩ := bnd_some h
      refine ro_S (n := 2) (As := [.long (((ck.2.2.2.2.2.2.1 p2.toNatClampNeg) * ((ck.2.2.2.2.2.2.2.2.1 p1.toNatClampNeg) / u32)) - ((ck.2.2.2.2.2.2.1 p1.toNatClampNeg) * ((ck.2.2.2.2.2.2.2.2.1 p2.toNatClampNeg) / u32))), .long u77]) (rest := []) hx hb hml hown hts hN va_S.rf hK hP (c109_floorMod l D kA (((ck.2.2.2.2.2.2.1 p2.toNatClampNeg) * ((ck.2.2.2.2.2.2.2.2.1 p1.toNatClampNeg) / u32)) - ((ck.2.2.2.2.2.2.1 p1.toNatClampNeg) * ((ck.2.2.2.2.2.2.2.2.1 p2.toNatClampNeg) / u32))) u77 u103 hc_103) [] rfl tw_740 tw_741 tw_91 tw_742 rfl rfl (by decide) ⟨Nat.le_of_ble_eq_true rfl, Nat.le_of_ble_eq_true rfl⟩ rfl hl.1 rfl (Nat.le_of_ble_eq_true rfl) dX0_distancePart_103 ⟨Nat.le_of_ble_eq_true rfl, Nat.le_of_ble_eq_true rfl⟩ ?_
      refine lv_lstore (lv' := [(12, .long u103), (10, .long u77), (8, .long ((ck.2.2.2.2.2.2.2.2.1 p1.toNatClampNeg) / u32)), (6, .long ((ck.2.2.2.2.2.2.2.2.1 p2.toNatClampNeg) / u32)), (4, .long u32), (0, .ref (a_ck 0)), (1, .int p1), (2, .int p2), (3, .int p3)]) hx hb dX0_distancePart_106 hl (by decide) rfl (fun ls hl => ?_)
      refine lv_lload hx hb dX0_distancePart_108 (lv_at hl 0 rfl) ?_
      refine lv_lconst (v := 0) hx hb dX0_distancePart_110 (by decide) ?_
      refine W.lcmp hx hb dX0_distancePart_111 ?_
      obtain ⟨k122, hk122, h⟩ := jn_name h
      have j122 : ∀ (v122 : Int64) (ls : Array Slot), k122 v122 = some res → lv_has ls 14 [(0, .ref (a_ck 0)), (1, .int p1), (3, .int p3), (6, .long ((ck.2.2.2.2.2.2.2.2.1 p2.toNatClampNeg) / u32))] → W p l e rm0_distancePart s m args below meth c s.heap [] 0 0 Q (F0 m 122 ls [.long v122]) := by
        intro v122 ls h hl
        have h := app_of hk122 h
        refine lv_aload_n hx hb dX0_distancePart_122 rfl (lv_at hl 0 rfl) ?_
        refine va_get (D := D) (ci := 0) (v := .ref (a_ck 9)) (C := "ConstraintText$ClockTable") (T := TX0) (N := 12) hx hb hts ing0 hown hK hP 0 rfl rfl 8 (by decide) (hts _ tw_145) (fun _ h9 => h9) rfl dX0_distancePart_123 ?_
        refine lv_iload_n hx hb dX0_distancePart_126 rfl (lv_at hl 1 rfl) ?_
        obtain ⟨g127, h⟩ := grd_some h
        refine va_lald hx hb hK hP 9 2 rfl rfl (inb_in g127) dX0_distancePart_127 ?_
        refine lv_lload hx hb dX0_distancePart_128 (lv_at hl 3 rfl) ?_
        refine lv_lmul hx hb dX0_distancePart_130 ?_
        refine lv_iload_n hx hb dX0_distancePart_131 rfl (lv_at hl 2 rfl) ?_
        obtain ⟨u132, hc_132, h⟩ := bnd_some h
        refine ro_SN (n := 3) (As := [.long v122, .long ((ck.2.2.2.2.2.2.2.2.1 p1.toNatClampNeg) * ((ck.2.2.2.2.2.2.2.2.1 p2.toNatClampNeg) / u32)), .int p3]) (rest := []) hx hb hml hown hts hN va_S.rf hK hP (c5_lowestPart l D kA F v122 ((ck.2.2.2.2.2.2.2.2.1 p1.toNatClampNeg) * ((ck.2.2.2.2.2.2.2.2.1 p2.toNatClampNeg) / u32)) p3 u132 hc_132) [] rfl nw_719 tw_720 tw_74 tw_721 rfl rfl (by decide) ⟨Nat.le_of_ble_eq_true rfl, Nat.le_of_ble_eq_true rfl⟩ rfl hl.1 rfl (Nat.le_of_ble_eq_true rfl) dX0_distancePart_132 ⟨Nat.le_of_ble_eq_true rfl, Nat.le_of_ble_eq_true rfl⟩ ?_
        obtain rfl := Option.some.inj h
        rw [← hQ]
        exact ro_lreturn hx hb hr hk  dX0_distancePart_135
      refine lv_if_ne (tgt := 120) hx hb dX0_distancePart_112 (by decide) (fun bc => ?_) (fun bc => ?_)
      · have h := ite_f bc h
        refine lv_lload hx hb dX0_distancePart_120 (lv_at hl 0 rfl) ?_
        exact j122 _ ls h (lv_sub hl [5, 6, 8, 3] rfl)
      · have h := ite_t bc h
        refine lv_lload hx hb dX0_distancePart_115 (lv_at hl 1 rfl) ?_
        refine lv_goto (tgt := 122) hx hb dX0_distancePart_117 (by decide) ?_
        exact j122 _ ls h (lv_sub hl [5, 6, 8, 3] rfl)
    · have h := ite_t bc h
      refine lv_ldc2 (own := "ConstraintText$ClockTable") (v := -1) hx hb hown (hts _ tw_718) dX0_distancePart_16 ?_
      obtain rfl := Option.some.inj h
      rw [← hQ]
      exact ro_lreturn hx hb hr hk  dX0_distancePart_19
abbrev rm1_has : Room := { frames := 0, cells := 0, slots := 0, locals := 0 }
set_option maxHeartbeats 4000000 in
set_option maxRecDepth 100000 in
theorem c1_has (l : Launch) (D : va_G) (kA : Nat → ClassId)  (p1 : Int32) (res : Int32) (h : f1_has p1 = some res) : Ro l yX1_has cX1_has 1 (some .boolean) rm1_has D kA [.int p1] [] (.int res) := by
  refine Ro.of (by decide +kernel) (Nat.le_of_ble_eq_true rfl) ?_
  intro p e s m args below meth c hF hP hK ls hl
  generalize hQ : roQ below _ args s = Q
  obtain ⟨hx, hb, hml, hown, hr, hk, hts, hN⟩ := hF
  have hl : lv_has ls 1 [(0, .int p1)] := hl
  unfold f1_has at h
  refine lv_iload_n hx hb dX1_has_0 rfl (lv_at hl 0 rfl) ?_
  refine lv_if_lt (tgt := 14) hx hb dX1_has_1 (by decide) (fun bc => ?_) (fun bc => ?_)
  · have h := ite_t bc h
    refine lv_iconst (v := 0) hx hb dX1_has_14 (by decide) ?_
    obtain rfl := Option.some.inj h
    rw [← hQ]
    exact ro_zreturn hx hb hr hk nz_Z0 dX1_has_15
  · have h := ite_f bc h
    refine lv_iload_n hx hb dX1_has_4 rfl (lv_at hl 0 rfl) ?_
    refine lv_bipush (v := 40) hx hb dX1_has_5 (by decide) ?_
    refine lv_icmp_ge (tgt := 14) hx hb dX1_has_7 (by decide) (fun bc => ?_) (fun bc => ?_)
    · have h := ite_t bc h
      refine lv_iconst (v := 0) hx hb dX1_has_14 (by decide) ?_
      obtain rfl := Option.some.inj h
      rw [← hQ]
      exact ro_zreturn hx hb hr hk nz_Z0 dX1_has_15
    · have h := ite_f bc h
      refine lv_iconst (v := 1) hx hb dX1_has_10 (by decide) ?_
      refine lv_goto (tgt := 15) hx hb dX1_has_11 (by decide) ?_
      obtain rfl := Option.some.inj h
      rw [← hQ]
      exact ro_zreturn hx hb hr hk nz_Z1 dX1_has_15
abbrev rm1_lengthOf : Room := { frames := 1, cells := 0, slots := 0, locals := 20 }
set_option maxHeartbeats 4000000 in
set_option maxRecDepth 100000 in
theorem c1_lengthOf (l : Launch) (D : va_G) (kA : Nat → ClassId) (a_pn : Nat → Nat) (p1 : Int32) (pn : T1) (res : Int32) (h : f1_lengthOf p1 pn = some res) : Ro l yX1_lengthOf cX1_lengthOf 2 (some .int) rm1_lengthOf D kA [.ref (a_pn 0), .int p1] [(a_pn 0, .inr (1, [.ref (a_pn 1), .ref (a_pn 2)])), (a_pn 1, .inl (kA 1, 640, .inl pn.1)), (a_pn 2, .inl (kA 0, 40, .inl pn.2))] (.int res) := by
  refine Ro.of (by decide +kernel) (Nat.le_of_ble_eq_true rfl) ?_
  intro p e s m args below meth c hF hP hK ls hl
  generalize hQ : roQ below _ args s = Q
  obtain ⟨hx, hb, hml, hown, hr, hk, hts, hN⟩ := hF
  have hl : lv_has ls 2 [(0, .ref (a_pn 0)), (1, .int p1)] := hl
  unfold f1_lengthOf at h
  refine lv_iload_n hx hb dX1_lengthOf_0 rfl (lv_at hl 1 rfl) ?_
  obtain ⟨u1, hc_1, h⟩ := bnd_some h
  refine ro_S (n := 1) (As := [.int p1]) (rest := []) hx hb hml hown hts hN va_S.rf hK hP (c1_has l D kA p1 u1 hc_1) [] rfl tw_587 tw_588 tw_79 tw_589 rfl rfl (by decide) ⟨Nat.le_of_ble_eq_true rfl, Nat.le_of_ble_eq_true rfl⟩ rfl hl.1 rfl (Nat.le_of_ble_eq_true rfl) dX1_lengthOf_1 ⟨Nat.le_of_ble_eq_true rfl, Nat.le_of_ble_eq_true rfl⟩ ?_
  refine lv_if_eq (tgt := 16) hx hb dX1_lengthOf_4 (by decide) (fun bc => ?_) (fun bc => ?_)
  · have h := ite_t bc h
    refine lv_iconst (v := 0) hx hb dX1_lengthOf_16 (by decide) ?_
    obtain rfl := Option.some.inj h
    rw [← hQ]
    exact ro_ireturn hx hb hr hk  dX1_lengthOf_17
  · have h := ite_f bc h
    refine lv_aload_n hx hb dX1_lengthOf_7 rfl (lv_at hl 0 rfl) ?_
    refine va_get (D := D) (ci := 1) (v := .ref (a_pn 2)) (C := "ConstraintText$Pins") (T := TX1) (N := 2) hx hb hts ing1 hown hK hP 0 rfl rfl 1 (by decide) (hts _ tw_252) (fun _ h9 => h9) rfl dX1_lengthOf_8 ?_
    refine lv_iload_n hx hb dX1_lengthOf_11 rfl (lv_at hl 1 rfl) ?_
    obtain ⟨g12, h⟩ := grd_some h
    refine va_iald hx hb hK hP 2 0 rfl rfl (inb_in g12) dX1_lengthOf_12 ?_
    refine lv_goto (tgt := 17) hx hb dX1_lengthOf_13 (by decide) ?_
    obtain rfl := Option.some.inj h
    rw [← hQ]
    exact ro_ireturn hx hb hr hk  dX1_lengthOf_17
abbrev rm1_grow : Room := { frames := 2, cells := 0, slots := 0, locals := 41 }
set_option maxHeartbeats 4000000 in
set_option maxRecDepth 100000 in
theorem c1_grow (l : Launch) (D : va_G) (kA : Nat → ClassId) (a_pn : Nat → Nat) (p1 : Int32) (p2 : Int32) (pn : T1) (res : Int32 × T1) (h : f1_grow p1 p2 pn = some res) : Rw l yX1_grow cX1_grow 4 (some .boolean) rm1_grow D kA [.ref (a_pn 0), .int p1, .int p2] [(a_pn 0, .inr (1, [.ref (a_pn 1), .ref (a_pn 2)])), (a_pn 1, .inl (kA 1, 640, .inl pn.1)), (a_pn 2, .inl (kA 0, 40, .inl pn.2))] (some (.int res.1)) [(a_pn 0, .inr (1, [.ref (a_pn 1), .ref (a_pn 2)])), (a_pn 1, .inl (kA 1, 640, .inl res.2.1)), (a_pn 2, .inl (kA 0, 40, .inl res.2.2))] := by
  refine Rw.of (by decide) (Nat.le_of_ble_eq_true rfl) ?_
  intro p e s m args below meth c A hF hP hD hS hA hK ls hl
  generalize hQ : rwQ below D A _ _ args s = Q
  obtain ⟨hx, hb, hml, hown, hr, hk, hts, hN⟩ := hF
  have hl : lv_has ls 4 [(0, .ref (a_pn 0)), (1, .int p1), (2, .int p2)] := hl
  unfold f1_grow at h
  refine lv_aload_n hx hb dX1_grow_0 rfl (lv_at hl 0 rfl) ?_
  refine lv_iload_n hx hb dX1_grow_1 rfl (lv_at hl 1 rfl) ?_
  obtain ⟨u2, hc_2, h⟩ := bnd_some h
  refine ro_V (n := 1) (As := [.int p1]) (rest := []) hx hb hml hown hts hN hS hK hP (c1_lengthOf l D kA a_pn p1 pn u2 hc_2) [0, 1, 2] rfl 0 1 rfl rfl rfl tw_598 tw_584 tw_585 tw_79 tw_586 rfl rfl (by decide) ⟨Nat.le_of_ble_eq_true rfl, Nat.le_of_ble_eq_true rfl⟩ rfl hl.1 rfl (Nat.le_of_ble_eq_true rfl) dX1_grow_2 ⟨Nat.le_of_ble_eq_true rfl, Nat.le_of_ble_eq_true rfl⟩ ?_
  refine lv_istore_n (lv' := [(3, .int u2), (0, .ref (a_pn 0)), (1, .int p1), (2, .int p2)]) hx hb dX1_grow_5 rfl hl (by decide) rfl (fun ls hl => ?_)
  refine lv_iload_n hx hb dX1_grow_6 rfl (lv_at hl 2 rfl) ?_
  obtain ⟨u7, hc_7, h⟩ := bnd_some h
  refine ro_S (n := 1) (As := [.int p1]) (rest := []) hx hb hml hown hts hN hS hK hP (c1_has l D kA p1 u7 hc_7) [] rfl tw_587 tw_588 tw_79 tw_589 rfl rfl (by decide) ⟨Nat.le_of_ble_eq_true rfl, Nat.le_of_ble_eq_true rfl⟩ rfl hl.1 rfl (Nat.le_of_ble_eq_true rfl) dX1_grow_7 ⟨Nat.le_of_ble_eq_true rfl, Nat.le_of_ble_eq_true rfl⟩ ?_
  refine lv_if_eq (tgt := 19) hx hb dX1_grow_10 (by decide) (fun bc => ?_) (fun bc => ?_)
  · have h := ite_t bc h
    refine lv_iconst (v := 0) hx hb dX1_grow_19 (by decide) ?_
    obtain rfl := Option.some.inj h
    rw [← hQ]
    exact rw_zreturn hx hb hr hk nz_Z0 dX1_grow_20  hP hD hS
  · have h := ite_f bc h
    refine lv_iload_n hx hb dX1_grow_13 rfl (lv_at hl 0 rfl) ?_
    refine lv_bipush (v := 16) hx hb dX1_grow_14 (by decide) ?_
    refine lv_icmp_lt (tgt := 21) hx hb dX1_grow_16 (by decide) (fun bc => ?_) (fun bc => ?_)
    · have h := ite_t bc h
      refine lv_aload_n hx hb dX1_grow_21 rfl (lv_at hl 1 rfl) ?_
      refine va_get (D := D) (ci := 1) (v := .ref (a_pn 1)) (C := "ConstraintText$Pins") (T := TX1) (N := 2) hx hb hts ing1 hown hK hP 0 rfl rfl 0 (by decide) (hts _ tw_251) (fun _ h9 => h9) rfl dX1_grow_22 ?_
      refine lv_iload_n hx hb dX1_grow_25 rfl (lv_at hl 2 rfl) ?_
      refine lv_bipush (v := 16) hx hb dX1_grow_26 (by decide) ?_
      refine lv_imul hx hb dX1_grow_28 ?_
      refine lv_iload_n hx hb dX1_grow_29 rfl (lv_at hl 0 rfl) ?_
      refine lv_iadd hx hb dX1_grow_30 ?_
      refine lv_iload_n hx hb dX1_grow_31 rfl (lv_at hl 3 rfl) ?_
      refine lv_i2c (v := (xi2c p2)) hx hb dX1_grow_32 rfl ?_
      obtain ⟨g33, h⟩ := grd_some h
      refine va_cast hx hb hK hP hD hS 1 1 rfl rfl (inb_in g33) dX1_grow_33 (fun H locs hP hD hS => ?_)
      have hP : va_P D vwCl [(a_pn 0, .inr (1, [.ref (a_pn 1), .ref (a_pn 2)])), (a_pn 1, .inl (kA 1, 640, .inl (upd pn.1 ((p1 * (16 : Int32)) + u2).toNatClampNeg (vp_nar .char (xi2c p2))))), (a_pn 2, .inl (kA 0, 40, .inl pn.2))] H := hP
      have hD : va_D A [(a_pn 0, .inr (1, [.ref (a_pn 1), .ref (a_pn 2)])), (a_pn 1, .inl (kA 1, 640, .inl (upd pn.1 ((p1 * (16 : Int32)) + u2).toNatClampNeg (vp_nar .char (xi2c p2))))), (a_pn 2, .inl (kA 0, 40, .inl pn.2))] := hD
      refine lv_aload_n hx hb dX1_grow_34 rfl (lv_at hl 1 rfl) ?_
      refine va_get (D := D) (ci := 1) (v := .ref (a_pn 2)) (C := "ConstraintText$Pins") (T := TX1) (N := 2) hx hb hts ing1 hown hK hP 0 rfl rfl 1 (by decide) (hts _ tw_252) (fun _ h9 => h9) rfl dX1_grow_35 ?_
      refine lv_iload_n hx hb dX1_grow_38 rfl (lv_at hl 2 rfl) ?_
      refine lv_iload_n hx hb dX1_grow_39 rfl (lv_at hl 0 rfl) ?_
      refine lv_iconst (v := 1) hx hb dX1_grow_40 (by decide) ?_
      refine lv_iadd hx hb dX1_grow_41 ?_
      obtain ⟨g42, h⟩ := grd_some h
      refine va_iast hx hb hK hP hD hS 2 0 rfl rfl (inb_in g42) dX1_grow_42 (fun H locs hP hD hS => ?_)
      have hP : va_P D vwCl [(a_pn 0, .inr (1, [.ref (a_pn 1), .ref (a_pn 2)])), (a_pn 1, .inl (kA 1, 640, .inl (upd pn.1 ((p1 * (16 : Int32)) + u2).toNatClampNeg (vp_nar .char (xi2c p2))))), (a_pn 2, .inl (kA 0, 40, .inl (upd pn.2 p1.toNatClampNeg (u2 + (1 : Int32)))))] H := hP
      have hD : va_D A [(a_pn 0, .inr (1, [.ref (a_pn 1), .ref (a_pn 2)])), (a_pn 1, .inl (kA 1, 640, .inl (upd pn.1 ((p1 * (16 : Int32)) + u2).toNatClampNeg (vp_nar .char (xi2c p2))))), (a_pn 2, .inl (kA 0, 40, .inl (upd pn.2 p1.toNatClampNeg (u2 + (1 : Int32)))))] := hD
      refine lv_iconst (v := 1) hx hb dX1_grow_43 (by decide) ?_
      obtain rfl := Option.some.inj h
      rw [← hQ]
      exact rw_zreturn hx hb hr hk nz_Z1 dX1_grow_44  hP hD hS
    · have h := ite_f bc h
      refine lv_iconst (v := 0) hx hb dX1_grow_19 (by decide) ?_
      obtain rfl := Option.some.inj h
      rw [← hQ]
      exact rw_zreturn hx hb hr hk nz_Z0 dX1_grow_20  hP hD hS
abbrev rm1_at : Room := { frames := 2, cells := 0, slots := 0, locals := 41 }
set_option maxHeartbeats 4000000 in
set_option maxRecDepth 100000 in
theorem c1_at (l : Launch) (D : va_G) (kA : Nat → ClassId) (a_pn : Nat → Nat) (p1 : Int32) (p2 : Int32) (pn : T1) (res : Int32) (h : f1_at p1 p2 pn = some res) : Ro l yX1_at cX1_at 3 (some .char) rm1_at D kA [.ref (a_pn 0), .int p1, .int p2] [(a_pn 0, .inr (1, [.ref (a_pn 1), .ref (a_pn 2)])), (a_pn 1, .inl (kA 1, 640, .inl pn.1)), (a_pn 2, .inl (kA 0, 40, .inl pn.2))] (.int res) := by
  refine Ro.of (by decide +kernel) (Nat.le_of_ble_eq_true rfl) ?_
  intro p e s m args below meth c hF hP hK ls hl
  generalize hQ : roQ below _ args s = Q
  obtain ⟨hx, hb, hml, hown, hr, hk, hts, hN⟩ := hF
  have hl : lv_has ls 3 [(0, .ref (a_pn 0)), (1, .int p1), (2, .int p2)] := hl
  unfold f1_at at h
  refine lv_iload_n hx hb dX1_at_0 rfl (lv_at hl 2 rfl) ?_
  refine lv_if_lt (tgt := 27) hx hb dX1_at_1 (by decide) (fun bc => ?_) (fun bc => ?_)
  · have h := ite_t bc h
    refine lv_iconst (v := 0) hx hb dX1_at_27 (by decide) ?_
    obtain rfl := Option.some.inj h
    rw [← hQ]
    exact ro_zreturn hx hb hr hk nz_C0 dX1_at_28
  · have h := ite_f bc h
    refine lv_iload_n hx hb dX1_at_4 rfl (lv_at hl 2 rfl) ?_
    refine lv_aload_n hx hb dX1_at_5 rfl (lv_at hl 0 rfl) ?_
    refine lv_iload_n hx hb dX1_at_6 rfl (lv_at hl 1 rfl) ?_
    obtain ⟨u7, hc_7, h⟩ := bnd_some h
    refine ro_V (n := 1) (As := [.int p1]) (rest := [.int p2]) hx hb hml hown hts hN va_S.rf hK hP (c1_lengthOf l D kA a_pn p1 pn u7 hc_7) [0, 1, 2] rfl 0 1 rfl rfl rfl tw_598 tw_584 tw_585 tw_79 tw_586 rfl rfl (by decide) ⟨Nat.le_of_ble_eq_true rfl, Nat.le_of_ble_eq_true rfl⟩ rfl hl.1 rfl (Nat.le_of_ble_eq_true rfl) dX1_at_7 ⟨Nat.le_of_ble_eq_true rfl, Nat.le_of_ble_eq_true rfl⟩ ?_
    refine lv_icmp_ge (tgt := 27) hx hb dX1_at_10 (by decide) (fun bc => ?_) (fun bc => ?_)
    · have h := ite_t bc h
      refine lv_iconst (v := 0) hx hb dX1_at_27 (by decide) ?_
      obtain rfl := Option.some.inj h
      rw [← hQ]
      exact ro_zreturn hx hb hr hk nz_C0 dX1_at_28
    · have h := ite_f bc h
      refine lv_aload_n hx hb dX1_at_13 rfl (lv_at hl 0 rfl) ?_
      refine va_get (D := D) (ci := 1) (v := .ref (a_pn 1)) (C := "ConstraintText$Pins") (T := TX1) (N := 2) hx hb hts ing1 hown hK hP 0 rfl rfl 0 (by decide) (hts _ tw_251) (fun _ h9 => h9) rfl dX1_at_14 ?_
      refine lv_iload_n hx hb dX1_at_17 rfl (lv_at hl 1 rfl) ?_
      refine lv_bipush (v := 16) hx hb dX1_at_18 (by decide) ?_
      refine lv_imul hx hb dX1_at_20 ?_
      refine lv_iload_n hx hb dX1_at_21 rfl (lv_at hl 2 rfl) ?_
      refine lv_iadd hx hb dX1_at_22 ?_
      obtain ⟨g23, h⟩ := grd_some h
      refine va_cald hx hb hK hP 1 1 rfl rfl (inb_in g23) dX1_at_23 ?_
      refine lv_goto (tgt := 28) hx hb dX1_at_24 (by decide) ?_
      obtain ⟨gr, h⟩ := grd_some h
      obtain rfl := Option.some.inj h
      rw [← hQ]
      exact ro_zreturn hx hb hr hk (of_decide_eq_true gr) dX1_at_28
abbrev rm3_wipe : Room := { frames := 1, cells := 0, slots := 0, locals := 20 }
set_option maxHeartbeats 4000000 in
set_option maxRecDepth 100000 in
theorem c3_wipe (l : Launch) (D : va_G) (kA : Nat → ClassId) (a_sh : Nat → Nat) (a_ck : Nat → Nat) (sh : T3) (ck : T0) (res : T3 × T0) (h : f3_wipe sh ck = some res) : Rw l yX3_wipe cX3_wipe 1 none rm3_wipe D kA [.ref (a_sh 0)] [(a_sh 0, .inr (3, [.ref (a_sh 1), .ref (a_sh 2), .ref (a_sh 3), .ref (a_sh 4), .ref (a_sh 5), .ref (a_sh 6), .ref (a_sh 7), .ref (a_ck 0), .int sh.2.2.2.2.2.2.2.1, .int sh.2.2.2.2.2.2.2.2])), (a_sh 1, .inl (kA 0, 40, .inl sh.1)), (a_sh 2, .inl (kA 0, 40, .inl sh.2.1)), (a_sh 3, .inl (kA 0, 80, .inl sh.2.2.1)), (a_sh 4, .inl (kA 0, 120, .inl sh.2.2.2.1)), (a_sh 5, .inl (kA 0, 120, .inl sh.2.2.2.2.1)), (a_sh 6, .inl (kA 2, 120, .inr (.inl sh.2.2.2.2.2.1))), (a_sh 7, .inl (kA 1, 1240, .inl sh.2.2.2.2.2.2.1)), (a_ck 0, .inr (0, [.ref (a_ck 1), .ref (a_ck 2), .ref (a_ck 3), .ref (a_ck 4), .ref (a_ck 5), .ref (a_ck 6), .ref (a_ck 7), .ref (a_ck 8), .ref (a_ck 9), .ref (a_ck 10), .ref (a_ck 11), .int ck.2.2.2.2.2.2.2.2.2.2.2])), (a_ck 1, .inl (kA 0, 12, .inl ck.1)), (a_ck 2, .inl (kA 0, 12, .inl ck.2.1)), (a_ck 3, .inl (kA 3, 12, .inl ck.2.2.1)), (a_ck 4, .inl (kA 0, 12, .inl ck.2.2.2.1)), (a_ck 5, .inl (kA 0, 12, .inl ck.2.2.2.2.1)), (a_ck 6, .inl (kA 2, 12, .inr (.inl ck.2.2.2.2.2.1))), (a_ck 7, .inl (kA 2, 12, .inr (.inl ck.2.2.2.2.2.2.1))), (a_ck 8, .inl (kA 2, 12, .inr (.inl ck.2.2.2.2.2.2.2.1))), (a_ck 9, .inl (kA 2, 12, .inr (.inl ck.2.2.2.2.2.2.2.2.1))), (a_ck 10, .inl (kA 3, 12, .inl ck.2.2.2.2.2.2.2.2.2.1)), (a_ck 11, .inl (kA 3, 12, .inl ck.2.2.2.2.2.2.2.2.2.2.1))] none [(a_sh 0, .inr (3, [.ref (a_sh 1), .ref (a_sh 2), .ref (a_sh 3), .ref (a_sh 4), .ref (a_sh 5), .ref (a_sh 6), .ref (a_sh 7), .ref (a_ck 0), .int res.1.2.2.2.2.2.2.2.1, .int res.1.2.2.2.2.2.2.2.2])), (a_sh 1, .inl (kA 0, 40, .inl res.1.1)), (a_sh 2, .inl (kA 0, 40, .inl res.1.2.1)), (a_sh 3, .inl (kA 0, 80, .inl res.1.2.2.1)), (a_sh 4, .inl (kA 0, 120, .inl res.1.2.2.2.1)), (a_sh 5, .inl (kA 0, 120, .inl res.1.2.2.2.2.1)), (a_sh 6, .inl (kA 2, 120, .inr (.inl res.1.2.2.2.2.2.1))), (a_sh 7, .inl (kA 1, 1240, .inl res.1.2.2.2.2.2.2.1)), (a_ck 0, .inr (0, [.ref (a_ck 1), .ref (a_ck 2), .ref (a_ck 3), .ref (a_ck 4), .ref (a_ck 5), .ref (a_ck 6), .ref (a_ck 7), .ref (a_ck 8), .ref (a_ck 9), .ref (a_ck 10), .ref (a_ck 11), .int res.2.2.2.2.2.2.2.2.2.2.2.2])), (a_ck 1, .inl (kA 0, 12, .inl res.2.1)), (a_ck 2, .inl (kA 0, 12, .inl res.2.2.1)), (a_ck 3, .inl (kA 3, 12, .inl res.2.2.2.1)), (a_ck 4, .inl (kA 0, 12, .inl res.2.2.2.2.1)), (a_ck 5, .inl (kA 0, 12, .inl res.2.2.2.2.2.1)), (a_ck 6, .inl (kA 2, 12, .inr (.inl res.2.2.2.2.2.2.1))), (a_ck 7, .inl (kA 2, 12, .inr (.inl res.2.2.2.2.2.2.2.1))), (a_ck 8, .inl (kA 2, 12, .inr (.inl res.2.2.2.2.2.2.2.2.1))), (a_ck 9, .inl (kA 2, 12, .inr (.inl res.2.2.2.2.2.2.2.2.2.1))), (a_ck 10, .inl (kA 3, 12, .inl res.2.2.2.2.2.2.2.2.2.2.1)), (a_ck 11, .inl (kA 3, 12, .inl res.2.2.2.2.2.2.2.2.2.2.2.1))] := by
  refine Rw.of (by decide) (Nat.le_of_ble_eq_true rfl) ?_
  intro p e s m args below meth c A hF hP hD hS hA hK ls hl
  generalize hQ : rwQ below D A _ _ args s = Q
  obtain ⟨hx, hb, hml, hown, hr, hk, hts, hN⟩ := hF
  have hl : lv_has ls 1 [(0, .ref (a_sh 0))] := hl
  unfold f3_wipe at h
  refine lv_aload_n hx hb dX3_wipe_0 rfl (lv_at hl 0 rfl) ?_
  refine lv_iconst (v := 0) hx hb dX3_wipe_1 (by decide) ?_
  refine va_put (D := D) (ci := 3) (v := .int (0 : Int32)) (ty := .int) (C := "ConstraintText$Sheet") (T := TX3) (N := 10) hx hb hts ing3 tyX3 tyX3_ok nmX3 hown hK hP hD hS 0 rfl rfl 8 (by decide) (hts _ tw_193) (fun _ h9 => h9) rfl (tyX3_ok 8 (by decide)) rfl rfl (Nat.le_of_ble_eq_true rfl) dX3_wipe_2 (fun H locs hP hD hS => ?_)
  have hP : va_P D vwCl [(a_sh 0, .inr (3, [.ref (a_sh 1), .ref (a_sh 2), .ref (a_sh 3), .ref (a_sh 4), .ref (a_sh 5), .ref (a_sh 6), .ref (a_sh 7), .ref (a_ck 0), .int (0 : Int32), .int sh.2.2.2.2.2.2.2.2])), (a_sh 1, .inl (kA 0, 40, .inl sh.1)), (a_sh 2, .inl (kA 0, 40, .inl sh.2.1)), (a_sh 3, .inl (kA 0, 80, .inl sh.2.2.1)), (a_sh 4, .inl (kA 0, 120, .inl sh.2.2.2.1)), (a_sh 5, .inl (kA 0, 120, .inl sh.2.2.2.2.1)), (a_sh 6, .inl (kA 2, 120, .inr (.inl sh.2.2.2.2.2.1))), (a_sh 7, .inl (kA 1, 1240, .inl sh.2.2.2.2.2.2.1)), (a_ck 0, .inr (0, [.ref (a_ck 1), .ref (a_ck 2), .ref (a_ck 3), .ref (a_ck 4), .ref (a_ck 5), .ref (a_ck 6), .ref (a_ck 7), .ref (a_ck 8), .ref (a_ck 9), .ref (a_ck 10), .ref (a_ck 11), .int ck.2.2.2.2.2.2.2.2.2.2.2])), (a_ck 1, .inl (kA 0, 12, .inl ck.1)), (a_ck 2, .inl (kA 0, 12, .inl ck.2.1)), (a_ck 3, .inl (kA 3, 12, .inl ck.2.2.1)), (a_ck 4, .inl (kA 0, 12, .inl ck.2.2.2.1)), (a_ck 5, .inl (kA 0, 12, .inl ck.2.2.2.2.1)), (a_ck 6, .inl (kA 2, 12, .inr (.inl ck.2.2.2.2.2.1))), (a_ck 7, .inl (kA 2, 12, .inr (.inl ck.2.2.2.2.2.2.1))), (a_ck 8, .inl (kA 2, 12, .inr (.inl ck.2.2.2.2.2.2.2.1))), (a_ck 9, .inl (kA 2, 12, .inr (.inl ck.2.2.2.2.2.2.2.2.1))), (a_ck 10, .inl (kA 3, 12, .inl ck.2.2.2.2.2.2.2.2.2.1)), (a_ck 11, .inl (kA 3, 12, .inl ck.2.2.2.2.2.2.2.2.2.2.1))] H := hP
  have hD : va_D A [(a_sh 0, .inr (3, [.ref (a_sh 1), .ref (a_sh 2), .ref (a_sh 3), .ref (a_sh 4), .ref (a_sh 5), .ref (a_sh 6), .ref (a_sh 7), .ref (a_ck 0), .int (0 : Int32), .int sh.2.2.2.2.2.2.2.2])), (a_sh 1, .inl (kA 0, 40, .inl sh.1)), (a_sh 2, .inl (kA 0, 40, .inl sh.2.1)), (a_sh 3, .inl (kA 0, 80, .inl sh.2.2.1)), (a_sh 4, .inl (kA 0, 120, .inl sh.2.2.2.1)), (a_sh 5, .inl (kA 0, 120, .inl sh.2.2.2.2.1)), (a_sh 6, .inl (kA 2, 120, .inr (.inl sh.2.2.2.2.2.1))), (a_sh 7, .inl (kA 1, 1240, .inl sh.2.2.2.2.2.2.1)), (a_ck 0, .inr (0, [.ref (a_ck 1), .ref (a_ck 2), .ref (a_ck 3), .ref (a_ck 4), .ref (a_ck 5), .ref (a_ck 6), .ref (a_ck 7), .ref (a_ck 8), .ref (a_ck 9), .ref (a_ck 10), .ref (a_ck 11), .int ck.2.2.2.2.2.2.2.2.2.2.2])), (a_ck 1, .inl (kA 0, 12, .inl ck.1)), (a_ck 2, .inl (kA 0, 12, .inl ck.2.1)), (a_ck 3, .inl (kA 3, 12, .inl ck.2.2.1)), (a_ck 4, .inl (kA 0, 12, .inl ck.2.2.2.1)), (a_ck 5, .inl (kA 0, 12, .inl ck.2.2.2.2.1)), (a_ck 6, .inl (kA 2, 12, .inr (.inl ck.2.2.2.2.2.1))), (a_ck 7, .inl (kA 2, 12, .inr (.inl ck.2.2.2.2.2.2.1))), (a_ck 8, .inl (kA 2, 12, .inr (.inl ck.2.2.2.2.2.2.2.1))), (a_ck 9, .inl (kA 2, 12, .inr (.inl ck.2.2.2.2.2.2.2.2.1))), (a_ck 10, .inl (kA 3, 12, .inl ck.2.2.2.2.2.2.2.2.2.1)), (a_ck 11, .inl (kA 3, 12, .inl ck.2.2.2.2.2.2.2.2.2.2.1))] := hD
  refine lv_aload_n hx hb dX3_wipe_5 rfl (lv_at hl 0 rfl) ?_
  refine lv_iconst (v := 0) hx hb dX3_wipe_6 (by decide) ?_
  refine va_put (D := D) (ci := 3) (v := .int (0 : Int32)) (ty := .int) (C := "ConstraintText$Sheet") (T := TX3) (N := 10) hx hb hts ing3 tyX3 tyX3_ok nmX3 hown hK hP hD hS 0 rfl rfl 9 (by decide) (hts _ tw_196) (fun _ h9 => h9) rfl (tyX3_ok 9 (by decide)) rfl rfl (Nat.le_of_ble_eq_true rfl) dX3_wipe_7 (fun H locs hP hD hS => ?_)
  have hP : va_P D vwCl [(a_sh 0, .inr (3, [.ref (a_sh 1), .ref (a_sh 2), .ref (a_sh 3), .ref (a_sh 4), .ref (a_sh 5), .ref (a_sh 6), .ref (a_sh 7), .ref (a_ck 0), .int (0 : Int32), .int (0 : Int32)])), (a_sh 1, .inl (kA 0, 40, .inl sh.1)), (a_sh 2, .inl (kA 0, 40, .inl sh.2.1)), (a_sh 3, .inl (kA 0, 80, .inl sh.2.2.1)), (a_sh 4, .inl (kA 0, 120, .inl sh.2.2.2.1)), (a_sh 5, .inl (kA 0, 120, .inl sh.2.2.2.2.1)), (a_sh 6, .inl (kA 2, 120, .inr (.inl sh.2.2.2.2.2.1))), (a_sh 7, .inl (kA 1, 1240, .inl sh.2.2.2.2.2.2.1)), (a_ck 0, .inr (0, [.ref (a_ck 1), .ref (a_ck 2), .ref (a_ck 3), .ref (a_ck 4), .ref (a_ck 5), .ref (a_ck 6), .ref (a_ck 7), .ref (a_ck 8), .ref (a_ck 9), .ref (a_ck 10), .ref (a_ck 11), .int ck.2.2.2.2.2.2.2.2.2.2.2])), (a_ck 1, .inl (kA 0, 12, .inl ck.1)), (a_ck 2, .inl (kA 0, 12, .inl ck.2.1)), (a_ck 3, .inl (kA 3, 12, .inl ck.2.2.1)), (a_ck 4, .inl (kA 0, 12, .inl ck.2.2.2.1)), (a_ck 5, .inl (kA 0, 12, .inl ck.2.2.2.2.1)), (a_ck 6, .inl (kA 2, 12, .inr (.inl ck.2.2.2.2.2.1))), (a_ck 7, .inl (kA 2, 12, .inr (.inl ck.2.2.2.2.2.2.1))), (a_ck 8, .inl (kA 2, 12, .inr (.inl ck.2.2.2.2.2.2.2.1))), (a_ck 9, .inl (kA 2, 12, .inr (.inl ck.2.2.2.2.2.2.2.2.1))), (a_ck 10, .inl (kA 3, 12, .inl ck.2.2.2.2.2.2.2.2.2.1)), (a_ck 11, .inl (kA 3, 12, .inl ck.2.2.2.2.2.2.2.2.2.2.1))] H := hP
  have hD : va_D A [(a_sh 0, .inr (3, [.ref (a_sh 1), .ref (a_sh 2), .ref (a_sh 3), .ref (a_sh 4), .ref (a_sh 5), .ref (a_sh 6), .ref (a_sh 7), .ref (a_ck 0), .int (0 : Int32), .int (0 : Int32)])), (a_sh 1, .inl (kA 0, 40, .inl sh.1)), (a_sh 2, .inl (kA 0, 40, .inl sh.2.1)), (a_sh 3, .inl (kA 0, 80, .inl sh.2.2.1)), (a_sh 4, .inl (kA 0, 120, .inl sh.2.2.2.1)), (a_sh 5, .inl (kA 0, 120, .inl sh.2.2.2.2.1)), (a_sh 6, .inl (kA 2, 120, .inr (.inl sh.2.2.2.2.2.1))), (a_sh 7, .inl (kA 1, 1240, .inl sh.2.2.2.2.2.2.1)), (a_ck 0, .inr (0, [.ref (a_ck 1), .ref (a_ck 2), .ref (a_ck 3), .ref (a_ck 4), .ref (a_ck 5), .ref (a_ck 6), .ref (a_ck 7), .ref (a_ck 8), .ref (a_ck 9), .ref (a_ck 10), .ref (a_ck 11), .int ck.2.2.2.2.2.2.2.2.2.2.2])), (a_ck 1, .inl (kA 0, 12, .inl ck.1)), (a_ck 2, .inl (kA 0, 12, .inl ck.2.1)), (a_ck 3, .inl (kA 3, 12, .inl ck.2.2.1)), (a_ck 4, .inl (kA 0, 12, .inl ck.2.2.2.1)), (a_ck 5, .inl (kA 0, 12, .inl ck.2.2.2.2.1)), (a_ck 6, .inl (kA 2, 12, .inr (.inl ck.2.2.2.2.2.1))), (a_ck 7, .inl (kA 2, 12, .inr (.inl ck.2.2.2.2.2.2.1))), (a_ck 8, .inl (kA 2, 12, .inr (.inl ck.2.2.2.2.2.2.2.1))), (a_ck 9, .inl (kA 2, 12, .inr (.inl ck.2.2.2.2.2.2.2.2.1))), (a_ck 10, .inl (kA 3, 12, .inl ck.2.2.2.2.2.2.2.2.2.1)), (a_ck 11, .inl (kA 3, 12, .inl ck.2.2.2.2.2.2.2.2.2.2.1))] := hD
  refine lv_aload_n hx hb dX3_wipe_10 rfl (lv_at hl 0 rfl) ?_
  refine va_get (D := D) (ci := 3) (v := .ref (a_ck 0)) (C := "ConstraintText$Sheet") (T := TX3) (N := 10) hx hb hts ing3 hown hK hP 0 rfl rfl 7 (by decide) (hts _ tw_190) (fun _ h9 => h9) rfl dX3_wipe_11 ?_
  obtain ⟨u14, hc_14, h⟩ := bnd_some h
  refine rw_V (wr := [(a_sh 0, .inr (3, [.ref (a_sh 1), .ref (a_sh 2), .ref (a_sh 3), .ref (a_sh 4), .ref (a_sh 5), .ref (a_sh 6), .ref (a_sh 7), .ref (a_ck 0), .int (0 : Int32), .int (0 : Int32)])), (a_sh 1, .inl (kA 0, 40, .inl sh.1)), (a_sh 2, .inl (kA 0, 40, .inl sh.2.1)), (a_sh 3, .inl (kA 0, 80, .inl sh.2.2.1)), (a_sh 4, .inl (kA 0, 120, .inl sh.2.2.2.1)), (a_sh 5, .inl (kA 0, 120, .inl sh.2.2.2.2.1)), (a_sh 6, .inl (kA 2, 120, .inr (.inl sh.2.2.2.2.2.1))), (a_sh 7, .inl (kA 1, 1240, .inl sh.2.2.2.2.2.2.1))]) (n := 0) (As := []) (rest := []) hx hb hml hown hts hN hS hK hP hD hA (c0_wipe l D kA a_ck ck u14 hc_14) [8, 9, 10, 11, 12, 13, 14, 15, 16, 17, 18, 19] [0, 1, 2, 3, 4, 5, 6, 7] rfl (by decide) rfl (by decide) (by decide) 8 0 rfl rfl rfl tw_304 tw_305 tw_306 tw_78 tw_307 rfl rfl (by decide) ⟨Nat.le_of_ble_eq_true rfl, Nat.le_of_ble_eq_true rfl⟩ rfl hl.1 rfl (Nat.le_of_ble_eq_true rfl) dX3_wipe_14 ⟨Nat.le_of_ble_eq_true rfl, Nat.le_of_ble_eq_true rfl⟩ (fun H locs hP hD hS => ?_)
  have hP : va_P D vwCl [(a_sh 0, .inr (3, [.ref (a_sh 1), .ref (a_sh 2), .ref (a_sh 3), .ref (a_sh 4), .ref (a_sh 5), .ref (a_sh 6), .ref (a_sh 7), .ref (a_ck 0), .int (0 : Int32), .int (0 : Int32)])), (a_sh 1, .inl (kA 0, 40, .inl sh.1)), (a_sh 2, .inl (kA 0, 40, .inl sh.2.1)), (a_sh 3, .inl (kA 0, 80, .inl sh.2.2.1)), (a_sh 4, .inl (kA 0, 120, .inl sh.2.2.2.1)), (a_sh 5, .inl (kA 0, 120, .inl sh.2.2.2.2.1)), (a_sh 6, .inl (kA 2, 120, .inr (.inl sh.2.2.2.2.2.1))), (a_sh 7, .inl (kA 1, 1240, .inl sh.2.2.2.2.2.2.1)), (a_ck 0, .inr (0, [.ref (a_ck 1), .ref (a_ck 2), .ref (a_ck 3), .ref (a_ck 4), .ref (a_ck 5), .ref (a_ck 6), .ref (a_ck 7), .ref (a_ck 8), .ref (a_ck 9), .ref (a_ck 10), .ref (a_ck 11), .int u14.2.2.2.2.2.2.2.2.2.2.2])), (a_ck 1, .inl (kA 0, 12, .inl u14.1)), (a_ck 2, .inl (kA 0, 12, .inl u14.2.1)), (a_ck 3, .inl (kA 3, 12, .inl u14.2.2.1)), (a_ck 4, .inl (kA 0, 12, .inl u14.2.2.2.1)), (a_ck 5, .inl (kA 0, 12, .inl u14.2.2.2.2.1)), (a_ck 6, .inl (kA 2, 12, .inr (.inl u14.2.2.2.2.2.1))), (a_ck 7, .inl (kA 2, 12, .inr (.inl u14.2.2.2.2.2.2.1))), (a_ck 8, .inl (kA 2, 12, .inr (.inl u14.2.2.2.2.2.2.2.1))), (a_ck 9, .inl (kA 2, 12, .inr (.inl u14.2.2.2.2.2.2.2.2.1))), (a_ck 10, .inl (kA 3, 12, .inl u14.2.2.2.2.2.2.2.2.2.1)), (a_ck 11, .inl (kA 3, 12, .inl u14.2.2.2.2.2.2.2.2.2.2.1))] H := hP
  have hD : va_D A [(a_sh 0, .inr (3, [.ref (a_sh 1), .ref (a_sh 2), .ref (a_sh 3), .ref (a_sh 4), .ref (a_sh 5), .ref (a_sh 6), .ref (a_sh 7), .ref (a_ck 0), .int (0 : Int32), .int (0 : Int32)])), (a_sh 1, .inl (kA 0, 40, .inl sh.1)), (a_sh 2, .inl (kA 0, 40, .inl sh.2.1)), (a_sh 3, .inl (kA 0, 80, .inl sh.2.2.1)), (a_sh 4, .inl (kA 0, 120, .inl sh.2.2.2.1)), (a_sh 5, .inl (kA 0, 120, .inl sh.2.2.2.2.1)), (a_sh 6, .inl (kA 2, 120, .inr (.inl sh.2.2.2.2.2.1))), (a_sh 7, .inl (kA 1, 1240, .inl sh.2.2.2.2.2.2.1)), (a_ck 0, .inr (0, [.ref (a_ck 1), .ref (a_ck 2), .ref (a_ck 3), .ref (a_ck 4), .ref (a_ck 5), .ref (a_ck 6), .ref (a_ck 7), .ref (a_ck 8), .ref (a_ck 9), .ref (a_ck 10), .ref (a_ck 11), .int u14.2.2.2.2.2.2.2.2.2.2.2])), (a_ck 1, .inl (kA 0, 12, .inl u14.1)), (a_ck 2, .inl (kA 0, 12, .inl u14.2.1)), (a_ck 3, .inl (kA 3, 12, .inl u14.2.2.1)), (a_ck 4, .inl (kA 0, 12, .inl u14.2.2.2.1)), (a_ck 5, .inl (kA 0, 12, .inl u14.2.2.2.2.1)), (a_ck 6, .inl (kA 2, 12, .inr (.inl u14.2.2.2.2.2.1))), (a_ck 7, .inl (kA 2, 12, .inr (.inl u14.2.2.2.2.2.2.1))), (a_ck 8, .inl (kA 2, 12, .inr (.inl u14.2.2.2.2.2.2.2.1))), (a_ck 9, .inl (kA 2, 12, .inr (.inl u14.2.2.2.2.2.2.2.2.1))), (a_ck 10, .inl (kA 3, 12, .inl u14.2.2.2.2.2.2.2.2.2.1)), (a_ck 11, .inl (kA 3, 12, .inl u14.2.2.2.2.2.2.2.2.2.2.1))] := hD
  obtain rfl := Option.some.inj h
  rw [← hQ]
  exact rw_return hx hb hr hk  dX3_wipe_17  hP hD hS
abbrev rm4_at : Room := { frames := 0, cells := 0, slots := 0, locals := 0 }
set_option maxHeartbeats 4000000 in
set_option maxRecDepth 100000 in
theorem c4_at (l : Launch) (D : va_G) (kA : Nat → ClassId) (a_tp : Nat → Nat) (p1 : Int32) (tp : T4) (res : Int32) (h : f4_at p1 tp = some res) : Ro l yX4_at cX4_at 2 (some .char) rm4_at D kA [.ref (a_tp 0), .int p1] [(a_tp 0, .inr (4, [.ref (a_tp 1), .int tp.2])), (a_tp 1, .inl (kA 1, 1200, .inl tp.1))] (.int res) := by
  refine Ro.of (by decide +kernel) (Nat.le_of_ble_eq_true rfl) ?_
  intro p e s m args below meth c hF hP hK ls hl
  generalize hQ : roQ below _ args s = Q
  obtain ⟨hx, hb, hml, hown, hr, hk, hts, hN⟩ := hF
  have hl : lv_has ls 2 [(0, .ref (a_tp 0)), (1, .int p1)] := hl
  unfold f4_at at h
  refine lv_iload_n hx hb dX4_at_0 rfl (lv_at hl 1 rfl) ?_
  refine lv_if_lt (tgt := 21) hx hb dX4_at_1 (by decide) (fun bc => ?_) (fun bc => ?_)
  · have h := ite_t bc h
    refine lv_iconst (v := 0) hx hb dX4_at_21 (by decide) ?_
    obtain rfl := Option.some.inj h
    rw [← hQ]
    exact ro_zreturn hx hb hr hk nz_C0 dX4_at_22
  · have h := ite_f bc h
    refine lv_iload_n hx hb dX4_at_4 rfl (lv_at hl 1 rfl) ?_
    refine lv_aload_n hx hb dX4_at_5 rfl (lv_at hl 0 rfl) ?_
    refine va_get (D := D) (ci := 4) (v := .int tp.2) (C := "ConstraintText$Tape") (T := TX4) (N := 2) hx hb hts ing4 hown hK hP 0 rfl rfl 1 (by decide) (hts _ tw_113) (fun _ h9 => h9) rfl dX4_at_6 ?_
    refine lv_icmp_ge (tgt := 21) hx hb dX4_at_9 (by decide) (fun bc => ?_) (fun bc => ?_)
    · have h := ite_t bc h
      refine lv_iconst (v := 0) hx hb dX4_at_21 (by decide) ?_
      obtain rfl := Option.some.inj h
      rw [← hQ]
      exact ro_zreturn hx hb hr hk nz_C0 dX4_at_22
    · have h := ite_f bc h
      refine lv_aload_n hx hb dX4_at_12 rfl (lv_at hl 0 rfl) ?_
      refine va_get (D := D) (ci := 4) (v := .ref (a_tp 1)) (C := "ConstraintText$Tape") (T := TX4) (N := 2) hx hb hts ing4 hown hK hP 0 rfl rfl 0 (by decide) (hts _ tw_112) (fun _ h9 => h9) rfl dX4_at_13 ?_
      refine lv_iload_n hx hb dX4_at_16 rfl (lv_at hl 1 rfl) ?_
      obtain ⟨g17, h⟩ := grd_some h
      refine va_cald hx hb hK hP 1 1 rfl rfl (inb_in g17) dX4_at_17 ?_
      refine lv_goto (tgt := 22) hx hb dX4_at_18 (by decide) ?_
      obtain ⟨gr, h⟩ := grd_some h
      obtain rfl := Option.some.inj h
      rw [← hQ]
      exact ro_zreturn hx hb hr hk (of_decide_eq_true gr) dX4_at_22
