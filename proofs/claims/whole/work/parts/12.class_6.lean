abbrev rm113_bitCount : Room := { frames := 0, cells := 0, slots := 0, locals := 0 }
set_option maxHeartbeats 4000000 in
set_option maxRecDepth 100000 in
theorem c113_bitCount (l : Launch) (D : va_G) (kA : Nat → ClassId)  (p1 : Int64) (res : Int32) (h : f113_bitCount p1 = some res) : Ro l yJ13_bitCount_95d88 cJ13_bitCount_95d88 2 (some .int) rm113_bitCount D kA [.long p1] [] (.int res) := by
  refine Ro.of (by decide +kernel) (Nat.le_of_ble_eq_true rfl) ?_
  intro p e s m args below meth c hF hP hK ls hl
  generalize hQ : roQ below _ args s = Q
  obtain ⟨hx, hb, hml, hown, hr, hk, hts, hN⟩ := hF
  have hl : lv_has ls 2 [(0, .long p1)] := hl
  unfold f113_bitCount at h
  refine lv_lload_n hx hb dJ13_bitCount_95d88_0 rfl (lv_at hl 0 rfl) ?_
  refine lv_lload_n hx hb dJ13_bitCount_95d88_1 rfl (lv_at hl 0 rfl) ?_
  refine lv_iconst (v := 1) hx hb dJ13_bitCount_95d88_2 (by decide) ?_
  refine lv_lushr (v := (xlushr p1 (1 : Int32))) hx hb dJ13_bitCount_95d88_3 rfl ?_
  refine lv_ldc2 (own := "java/lang/Long") (v := 6148914691236517205) hx hb hown (hts _ tw_699) dJ13_bitCount_95d88_4 ?_
  refine lv_land hx hb dJ13_bitCount_95d88_7 ?_
  refine lv_lsub hx hb dJ13_bitCount_95d88_8 ?_
  refine lv_lstore_n (lv' := [(0, .long (p1 - ((xlushr p1 (1 : Int32)) &&& (6148914691236517205 : Int64))))]) hx hb dJ13_bitCount_95d88_9 rfl hl (by decide) rfl (fun ls hl => ?_)
  refine lv_lload_n hx hb dJ13_bitCount_95d88_10 rfl (lv_at hl 0 rfl) ?_
  refine lv_ldc2 (own := "java/lang/Long") (v := 3689348814741910323) hx hb hown (hts _ tw_700) dJ13_bitCount_95d88_11 ?_
  refine lv_land hx hb dJ13_bitCount_95d88_14 ?_
  refine lv_lload_n hx hb dJ13_bitCount_95d88_15 rfl (lv_at hl 0 rfl) ?_
  refine lv_iconst (v := 2) hx hb dJ13_bitCount_95d88_16 (by decide) ?_
  refine lv_lushr (v := (xlushr (p1 - ((xlushr p1 (1 : Int32)) &&& (6148914691236517205 : Int64))) (2 : Int32))) hx hb dJ13_bitCount_95d88_17 rfl ?_
  refine lv_ldc2 (own := "java/lang/Long") (v := 3689348814741910323) hx hb hown (hts _ tw_700) dJ13_bitCount_95d88_18 ?_
  refine lv_land hx hb dJ13_bitCount_95d88_21 ?_
  refine lv_ladd hx hb dJ13_bitCount_95d88_22 ?_
  refine lv_lstore_n (lv' := [(0, .long (((p1 - ((xlushr p1 (1 : Int32)) &&& (6148914691236517205 : Int64))) &&& (3689348814741910323 : Int64)) + ((xlushr (p1 - ((xlushr p1 (1 : Int32)) &&& (6148914691236517205 : Int64))) (2 : Int32)) &&& (3689348814741910323 : Int64))))]) hx hb dJ13_bitCount_95d88_23 rfl hl (by decide) rfl (fun ls hl => ?_)
  refine lv_lload_n hx hb dJ13_bitCount_95d88_24 rfl (lv_at hl 0 rfl) ?_
  refine lv_lload_n hx hb dJ13_bitCount_95d88_25 rfl (lv_at hl 0 rfl) ?_
  refine lv_iconst (v := 4) hx hb dJ13_bitCount_95d88_26 (by decide) ?_
  refine lv_lushr (v := (xlushr (((p1 - ((xlushr p1 (1 : Int32)) &&& (6148914691236517205 : Int64))) &&& (3689348814741910323 : Int64)) + ((xlushr (p1 - ((xlushr p1 (1 : Int32)) &&& (6148914691236517205 : Int64))) (2 : Int32)) &&& (3689348814741910323 : Int64))) (4 : Int32))) hx hb dJ13_bitCount_95d88_27 rfl ?_
  refine lv_ladd hx hb dJ13_bitCount_95d88_28 ?_
  refine lv_ldc2 (own := "java/lang/Long") (v := 1085102592571150095) hx hb hown (hts _ tw_701) dJ13_bitCount_95d88_29 ?_
  refine lv_land hx hb dJ13_bitCount_95d88_32 ?_
  refine lv_lstore_n (lv' := [(0, .long (((((p1 - ((xlushr p1 (1 : Int32)) &&& (6148914691236517205 : Int64))) &&& (3689348814741910323 : Int64)) + ((xlushr (p1 - ((xlushr p1 (1 : Int32)) &&& (6148914691236517205 : Int64))) (2 : Int32)) &&& (3689348814741910323 : Int64))) + (xlushr (((p1 - ((xlushr p1 (1 : Int32)) &&& (6148914691236517205 : Int64))) &&& (3689348814741910323 : Int64)) + ((xlushr (p1 - ((xlushr p1 (1 : Int32)) &&& (6148914691236517205 : Int64))) (2 : Int32)) &&& (3689348814741910323 : Int64))) (4 : Int32))) &&& (1085102592571150095 : Int64)))]) hx hb dJ13_bitCount_95d88_33 rfl hl (by decide) rfl (fun ls hl => ?_)
  refine lv_lload_n hx hb dJ13_bitCount_95d88_34 rfl (lv_at hl 0 rfl) ?_
  refine lv_lload_n hx hb dJ13_bitCount_95d88_35 rfl (lv_at hl 0 rfl) ?_
  refine lv_bipush (v := 8) hx hb dJ13_bitCount_95d88_36 (by decide) ?_
  refine lv_lushr (v := (xlushr (((((p1 - ((xlushr p1 (1 : Int32)) &&& (6148914691236517205 : Int64))) &&& (3689348814741910323 : Int64)) + ((xlushr (p1 - ((xlushr p1 (1 : Int32)) &&& (6148914691236517205 : Int64))) (2 : Int32)) &&& (3689348814741910323 : Int64))) + (xlushr (((p1 - ((xlushr p1 (1 : Int32)) &&& (6148914691236517205 : Int64))) &&& (3689348814741910323 : Int64)) + ((xlushr (p1 - ((xlushr p1 (1 : Int32)) &&& (6148914691236517205 : Int64))) (2 : Int32)) &&& (3689348814741910323 : Int64))) (4 : Int32))) &&& (1085102592571150095 : Int64)) (8 : Int32))) hx hb dJ13_bitCount_95d88_38 rfl ?_
  refine lv_ladd hx hb dJ13_bitCount_95d88_39 ?_
  refine lv_lstore_n (lv' := [(0, .long ((((((p1 - ((xlushr p1 (1 : Int32)) &&& (6148914691236517205 : Int64))) &&& (3689348814741910323 : Int64)) + ((xlushr (p1 - ((xlushr p1 (1 : Int32)) &&& (6148914691236517205 : Int64))) (2 : Int32)) &&& (3689348814741910323 : Int64))) + (xlushr (((p1 - ((xlushr p1 (1 : Int32)) &&& (6148914691236517205 : Int64))) &&& (3689348814741910323 : Int64)) + ((xlushr (p1 - ((xlushr p1 (1 : Int32)) &&& (6148914691236517205 : Int64))) (2 : Int32)) &&& (3689348814741910323 : Int64))) (4 : Int32))) &&& (1085102592571150095 : Int64)) + (xlushr (((((p1 - ((xlushr p1 (1 : Int32)) &&& (6148914691236517205 : Int64))) &&& (3689348814741910323 : Int64)) + ((xlushr (p1 - ((xlushr p1 (1 : Int32)) &&& (6148914691236517205 : Int64))) (2 : Int32)) &&& (3689348814741910323 : Int64))) + (xlushr (((p1 - ((xlushr p1 (1 : Int32)) &&& (6148914691236517205 : Int64))) &&& (3689348814741910323 : Int64)) + ((xlushr (p1 - ((xlushr p1 (1 : Int32)) &&& (6148914691236517205 : Int64))) (2 : Int32)) &&& (3689348814741910323 : Int64))) (4 : Int32))) &&& (1085102592571150095 : Int64)) (8 : Int32))))]) hx hb dJ13_bitCount_95d88_40 rfl hl (by decide) rfl (fun ls hl => ?_)
  refine lv_lload_n hx hb dJ13_bitCount_95d88_41 rfl (lv_at hl 0 rfl) ?_
  refine lv_lload_n hx hb dJ13_bitCount_95d88_42 rfl (lv_at hl 0 rfl) ?_
  refine lv_bipush (v := 16) hx hb dJ13_bitCount_95d88_43 (by decide) ?_
  refine lv_lushr (v := (xlushr ((((((p1 - ((xlushr p1 (1 : Int32)) &&& (6148914691236517205 : Int64))) &&& (3689348814741910323 : Int64)) + ((xlushr (p1 - ((xlushr p1 (1 : Int32)) &&& (6148914691236517205 : Int64))) (2 : Int32)) &&& (3689348814741910323 : Int64))) + (xlushr (((p1 - ((xlushr p1 (1 : Int32)) &&& (6148914691236517205 : Int64))) &&& (3689348814741910323 : Int64)) + ((xlushr (p1 - ((xlushr p1 (1 : Int32)) &&& (6148914691236517205 : Int64))) (2 : Int32)) &&& (3689348814741910323 : Int64))) (4 : Int32))) &&& (1085102592571150095 : Int64)) + (xlushr (((((p1 - ((xlushr p1 (1 : Int32)) &&& (6148914691236517205 : Int64))) &&& (3689348814741910323 : Int64)) + ((xlushr (p1 - ((xlushr p1 (1 : Int32)) &&& (6148914691236517205 : Int64))) (2 : Int32)) &&& (3689348814741910323 : Int64))) + (xlushr (((p1 - ((xlushr p1 (1 : Int32)) &&& (6148914691236517205 : Int64))) &&& (3689348814741910323 : Int64)) + ((xlushr (p1 - ((xlushr p1 (1 : Int32)) &&& (6148914691236517205 : Int64))) (2 : Int32)) &&& (3689348814741910323 : Int64))) (4 : Int32))) &&& (1085102592571150095 : Int64)) (8 : Int32))) (16 : Int32))) hx hb dJ13_bitCount_95d88_45 rfl ?_
  refine lv_ladd hx hb dJ13_bitCount_95d88_46 ?_
  refine lv_lstore_n (lv' := [(0, .long (((((((p1 - ((xlushr p1 (1 : Int32)) &&& (6148914691236517205 : Int64))) &&& (3689348814741910323 : Int64)) + ((xlushr (p1 - ((xlushr p1 (1 : Int32)) &&& (6148914691236517205 : Int64))) (2 : Int32)) &&& (3689348814741910323 : Int64))) + (xlushr (((p1 - ((xlushr p1 (1 : Int32)) &&& (6148914691236517205 : Int64))) &&& (3689348814741910323 : Int64)) + ((xlushr (p1 - ((xlushr p1 (1 : Int32)) &&& (6148914691236517205 : Int64))) (2 : Int32)) &&& (3689348814741910323 : Int64))) (4 : Int32))) &&& (1085102592571150095 : Int64)) + (xlushr (((((p1 - ((xlushr p1 (1 : Int32)) &&& (6148914691236517205 : Int64))) &&& (3689348814741910323 : Int64)) + ((xlushr (p1 - ((xlushr p1 (1 : Int32)) &&& (6148914691236517205 : Int64))) (2 : Int32)) &&& (3689348814741910323 : Int64))) + (xlushr (((p1 - ((xlushr p1 (1 : Int32)) &&& (6148914691236517205 : Int64))) &&& (3689348814741910323 : Int64)) + ((xlushr (p1 - ((xlushr p1 (1 : Int32)) &&& (6148914691236517205 : Int64))) (2 : Int32)) &&& (3689348814741910323 : Int64))) (4 : Int32))) &&& (1085102592571150095 : Int64)) (8 : Int32))) + (xlushr ((((((p1 - ((xlushr p1 (1 : Int32)) &&& (6148914691236517205 : Int64))) &&& (3689348814741910323 : Int64)) + ((xlushr (p1 - ((xlushr p1 (1 : Int32)) &&& (6148914691236517205 : Int64))) (2 : Int32)) &&& (3689348814741910323 : Int64))) + (xlushr (((p1 - ((xlushr p1 (1 : Int32)) &&& (6148914691236517205 : Int64))) &&& (3689348814741910323 : Int64)) + ((xlushr (p1 - ((xlushr p1 (1 : Int32)) &&& (6148914691236517205 : Int64))) (2 : Int32)) &&& (3689348814741910323 : Int64))) (4 : Int32))) &&& (1085102592571150095 : Int64)) + (xlushr (((((p1 - ((xlushr p1 (1 : Int32)) &&& (6148914691236517205 : Int64))) &&& (3689348814741910323 : Int64)) + ((xlushr (p1 - ((xlushr p1 (1 : Int32)) &&& (6148914691236517205 : Int64))) (2 : Int32)) &&& (3689348814741910323 : Int64))) + (xlushr (((p1 - ((xlushr p1 (1 : Int32)) &&& (6148914691236517205 : Int64))) &&& (3689348814741910323 : Int64)) + ((xlushr (p1 - ((xlushr p1 (1 : Int32)) &&& (6148914691236517205 : Int64))) (2 : Int32)) &&& (3689348814741910323 : Int64))) (4 : Int32))) &&& (1085102592571150095 : Int64)) (8 : Int32))) (16 : Int32))))]) hx hb dJ13_bitCount_95d88_47 rfl hl (by decide) rfl (fun ls hl => ?_)
  refine lv_lload_n hx hb dJ13_bitCount_95d88_48 rfl (lv_at hl 0 rfl) ?_
  refine lv_lload_n hx hb dJ13_bitCount_95d88_49 rfl (lv_at hl 0 rfl) ?_
  refine lv_bipush (v := 32) hx hb dJ13_bitCount_95d88_50 (by decide) ?_
  refine lv_lushr (v := (xlushr (((((((p1 - ((xlushr p1 (1 : Int32)) &&& (6148914691236517205 : Int64))) &&& (3689348814741910323 : Int64)) + ((xlushr (p1 - ((xlushr p1 (1 : Int32)) &&& (6148914691236517205 : Int64))) (2 : Int32)) &&& (3689348814741910323 : Int64))) + (xlushr (((p1 - ((xlushr p1 (1 : Int32)) &&& (6148914691236517205 : Int64))) &&& (3689348814741910323 : Int64)) + ((xlushr (p1 - ((xlushr p1 (1 : Int32)) &&& (6148914691236517205 : Int64))) (2 : Int32)) &&& (3689348814741910323 : Int64))) (4 : Int32))) &&& (1085102592571150095 : Int64)) + (xlushr (((((p1 - ((xlushr p1 (1 : Int32)) &&& (6148914691236517205 : Int64))) &&& (3689348814741910323 : Int64)) + ((xlushr (p1 - ((xlushr p1 (1 : Int32)) &&& (6148914691236517205 : Int64))) (2 : Int32)) &&& (3689348814741910323 : Int64))) + (xlushr (((p1 - ((xlushr p1 (1 : Int32)) &&& (6148914691236517205 : Int64))) &&& (3689348814741910323 : Int64)) + ((xlushr (p1 - ((xlushr p1 (1 : Int32)) &&& (6148914691236517205 : Int64))) (2 : Int32)) &&& (3689348814741910323 : Int64))) (4 : Int32))) &&& (1085102592571150095 : Int64)) (8 : Int32))) + (xlushr ((((((p1 - ((xlushr p1 (1 : Int32)) &&& (6148914691236517205 : Int64))) &&& (3689348814741910323 : Int64)) + ((xlushr (p1 - ((xlushr p1 (1 : Int32)) &&& (6148914691236517205 : Int64))) (2 : Int32)) &&& (3689348814741910323 : Int64))) + (xlushr (((p1 - ((xlushr p1 (1 : Int32)) &&& (6148914691236517205 : Int64))) &&& (3689348814741910323 : Int64)) + ((xlushr (p1 - ((xlushr p1 (1 : Int32)) &&& (6148914691236517205 : Int64))) (2 : Int32)) &&& (3689348814741910323 : Int64))) (4 : Int32))) &&& (1085102592571150095 : Int64)) + (xlushr (((((p1 - ((xlushr p1 (1 : Int32)) &&& (6148914691236517205 : Int64))) &&& (3689348814741910323 : Int64)) + ((xlushr (p1 - ((xlushr p1 (1 : Int32)) &&& (6148914691236517205 : Int64))) (2 : Int32)) &&& (3689348814741910323 : Int64))) + (xlushr (((p1 - ((xlushr p1 (1 : Int32)) &&& (6148914691236517205 : Int64))) &&& (3689348814741910323 : Int64)) + ((xlushr (p1 - ((xlushr p1 (1 : Int32)) &&& (6148914691236517205 : Int64))) (2 : Int32)) &&& (3689348814741910323 : Int64))) (4 : Int32))) &&& (1085102592571150095 : Int64)) (8 : Int32))) (16 : Int32))) (32 : Int32))) hx hb dJ13_bitCount_95d88_52 rfl ?_
  refine lv_ladd hx hb dJ13_bitCount_95d88_53 ?_
  refine lv_lstore_n (lv' := [(0, .long ((((((((p1 - ((xlushr p1 (1 : Int32)) &&& (6148914691236517205 : Int64))) &&& (3689348814741910323 : Int64)) + ((xlushr (p1 - ((xlushr p1 (1 : Int32)) &&& (6148914691236517205 : Int64))) (2 : Int32)) &&& (3689348814741910323 : Int64))) + (xlushr (((p1 - ((xlushr p1 (1 : Int32)) &&& (6148914691236517205 : Int64))) &&& (3689348814741910323 : Int64)) + ((xlushr (p1 - ((xlushr p1 (1 : Int32)) &&& (6148914691236517205 : Int64))) (2 : Int32)) &&& (3689348814741910323 : Int64))) (4 : Int32))) &&& (1085102592571150095 : Int64)) + (xlushr (((((p1 - ((xlushr p1 (1 : Int32)) &&& (6148914691236517205 : Int64))) &&& (3689348814741910323 : Int64)) + ((xlushr (p1 - ((xlushr p1 (1 : Int32)) &&& (6148914691236517205 : Int64))) (2 : Int32)) &&& (3689348814741910323 : Int64))) + (xlushr (((p1 - ((xlushr p1 (1 : Int32)) &&& (6148914691236517205 : Int64))) &&& (3689348814741910323 : Int64)) + ((xlushr (p1 - ((xlushr p1 (1 : Int32)) &&& (6148914691236517205 : Int64))) (2 : Int32)) &&& (3689348814741910323 : Int64))) (4 : Int32))) &&& (1085102592571150095 : Int64)) (8 : Int32))) + (xlushr ((((((p1 - ((xlushr p1 (1 : Int32)) &&& (6148914691236517205 : Int64))) &&& (3689348814741910323 : Int64)) + ((xlushr (p1 - ((xlushr p1 (1 : Int32)) &&& (6148914691236517205 : Int64))) (2 : Int32)) &&& (3689348814741910323 : Int64))) + (xlushr (((p1 - ((xlushr p1 (1 : Int32)) &&& (6148914691236517205 : Int64))) &&& (3689348814741910323 : Int64)) + ((xlushr (p1 - ((xlushr p1 (1 : Int32)) &&& (6148914691236517205 : Int64))) (2 : Int32)) &&& (3689348814741910323 : Int64))) (4 : Int32))) &&& (1085102592571150095 : Int64)) + (xlushr (((((p1 - ((xlushr p1 (1 : Int32)) &&& (6148914691236517205 : Int64))) &&& (3689348814741910323 : Int64)) + ((xlushr (p1 - ((xlushr p1 (1 : Int32)) &&& (6148914691236517205 : Int64))) (2 : Int32)) &&& (3689348814741910323 : Int64))) + (xlushr (((p1 - ((xlushr p1 (1 : Int32)) &&& (6148914691236517205 : Int64))) &&& (3689348814741910323 : Int64)) + ((xlushr (p1 - ((xlushr p1 (1 : Int32)) &&& (6148914691236517205 : Int64))) (2 : Int32)) &&& (3689348814741910323 : Int64))) (4 : Int32))) &&& (1085102592571150095 : Int64)) (8 : Int32))) (16 : Int32))) + (xlushr (((((((p1 - ((xlushr p1 (1 : Int32)) &&& (6148914691236517205 : Int64))) &&& (3689348814741910323 : Int64)) + ((xlushr (p1 - ((xlushr p1 (1 : Int32)) &&& (6148914691236517205 : Int64))) (2 : Int32)) &&& (3689348814741910323 : Int64))) + (xlushr (((p1 - ((xlushr p1 (1 : Int32)) &&& (6148914691236517205 : Int64))) &&& (3689348814741910323 : Int64)) + ((xlushr (p1 - ((xlushr p1 (1 : Int32)) &&& (6148914691236517205 : Int64))) (2 : Int32)) &&& (3689348814741910323 : Int64))) (4 : Int32))) &&& (1085102592571150095 : Int64)) + (xlushr (((((p1 - ((xlushr p1 (1 : Int32)) &&& (6148914691236517205 : Int64))) &&& (3689348814741910323 : Int64)) + ((xlushr (p1 - ((xlushr p1 (1 : Int32)) &&& (6148914691236517205 : Int64))) (2 : Int32)) &&& (3689348814741910323 : Int64))) + (xlushr (((p1 - ((xlushr p1 (1 : Int32)) &&& (6148914691236517205 : Int64))) &&& (3689348814741910323 : Int64)) + ((xlushr (p1 - ((xlushr p1 (1 : Int32)) &&& (6148914691236517205 : Int64))) (2 : Int32)) &&& (3689348814741910323 : Int64))) (4 : Int32))) &&& (1085102592571150095 : Int64)) (8 : Int32))) + (xlushr ((((((p1 - ((xlushr p1 (1 : Int32)) &&& (6148914691236517205 : Int64))) &&& (3689348814741910323 : Int64)) + ((xlushr (p1 - ((xlushr p1 (1 : Int32)) &&& (6148914691236517205 : Int64))) (2 : Int32)) &&& (3689348814741910323 : Int64))) + (xlushr (((p1 - ((xlushr p1 (1 : Int32)) &&& (6148914691236517205 : Int64))) &&& (3689348814741910323 : Int64)) + ((xlushr (p1 - ((xlushr p1 (1 : Int32)) &&& (6148914691236517205 : Int64))) (2 : Int32)) &&& (3689348814741910323 : Int64))) (4 : Int32))) &&& (1085102592571150095 : Int64)) + (xlushr (((((p1 - ((xlushr p1 (1 : Int32)) &&& (6148914691236517205 : Int64))) &&& (3689348814741910323 : Int64)) + ((xlushr (p1 - ((xlushr p1 (1 : Int32)) &&& (6148914691236517205 : Int64))) (2 : Int32)) &&& (3689348814741910323 : Int64))) + (xlushr (((p1 - ((xlushr p1 (1 : Int32)) &&& (6148914691236517205 : Int64))) &&& (3689348814741910323 : Int64)) + ((xlushr (p1 - ((xlushr p1 (1 : Int32)) &&& (6148914691236517205 : Int64))) (2 : Int32)) &&& (3689348814741910323 : Int64))) (4 : Int32))) &&& (1085102592571150095 : Int64)) (8 : Int32))) (16 : Int32))) (32 : Int32))))]) hx hb dJ13_bitCount_95d88_54 rfl hl (by decide) rfl (fun ls hl => ?_)
  refine lv_lload_n hx hb dJ13_bitCount_95d88_55 rfl (lv_at hl 0 rfl) ?_
  refine lv_l2i (v := ((((((((p1 - ((xlushr p1 (1 : Int32)) &&& (6148914691236517205 : Int64))) &&& (3689348814741910323 : Int64)) + ((xlushr (p1 - ((xlushr p1 (1 : Int32)) &&& (6148914691236517205 : Int64))) (2 : Int32)) &&& (3689348814741910323 : Int64))) + (xlushr (((p1 - ((xlushr p1 (1 : Int32)) &&& (6148914691236517205 : Int64))) &&& (3689348814741910323 : Int64)) + ((xlushr (p1 - ((xlushr p1 (1 : Int32)) &&& (6148914691236517205 : Int64))) (2 : Int32)) &&& (3689348814741910323 : Int64))) (4 : Int32))) &&& (1085102592571150095 : Int64)) + (xlushr (((((p1 - ((xlushr p1 (1 : Int32)) &&& (6148914691236517205 : Int64))) &&& (3689348814741910323 : Int64)) + ((xlushr (p1 - ((xlushr p1 (1 : Int32)) &&& (6148914691236517205 : Int64))) (2 : Int32)) &&& (3689348814741910323 : Int64))) + (xlushr (((p1 - ((xlushr p1 (1 : Int32)) &&& (6148914691236517205 : Int64))) &&& (3689348814741910323 : Int64)) + ((xlushr (p1 - ((xlushr p1 (1 : Int32)) &&& (6148914691236517205 : Int64))) (2 : Int32)) &&& (3689348814741910323 : Int64))) (4 : Int32))) &&& (1085102592571150095 : Int64)) (8 : Int32))) + (xlushr ((((((p1 - ((xlushr p1 (1 : Int32)) &&& (6148914691236517205 : Int64))) &&& (3689348814741910323 : Int64)) + ((xlushr (p1 - ((xlushr p1 (1 : Int32)) &&& (6148914691236517205 : Int64))) (2 : Int32)) &&& (3689348814741910323 : Int64))) + (xlushr (((p1 - ((xlushr p1 (1 : Int32)) &&& (6148914691236517205 : Int64))) &&& (3689348814741910323 : Int64)) + ((xlushr (p1 - ((xlushr p1 (1 : Int32)) &&& (6148914691236517205 : Int64))) (2 : Int32)) &&& (3689348814741910323 : Int64))) (4 : Int32))) &&& (1085102592571150095 : Int64)) + (xlushr (((((p1 - ((xlushr p1 (1 : Int32)) &&& (6148914691236517205 : Int64))) &&& (3689348814741910323 : Int64)) + ((xlushr (p1 - ((xlushr p1 (1 : Int32)) &&& (6148914691236517205 : Int64))) (2 : Int32)) &&& (3689348814741910323 : Int64))) + (xlushr (((p1 - ((xlushr p1 (1 : Int32)) &&& (6148914691236517205 : Int64))) &&& (3689348814741910323 : Int64)) + ((xlushr (p1 - ((xlushr p1 (1 : Int32)) &&& (6148914691236517205 : Int64))) (2 : Int32)) &&& (3689348814741910323 : Int64))) (4 : Int32))) &&& (1085102592571150095 : Int64)) (8 : Int32))) (16 : Int32))) + (xlushr (((((((p1 - ((xlushr p1 (1 : Int32)) &&& (6148914691236517205 : Int64))) &&& (3689348814741910323 : Int64)) + ((xlushr (p1 - ((xlushr p1 (1 : Int32)) &&& (6148914691236517205 : Int64))) (2 : Int32)) &&& (3689348814741910323 : Int64))) + (xlushr (((p1 - ((xlushr p1 (1 : Int32)) &&& (6148914691236517205 : Int64))) &&& (3689348814741910323 : Int64)) + ((xlushr (p1 - ((xlushr p1 (1 : Int32)) &&& (6148914691236517205 : Int64))) (2 : Int32)) &&& (3689348814741910323 : Int64))) (4 : Int32))) &&& (1085102592571150095 : Int64)) + (xlushr (((((p1 - ((xlushr p1 (1 : Int32)) &&& (6148914691236517205 : Int64))) &&& (3689348814741910323 : Int64)) + ((xlushr (p1 - ((xlushr p1 (1 : Int32)) &&& (6148914691236517205 : Int64))) (2 : Int32)) &&& (3689348814741910323 : Int64))) + (xlushr (((p1 - ((xlushr p1 (1 : Int32)) &&& (6148914691236517205 : Int64))) &&& (3689348814741910323 : Int64)) + ((xlushr (p1 - ((xlushr p1 (1 : Int32)) &&& (6148914691236517205 : Int64))) (2 : Int32)) &&& (3689348814741910323 : Int64))) (4 : Int32))) &&& (1085102592571150095 : Int64)) (8 : Int32))) + (xlushr ((((((p1 - ((xlushr p1 (1 : Int32)) &&& (6148914691236517205 : Int64))) &&& (3689348814741910323 : Int64)) + ((xlushr (p1 - ((xlushr p1 (1 : Int32)) &&& (6148914691236517205 : Int64))) (2 : Int32)) &&& (3689348814741910323 : Int64))) + (xlushr (((p1 - ((xlushr p1 (1 : Int32)) &&& (6148914691236517205 : Int64))) &&& (3689348814741910323 : Int64)) + ((xlushr (p1 - ((xlushr p1 (1 : Int32)) &&& (6148914691236517205 : Int64))) (2 : Int32)) &&& (3689348814741910323 : Int64))) (4 : Int32))) &&& (1085102592571150095 : Int64)) + (xlushr (((((p1 - ((xlushr p1 (1 : Int32)) &&& (6148914691236517205 : Int64))) &&& (3689348814741910323 : Int64)) + ((xlushr (p1 - ((xlushr p1 (1 : Int32)) &&& (6148914691236517205 : Int64))) (2 : Int32)) &&& (3689348814741910323 : Int64))) + (xlushr (((p1 - ((xlushr p1 (1 : Int32)) &&& (6148914691236517205 : Int64))) &&& (3689348814741910323 : Int64)) + ((xlushr (p1 - ((xlushr p1 (1 : Int32)) &&& (6148914691236517205 : Int64))) (2 : Int32)) &&& (3689348814741910323 : Int64))) (4 : Int32))) &&& (1085102592571150095 : Int64)) (8 : Int32))) (16 : Int32))) (32 : Int32))).toInt32) hx hb dJ13_bitCount_95d88_56 rfl ?_
  refine lv_bipush (v := 127) hx hb dJ13_bitCount_95d88_57 (by decide) ?_
  refine lv_iand hx hb dJ13_bitCount_95d88_59 ?_
  obtain rfl := Option.some.inj h
  rw [← hQ]
  exact ro_ireturn hx hb hr hk  dJ13_bitCount_95d88_60
abbrev rm5_clock : Room := { frames := 6, cells := 1, slots := 6, locals := 82 }
set_option maxHeartbeats 4000000 in
set_option maxRecDepth 100000 in
theorem c5_clock (l : Launch) (hl9 : l.stackTraces = false) (D : va_G) (kA : Nat → ClassId) (a_ct : Nat → Nat) (a_sh : Nat → Nat) (a_ck : Nat → Nat) (a_tp : Nat → Nat) (a_pn : Nat → Nat) (a_rd : Nat → Nat) (p1 : Int32) (p2 : Int32) (sh : T3) (ck : T0) (res : Option (Int32)) (h : f5_clock p1 p2 sh ck = some res) : Tx l yX5_clock cX5_clock 3 (some .int) rm5_clock D kA [.ref (a_ct 0), .int p1, .int p2] [(a_ct 0, .inr (5, [.ref (a_tp 0), .ref (a_pn 0), .ref (a_rd 0), .ref (a_sh 0)])), (a_sh 0, .inr (3, [.ref (a_sh 1), .ref (a_sh 2), .ref (a_sh 3), .ref (a_sh 4), .ref (a_sh 5), .ref (a_sh 6), .ref (a_sh 7), .ref (a_ck 0), .int sh.2.2.2.2.2.2.2.1, .int sh.2.2.2.2.2.2.2.2])), (a_sh 1, .inl (kA 0, 40, .inl sh.1)), (a_sh 2, .inl (kA 0, 40, .inl sh.2.1)), (a_sh 3, .inl (kA 0, 80, .inl sh.2.2.1)), (a_sh 4, .inl (kA 0, 120, .inl sh.2.2.2.1)), (a_sh 5, .inl (kA 0, 120, .inl sh.2.2.2.2.1)), (a_sh 6, .inl (kA 2, 120, .inr (.inl sh.2.2.2.2.2.1))), (a_sh 7, .inl (kA 1, 1240, .inl sh.2.2.2.2.2.2.1)), (a_ck 0, .inr (0, [.ref (a_ck 1), .ref (a_ck 2), .ref (a_ck 3), .ref (a_ck 4), .ref (a_ck 5), .ref (a_ck 6), .ref (a_ck 7), .ref (a_ck 8), .ref (a_ck 9), .ref (a_ck 10), .ref (a_ck 11), .int ck.2.2.2.2.2.2.2.2.2.2.2])), (a_ck 1, .inl (kA 0, 12, .inl ck.1)), (a_ck 2, .inl (kA 0, 12, .inl ck.2.1)), (a_ck 3, .inl (kA 3, 12, .inl ck.2.2.1)), (a_ck 4, .inl (kA 0, 12, .inl ck.2.2.2.1)), (a_ck 5, .inl (kA 0, 12, .inl ck.2.2.2.2.1)), (a_ck 6, .inl (kA 2, 12, .inr (.inl ck.2.2.2.2.2.1))), (a_ck 7, .inl (kA 2, 12, .inr (.inl ck.2.2.2.2.2.2.1))), (a_ck 8, .inl (kA 2, 12, .inr (.inl ck.2.2.2.2.2.2.2.1))), (a_ck 9, .inl (kA 2, 12, .inr (.inl ck.2.2.2.2.2.2.2.2.1))), (a_ck 10, .inl (kA 3, 12, .inl ck.2.2.2.2.2.2.2.2.2.1)), (a_ck 11, .inl (kA 3, 12, .inl ck.2.2.2.2.2.2.2.2.2.2.1))] (res.map (fun res => ((some (.int res) : Option Value), [(a_ct 0, .inr (5, [.ref (a_tp 0), .ref (a_pn 0), .ref (a_rd 0), .ref (a_sh 0)])), (a_sh 0, .inr (3, [.ref (a_sh 1), .ref (a_sh 2), .ref (a_sh 3), .ref (a_sh 4), .ref (a_sh 5), .ref (a_sh 6), .ref (a_sh 7), .ref (a_ck 0), .int sh.2.2.2.2.2.2.2.1, .int sh.2.2.2.2.2.2.2.2])), (a_sh 1, .inl (kA 0, 40, .inl sh.1)), (a_sh 2, .inl (kA 0, 40, .inl sh.2.1)), (a_sh 3, .inl (kA 0, 80, .inl sh.2.2.1)), (a_sh 4, .inl (kA 0, 120, .inl sh.2.2.2.1)), (a_sh 5, .inl (kA 0, 120, .inl sh.2.2.2.2.1)), (a_sh 6, .inl (kA 2, 120, .inr (.inl sh.2.2.2.2.2.1))), (a_sh 7, .inl (kA 1, 1240, .inl sh.2.2.2.2.2.2.1)), (a_ck 0, .inr (0, [.ref (a_ck 1), .ref (a_ck 2), .ref (a_ck 3), .ref (a_ck 4), .ref (a_ck 5), .ref (a_ck 6), .ref (a_ck 7), .ref (a_ck 8), .ref (a_ck 9), .ref (a_ck 10), .ref (a_ck 11), .int ck.2.2.2.2.2.2.2.2.2.2.2])), (a_ck 1, .inl (kA 0, 12, .inl ck.1)), (a_ck 2, .inl (kA 0, 12, .inl ck.2.1)), (a_ck 3, .inl (kA 3, 12, .inl ck.2.2.1)), (a_ck 4, .inl (kA 0, 12, .inl ck.2.2.2.1)), (a_ck 5, .inl (kA 0, 12, .inl ck.2.2.2.2.1)), (a_ck 6, .inl (kA 2, 12, .inr (.inl ck.2.2.2.2.2.1))), (a_ck 7, .inl (kA 2, 12, .inr (.inl ck.2.2.2.2.2.2.1))), (a_ck 8, .inl (kA 2, 12, .inr (.inl ck.2.2.2.2.2.2.2.1))), (a_ck 9, .inl (kA 2, 12, .inr (.inl ck.2.2.2.2.2.2.2.2.1))), (a_ck 10, .inl (kA 3, 12, .inl ck.2.2.2.2.2.2.2.2.2.1)), (a_ck 11, .inl (kA 3, 12, .inl ck.2.2.2.2.2.2.2.2.2.2.1))]))) := by
  refine Tx.of (by decide) (Nat.le_of_ble_eq_true rfl) ?_
  intro p e s m args below meth c A hF hex hP hD hS hA hK ls hl
  generalize hQ : txQ below D A _ _ args s = Q
  obtain ⟨hx, hb, hml, hown, hr, hk, hts, hN⟩ := hF
  obtain ⟨hN1, adK, adV, hZ⟩ := id hN
  have hl : lv_has ls 3 [(0, .ref (a_ct 0)), (1, .int p1), (2, .int p2)] := hl
  unfold f5_clock at h
  refine lv_aload_n hx hb dX5_clock_0 rfl (lv_at hl 0 rfl) ?_
  refine va_get (D := D) (ci := 5) (v := .ref (a_sh 0)) (C := "ConstraintText") (T := TX5) (N := 4) hx hb hts ing5 hown hK hP 0 rfl rfl 3 (by decide) (hts _ tw_263) (fun _ h9 => h9) rfl dX5_clock_1 ?_
  refine va_getN (D := D) (ci := 3) (v := .ref (a_ck 0)) (C := "ConstraintText$Sheet") (T := TX3) (N := 10) hx hb hts ing3 hown hK hP 1 rfl rfl 7 (by decide) (va_Nw.use rfl (hN.1 _ nw_191)) (fun _ h9 => h9) rfl dX5_clock_4 ?_
  refine lv_iload_n hx hb dX5_clock_7 rfl (lv_at hl 1 rfl) ?_
  obtain ⟨u8, hc_8, h⟩ := bnd_some h
  refine ro_V (n := 1) (As := [.int p1]) (rest := []) hx hb hml hown hts hN hS hK hP (c0_has l D kA a_ck p1 ck u8 hc_8) [9, 10, 11, 12, 13, 14, 15, 16, 17, 18, 19, 20] rfl 9 0 rfl rfl rfl tw_690 tw_466 tw_467 tw_78 tw_468 rfl rfl (by decide) ⟨Nat.le_of_ble_eq_true rfl, Nat.le_of_ble_eq_true rfl⟩ rfl hl.1 rfl (Nat.le_of_ble_eq_true rfl) dX5_clock_8 ⟨Nat.le_of_ble_eq_true rfl, Nat.le_of_ble_eq_true rfl⟩ ?_
  refine lv_if_eq (tgt := 24) hx hb dX5_clock_11 (by decide) (fun bc => ?_) (fun bc => ?_)
  · have h := ite_t bc h
    obtain rfl := Option.some.inj h
    rw [← hQ]
    exact tx_throw (is := 91) hx hb hl9 hml hown hts hN hZ (hZ.2.1 1 (by decide)) hP hD hS hex hk hl.1 tw_613 tw_84 dX5_clock_24 dX5_clock_27 dX5_clock_28 dX5_clock_30 dX5_clock_33 (Nat.le_of_ble_eq_true rfl) (Nat.le_of_ble_eq_true rfl) (Nat.le_of_ble_eq_true rfl) (Nat.le_of_ble_eq_true rfl)
  · have h := ite_f bc h
    refine lv_iload_n hx hb dX5_clock_14 rfl (lv_at hl 2 rfl) ?_
    refine lv_if_lt (tgt := 24) hx hb dX5_clock_15 (by decide) (fun bc => ?_) (fun bc => ?_)
    · have h := ite_t bc h
      obtain rfl := Option.some.inj h
      rw [← hQ]
      exact tx_throw (is := 91) hx hb hl9 hml hown hts hN hZ (hZ.2.1 1 (by decide)) hP hD hS hex hk hl.1 tw_613 tw_84 dX5_clock_24 dX5_clock_27 dX5_clock_28 dX5_clock_30 dX5_clock_33 (Nat.le_of_ble_eq_true rfl) (Nat.le_of_ble_eq_true rfl) (Nat.le_of_ble_eq_true rfl) (Nat.le_of_ble_eq_true rfl)
    · have h := ite_f bc h
      refine lv_iload_n hx hb dX5_clock_18 rfl (lv_at hl 2 rfl) ?_
      refine lv_bipush (v := 6) hx hb dX5_clock_19 (by decide) ?_
      refine lv_icmp_le (tgt := 34) hx hb dX5_clock_21 (by decide) (fun bc => ?_) (fun bc => ?_)
      · have h := ite_t bc h
        refine lv_iload_n hx hb dX5_clock_34 rfl (lv_at hl 2 rfl) ?_
        refine lv_bipush (v := 6) hx hb dX5_clock_35 (by decide) ?_
        refine lv_icmp_ne (tgt := 64) hx hb dX5_clock_37 (by decide) (fun bc => ?_) (fun bc => ?_)
        · have h := ite_f bc h
          refine lv_aload_n hx hb dX5_clock_64 rfl (lv_at hl 0 rfl) ?_
          refine va_get (D := D) (ci := 5) (v := .ref (a_sh 0)) (C := "ConstraintText") (T := TX5) (N := 4) hx hb hts ing5 hown hK hP 0 rfl rfl 3 (by decide) (hts _ tw_263) (fun _ h9 => h9) rfl dX5_clock_65 ?_
          refine va_getN (D := D) (ci := 3) (v := .ref (a_ck 0)) (C := "ConstraintText$Sheet") (T := TX3) (N := 10) hx hb hts ing3 hown hK hP 1 rfl rfl 7 (by decide) (va_Nw.use rfl (hN.1 _ nw_191)) (fun _ h9 => h9) rfl dX5_clock_68 ?_
          refine lv_iload_n hx hb dX5_clock_71 rfl (lv_at hl 1 rfl) ?_
          refine lv_iload_n hx hb dX5_clock_72 rfl (lv_at hl 2 rfl) ?_
          obtain ⟨u73, hc_73, h⟩ := bnd_some h
          refine ro_V (n := 2) (As := [.int p1, .int p2]) (rest := []) hx hb hml hown hts hN hS hK hP (c0_fact l D kA a_ck p1 p2 ck u73 hc_73) [9, 10, 11, 12, 13, 14, 15, 16, 17, 18, 19, 20] rfl 9 0 rfl rfl rfl tw_702 tw_703 tw_704 tw_78 tw_705 rfl rfl (by decide) ⟨Nat.le_of_ble_eq_true rfl, Nat.le_of_ble_eq_true rfl⟩ rfl hl.1 rfl (Nat.le_of_ble_eq_true rfl) dX5_clock_73 ⟨Nat.le_of_ble_eq_true rfl, Nat.le_of_ble_eq_true rfl⟩ ?_
          obtain rfl := Option.some.inj h
          rw [← hQ]
          exact tx_ireturn hx hb hr hk  dX5_clock_76 rfl hP hD hS
        · have h := ite_t bc h
          refine lv_aload_n hx hb dX5_clock_40 rfl (lv_at hl 0 rfl) ?_
          refine va_get (D := D) (ci := 5) (v := .ref (a_sh 0)) (C := "ConstraintText") (T := TX5) (N := 4) hx hb hts ing5 hown hK hP 0 rfl rfl 3 (by decide) (hts _ tw_263) (fun _ h9 => h9) rfl dX5_clock_41 ?_
          refine lv_aload_n hx hb dX5_clock_44 rfl (lv_at hl 0 rfl) ?_
          refine va_get (D := D) (ci := 5) (v := .ref (a_sh 0)) (C := "ConstraintText") (T := TX5) (N := 4) hx hb hts ing5 hown hK hP 0 rfl rfl 3 (by decide) (hts _ tw_263) (fun _ h9 => h9) rfl dX5_clock_45 ?_
          refine va_getN (D := D) (ci := 3) (v := .ref (a_ck 0)) (C := "ConstraintText$Sheet") (T := TX3) (N := 10) hx hb hts ing3 hown hK hP 1 rfl rfl 7 (by decide) (va_Nw.use rfl (hN.1 _ nw_191)) (fun _ h9 => h9) rfl dX5_clock_48 ?_
          refine va_getN (D := D) (ci := 0) (v := .ref (a_ck 1)) (C := "ConstraintText$ClockTable") (T := TX0) (N := 12) hx hb hts ing0 hown hK hP 9 rfl rfl 0 (by decide) (va_Nw.use rfl (hN.1 _ nw_135)) (fun _ h9 => h9) rfl dX5_clock_51 ?_
          refine lv_iload_n hx hb dX5_clock_54 rfl (lv_at hl 1 rfl) ?_
          obtain ⟨g55, h⟩ := grd_some h
          refine va_iald hx hb hK hP 10 0 rfl rfl (inb_in g55) dX5_clock_55 ?_
          refine lv_iconst (v := 0) hx hb dX5_clock_56 (by decide) ?_
          obtain ⟨u57, hc_57, h⟩ := bnd_some h
          refine ro_V (n := 2) (As := [.int (ck.1 p1.toNatClampNeg), .int (0 : Int32)]) (rest := []) hx hb hml hown hts hN hS hK hP (c3_hitsOf l D kA a_sh a_ck (ck.1 p1.toNatClampNeg) (0 : Int32) sh u57 hc_57) [1, 2, 3, 4, 5, 6, 7, 8] rfl 1 3 rfl rfl rfl tw_692 tw_693 tw_694 tw_77 tw_695 rfl rfl (by decide) ⟨Nat.le_of_ble_eq_true rfl, Nat.le_of_ble_eq_true rfl⟩ rfl hl.1 rfl (Nat.le_of_ble_eq_true rfl) dX5_clock_57 ⟨Nat.le_of_ble_eq_true rfl, Nat.le_of_ble_eq_true rfl⟩ ?_
          obtain ⟨u60, hc_60, h⟩ := bnd_some h
          refine ro_S (n := 1) (As := [.long u57]) (rest := []) hx hb hml hown hts hN hS hK hP (c113_bitCount l D kA u57 u60 hc_60) [] rfl tw_696 tw_697 tw_90 tw_698 rfl rfl (by decide) ⟨Nat.le_of_ble_eq_true rfl, Nat.le_of_ble_eq_true rfl⟩ rfl hl.1 rfl (Nat.le_of_ble_eq_true rfl) dX5_clock_60 ⟨Nat.le_of_ble_eq_true rfl, Nat.le_of_ble_eq_true rfl⟩ ?_
          obtain rfl := Option.some.inj h
          rw [← hQ]
          exact tx_ireturn hx hb hr hk  dX5_clock_63 rfl hP hD hS
      · have h := ite_f bc h
        obtain rfl := Option.some.inj h
        rw [← hQ]
        exact tx_throw (is := 91) hx hb hl9 hml hown hts hN hZ (hZ.2.1 1 (by decide)) hP hD hS hex hk hl.1 tw_613 tw_84 dX5_clock_24 dX5_clock_27 dX5_clock_28 dX5_clock_30 dX5_clock_33 (Nat.le_of_ble_eq_true rfl) (Nat.le_of_ble_eq_true rfl) (Nat.le_of_ble_eq_true rfl) (Nat.le_of_ble_eq_true rfl)
abbrev rm5_edge : Room := { frames := 6, cells := 1, slots := 6, locals := 83 }
set_option maxHeartbeats 4000000 in
set_option maxRecDepth 100000 in
theorem c5_edge (l : Launch) (hl9 : l.stackTraces = false) (D : va_G) (kA : Nat → ClassId) (a_ct : Nat → Nat) (a_sh : Nat → Nat) (a_ck : Nat → Nat) (a_tp : Nat → Nat) (a_pn : Nat → Nat) (a_rd : Nat → Nat) (F : Nat) (p1 : Int32) (p2 : Int32) (p3 : Int32) (sh : T3) (ck : T0) (res : Option (Int64)) (h : f5_edge F p1 p2 p3 sh ck = some res) : Tx l yX5_edge cX5_edge 4 (some .long) rm5_edge D kA [.ref (a_ct 0), .int p1, .int p2, .int p3] [(a_ct 0, .inr (5, [.ref (a_tp 0), .ref (a_pn 0), .ref (a_rd 0), .ref (a_sh 0)])), (a_sh 0, .inr (3, [.ref (a_sh 1), .ref (a_sh 2), .ref (a_sh 3), .ref (a_sh 4), .ref (a_sh 5), .ref (a_sh 6), .ref (a_sh 7), .ref (a_ck 0), .int sh.2.2.2.2.2.2.2.1, .int sh.2.2.2.2.2.2.2.2])), (a_sh 1, .inl (kA 0, 40, .inl sh.1)), (a_sh 2, .inl (kA 0, 40, .inl sh.2.1)), (a_sh 3, .inl (kA 0, 80, .inl sh.2.2.1)), (a_sh 4, .inl (kA 0, 120, .inl sh.2.2.2.1)), (a_sh 5, .inl (kA 0, 120, .inl sh.2.2.2.2.1)), (a_sh 6, .inl (kA 2, 120, .inr (.inl sh.2.2.2.2.2.1))), (a_sh 7, .inl (kA 1, 1240, .inl sh.2.2.2.2.2.2.1)), (a_ck 0, .inr (0, [.ref (a_ck 1), .ref (a_ck 2), .ref (a_ck 3), .ref (a_ck 4), .ref (a_ck 5), .ref (a_ck 6), .ref (a_ck 7), .ref (a_ck 8), .ref (a_ck 9), .ref (a_ck 10), .ref (a_ck 11), .int ck.2.2.2.2.2.2.2.2.2.2.2])), (a_ck 1, .inl (kA 0, 12, .inl ck.1)), (a_ck 2, .inl (kA 0, 12, .inl ck.2.1)), (a_ck 3, .inl (kA 3, 12, .inl ck.2.2.1)), (a_ck 4, .inl (kA 0, 12, .inl ck.2.2.2.1)), (a_ck 5, .inl (kA 0, 12, .inl ck.2.2.2.2.1)), (a_ck 6, .inl (kA 2, 12, .inr (.inl ck.2.2.2.2.2.1))), (a_ck 7, .inl (kA 2, 12, .inr (.inl ck.2.2.2.2.2.2.1))), (a_ck 8, .inl (kA 2, 12, .inr (.inl ck.2.2.2.2.2.2.2.1))), (a_ck 9, .inl (kA 2, 12, .inr (.inl ck.2.2.2.2.2.2.2.2.1))), (a_ck 10, .inl (kA 3, 12, .inl ck.2.2.2.2.2.2.2.2.2.1)), (a_ck 11, .inl (kA 3, 12, .inl ck.2.2.2.2.2.2.2.2.2.2.1))] (res.map (fun res => ((some (.long res) : Option Value), [(a_ct 0, .inr (5, [.ref (a_tp 0), .ref (a_pn 0), .ref (a_rd 0), .ref (a_sh 0)])), (a_sh 0, .inr (3, [.ref (a_sh 1), .ref (a_sh 2), .ref (a_sh 3), .ref (a_sh 4), .ref (a_sh 5), .ref (a_sh 6), .ref (a_sh 7), .ref (a_ck 0), .int sh.2.2.2.2.2.2.2.1, .int sh.2.2.2.2.2.2.2.2])), (a_sh 1, .inl (kA 0, 40, .inl sh.1)), (a_sh 2, .inl (kA 0, 40, .inl sh.2.1)), (a_sh 3, .inl (kA 0, 80, .inl sh.2.2.1)), (a_sh 4, .inl (kA 0, 120, .inl sh.2.2.2.1)), (a_sh 5, .inl (kA 0, 120, .inl sh.2.2.2.2.1)), (a_sh 6, .inl (kA 2, 120, .inr (.inl sh.2.2.2.2.2.1))), (a_sh 7, .inl (kA 1, 1240, .inl sh.2.2.2.2.2.2.1)), (a_ck 0, .inr (0, [.ref (a_ck 1), .ref (a_ck 2), .ref (a_ck 3), .ref (a_ck 4), .ref (a_ck 5), .ref (a_ck 6), .ref (a_ck 7), .ref (a_ck 8), .ref (a_ck 9), .ref (a_ck 10), .ref (a_ck 11), .int ck.2.2.2.2.2.2.2.2.2.2.2])), (a_ck 1, .inl (kA 0, 12, .inl ck.1)), (a_ck 2, .inl (kA 0, 12, .inl ck.2.1)), (a_ck 3, .inl (kA 3, 12, .inl ck.2.2.1)), (a_ck 4, .inl (kA 0, 12, .inl ck.2.2.2.1)), (a_ck 5, .inl (kA 0, 12, .inl ck.2.2.2.2.1)), (a_ck 6, .inl (kA 2, 12, .inr (.inl ck.2.2.2.2.2.1))), (a_ck 7, .inl (kA 2, 12, .inr (.inl ck.2.2.2.2.2.2.1))), (a_ck 8, .inl (kA 2, 12, .inr (.inl ck.2.2.2.2.2.2.2.1))), (a_ck 9, .inl (kA 2, 12, .inr (.inl ck.2.2.2.2.2.2.2.2.1))), (a_ck 10, .inl (kA 3, 12, .inl ck.2.2.2.2.2.2.2.2.2.1)), (a_ck 11, .inl (kA 3, 12, .inl ck.2.2.2.2.2.2.2.2.2.2.1))]))) := by
  refine Tx.of (by decide) (Nat.le_of_ble_eq_true rfl) ?_
  intro p e s m args below meth c A hF hex hP hD hS hA hK ls hl
  generalize hQ : txQ below D A _ _ args s = Q
  obtain ⟨hx, hb, hml, hown, hr, hk, hts, hN⟩ := hF
  obtain ⟨hN1, adK, adV, hZ⟩ := id hN
  have hl : lv_has ls 4 [(0, .ref (a_ct 0)), (1, .int p1), (2, .int p2), (3, .int p3)] := hl
  unfold f5_edge at h
  refine lv_aload_n hx hb dX5_edge_0 rfl (lv_at hl 0 rfl) ?_
  refine va_get (D := D) (ci := 5) (v := .ref (a_sh 0)) (C := "ConstraintText") (T := TX5) (N := 4) hx hb hts ing5 hown hK hP 0 rfl rfl 3 (by decide) (hts _ tw_263) (fun _ h9 => h9) rfl dX5_edge_1 ?_
  refine va_getN (D := D) (ci := 3) (v := .ref (a_ck 0)) (C := "ConstraintText$Sheet") (T := TX3) (N := 10) hx hb hts ing3 hown hK hP 1 rfl rfl 7 (by decide) (va_Nw.use rfl (hN.1 _ nw_191)) (fun _ h9 => h9) rfl dX5_edge_4 ?_
  refine lv_iload_n hx hb dX5_edge_7 rfl (lv_at hl 1 rfl) ?_
  obtain ⟨u8, hc_8, h⟩ := bnd_some h
  refine ro_V (n := 1) (As := [.int p1]) (rest := []) hx hb hml hown hts hN hS hK hP (c0_has l D kA a_ck p1 ck u8 hc_8) [9, 10, 11, 12, 13, 14, 15, 16, 17, 18, 19, 20] rfl 9 0 rfl rfl rfl tw_690 tw_466 tw_467 tw_78 tw_468 rfl rfl (by decide) ⟨Nat.le_of_ble_eq_true rfl, Nat.le_of_ble_eq_true rfl⟩ rfl hl.1 rfl (Nat.le_of_ble_eq_true rfl) dX5_edge_8 ⟨Nat.le_of_ble_eq_true rfl, Nat.le_of_ble_eq_true rfl⟩ ?_
  refine lv_if_eq (tgt := 34) hx hb dX5_edge_11 (by decide) (fun bc => ?_) (fun bc => ?_)
  · have h := ite_t bc h
    obtain rfl := Option.some.inj h
    rw [← hQ]
    exact tx_throw (is := 111) hx hb hl9 hml hown hts hN hZ (hZ.2.1 2 (by decide)) hP hD hS hex hk hl.1 tw_613 tw_84 dX5_edge_34 dX5_edge_37 dX5_edge_38 dX5_edge_40 dX5_edge_43 (Nat.le_of_ble_eq_true rfl) (Nat.le_of_ble_eq_true rfl) (Nat.le_of_ble_eq_true rfl) (Nat.le_of_ble_eq_true rfl)
  · have h := ite_f bc h
    refine lv_iload_n hx hb dX5_edge_14 rfl (lv_at hl 2 rfl) ?_
    refine lv_if_lt (tgt := 34) hx hb dX5_edge_15 (by decide) (fun bc => ?_) (fun bc => ?_)
    · have h := ite_t bc h
      obtain rfl := Option.some.inj h
      rw [← hQ]
      exact tx_throw (is := 111) hx hb hl9 hml hown hts hN hZ (hZ.2.1 2 (by decide)) hP hD hS hex hk hl.1 tw_613 tw_84 dX5_edge_34 dX5_edge_37 dX5_edge_38 dX5_edge_40 dX5_edge_43 (Nat.le_of_ble_eq_true rfl) (Nat.le_of_ble_eq_true rfl) (Nat.le_of_ble_eq_true rfl) (Nat.le_of_ble_eq_true rfl)
    · have h := ite_f bc h
      refine lv_iload_n hx hb dX5_edge_18 rfl (lv_at hl 2 rfl) ?_
      refine lv_sipush (v := 1000) hx hb dX5_edge_19 (by decide) ?_
      refine lv_icmp_gt (tgt := 34) hx hb dX5_edge_22 (by decide) (fun bc => ?_) (fun bc => ?_)
      · have h := ite_t bc h
        obtain rfl := Option.some.inj h
        rw [← hQ]
        exact tx_throw (is := 111) hx hb hl9 hml hown hts hN hZ (hZ.2.1 2 (by decide)) hP hD hS hex hk hl.1 tw_613 tw_84 dX5_edge_34 dX5_edge_37 dX5_edge_38 dX5_edge_40 dX5_edge_43 (Nat.le_of_ble_eq_true rfl) (Nat.le_of_ble_eq_true rfl) (Nat.le_of_ble_eq_true rfl) (Nat.le_of_ble_eq_true rfl)
      · have h := ite_f bc h
        refine lv_iload_n hx hb dX5_edge_25 rfl (lv_at hl 3 rfl) ?_
        refine lv_if_lt (tgt := 34) hx hb dX5_edge_26 (by decide) (fun bc => ?_) (fun bc => ?_)
        · have h := ite_t bc h
          obtain rfl := Option.some.inj h
          rw [← hQ]
          exact tx_throw (is := 111) hx hb hl9 hml hown hts hN hZ (hZ.2.1 2 (by decide)) hP hD hS hex hk hl.1 tw_613 tw_84 dX5_edge_34 dX5_edge_37 dX5_edge_38 dX5_edge_40 dX5_edge_43 (Nat.le_of_ble_eq_true rfl) (Nat.le_of_ble_eq_true rfl) (Nat.le_of_ble_eq_true rfl) (Nat.le_of_ble_eq_true rfl)
        · have h := ite_f bc h
          refine lv_iload_n hx hb dX5_edge_29 rfl (lv_at hl 3 rfl) ?_
          refine lv_iconst (v := 2) hx hb dX5_edge_30 (by decide) ?_
          refine lv_icmp_le (tgt := 44) hx hb dX5_edge_31 (by decide) (fun bc => ?_) (fun bc => ?_)
          · have h := ite_t bc h
            refine lv_aload_n hx hb dX5_edge_44 rfl (lv_at hl 0 rfl) ?_
            refine va_get (D := D) (ci := 5) (v := .ref (a_sh 0)) (C := "ConstraintText") (T := TX5) (N := 4) hx hb hts ing5 hown hK hP 0 rfl rfl 3 (by decide) (hts _ tw_263) (fun _ h9 => h9) rfl dX5_edge_45 ?_
            refine va_getN (D := D) (ci := 3) (v := .ref (a_ck 0)) (C := "ConstraintText$Sheet") (T := TX3) (N := 10) hx hb hts ing3 hown hK hP 1 rfl rfl 7 (by decide) (va_Nw.use rfl (hN.1 _ nw_191)) (fun _ h9 => h9) rfl dX5_edge_48 ?_
            refine lv_iload_n hx hb dX5_edge_51 rfl (lv_at hl 1 rfl) ?_
            refine lv_iload_n hx hb dX5_edge_52 rfl (lv_at hl 2 rfl) ?_
            refine lv_iload_n hx hb dX5_edge_53 rfl (lv_at hl 3 rfl) ?_
            obtain ⟨u54, hc_54, h⟩ := bnd_some h
            refine ro_V (n := 3) (As := [.int p1, .int p2, .int p3]) (rest := []) hx hb hml hown hts hN hS hK hP (c0_edgePart l D kA a_ck F p1 p2 p3 ck u54 hc_54) [9, 10, 11, 12, 13, 14, 15, 16, 17, 18, 19, 20] rfl 9 0 rfl rfl rfl tw_714 tw_715 tw_716 tw_78 tw_717 rfl rfl (by decide) ⟨Nat.le_of_ble_eq_true rfl, Nat.le_of_ble_eq_true rfl⟩ rfl hl.1 rfl (Nat.le_of_ble_eq_true rfl) dX5_edge_54 ⟨Nat.le_of_ble_eq_true rfl, Nat.le_of_ble_eq_true rfl⟩ ?_
            obtain rfl := Option.some.inj h
            rw [← hQ]
            exact tx_lreturn hx hb hr hk  dX5_edge_57 rfl hP hD hS
          · have h := ite_f bc h
            obtain rfl := Option.some.inj h
            rw [← hQ]
            exact tx_throw (is := 111) hx hb hl9 hml hown hts hN hZ (hZ.2.1 2 (by decide)) hP hD hS hex hk hl.1 tw_613 tw_84 dX5_edge_34 dX5_edge_37 dX5_edge_38 dX5_edge_40 dX5_edge_43 (Nat.le_of_ble_eq_true rfl) (Nat.le_of_ble_eq_true rfl) (Nat.le_of_ble_eq_true rfl) (Nat.le_of_ble_eq_true rfl)
abbrev rm5_distance : Room := { frames := 6, cells := 1, slots := 6, locals := 89 }
set_option maxHeartbeats 4000000 in
set_option maxRecDepth 100000 in
theorem c5_distance (l : Launch) (hl9 : l.stackTraces = false) (D : va_G) (kA : Nat → ClassId) (a_ct : Nat → Nat) (a_sh : Nat → Nat) (a_ck : Nat → Nat) (a_tp : Nat → Nat) (a_pn : Nat → Nat) (a_rd : Nat → Nat) (F : Nat) (p1 : Int32) (p2 : Int32) (p3 : Int32) (sh : T3) (ck : T0) (res : Option (Int64)) (h : f5_distance F p1 p2 p3 sh ck = some res) : Tx l yX5_distance cX5_distance 4 (some .long) rm5_distance D kA [.ref (a_ct 0), .int p1, .int p2, .int p3] [(a_ct 0, .inr (5, [.ref (a_tp 0), .ref (a_pn 0), .ref (a_rd 0), .ref (a_sh 0)])), (a_sh 0, .inr (3, [.ref (a_sh 1), .ref (a_sh 2), .ref (a_sh 3), .ref (a_sh 4), .ref (a_sh 5), .ref (a_sh 6), .ref (a_sh 7), .ref (a_ck 0), .int sh.2.2.2.2.2.2.2.1, .int sh.2.2.2.2.2.2.2.2])), (a_sh 1, .inl (kA 0, 40, .inl sh.1)), (a_sh 2, .inl (kA 0, 40, .inl sh.2.1)), (a_sh 3, .inl (kA 0, 80, .inl sh.2.2.1)), (a_sh 4, .inl (kA 0, 120, .inl sh.2.2.2.1)), (a_sh 5, .inl (kA 0, 120, .inl sh.2.2.2.2.1)), (a_sh 6, .inl (kA 2, 120, .inr (.inl sh.2.2.2.2.2.1))), (a_sh 7, .inl (kA 1, 1240, .inl sh.2.2.2.2.2.2.1)), (a_ck 0, .inr (0, [.ref (a_ck 1), .ref (a_ck 2), .ref (a_ck 3), .ref (a_ck 4), .ref (a_ck 5), .ref (a_ck 6), .ref (a_ck 7), .ref (a_ck 8), .ref (a_ck 9), .ref (a_ck 10), .ref (a_ck 11), .int ck.2.2.2.2.2.2.2.2.2.2.2])), (a_ck 1, .inl (kA 0, 12, .inl ck.1)), (a_ck 2, .inl (kA 0, 12, .inl ck.2.1)), (a_ck 3, .inl (kA 3, 12, .inl ck.2.2.1)), (a_ck 4, .inl (kA 0, 12, .inl ck.2.2.2.1)), (a_ck 5, .inl (kA 0, 12, .inl ck.2.2.2.2.1)), (a_ck 6, .inl (kA 2, 12, .inr (.inl ck.2.2.2.2.2.1))), (a_ck 7, .inl (kA 2, 12, .inr (.inl ck.2.2.2.2.2.2.1))), (a_ck 8, .inl (kA 2, 12, .inr (.inl ck.2.2.2.2.2.2.2.1))), (a_ck 9, .inl (kA 2, 12, .inr (.inl ck.2.2.2.2.2.2.2.2.1))), (a_ck 10, .inl (kA 3, 12, .inl ck.2.2.2.2.2.2.2.2.2.1)), (a_ck 11, .inl (kA 3, 12, .inl ck.2.2.2.2.2.2.2.2.2.2.1))] (res.map (fun res => ((some (.long res) : Option Value), [(a_ct 0, .inr (5, [.ref (a_tp 0), .ref (a_pn 0), .ref (a_rd 0), .ref (a_sh 0)])), (a_sh 0, .inr (3, [.ref (a_sh 1), .ref (a_sh 2), .ref (a_sh 3), .ref (a_sh 4), .ref (a_sh 5), .ref (a_sh 6), .ref (a_sh 7), .ref (a_ck 0), .int sh.2.2.2.2.2.2.2.1, .int sh.2.2.2.2.2.2.2.2])), (a_sh 1, .inl (kA 0, 40, .inl sh.1)), (a_sh 2, .inl (kA 0, 40, .inl sh.2.1)), (a_sh 3, .inl (kA 0, 80, .inl sh.2.2.1)), (a_sh 4, .inl (kA 0, 120, .inl sh.2.2.2.1)), (a_sh 5, .inl (kA 0, 120, .inl sh.2.2.2.2.1)), (a_sh 6, .inl (kA 2, 120, .inr (.inl sh.2.2.2.2.2.1))), (a_sh 7, .inl (kA 1, 1240, .inl sh.2.2.2.2.2.2.1)), (a_ck 0, .inr (0, [.ref (a_ck 1), .ref (a_ck 2), .ref (a_ck 3), .ref (a_ck 4), .ref (a_ck 5), .ref (a_ck 6), .ref (a_ck 7), .ref (a_ck 8), .ref (a_ck 9), .ref (a_ck 10), .ref (a_ck 11), .int ck.2.2.2.2.2.2.2.2.2.2.2])), (a_ck 1, .inl (kA 0, 12, .inl ck.1)), (a_ck 2, .inl (kA 0, 12, .inl ck.2.1)), (a_ck 3, .inl (kA 3, 12, .inl ck.2.2.1)), (a_ck 4, .inl (kA 0, 12, .inl ck.2.2.2.1)), (a_ck 5, .inl (kA 0, 12, .inl ck.2.2.2.2.1)), (a_ck 6, .inl (kA 2, 12, .inr (.inl ck.2.2.2.2.2.1))), (a_ck 7, .inl (kA 2, 12, .inr (.inl ck.2.2.2.2.2.2.1))), (a_ck 8, .inl (kA 2, 12, .inr (.inl ck.2.2.2.2.2.2.2.1))), (a_ck 9, .inl (kA 2, 12, .inr (.inl ck.2.2.2.2.2.2.2.2.1))), (a_ck 10, .inl (kA 3, 12, .inl ck.2.2.2.2.2.2.2.2.2.1)), (a_ck 11, .inl (kA 3, 12, .inl ck.2.2.2.2.2.2.2.2.2.2.1))]))) := by
  refine Tx.of (by decide) (Nat.le_of_ble_eq_true rfl) ?_
  intro p e s m args below meth c A hF hex hP hD hS hA hK ls hl
  generalize hQ : txQ below D A _ _ args s = Q
  obtain ⟨hx, hb, hml, hown, hr, hk, hts, hN⟩ := hF
  obtain ⟨hN1, adK, adV, hZ⟩ := id hN
  have hl : lv_has ls 4 [(0, .ref (a_ct 0)), (1, .int p1), (2, .int p2), (3, .int p3)] := hl
  unfold f5_distance at h
  refine lv_aload_n hx hb dX5_distance_0 rfl (lv_at hl 0 rfl) ?_
  refine va_get (D := D) (ci := 5) (v := .ref (a_sh 0)) (C := "ConstraintText") (T := TX5) (N := 4) hx hb hts ing5 hown hK hP 0 rfl rfl 3 (by decide) (hts _ tw_263) (fun _ h9 => h9) rfl dX5_distance_1 ?_
  refine va_getN (D := D) (ci := 3) (v := .ref (a_ck 0)) (C := "ConstraintText$Sheet") (T := TX3) (N := 10) hx hb hts ing3 hown hK hP 1 rfl rfl 7 (by decide) (va_Nw.use rfl (hN.1 _ nw_191)) (fun _ h9 => h9) rfl dX5_distance_4 ?_
  refine lv_iload_n hx hb dX5_distance_7 rfl (lv_at hl 1 rfl) ?_
  obtain ⟨u8, hc_8, h⟩ := bnd_some h
  refine ro_V (n := 1) (As := [.int p1]) (rest := []) hx hb hml hown hts hN hS hK hP (c0_has l D kA a_ck p1 ck u8 hc_8) [9, 10, 11, 12, 13, 14, 15, 16, 17, 18, 19, 20] rfl 9 0 rfl rfl rfl tw_690 tw_466 tw_467 tw_78 tw_468 rfl rfl (by decide) ⟨Nat.le_of_ble_eq_true rfl, Nat.le_of_ble_eq_true rfl⟩ rfl hl.1 rfl (Nat.le_of_ble_eq_true rfl) dX5_distance_8 ⟨Nat.le_of_ble_eq_true rfl, Nat.le_of_ble_eq_true rfl⟩ ?_
  refine lv_if_eq (tgt := 37) hx hb dX5_distance_11 (by decide) (fun bc => ?_) (fun bc => ?_)
  · have h := ite_t bc h
    obtain rfl := Option.some.inj h
    rw [← hQ]
    exact tx_throw (is := 117) hx hb hl9 hml hown hts hN hZ (hZ.2.1 3 (by decide)) hP hD hS hex hk hl.1 tw_613 tw_84 dX5_distance_37 dX5_distance_40 dX5_distance_41 dX5_distance_43 dX5_distance_46 (Nat.le_of_ble_eq_true rfl) (Nat.le_of_ble_eq_true rfl) (Nat.le_of_ble_eq_true rfl) (Nat.le_of_ble_eq_true rfl)
  · have h := ite_f bc h
    refine lv_aload_n hx hb dX5_distance_14 rfl (lv_at hl 0 rfl) ?_
    refine va_get (D := D) (ci := 5) (v := .ref (a_sh 0)) (C := "ConstraintText") (T := TX5) (N := 4) hx hb hts ing5 hown hK hP 0 rfl rfl 3 (by decide) (hts _ tw_263) (fun _ h9 => h9) rfl dX5_distance_15 ?_
    refine va_getN (D := D) (ci := 3) (v := .ref (a_ck 0)) (C := "ConstraintText$Sheet") (T := TX3) (N := 10) hx hb hts ing3 hown hK hP 1 rfl rfl 7 (by decide) (va_Nw.use rfl (hN.1 _ nw_191)) (fun _ h9 => h9) rfl dX5_distance_18 ?_
    refine lv_iload_n hx hb dX5_distance_21 rfl (lv_at hl 2 rfl) ?_
    obtain ⟨u22, hc_22, h⟩ := bnd_some h
    refine ro_V (n := 1) (As := [.int p2]) (rest := []) hx hb hml hown hts hN hS hK hP (c0_has l D kA a_ck p2 ck u22 hc_22) [9, 10, 11, 12, 13, 14, 15, 16, 17, 18, 19, 20] rfl 9 0 rfl rfl rfl tw_690 tw_466 tw_467 tw_78 tw_468 rfl rfl (by decide) ⟨Nat.le_of_ble_eq_true rfl, Nat.le_of_ble_eq_true rfl⟩ rfl hl.1 rfl (Nat.le_of_ble_eq_true rfl) dX5_distance_22 ⟨Nat.le_of_ble_eq_true rfl, Nat.le_of_ble_eq_true rfl⟩ ?_
    refine lv_if_eq (tgt := 37) hx hb dX5_distance_25 (by decide) (fun bc => ?_) (fun bc => ?_)
    · have h := ite_t bc h
      obtain rfl := Option.some.inj h
      rw [← hQ]
      exact tx_throw (is := 117) hx hb hl9 hml hown hts hN hZ (hZ.2.1 3 (by decide)) hP hD hS hex hk hl.1 tw_613 tw_84 dX5_distance_37 dX5_distance_40 dX5_distance_41 dX5_distance_43 dX5_distance_46 (Nat.le_of_ble_eq_true rfl) (Nat.le_of_ble_eq_true rfl) (Nat.le_of_ble_eq_true rfl) (Nat.le_of_ble_eq_true rfl)
    · have h := ite_f bc h
      refine lv_iload_n hx hb dX5_distance_28 rfl (lv_at hl 3 rfl) ?_
      refine lv_if_lt (tgt := 37) hx hb dX5_distance_29 (by decide) (fun bc => ?_) (fun bc => ?_)
      · have h := ite_t bc h
        obtain rfl := Option.some.inj h
        rw [← hQ]
        exact tx_throw (is := 117) hx hb hl9 hml hown hts hN hZ (hZ.2.1 3 (by decide)) hP hD hS hex hk hl.1 tw_613 tw_84 dX5_distance_37 dX5_distance_40 dX5_distance_41 dX5_distance_43 dX5_distance_46 (Nat.le_of_ble_eq_true rfl) (Nat.le_of_ble_eq_true rfl) (Nat.le_of_ble_eq_true rfl) (Nat.le_of_ble_eq_true rfl)
      · have h := ite_f bc h
        refine lv_iload_n hx hb dX5_distance_32 rfl (lv_at hl 3 rfl) ?_
        refine lv_iconst (v := 1) hx hb dX5_distance_33 (by decide) ?_
        refine lv_icmp_le (tgt := 47) hx hb dX5_distance_34 (by decide) (fun bc => ?_) (fun bc => ?_)
        · have h := ite_t bc h
          refine lv_aload_n hx hb dX5_distance_47 rfl (lv_at hl 0 rfl) ?_
          refine va_get (D := D) (ci := 5) (v := .ref (a_sh 0)) (C := "ConstraintText") (T := TX5) (N := 4) hx hb hts ing5 hown hK hP 0 rfl rfl 3 (by decide) (hts _ tw_263) (fun _ h9 => h9) rfl dX5_distance_48 ?_
          refine lv_iload_n hx hb dX5_distance_51 rfl (lv_at hl 1 rfl) ?_
          refine lv_iload_n hx hb dX5_distance_52 rfl (lv_at hl 2 rfl) ?_
          obtain ⟨u53, hc_53, h⟩ := bnd_some h
          refine ro_V (n := 2) (As := [.int p1, .int p2]) (rest := []) hx hb hml hown hts hN hS hK hP (c3_saysApart l D kA a_sh a_ck F p1 p2 sh u53 hc_53) [1, 2, 3, 4, 5, 6, 7, 8] rfl 1 3 rfl rfl rfl tw_731 tw_732 tw_733 tw_77 tw_734 rfl rfl (by decide) ⟨Nat.le_of_ble_eq_true rfl, Nat.le_of_ble_eq_true rfl⟩ rfl hl.1 rfl (Nat.le_of_ble_eq_true rfl) dX5_distance_53 ⟨Nat.le_of_ble_eq_true rfl, Nat.le_of_ble_eq_true rfl⟩ ?_
          refine lv_if_eq (tgt := 62) hx hb dX5_distance_56 (by decide) (fun bc => ?_) (fun bc => ?_)
          · have h := ite_t bc h
            refine lv_aload_n hx hb dX5_distance_62 rfl (lv_at hl 0 rfl) ?_
            refine va_get (D := D) (ci := 5) (v := .ref (a_sh 0)) (C := "ConstraintText") (T := TX5) (N := 4) hx hb hts ing5 hown hK hP 0 rfl rfl 3 (by decide) (hts _ tw_263) (fun _ h9 => h9) rfl dX5_distance_63 ?_
            refine va_getN (D := D) (ci := 3) (v := .ref (a_ck 0)) (C := "ConstraintText$Sheet") (T := TX3) (N := 10) hx hb hts ing3 hown hK hP 1 rfl rfl 7 (by decide) (va_Nw.use rfl (hN.1 _ nw_191)) (fun _ h9 => h9) rfl dX5_distance_66 ?_
            refine lv_iload_n hx hb dX5_distance_69 rfl (lv_at hl 1 rfl) ?_
            refine lv_iload_n hx hb dX5_distance_70 rfl (lv_at hl 2 rfl) ?_
            refine lv_iload_n hx hb dX5_distance_71 rfl (lv_at hl 3 rfl) ?_
            obtain ⟨u72, hc_72, h⟩ := bnd_some h
            refine ro_V (n := 3) (As := [.int p1, .int p2, .int p3]) (rest := []) hx hb hml hown hts hN hS hK hP (c0_distancePart l D kA a_ck F p1 p2 p3 ck u72 hc_72) [9, 10, 11, 12, 13, 14, 15, 16, 17, 18, 19, 20] rfl 9 0 rfl rfl rfl tw_736 tw_737 tw_738 tw_78 tw_739 rfl rfl (by decide) ⟨Nat.le_of_ble_eq_true rfl, Nat.le_of_ble_eq_true rfl⟩ rfl hl.1 rfl (Nat.le_of_ble_eq_true rfl) dX5_distance_72 ⟨Nat.le_of_ble_eq_true rfl, Nat.le_of_ble_eq_true rfl⟩ ?_
            obtain rfl := Option.some.inj h
            rw [← hQ]
            exact tx_lreturn hx hb hr hk  dX5_distance_75 rfl hP hD hS
          · have h := ite_f bc h
            refine lv_iload_n hx hb dX5_distance_59 rfl (lv_at hl 3 rfl) ?_
            refine lv_i2l (v := p3.toInt64) hx hb dX5_distance_60 rfl ?_
            obtain rfl := Option.some.inj h
            rw [← hQ]
            exact tx_lreturn hx hb hr hk  dX5_distance_61 rfl hP hD hS
        · have h := ite_f bc h
          obtain rfl := Option.some.inj h
          rw [← hQ]
          exact tx_throw (is := 117) hx hb hl9 hml hown hts hN hZ (hZ.2.1 3 (by decide)) hP hD hS hex hk hl.1 tw_613 tw_84 dX5_distance_37 dX5_distance_40 dX5_distance_41 dX5_distance_43 dX5_distance_46 (Nat.le_of_ble_eq_true rfl) (Nat.le_of_ble_eq_true rfl) (Nat.le_of_ble_eq_true rfl) (Nat.le_of_ble_eq_true rfl)
abbrev rm5_isPinOrNone : Room := { frames := 1, cells := 0, slots := 0, locals := 20 }
set_option maxHeartbeats 4000000 in
set_option maxRecDepth 100000 in
theorem c5_isPinOrNone (l : Launch) (D : va_G) (kA : Nat → ClassId)  (p1 : Int32) (res : Int32) (h : f5_isPinOrNone p1 = some res) : Ro l yX5_isPinOrNone cX5_isPinOrNone 1 (some .boolean) rm5_isPinOrNone D kA [.int p1] [] (.int res) := by
  refine Ro.of (by decide +kernel) (Nat.le_of_ble_eq_true rfl) ?_
  intro p e s m args below meth c hF hP hK ls hl
  generalize hQ : roQ below _ args s = Q
  obtain ⟨hx, hb, hml, hown, hr, hk, hts, hN⟩ := hF
  have hl : lv_has ls 1 [(0, .int p1)] := hl
  unfold f5_isPinOrNone at h
  refine lv_iload_n hx hb dX5_isPinOrNone_0 rfl (lv_at hl 0 rfl) ?_
  refine lv_iconst (v := -1) hx hb dX5_isPinOrNone_1 (by decide) ?_
  refine lv_icmp_eq (tgt := 12) hx hb dX5_isPinOrNone_2 (by decide) (fun bc => ?_) (fun bc => ?_)
  · have h := ite_t bc h
    refine lv_iconst (v := 1) hx hb dX5_isPinOrNone_12 (by decide) ?_
    refine lv_goto (tgt := 17) hx hb dX5_isPinOrNone_13 (by decide) ?_
    obtain rfl := Option.some.inj h
    rw [← hQ]
    exact ro_zreturn hx hb hr hk nz_Z1 dX5_isPinOrNone_17
  · have h := ite_f bc h
    refine lv_iload_n hx hb dX5_isPinOrNone_5 rfl (lv_at hl 0 rfl) ?_
    obtain ⟨u6, hc_6, h⟩ := bnd_some h
    refine ro_S (n := 1) (As := [.int p1]) (rest := []) hx hb hml hown hts hN va_S.rf hK hP (c1_has l D kA p1 u6 hc_6) [] rfl tw_612 tw_588 tw_79 tw_589 rfl rfl (by decide) ⟨Nat.le_of_ble_eq_true rfl, Nat.le_of_ble_eq_true rfl⟩ rfl hl.1 rfl (Nat.le_of_ble_eq_true rfl) dX5_isPinOrNone_6 ⟨Nat.le_of_ble_eq_true rfl, Nat.le_of_ble_eq_true rfl⟩ ?_
    refine lv_if_eq (tgt := 16) hx hb dX5_isPinOrNone_9 (by decide) (fun bc => ?_) (fun bc => ?_)
    · have h := ite_t bc h
      refine lv_iconst (v := 0) hx hb dX5_isPinOrNone_16 (by decide) ?_
      obtain rfl := Option.some.inj h
      rw [← hQ]
      exact ro_zreturn hx hb hr hk nz_Z0 dX5_isPinOrNone_17
    · have h := ite_f bc h
      refine lv_iconst (v := 1) hx hb dX5_isPinOrNone_12 (by decide) ?_
      refine lv_goto (tgt := 17) hx hb dX5_isPinOrNone_13 (by decide) ?_
      obtain rfl := Option.some.inj h
      rw [← hQ]
      exact ro_zreturn hx hb hr hk nz_Z1 dX5_isPinOrNone_17
abbrev rm5_exception : Room := { frames := 6, cells := 1, slots := 6, locals := 121 }
set_option maxHeartbeats 4000000 in
set_option maxRecDepth 100000 in
theorem c5_exception (l : Launch) (hl9 : l.stackTraces = false) (D : va_G) (kA : Nat → ClassId) (a_ct : Nat → Nat) (a_sh : Nat → Nat) (a_tp : Nat → Nat) (a_pn : Nat → Nat) (a_rd : Nat → Nat) (a_ck : Nat → Nat) (F : Nat) (p1 : Int32) (p2 : Int32) (p3 : Int32) (sh : T3) (res : Option (Int32)) (h : f5_exception F p1 p2 p3 sh = some res) : Tx l yX5_exception cX5_exception 4 (some .int) rm5_exception D kA [.ref (a_ct 0), .int p1, .int p2, .int p3] [(a_ct 0, .inr (5, [.ref (a_tp 0), .ref (a_pn 0), .ref (a_rd 0), .ref (a_sh 0)])), (a_sh 0, .inr (3, [.ref (a_sh 1), .ref (a_sh 2), .ref (a_sh 3), .ref (a_sh 4), .ref (a_sh 5), .ref (a_sh 6), .ref (a_sh 7), .ref (a_ck 0), .int sh.2.2.2.2.2.2.2.1, .int sh.2.2.2.2.2.2.2.2])), (a_sh 1, .inl (kA 0, 40, .inl sh.1)), (a_sh 2, .inl (kA 0, 40, .inl sh.2.1)), (a_sh 3, .inl (kA 0, 80, .inl sh.2.2.1)), (a_sh 4, .inl (kA 0, 120, .inl sh.2.2.2.1)), (a_sh 5, .inl (kA 0, 120, .inl sh.2.2.2.2.1)), (a_sh 6, .inl (kA 2, 120, .inr (.inl sh.2.2.2.2.2.1))), (a_sh 7, .inl (kA 1, 1240, .inl sh.2.2.2.2.2.2.1))] (res.map (fun res => ((some (.int res) : Option Value), [(a_ct 0, .inr (5, [.ref (a_tp 0), .ref (a_pn 0), .ref (a_rd 0), .ref (a_sh 0)])), (a_sh 0, .inr (3, [.ref (a_sh 1), .ref (a_sh 2), .ref (a_sh 3), .ref (a_sh 4), .ref (a_sh 5), .ref (a_sh 6), .ref (a_sh 7), .ref (a_ck 0), .int sh.2.2.2.2.2.2.2.1, .int sh.2.2.2.2.2.2.2.2])), (a_sh 1, .inl (kA 0, 40, .inl sh.1)), (a_sh 2, .inl (kA 0, 40, .inl sh.2.1)), (a_sh 3, .inl (kA 0, 80, .inl sh.2.2.1)), (a_sh 4, .inl (kA 0, 120, .inl sh.2.2.2.1)), (a_sh 5, .inl (kA 0, 120, .inl sh.2.2.2.2.1)), (a_sh 6, .inl (kA 2, 120, .inr (.inl sh.2.2.2.2.2.1))), (a_sh 7, .inl (kA 1, 1240, .inl sh.2.2.2.2.2.2.1))]))) := by
  refine Tx.of (by decide) (Nat.le_of_ble_eq_true rfl) ?_
  intro p e s m args below meth c A hF hex hP hD hS hA hK ls hl
  generalize hQ : txQ below D A _ _ args s = Q
  obtain ⟨hx, hb, hml, hown, hr, hk, hts, hN⟩ := hF
  obtain ⟨hN1, adK, adV, hZ⟩ := id hN
  have hl : lv_has ls 4 [(0, .ref (a_ct 0)), (1, .int p1), (2, .int p2), (3, .int p3)] := hl
  unfold f5_exception at h
  refine lv_iload_n hx hb dX5_exception_0 rfl (lv_at hl 1 rfl) ?_
  obtain ⟨u1, hc_1, h⟩ := bnd_some h
  refine ro_S (n := 1) (As := [.int p1]) (rest := []) hx hb hml hown hts hN hS hK hP (c5_isPinOrNone l D kA p1 u1 hc_1) [] rfl tw_750 tw_751 tw_74 tw_752 rfl rfl (by decide) ⟨Nat.le_of_ble_eq_true rfl, Nat.le_of_ble_eq_true rfl⟩ rfl hl.1 rfl (Nat.le_of_ble_eq_true rfl) dX5_exception_1 ⟨Nat.le_of_ble_eq_true rfl, Nat.le_of_ble_eq_true rfl⟩ ?_
  refine lv_if_eq (tgt := 21) hx hb dX5_exception_4 (by decide) (fun bc => ?_) (fun bc => ?_)
  · have h := ite_t bc h
    obtain rfl := Option.some.inj h
    rw [← hQ]
    exact tx_throw (is := 54) hx hb hl9 hml hown hts hN hZ (hZ.2.1 0 (by decide)) hP hD hS hex hk hl.1 tw_613 tw_84 dX5_exception_21 dX5_exception_24 dX5_exception_25 dX5_exception_27 dX5_exception_30 (Nat.le_of_ble_eq_true rfl) (Nat.le_of_ble_eq_true rfl) (Nat.le_of_ble_eq_true rfl) (Nat.le_of_ble_eq_true rfl)
  · have h := ite_f bc h
    refine lv_iload_n hx hb dX5_exception_7 rfl (lv_at hl 2 rfl) ?_
    obtain ⟨u8, hc_8, h⟩ := bnd_some h
    refine ro_S (n := 1) (As := [.int p2]) (rest := []) hx hb hml hown hts hN hS hK hP (c5_isPinOrNone l D kA p2 u8 hc_8) [] rfl tw_750 tw_751 tw_74 tw_752 rfl rfl (by decide) ⟨Nat.le_of_ble_eq_true rfl, Nat.le_of_ble_eq_true rfl⟩ rfl hl.1 rfl (Nat.le_of_ble_eq_true rfl) dX5_exception_8 ⟨Nat.le_of_ble_eq_true rfl, Nat.le_of_ble_eq_true rfl⟩ ?_
    refine lv_if_eq (tgt := 21) hx hb dX5_exception_11 (by decide) (fun bc => ?_) (fun bc => ?_)
    · have h := ite_t bc h
      obtain rfl := Option.some.inj h
      rw [← hQ]
      exact tx_throw (is := 54) hx hb hl9 hml hown hts hN hZ (hZ.2.1 0 (by decide)) hP hD hS hex hk hl.1 tw_613 tw_84 dX5_exception_21 dX5_exception_24 dX5_exception_25 dX5_exception_27 dX5_exception_30 (Nat.le_of_ble_eq_true rfl) (Nat.le_of_ble_eq_true rfl) (Nat.le_of_ble_eq_true rfl) (Nat.le_of_ble_eq_true rfl)
    · have h := ite_f bc h
      refine lv_iload_n hx hb dX5_exception_14 rfl (lv_at hl 3 rfl) ?_
      obtain ⟨u15, hc_15, h⟩ := bnd_some h
      refine ro_S (n := 1) (As := [.int p3]) (rest := []) hx hb hml hown hts hN hS hK hP (c5_isPinOrNone l D kA p3 u15 hc_15) [] rfl tw_750 tw_751 tw_74 tw_752 rfl rfl (by decide) ⟨Nat.le_of_ble_eq_true rfl, Nat.le_of_ble_eq_true rfl⟩ rfl hl.1 rfl (Nat.le_of_ble_eq_true rfl) dX5_exception_15 ⟨Nat.le_of_ble_eq_true rfl, Nat.le_of_ble_eq_true rfl⟩ ?_
      refine lv_if_ne (tgt := 31) hx hb dX5_exception_18 (by decide) (fun bc => ?_) (fun bc => ?_)
      · have h := ite_f bc h
        refine lv_aload_n hx hb dX5_exception_31 rfl (lv_at hl 0 rfl) ?_
        refine va_get (D := D) (ci := 5) (v := .ref (a_sh 0)) (C := "ConstraintText") (T := TX5) (N := 4) hx hb hts ing5 hown hK hP 0 rfl rfl 3 (by decide) (hts _ tw_263) (fun _ h9 => h9) rfl dX5_exception_32 ?_
        refine lv_iload_n hx hb dX5_exception_35 rfl (lv_at hl 1 rfl) ?_
        refine lv_iload_n hx hb dX5_exception_36 rfl (lv_at hl 2 rfl) ?_
        refine lv_iload_n hx hb dX5_exception_37 rfl (lv_at hl 3 rfl) ?_
        obtain ⟨u38, hc_38, h⟩ := bnd_some h
        refine ro_V (n := 3) (As := [.int p1, .int p2, .int p3]) (rest := []) hx hb hml hown hts hN hS hK hP (c3_winner l D kA a_sh a_ck F p1 p2 p3 sh u38 hc_38) [1, 2, 3, 4, 5, 6, 7, 8] rfl 1 3 rfl rfl rfl tw_753 tw_754 tw_755 tw_77 tw_756 rfl rfl (by decide) ⟨Nat.le_of_ble_eq_true rfl, Nat.le_of_ble_eq_true rfl⟩ rfl hl.1 rfl (Nat.le_of_ble_eq_true rfl) dX5_exception_38 ⟨Nat.le_of_ble_eq_true rfl, Nat.le_of_ble_eq_true rfl⟩ ?_
        obtain rfl := Option.some.inj h
        rw [← hQ]
        exact tx_ireturn hx hb hr hk  dX5_exception_41 rfl hP hD hS
      · have h := ite_t bc h
        obtain rfl := Option.some.inj h
        rw [← hQ]
        exact tx_throw (is := 54) hx hb hl9 hml hown hts hN hZ (hZ.2.1 0 (by decide)) hP hD hS hex hk hl.1 tw_613 tw_84 dX5_exception_21 dX5_exception_24 dX5_exception_25 dX5_exception_27 dX5_exception_30 (Nat.le_of_ble_eq_true rfl) (Nat.le_of_ble_eq_true rfl) (Nat.le_of_ble_eq_true rfl) (Nat.le_of_ble_eq_true rfl)
abbrev rm5_row : Room := { frames := 6, cells := 1, slots := 6, locals := 82 }
set_option maxHeartbeats 4000000 in
set_option maxRecDepth 100000 in
theorem c5_row (l : Launch) (hl9 : l.stackTraces = false) (D : va_G) (kA : Nat → ClassId) (a_ct : Nat → Nat) (a_sh : Nat → Nat) (a_tp : Nat → Nat) (a_pn : Nat → Nat) (a_rd : Nat → Nat) (a_ck : Nat → Nat) (p1 : Int32) (p2 : Int32) (sh : T3) (res : Option (Int32)) (h : f5_row p1 p2 sh = some res) : Tx l yX5_row cX5_row 3 (some .int) rm5_row D kA [.ref (a_ct 0), .int p1, .int p2] [(a_ct 0, .inr (5, [.ref (a_tp 0), .ref (a_pn 0), .ref (a_rd 0), .ref (a_sh 0)])), (a_sh 0, .inr (3, [.ref (a_sh 1), .ref (a_sh 2), .ref (a_sh 3), .ref (a_sh 4), .ref (a_sh 5), .ref (a_sh 6), .ref (a_sh 7), .ref (a_ck 0), .int sh.2.2.2.2.2.2.2.1, .int sh.2.2.2.2.2.2.2.2])), (a_sh 1, .inl (kA 0, 40, .inl sh.1)), (a_sh 2, .inl (kA 0, 40, .inl sh.2.1)), (a_sh 3, .inl (kA 0, 80, .inl sh.2.2.1)), (a_sh 4, .inl (kA 0, 120, .inl sh.2.2.2.1)), (a_sh 5, .inl (kA 0, 120, .inl sh.2.2.2.2.1)), (a_sh 6, .inl (kA 2, 120, .inr (.inl sh.2.2.2.2.2.1))), (a_sh 7, .inl (kA 1, 1240, .inl sh.2.2.2.2.2.2.1))] (res.map (fun res => ((some (.int res) : Option Value), [(a_ct 0, .inr (5, [.ref (a_tp 0), .ref (a_pn 0), .ref (a_rd 0), .ref (a_sh 0)])), (a_sh 0, .inr (3, [.ref (a_sh 1), .ref (a_sh 2), .ref (a_sh 3), .ref (a_sh 4), .ref (a_sh 5), .ref (a_sh 6), .ref (a_sh 7), .ref (a_ck 0), .int sh.2.2.2.2.2.2.2.1, .int sh.2.2.2.2.2.2.2.2])), (a_sh 1, .inl (kA 0, 40, .inl sh.1)), (a_sh 2, .inl (kA 0, 40, .inl sh.2.1)), (a_sh 3, .inl (kA 0, 80, .inl sh.2.2.1)), (a_sh 4, .inl (kA 0, 120, .inl sh.2.2.2.1)), (a_sh 5, .inl (kA 0, 120, .inl sh.2.2.2.2.1)), (a_sh 6, .inl (kA 2, 120, .inr (.inl sh.2.2.2.2.2.1))), (a_sh 7, .inl (kA 1, 1240, .inl sh.2.2.2.2.2.2.1))]))) := by
  refine Tx.of (by decide) (Nat.le_of_ble_eq_true rfl) ?_
  intro p e s m args below meth c A hF hex hP hD hS hA hK ls hl
  generalize hQ : txQ below D A _ _ args s = Q
  obtain ⟨hx, hb, hml, hown, hr, hk, hts, hN⟩ := hF
  obtain ⟨hN1, adK, adV, hZ⟩ := id hN
  have hl : lv_has ls 3 [(0, .ref (a_ct 0)), (1, .int p1), (2, .int p2)] := hl
  unfold f5_row at h
  refine lv_iload_n hx hb dX5_row_0 rfl (lv_at hl 1 rfl) ?_
  refine lv_iconst (v := 1) hx hb dX5_row_1 (by decide) ?_
  refine lv_icmp_lt (tgt := 25) hx hb dX5_row_2 (by decide) (fun bc => ?_) (fun bc => ?_)
  · have h := ite_t bc h
    obtain rfl := Option.some.inj h
    rw [← hQ]
    exact tx_throw (is := 132) hx hb hl9 hml hown hts hN hZ (hZ.2.1 4 (by decide)) hP hD hS hex hk hl.1 tw_613 tw_84 dX5_row_25 dX5_row_28 dX5_row_29 dX5_row_31 dX5_row_34 (Nat.le_of_ble_eq_true rfl) (Nat.le_of_ble_eq_true rfl) (Nat.le_of_ble_eq_true rfl) (Nat.le_of_ble_eq_true rfl)
  · have h := ite_f bc h
    refine lv_iload_n hx hb dX5_row_5 rfl (lv_at hl 1 rfl) ?_
    refine lv_aload_n hx hb dX5_row_6 rfl (lv_at hl 0 rfl) ?_
    refine va_get (D := D) (ci := 5) (v := .ref (a_sh 0)) (C := "ConstraintText") (T := TX5) (N := 4) hx hb hts ing5 hown hK hP 0 rfl rfl 3 (by decide) (hts _ tw_263) (fun _ h9 => h9) rfl dX5_row_7 ?_
    refine va_getN (D := D) (ci := 3) (v := .int sh.2.2.2.2.2.2.2.1) (C := "ConstraintText$Sheet") (T := TX3) (N := 10) hx hb hts ing3 hown hK hP 1 rfl rfl 8 (by decide) (va_Nw.use rfl (hN.1 _ nw_194)) (fun _ h9 => h9) rfl dX5_row_10 ?_
    refine lv_icmp_gt (tgt := 25) hx hb dX5_row_13 (by decide) (fun bc => ?_) (fun bc => ?_)
    · have h := ite_t bc h
      obtain rfl := Option.some.inj h
      rw [← hQ]
      exact tx_throw (is := 132) hx hb hl9 hml hown hts hN hZ (hZ.2.1 4 (by decide)) hP hD hS hex hk hl.1 tw_613 tw_84 dX5_row_25 dX5_row_28 dX5_row_29 dX5_row_31 dX5_row_34 (Nat.le_of_ble_eq_true rfl) (Nat.le_of_ble_eq_true rfl) (Nat.le_of_ble_eq_true rfl) (Nat.le_of_ble_eq_true rfl)
    · have h := ite_f bc h
      refine lv_iload_n hx hb dX5_row_16 rfl (lv_at hl 2 rfl) ?_
      refine lv_if_lt (tgt := 25) hx hb dX5_row_17 (by decide) (fun bc => ?_) (fun bc => ?_)
      · have h := ite_t bc h
        obtain rfl := Option.some.inj h
        rw [← hQ]
        exact tx_throw (is := 132) hx hb hl9 hml hown hts hN hZ (hZ.2.1 4 (by decide)) hP hD hS hex hk hl.1 tw_613 tw_84 dX5_row_25 dX5_row_28 dX5_row_29 dX5_row_31 dX5_row_34 (Nat.le_of_ble_eq_true rfl) (Nat.le_of_ble_eq_true rfl) (Nat.le_of_ble_eq_true rfl) (Nat.le_of_ble_eq_true rfl)
      · have h := ite_f bc h
        refine lv_iload_n hx hb dX5_row_20 rfl (lv_at hl 2 rfl) ?_
        refine lv_iconst (v := 1) hx hb dX5_row_21 (by decide) ?_
        refine lv_icmp_le (tgt := 35) hx hb dX5_row_22 (by decide) (fun bc => ?_) (fun bc => ?_)
        · have h := ite_t bc h
          refine lv_iload_n hx hb dX5_row_35 rfl (lv_at hl 2 rfl) ?_
          refine lv_if_ne (tgt := 53) hx hb dX5_row_36 (by decide) (fun bc => ?_) (fun bc => ?_)
          · have h := ite_f bc h
            refine lv_aload_n hx hb dX5_row_53 rfl (lv_at hl 0 rfl) ?_
            refine va_get (D := D) (ci := 5) (v := .ref (a_sh 0)) (C := "ConstraintText") (T := TX5) (N := 4) hx hb hts ing5 hown hK hP 0 rfl rfl 3 (by decide) (hts _ tw_263) (fun _ h9 => h9) rfl dX5_row_54 ?_
            refine va_getN (D := D) (ci := 3) (v := .ref (a_sh 2)) (C := "ConstraintText$Sheet") (T := TX3) (N := 10) hx hb hts ing3 hown hK hP 1 rfl rfl 1 (by decide) (va_Nw.use rfl (hN.1 _ nw_183)) (fun _ h9 => h9) rfl dX5_row_57 ?_
            refine lv_iload_n hx hb dX5_row_60 rfl (lv_at hl 1 rfl) ?_
            refine lv_iconst (v := 1) hx hb dX5_row_61 (by decide) ?_
            refine lv_isub hx hb dX5_row_62 ?_
            obtain ⟨g63, h⟩ := grd_some h
            refine va_iald hx hb hK hP 3 0 rfl rfl (inb_in g63) dX5_row_63 ?_
            obtain rfl := Option.some.inj h
            rw [← hQ]
            exact tx_ireturn hx hb hr hk  dX5_row_64 rfl hP hD hS
          · have h := ite_t bc h
            refine lv_aload_n hx hb dX5_row_39 rfl (lv_at hl 0 rfl) ?_
            refine va_get (D := D) (ci := 5) (v := .ref (a_sh 0)) (C := "ConstraintText") (T := TX5) (N := 4) hx hb hts ing5 hown hK hP 0 rfl rfl 3 (by decide) (hts _ tw_263) (fun _ h9 => h9) rfl dX5_row_40 ?_
            refine va_getN (D := D) (ci := 3) (v := .ref (a_sh 1)) (C := "ConstraintText$Sheet") (T := TX3) (N := 10) hx hb hts ing3 hown hK hP 1 rfl rfl 0 (by decide) (va_Nw.use rfl (hN.1 _ nw_181)) (fun _ h9 => h9) rfl dX5_row_43 ?_
            refine lv_iload_n hx hb dX5_row_46 rfl (lv_at hl 1 rfl) ?_
            refine lv_iconst (v := 1) hx hb dX5_row_47 (by decide) ?_
            refine lv_isub hx hb dX5_row_48 ?_
            obtain ⟨g49, h⟩ := grd_some h
            refine va_iald hx hb hK hP 2 0 rfl rfl (inb_in g49) dX5_row_49 ?_
            refine lv_goto (tgt := 64) hx hb dX5_row_50 (by decide) ?_
            obtain rfl := Option.some.inj h
            rw [← hQ]
            exact tx_ireturn hx hb hr hk  dX5_row_64 rfl hP hD hS
        · have h := ite_f bc h
          obtain rfl := Option.some.inj h
          rw [← hQ]
          exact tx_throw (is := 132) hx hb hl9 hml hown hts hN hZ (hZ.2.1 4 (by decide)) hP hD hS hex hk hl.1 tw_613 tw_84 dX5_row_25 dX5_row_28 dX5_row_29 dX5_row_31 dX5_row_34 (Nat.le_of_ble_eq_true rfl) (Nat.le_of_ble_eq_true rfl) (Nat.le_of_ble_eq_true rfl) (Nat.le_of_ble_eq_true rfl)
abbrev rm5_load : Room := { frames := 6, cells := 1, slots := 6, locals := 92 }
set_option maxHeartbeats 4000000 in
set_option maxRecDepth 100000 in
theorem c5_load (l : Launch) (hl9 : l.stackTraces = false) (D : va_G) (kA : Nat → ClassId) (a_ct : Nat → Nat) (a_sh : Nat → Nat) (a_tp : Nat → Nat) (a_pn : Nat → Nat) (a_rd : Nat → Nat) (a_ck : Nat → Nat) (F : Nat) (p1 : Int32) (p2 : Int32) (sh : T3) (res : Option (Int32)) (h : f5_load F p1 p2 sh = some res) : Tx l yX5_load cX5_load 3 (some .int) rm5_load D kA [.ref (a_ct 0), .int p1, .int p2] [(a_ct 0, .inr (5, [.ref (a_tp 0), .ref (a_pn 0), .ref (a_rd 0), .ref (a_sh 0)])), (a_sh 0, .inr (3, [.ref (a_sh 1), .ref (a_sh 2), .ref (a_sh 3), .ref (a_sh 4), .ref (a_sh 5), .ref (a_sh 6), .ref (a_sh 7), .ref (a_ck 0), .int sh.2.2.2.2.2.2.2.1, .int sh.2.2.2.2.2.2.2.2])), (a_sh 1, .inl (kA 0, 40, .inl sh.1)), (a_sh 2, .inl (kA 0, 40, .inl sh.2.1)), (a_sh 3, .inl (kA 0, 80, .inl sh.2.2.1)), (a_sh 4, .inl (kA 0, 120, .inl sh.2.2.2.1)), (a_sh 5, .inl (kA 0, 120, .inl sh.2.2.2.2.1)), (a_sh 6, .inl (kA 2, 120, .inr (.inl sh.2.2.2.2.2.1))), (a_sh 7, .inl (kA 1, 1240, .inl sh.2.2.2.2.2.2.1))] (res.map (fun res => ((some (.int res) : Option Value), [(a_ct 0, .inr (5, [.ref (a_tp 0), .ref (a_pn 0), .ref (a_rd 0), .ref (a_sh 0)])), (a_sh 0, .inr (3, [.ref (a_sh 1), .ref (a_sh 2), .ref (a_sh 3), .ref (a_sh 4), .ref (a_sh 5), .ref (a_sh 6), .ref (a_sh 7), .ref (a_ck 0), .int sh.2.2.2.2.2.2.2.1, .int sh.2.2.2.2.2.2.2.2])), (a_sh 1, .inl (kA 0, 40, .inl sh.1)), (a_sh 2, .inl (kA 0, 40, .inl sh.2.1)), (a_sh 3, .inl (kA 0, 80, .inl sh.2.2.1)), (a_sh 4, .inl (kA 0, 120, .inl sh.2.2.2.1)), (a_sh 5, .inl (kA 0, 120, .inl sh.2.2.2.2.1)), (a_sh 6, .inl (kA 2, 120, .inr (.inl sh.2.2.2.2.2.1))), (a_sh 7, .inl (kA 1, 1240, .inl sh.2.2.2.2.2.2.1))]))) := by
  refine Tx.of (by decide) (Nat.le_of_ble_eq_true rfl) ?_
  intro p e s m args below meth c A hF hex hP hD hS hA hK ls hl
  generalize hQ : txQ below D A _ _ args s = Q
  obtain ⟨hx, hb, hml, hown, hr, hk, hts, hN⟩ := hF
  obtain ⟨hN1, adK, adV, hZ⟩ := id hN
  have hl : lv_has ls 3 [(0, .ref (a_ct 0)), (1, .int p1), (2, .int p2)] := hl
  unfold f5_load at h
  refine lv_iload_n hx hb dX5_load_0 rfl (lv_at hl 1 rfl) ?_
  obtain ⟨u1, hc_1, h⟩ := bnd_some h
  refine ro_S (n := 1) (As := [.int p1]) (rest := []) hx hb hml hown hts hN hS hK hP (c1_has l D kA p1 u1 hc_1) [] rfl tw_612 tw_588 tw_79 tw_589 rfl rfl (by decide) ⟨Nat.le_of_ble_eq_true rfl, Nat.le_of_ble_eq_true rfl⟩ rfl hl.1 rfl (Nat.le_of_ble_eq_true rfl) dX5_load_1 ⟨Nat.le_of_ble_eq_true rfl, Nat.le_of_ble_eq_true rfl⟩ ?_
  refine lv_if_eq (tgt := 16) hx hb dX5_load_4 (by decide) (fun bc => ?_) (fun bc => ?_)
  · have h := ite_t bc h
    obtain rfl := Option.some.inj h
    rw [← hQ]
    exact tx_throw (is := 140) hx hb hl9 hml hown hts hN hZ (hZ.2.1 5 (by decide)) hP hD hS hex hk hl.1 tw_613 tw_84 dX5_load_16 dX5_load_19 dX5_load_20 dX5_load_22 dX5_load_25 (Nat.le_of_ble_eq_true rfl) (Nat.le_of_ble_eq_true rfl) (Nat.le_of_ble_eq_true rfl) (Nat.le_of_ble_eq_true rfl)
  · have h := ite_f bc h
    refine lv_iload_n hx hb dX5_load_7 rfl (lv_at hl 2 rfl) ?_
    refine lv_if_lt (tgt := 16) hx hb dX5_load_8 (by decide) (fun bc => ?_) (fun bc => ?_)
    · have h := ite_t bc h
      obtain rfl := Option.some.inj h
      rw [← hQ]
      exact tx_throw (is := 140) hx hb hl9 hml hown hts hN hZ (hZ.2.1 5 (by decide)) hP hD hS hex hk hl.1 tw_613 tw_84 dX5_load_16 dX5_load_19 dX5_load_20 dX5_load_22 dX5_load_25 (Nat.le_of_ble_eq_true rfl) (Nat.le_of_ble_eq_true rfl) (Nat.le_of_ble_eq_true rfl) (Nat.le_of_ble_eq_true rfl)
    · have h := ite_f bc h
      refine lv_iload_n hx hb dX5_load_11 rfl (lv_at hl 2 rfl) ?_
      refine lv_iconst (v := 1) hx hb dX5_load_12 (by decide) ?_
      refine lv_icmp_le (tgt := 26) hx hb dX5_load_13 (by decide) (fun bc => ?_) (fun bc => ?_)
      · have h := ite_t bc h
        refine lv_aload_n hx hb dX5_load_26 rfl (lv_at hl 0 rfl) ?_
        refine va_get (D := D) (ci := 5) (v := .ref (a_sh 0)) (C := "ConstraintText") (T := TX5) (N := 4) hx hb hts ing5 hown hK hP 0 rfl rfl 3 (by decide) (hts _ tw_263) (fun _ h9 => h9) rfl dX5_load_27 ?_
        refine lv_iload_n hx hb dX5_load_30 rfl (lv_at hl 2 rfl) ?_
        obtain ⟨k41, hk41, h⟩ := jn_name h
        have j41 : ∀ (v41 : Int32) (H : Heap) (locs : List Loc) (ls : Array Slot), k41 v41 = some res → va_P D vwCl [(a_ct 0, .inr (5, [.ref (a_tp 0), .ref (a_pn 0), .ref (a_rd 0), .ref (a_sh 0)])), (a_sh 0, .inr (3, [.ref (a_sh 1), .ref (a_sh 2), .ref (a_sh 3), .ref (a_sh 4), .ref (a_sh 5), .ref (a_sh 6), .ref (a_sh 7), .ref (a_ck 0), .int sh.2.2.2.2.2.2.2.1, .int sh.2.2.2.2.2.2.2.2])), (a_sh 1, .inl (kA 0, 40, .inl sh.1)), (a_sh 2, .inl (kA 0, 40, .inl sh.2.1)), (a_sh 3, .inl (kA 0, 80, .inl sh.2.2.1)), (a_sh 4, .inl (kA 0, 120, .inl sh.2.2.2.1)), (a_sh 5, .inl (kA 0, 120, .inl sh.2.2.2.2.1)), (a_sh 6, .inl (kA 2, 120, .inr (.inl sh.2.2.2.2.2.1))), (a_sh 7, .inl (kA 1, 1240, .inl sh.2.2.2.2.2.2.1))] H → va_D A [(a_ct 0, .inr (5, [.ref (a_tp 0), .ref (a_pn 0), .ref (a_rd 0), .ref (a_sh 0)])), (a_sh 0, .inr (3, [.ref (a_sh 1), .ref (a_sh 2), .ref (a_sh 3), .ref (a_sh 4), .ref (a_sh 5), .ref (a_sh 6), .ref (a_sh 7), .ref (a_ck 0), .int sh.2.2.2.2.2.2.2.1, .int sh.2.2.2.2.2.2.2.2])), (a_sh 1, .inl (kA 0, 40, .inl sh.1)), (a_sh 2, .inl (kA 0, 40, .inl sh.2.1)), (a_sh 3, .inl (kA 0, 80, .inl sh.2.2.1)), (a_sh 4, .inl (kA 0, 120, .inl sh.2.2.2.1)), (a_sh 5, .inl (kA 0, 120, .inl sh.2.2.2.2.1)), (a_sh 6, .inl (kA 2, 120, .inr (.inl sh.2.2.2.2.2.1))), (a_sh 7, .inl (kA 1, 1240, .inl sh.2.2.2.2.2.2.1))] → va_S A s.heap H locs → lv_has ls 3 [(1, .int p1)] → W p l e rm5_load s m args below meth c H locs 0 0 Q (F0 m 41 ls [.int v41, .ref (a_sh 0)]) := by
          intro v41 H locs ls h hP hD hS hl
          have h := app_of hk41 h
          refine lv_iload_n hx hb dX5_load_41 rfl (lv_at hl 0 rfl) ?_
          obtain ⟨u42, hc_42, h⟩ := bnd_some h
          refine ro_V (n := 2) (As := [.int v41, .int p1]) (rest := []) hx hb hml hown hts hN hS hK hP (c3_latestValue l D kA a_sh a_ck F v41 p1 sh u42 hc_42) [1, 2, 3, 4, 5, 6, 7, 8] rfl 1 3 rfl rfl rfl tw_789 tw_790 tw_791 tw_77 tw_792 rfl rfl (by decide) ⟨Nat.le_of_ble_eq_true rfl, Nat.le_of_ble_eq_true rfl⟩ rfl hl.1 rfl (Nat.le_of_ble_eq_true rfl) dX5_load_42 ⟨Nat.le_of_ble_eq_true rfl, Nat.le_of_ble_eq_true rfl⟩ ?_
          obtain rfl := Option.some.inj h
          rw [← hQ]
          exact tx_ireturn hx hb hr hk  dX5_load_45 rfl hP hD hS
        refine lv_if_ne (tgt := 39) hx hb dX5_load_31 (by decide) (fun bc => ?_) (fun bc => ?_)
        · have h := ite_f bc h
          refine lv_bipush (v := 9) hx hb dX5_load_39 (by decide) ?_
          exact j41 _ _ _ ls h hP hD hS (lv_sub hl [1] rfl)
        · have h := ite_t bc h
          refine lv_bipush (v := 8) hx hb dX5_load_34 (by decide) ?_
          refine lv_goto (tgt := 41) hx hb dX5_load_36 (by decide) ?_
          exact j41 _ _ _ ls h hP hD hS (lv_sub hl [1] rfl)
      · have h := ite_f bc h
        obtain rfl := Option.some.inj h
        rw [← hQ]
        exact tx_throw (is := 140) hx hb hl9 hml hown hts hN hZ (hZ.2.1 5 (by decide)) hP hD hS hex hk hl.1 tw_613 tw_84 dX5_load_16 dX5_load_19 dX5_load_20 dX5_load_22 dX5_load_25 (Nat.le_of_ble_eq_true rfl) (Nat.le_of_ble_eq_true rfl) (Nat.le_of_ble_eq_true rfl) (Nat.le_of_ble_eq_true rfl)
abbrev rm5_unmatched : Room := { frames := 6, cells := 1, slots := 6, locals := 91 }
set_option maxHeartbeats 4000000 in
set_option maxRecDepth 100000 in
theorem c5_unmatched (l : Launch) (hl9 : l.stackTraces = false) (D : va_G) (kA : Nat → ClassId) (a_ct : Nat → Nat) (a_sh : Nat → Nat) (a_tp : Nat → Nat) (a_pn : Nat → Nat) (a_rd : Nat → Nat) (a_ck : Nat → Nat) (F : Nat) (p1 : Int32) (sh : T3) (res : Option (Int32)) (h : f5_unmatched F p1 sh = some res) : Tx l yX5_unmatched cX5_unmatched 2 (some .int) rm5_unmatched D kA [.ref (a_ct 0), .int p1] [(a_ct 0, .inr (5, [.ref (a_tp 0), .ref (a_pn 0), .ref (a_rd 0), .ref (a_sh 0)])), (a_sh 0, .inr (3, [.ref (a_sh 1), .ref (a_sh 2), .ref (a_sh 3), .ref (a_sh 4), .ref (a_sh 5), .ref (a_sh 6), .ref (a_sh 7), .ref (a_ck 0), .int sh.2.2.2.2.2.2.2.1, .int sh.2.2.2.2.2.2.2.2])), (a_sh 1, .inl (kA 0, 40, .inl sh.1)), (a_sh 2, .inl (kA 0, 40, .inl sh.2.1)), (a_sh 3, .inl (kA 0, 80, .inl sh.2.2.1)), (a_sh 4, .inl (kA 0, 120, .inl sh.2.2.2.1)), (a_sh 5, .inl (kA 0, 120, .inl sh.2.2.2.2.1)), (a_sh 6, .inl (kA 2, 120, .inr (.inl sh.2.2.2.2.2.1))), (a_sh 7, .inl (kA 1, 1240, .inl sh.2.2.2.2.2.2.1))] (res.map (fun res => ((some (.int res) : Option Value), [(a_ct 0, .inr (5, [.ref (a_tp 0), .ref (a_pn 0), .ref (a_rd 0), .ref (a_sh 0)])), (a_sh 0, .inr (3, [.ref (a_sh 1), .ref (a_sh 2), .ref (a_sh 3), .ref (a_sh 4), .ref (a_sh 5), .ref (a_sh 6), .ref (a_sh 7), .ref (a_ck 0), .int sh.2.2.2.2.2.2.2.1, .int sh.2.2.2.2.2.2.2.2])), (a_sh 1, .inl (kA 0, 40, .inl sh.1)), (a_sh 2, .inl (kA 0, 40, .inl sh.2.1)), (a_sh 3, .inl (kA 0, 80, .inl sh.2.2.1)), (a_sh 4, .inl (kA 0, 120, .inl sh.2.2.2.1)), (a_sh 5, .inl (kA 0, 120, .inl sh.2.2.2.2.1)), (a_sh 6, .inl (kA 2, 120, .inr (.inl sh.2.2.2.2.2.1))), (a_sh 7, .inl (kA 1, 1240, .inl sh.2.2.2.2.2.2.1))]))) := by
  refine Tx.of (by decide) (Nat.le_of_ble_eq_true rfl) ?_
  intro p e s m args below meth c A hF hex hP hD hS hA hK ls hl
  generalize hQ : txQ below D A _ _ args s = Q
  obtain ⟨hx, hb, hml, hown, hr, hk, hts, hN⟩ := hF
  obtain ⟨hN1, adK, adV, hZ⟩ := id hN
  have hl : lv_has ls 2 [(0, .ref (a_ct 0)), (1, .int p1)] := hl
  unfold f5_unmatched at h
  refine lv_iload_n hx hb dX5_unmatched_0 rfl (lv_at hl 1 rfl) ?_
  refine lv_if_ge (tgt := 14) hx hb dX5_unmatched_1 (by decide) (fun bc => ?_) (fun bc => ?_)
  · have h := ite_t bc h
    refine lv_aload_n hx hb dX5_unmatched_14 rfl (lv_at hl 0 rfl) ?_
    refine va_get (D := D) (ci := 5) (v := .ref (a_sh 0)) (C := "ConstraintText") (T := TX5) (N := 4) hx hb hts ing5 hown hK hP 0 rfl rfl 3 (by decide) (hts _ tw_263) (fun _ h9 => h9) rfl dX5_unmatched_15 ?_
    refine lv_iload_n hx hb dX5_unmatched_18 rfl (lv_at hl 1 rfl) ?_
    obtain ⟨u19, hc_19, h⟩ := bnd_some h
    refine ro_V (n := 1) (As := [.int p1]) (rest := []) hx hb hml hown hts hN hS hK hP (c3_idleRow l D kA a_sh a_ck F p1 sh u19 hc_19) [1, 2, 3, 4, 5, 6, 7, 8] rfl 1 3 rfl rfl rfl tw_801 tw_802 tw_803 tw_77 tw_804 rfl rfl (by decide) ⟨Nat.le_of_ble_eq_true rfl, Nat.le_of_ble_eq_true rfl⟩ rfl hl.1 rfl (Nat.le_of_ble_eq_true rfl) dX5_unmatched_19 ⟨Nat.le_of_ble_eq_true rfl, Nat.le_of_ble_eq_true rfl⟩ ?_
    obtain rfl := Option.some.inj h
    rw [← hQ]
    exact tx_ireturn hx hb hr hk  dX5_unmatched_22 rfl hP hD hS
  · have h := ite_f bc h
    obtain rfl := Option.some.inj h
    rw [← hQ]
    exact tx_throw (is := 145) hx hb hl9 hml hown hts hN hZ (hZ.2.1 6 (by decide)) hP hD hS hex hk hl.1 tw_613 tw_84 dX5_unmatched_4 dX5_unmatched_7 dX5_unmatched_8 dX5_unmatched_10 dX5_unmatched_13 (Nat.le_of_ble_eq_true rfl) (Nat.le_of_ble_eq_true rfl) (Nat.le_of_ble_eq_true rfl) (Nat.le_of_ble_eq_true rfl)
abbrev rm5_clash : Room := { frames := 6, cells := 1, slots := 6, locals := 97 }
set_option maxHeartbeats 4000000 in
set_option maxRecDepth 100000 in
theorem c5_clash (l : Launch) (hl9 : l.stackTraces = false) (D : va_G) (kA : Nat → ClassId) (a_ct : Nat → Nat) (a_sh : Nat → Nat) (a_tp : Nat → Nat) (a_pn : Nat → Nat) (a_rd : Nat → Nat) (a_ck : Nat → Nat) (F : Nat) (p1 : Int32) (p2 : Int32) (sh : T3) (res : Option (Int32)) (h : f5_clash F p1 p2 sh = some res) : Tx l yX5_clash cX5_clash 3 (some .int) rm5_clash D kA [.ref (a_ct 0), .int p1, .int p2] [(a_ct 0, .inr (5, [.ref (a_tp 0), .ref (a_pn 0), .ref (a_rd 0), .ref (a_sh 0)])), (a_sh 0, .inr (3, [.ref (a_sh 1), .ref (a_sh 2), .ref (a_sh 3), .ref (a_sh 4), .ref (a_sh 5), .ref (a_sh 6), .ref (a_sh 7), .ref (a_ck 0), .int sh.2.2.2.2.2.2.2.1, .int sh.2.2.2.2.2.2.2.2])), (a_sh 1, .inl (kA 0, 40, .inl sh.1)), (a_sh 2, .inl (kA 0, 40, .inl sh.2.1)), (a_sh 3, .inl (kA 0, 80, .inl sh.2.2.1)), (a_sh 4, .inl (kA 0, 120, .inl sh.2.2.2.1)), (a_sh 5, .inl (kA 0, 120, .inl sh.2.2.2.2.1)), (a_sh 6, .inl (kA 2, 120, .inr (.inl sh.2.2.2.2.2.1))), (a_sh 7, .inl (kA 1, 1240, .inl sh.2.2.2.2.2.2.1))] (res.map (fun res => ((some (.int res) : Option Value), [(a_ct 0, .inr (5, [.ref (a_tp 0), .ref (a_pn 0), .ref (a_rd 0), .ref (a_sh 0)])), (a_sh 0, .inr (3, [.ref (a_sh 1), .ref (a_sh 2), .ref (a_sh 3), .ref (a_sh 4), .ref (a_sh 5), .ref (a_sh 6), .ref (a_sh 7), .ref (a_ck 0), .int sh.2.2.2.2.2.2.2.1, .int sh.2.2.2.2.2.2.2.2])), (a_sh 1, .inl (kA 0, 40, .inl sh.1)), (a_sh 2, .inl (kA 0, 40, .inl sh.2.1)), (a_sh 3, .inl (kA 0, 80, .inl sh.2.2.1)), (a_sh 4, .inl (kA 0, 120, .inl sh.2.2.2.1)), (a_sh 5, .inl (kA 0, 120, .inl sh.2.2.2.2.1)), (a_sh 6, .inl (kA 2, 120, .inr (.inl sh.2.2.2.2.2.1))), (a_sh 7, .inl (kA 1, 1240, .inl sh.2.2.2.2.2.2.1))]))) := by
  refine Tx.of (by decide) (Nat.le_of_ble_eq_true rfl) ?_
  intro p e s m args below meth c A hF hex hP hD hS hA hK ls hl
  generalize hQ : txQ below D A _ _ args s = Q
  obtain ⟨hx, hb, hml, hown, hr, hk, hts, hN⟩ := hF
  obtain ⟨hN1, adK, adV, hZ⟩ := id hN
  have hl : lv_has ls 3 [(0, .ref (a_ct 0)), (1, .int p1), (2, .int p2)] := hl
  unfold f5_clash at h
  refine lv_iload_n hx hb dX5_clash_0 rfl (lv_at hl 1 rfl) ?_
  refine lv_if_lt (tgt := 13) hx hb dX5_clash_1 (by decide) (fun bc => ?_) (fun bc => ?_)
  · have h := ite_t bc h
    obtain rfl := Option.some.inj h
    rw [← hQ]
    exact tx_throw (is := 151) hx hb hl9 hml hown hts hN hZ (hZ.2.1 7 (by decide)) hP hD hS hex hk hl.1 tw_613 tw_84 dX5_clash_13 dX5_clash_16 dX5_clash_17 dX5_clash_19 dX5_clash_22 (Nat.le_of_ble_eq_true rfl) (Nat.le_of_ble_eq_true rfl) (Nat.le_of_ble_eq_true rfl) (Nat.le_of_ble_eq_true rfl)
  · have h := ite_f bc h
    refine lv_iload_n hx hb dX5_clash_4 rfl (lv_at hl 2 rfl) ?_
    refine lv_if_lt (tgt := 13) hx hb dX5_clash_5 (by decide) (fun bc => ?_) (fun bc => ?_)
    · have h := ite_t bc h
      obtain rfl := Option.some.inj h
      rw [← hQ]
      exact tx_throw (is := 151) hx hb hl9 hml hown hts hN hZ (hZ.2.1 7 (by decide)) hP hD hS hex hk hl.1 tw_613 tw_84 dX5_clash_13 dX5_clash_16 dX5_clash_17 dX5_clash_19 dX5_clash_22 (Nat.le_of_ble_eq_true rfl) (Nat.le_of_ble_eq_true rfl) (Nat.le_of_ble_eq_true rfl) (Nat.le_of_ble_eq_true rfl)
    · have h := ite_f bc h
      refine lv_iload_n hx hb dX5_clash_8 rfl (lv_at hl 2 rfl) ?_
      refine lv_iconst (v := 1) hx hb dX5_clash_9 (by decide) ?_
      refine lv_icmp_le (tgt := 23) hx hb dX5_clash_10 (by decide) (fun bc => ?_) (fun bc => ?_)
      · have h := ite_t bc h
        refine lv_aload_n hx hb dX5_clash_23 rfl (lv_at hl 0 rfl) ?_
        refine va_get (D := D) (ci := 5) (v := .ref (a_sh 0)) (C := "ConstraintText") (T := TX5) (N := 4) hx hb hts ing5 hown hK hP 0 rfl rfl 3 (by decide) (hts _ tw_263) (fun _ h9 => h9) rfl dX5_clash_24 ?_
        refine lv_iload_n hx hb dX5_clash_27 rfl (lv_at hl 1 rfl) ?_
        refine lv_iload_n hx hb dX5_clash_28 rfl (lv_at hl 2 rfl) ?_
        obtain ⟨u29, hc_29, h⟩ := bnd_some h
        refine ro_V (n := 2) (As := [.int p1, .int p2]) (rest := []) hx hb hml hown hts hN hS hK hP (c3_clashingRow l D kA a_sh a_ck F p1 p2 sh u29 hc_29) [1, 2, 3, 4, 5, 6, 7, 8] rfl 1 3 rfl rfl rfl tw_817 tw_818 tw_819 tw_77 tw_820 rfl rfl (by decide) ⟨Nat.le_of_ble_eq_true rfl, Nat.le_of_ble_eq_true rfl⟩ rfl hl.1 rfl (Nat.le_of_ble_eq_true rfl) dX5_clash_29 ⟨Nat.le_of_ble_eq_true rfl, Nat.le_of_ble_eq_true rfl⟩ ?_
        obtain rfl := Option.some.inj h
        rw [← hQ]
        exact tx_ireturn hx hb hr hk  dX5_clash_32 rfl hP hD hS
      · have h := ite_f bc h
        obtain rfl := Option.some.inj h
        rw [← hQ]
        exact tx_throw (is := 151) hx hb hl9 hml hown hts hN hZ (hZ.2.1 7 (by decide)) hP hD hS hex hk hl.1 tw_613 tw_84 dX5_clash_13 dX5_clash_16 dX5_clash_17 dX5_clash_19 dX5_clash_22 (Nat.le_of_ble_eq_true rfl) (Nat.le_of_ble_eq_true rfl) (Nat.le_of_ble_eq_true rfl) (Nat.le_of_ble_eq_true rfl)
abbrev rm5_write : Room := { frames := 6, cells := 1, slots := 6, locals := 82 }
set_option maxHeartbeats 4000000 in
set_option maxRecDepth 100000 in
theorem c5_write (l : Launch) (hl9 : l.stackTraces = false) (D : va_G) (kA : Nat → ClassId) (a_ct : Nat → Nat) (a_sh : Nat → Nat) (a_tp : Nat → Nat) (a_pn : Nat → Nat) (a_rd : Nat → Nat) (a_ck : Nat → Nat) (p1 : Int32) (sh : T3) (res : Option (Int32)) (h : f5_write p1 sh = some res) : Tx l yX5_write cX5_write 2 (some .int) rm5_write D kA [.ref (a_ct 0), .int p1] [(a_ct 0, .inr (5, [.ref (a_tp 0), .ref (a_pn 0), .ref (a_rd 0), .ref (a_sh 0)])), (a_sh 0, .inr (3, [.ref (a_sh 1), .ref (a_sh 2), .ref (a_sh 3), .ref (a_sh 4), .ref (a_sh 5), .ref (a_sh 6), .ref (a_sh 7), .ref (a_ck 0), .int sh.2.2.2.2.2.2.2.1, .int sh.2.2.2.2.2.2.2.2])), (a_sh 1, .inl (kA 0, 40, .inl sh.1)), (a_sh 2, .inl (kA 0, 40, .inl sh.2.1)), (a_sh 3, .inl (kA 0, 80, .inl sh.2.2.1)), (a_sh 4, .inl (kA 0, 120, .inl sh.2.2.2.1)), (a_sh 5, .inl (kA 0, 120, .inl sh.2.2.2.2.1)), (a_sh 6, .inl (kA 2, 120, .inr (.inl sh.2.2.2.2.2.1))), (a_sh 7, .inl (kA 1, 1240, .inl sh.2.2.2.2.2.2.1))] (res.map (fun res => ((some (.int res) : Option Value), [(a_ct 0, .inr (5, [.ref (a_tp 0), .ref (a_pn 0), .ref (a_rd 0), .ref (a_sh 0)])), (a_sh 0, .inr (3, [.ref (a_sh 1), .ref (a_sh 2), .ref (a_sh 3), .ref (a_sh 4), .ref (a_sh 5), .ref (a_sh 6), .ref (a_sh 7), .ref (a_ck 0), .int sh.2.2.2.2.2.2.2.1, .int sh.2.2.2.2.2.2.2.2])), (a_sh 1, .inl (kA 0, 40, .inl sh.1)), (a_sh 2, .inl (kA 0, 40, .inl sh.2.1)), (a_sh 3, .inl (kA 0, 80, .inl sh.2.2.1)), (a_sh 4, .inl (kA 0, 120, .inl sh.2.2.2.1)), (a_sh 5, .inl (kA 0, 120, .inl sh.2.2.2.2.1)), (a_sh 6, .inl (kA 2, 120, .inr (.inl sh.2.2.2.2.2.1))), (a_sh 7, .inl (kA 1, 1240, .inl sh.2.2.2.2.2.2.1))]))) := by
  refine Tx.of (by decide) (Nat.le_of_ble_eq_true rfl) ?_
  intro p e s m args below meth c A hF hex hP hD hS hA hK ls hl
  generalize hQ : txQ below D A _ _ args s = Q
  obtain ⟨hx, hb, hml, hown, hr, hk, hts, hN⟩ := hF
  obtain ⟨hN1, adK, adV, hZ⟩ := id hN
  have hl : lv_has ls 2 [(0, .ref (a_ct 0)), (1, .int p1)] := hl
  unfold f5_write at h
  refine lv_iload_n hx hb dX5_write_0 rfl (lv_at hl 1 rfl) ?_
  refine lv_if_ge (tgt := 14) hx hb dX5_write_1 (by decide) (fun bc => ?_) (fun bc => ?_)
  · have h := ite_t bc h
    refine lv_iload_n hx hb dX5_write_14 rfl (lv_at hl 1 rfl) ?_
    refine lv_aload_n hx hb dX5_write_15 rfl (lv_at hl 0 rfl) ?_
    refine va_get (D := D) (ci := 5) (v := .ref (a_sh 0)) (C := "ConstraintText") (T := TX5) (N := 4) hx hb hts ing5 hown hK hP 0 rfl rfl 3 (by decide) (hts _ tw_263) (fun _ h9 => h9) rfl dX5_write_16 ?_
    refine va_getN (D := D) (ci := 3) (v := .int sh.2.2.2.2.2.2.2.2) (C := "ConstraintText$Sheet") (T := TX3) (N := 10) hx hb hts ing3 hown hK hP 1 rfl rfl 9 (by decide) (va_Nw.use rfl (hN.1 _ nw_197)) (fun _ h9 => h9) rfl dX5_write_19 ?_
    refine lv_icmp_ge (tgt := 36) hx hb dX5_write_22 (by decide) (fun bc => ?_) (fun bc => ?_)
    · have h := ite_t bc h
      refine lv_iconst (v := -1) hx hb dX5_write_36 (by decide) ?_
      obtain rfl := Option.some.inj h
      rw [← hQ]
      exact tx_ireturn hx hb hr hk  dX5_write_37 rfl hP hD hS
    · have h := ite_f bc h
      refine lv_aload_n hx hb dX5_write_25 rfl (lv_at hl 0 rfl) ?_
      refine va_get (D := D) (ci := 5) (v := .ref (a_sh 0)) (C := "ConstraintText") (T := TX5) (N := 4) hx hb hts ing5 hown hK hP 0 rfl rfl 3 (by decide) (hts _ tw_263) (fun _ h9 => h9) rfl dX5_write_26 ?_
      refine lv_iload_n hx hb dX5_write_29 rfl (lv_at hl 1 rfl) ?_
      obtain ⟨u30, hc_30, h⟩ := bnd_some h
      refine ro_V (n := 1) (As := [.int p1]) (rest := []) hx hb hml hown hts hN hS hK hP (c3_printedAt l D kA a_sh a_ck p1 sh u30 hc_30) [1, 2, 3, 4, 5, 6, 7, 8] rfl 1 3 rfl rfl rfl tw_835 tw_408 tw_409 tw_77 tw_410 rfl rfl (by decide) ⟨Nat.le_of_ble_eq_true rfl, Nat.le_of_ble_eq_true rfl⟩ rfl hl.1 rfl (Nat.le_of_ble_eq_true rfl) dX5_write_30 ⟨Nat.le_of_ble_eq_true rfl, Nat.le_of_ble_eq_true rfl⟩ ?_
      refine lv_goto (tgt := 37) hx hb dX5_write_33 (by decide) ?_
      obtain rfl := Option.some.inj h
      rw [← hQ]
      exact tx_ireturn hx hb hr hk  dX5_write_37 rfl hP hD hS
  · have h := ite_f bc h
    obtain rfl := Option.some.inj h
    rw [← hQ]
    exact tx_throw (is := 145) hx hb hl9 hml hown hts hN hZ (hZ.2.1 6 (by decide)) hP hD hS hex hk hl.1 tw_613 tw_84 dX5_write_4 dX5_write_7 dX5_write_8 dX5_write_10 dX5_write_13 (Nat.le_of_ble_eq_true rfl) (Nat.le_of_ble_eq_true rfl) (Nat.le_of_ble_eq_true rfl) (Nat.le_of_ble_eq_true rfl)
abbrev rm5_count : Room := { frames := 6, cells := 1, slots := 6, locals := 82 }
set_option maxHeartbeats 4000000 in
set_option maxRecDepth 100000 in
theorem c5_count (l : Launch) (hl9 : l.stackTraces = false) (D : va_G) (kA : Nat → ClassId) (a_ct : Nat → Nat) (a_sh : Nat → Nat) (a_tp : Nat → Nat) (a_ck : Nat → Nat) (a_pn : Nat → Nat) (a_rd : Nat → Nat) (p1 : Int32) (sh : T3) (tp : T4) (ck : T0) (res : Option (Int32)) (h : f5_count p1 sh tp ck = some res) : Tx l yX5_count cX5_count 2 (some .int) rm5_count D kA [.ref (a_ct 0), .int p1] [(a_ct 0, .inr (5, [.ref (a_tp 0), .ref (a_pn 0), .ref (a_rd 0), .ref (a_sh 0)])), (a_sh 0, .inr (3, [.ref (a_sh 1), .ref (a_sh 2), .ref (a_sh 3), .ref (a_sh 4), .ref (a_sh 5), .ref (a_sh 6), .ref (a_sh 7), .ref (a_ck 0), .int sh.2.2.2.2.2.2.2.1, .int sh.2.2.2.2.2.2.2.2])), (a_sh 1, .inl (kA 0, 40, .inl sh.1)), (a_sh 2, .inl (kA 0, 40, .inl sh.2.1)), (a_sh 3, .inl (kA 0, 80, .inl sh.2.2.1)), (a_sh 4, .inl (kA 0, 120, .inl sh.2.2.2.1)), (a_sh 5, .inl (kA 0, 120, .inl sh.2.2.2.2.1)), (a_sh 6, .inl (kA 2, 120, .inr (.inl sh.2.2.2.2.2.1))), (a_sh 7, .inl (kA 1, 1240, .inl sh.2.2.2.2.2.2.1)), (a_tp 0, .inr (4, [.ref (a_tp 1), .int tp.2])), (a_tp 1, .inl (kA 1, 1200, .inl tp.1)), (a_ck 0, .inr (0, [.ref (a_ck 1), .ref (a_ck 2), .ref (a_ck 3), .ref (a_ck 4), .ref (a_ck 5), .ref (a_ck 6), .ref (a_ck 7), .ref (a_ck 8), .ref (a_ck 9), .ref (a_ck 10), .ref (a_ck 11), .int ck.2.2.2.2.2.2.2.2.2.2.2])), (a_ck 1, .inl (kA 0, 12, .inl ck.1)), (a_ck 2, .inl (kA 0, 12, .inl ck.2.1)), (a_ck 3, .inl (kA 3, 12, .inl ck.2.2.1)), (a_ck 4, .inl (kA 0, 12, .inl ck.2.2.2.1)), (a_ck 5, .inl (kA 0, 12, .inl ck.2.2.2.2.1)), (a_ck 6, .inl (kA 2, 12, .inr (.inl ck.2.2.2.2.2.1))), (a_ck 7, .inl (kA 2, 12, .inr (.inl ck.2.2.2.2.2.2.1))), (a_ck 8, .inl (kA 2, 12, .inr (.inl ck.2.2.2.2.2.2.2.1))), (a_ck 9, .inl (kA 2, 12, .inr (.inl ck.2.2.2.2.2.2.2.2.1))), (a_ck 10, .inl (kA 3, 12, .inl ck.2.2.2.2.2.2.2.2.2.1)), (a_ck 11, .inl (kA 3, 12, .inl ck.2.2.2.2.2.2.2.2.2.2.1))] (res.map (fun res => ((some (.int res) : Option Value), [(a_ct 0, .inr (5, [.ref (a_tp 0), .ref (a_pn 0), .ref (a_rd 0), .ref (a_sh 0)])), (a_sh 0, .inr (3, [.ref (a_sh 1), .ref (a_sh 2), .ref (a_sh 3), .ref (a_sh 4), .ref (a_sh 5), .ref (a_sh 6), .ref (a_sh 7), .ref (a_ck 0), .int sh.2.2.2.2.2.2.2.1, .int sh.2.2.2.2.2.2.2.2])), (a_sh 1, .inl (kA 0, 40, .inl sh.1)), (a_sh 2, .inl (kA 0, 40, .inl sh.2.1)), (a_sh 3, .inl (kA 0, 80, .inl sh.2.2.1)), (a_sh 4, .inl (kA 0, 120, .inl sh.2.2.2.1)), (a_sh 5, .inl (kA 0, 120, .inl sh.2.2.2.2.1)), (a_sh 6, .inl (kA 2, 120, .inr (.inl sh.2.2.2.2.2.1))), (a_sh 7, .inl (kA 1, 1240, .inl sh.2.2.2.2.2.2.1)), (a_tp 0, .inr (4, [.ref (a_tp 1), .int tp.2])), (a_tp 1, .inl (kA 1, 1200, .inl tp.1)), (a_ck 0, .inr (0, [.ref (a_ck 1), .ref (a_ck 2), .ref (a_ck 3), .ref (a_ck 4), .ref (a_ck 5), .ref (a_ck 6), .ref (a_ck 7), .ref (a_ck 8), .ref (a_ck 9), .ref (a_ck 10), .ref (a_ck 11), .int ck.2.2.2.2.2.2.2.2.2.2.2])), (a_ck 1, .inl (kA 0, 12, .inl ck.1)), (a_ck 2, .inl (kA 0, 12, .inl ck.2.1)), (a_ck 3, .inl (kA 3, 12, .inl ck.2.2.1)), (a_ck 4, .inl (kA 0, 12, .inl ck.2.2.2.1)), (a_ck 5, .inl (kA 0, 12, .inl ck.2.2.2.2.1)), (a_ck 6, .inl (kA 2, 12, .inr (.inl ck.2.2.2.2.2.1))), (a_ck 7, .inl (kA 2, 12, .inr (.inl ck.2.2.2.2.2.2.1))), (a_ck 8, .inl (kA 2, 12, .inr (.inl ck.2.2.2.2.2.2.2.1))), (a_ck 9, .inl (kA 2, 12, .inr (.inl ck.2.2.2.2.2.2.2.2.1))), (a_ck 10, .inl (kA 3, 12, .inl ck.2.2.2.2.2.2.2.2.2.1)), (a_ck 11, .inl (kA 3, 12, .inl ck.2.2.2.2.2.2.2.2.2.2.1))]))) := by
  refine Tx.of (by decide) (Nat.le_of_ble_eq_true rfl) ?_
  intro p e s m args below meth c A hF hex hP hD hS hA hK ls hl
  generalize hQ : txQ below D A _ _ args s = Q
  obtain ⟨hx, hb, hml, hown, hr, hk, hts, hN⟩ := hF
  obtain ⟨hN1, adK, adV, hZ⟩ := id hN
  have hl : lv_has ls 2 [(0, .ref (a_ct 0)), (1, .int p1)] := hl
  unfold f5_count at h
  refine lv_iload_n hx hb dX5_count_0 rfl (lv_at hl 1 rfl) ?_
  by_cases sw0 : p1 = (0 : Int32)
  · have h := ite_t sw0 h
    refine lv_tableIn (tgt := 32) hx hb dX5_count_1 (by rw [sw0]; decide) (by rw [sw0]; decide) (by rw [sw0]; rfl) (by decide) ?_
    refine lv_aload_n hx hb dX5_count_32 rfl (lv_at hl 0 rfl) ?_
    refine va_get (D := D) (ci := 5) (v := .ref (a_sh 0)) (C := "ConstraintText") (T := TX5) (N := 4) hx hb hts ing5 hown hK hP 0 rfl rfl 3 (by decide) (hts _ tw_263) (fun _ h9 => h9) rfl dX5_count_33 ?_
    refine va_getN (D := D) (ci := 3) (v := .int sh.2.2.2.2.2.2.2.1) (C := "ConstraintText$Sheet") (T := TX3) (N := 10) hx hb hts ing3 hown hK hP 1 rfl rfl 8 (by decide) (va_Nw.use rfl (hN.1 _ nw_194)) (fun _ h9 => h9) rfl dX5_count_36 ?_
    obtain rfl := Option.some.inj h
    rw [← hQ]
    exact tx_ireturn hx hb hr hk  dX5_count_39 rfl hP hD hS
  · have h := ite_f sw0 h
    by_cases sw1 : p1 = (1 : Int32)
    · have h := ite_t sw1 h
      refine lv_tableIn (tgt := 40) hx hb dX5_count_1 (by rw [sw1]; decide) (by rw [sw1]; decide) (by rw [sw1]; rfl) (by decide) ?_
      refine lv_aload_n hx hb dX5_count_40 rfl (lv_at hl 0 rfl) ?_
      refine va_get (D := D) (ci := 5) (v := .ref (a_sh 0)) (C := "ConstraintText") (T := TX5) (N := 4) hx hb hts ing5 hown hK hP 0 rfl rfl 3 (by decide) (hts _ tw_263) (fun _ h9 => h9) rfl dX5_count_41 ?_
      refine va_getN (D := D) (ci := 3) (v := .ref (a_ck 0)) (C := "ConstraintText$Sheet") (T := TX3) (N := 10) hx hb hts ing3 hown hK hP 1 rfl rfl 7 (by decide) (va_Nw.use rfl (hN.1 _ nw_191)) (fun _ h9 => h9) rfl dX5_count_44 ?_
      refine va_getN (D := D) (ci := 0) (v := .int ck.2.2.2.2.2.2.2.2.2.2.2) (C := "ConstraintText$ClockTable") (T := TX0) (N := 12) hx hb hts ing0 hown hK hP 11 rfl rfl 11 (by decide) (va_Nw.use rfl (hN.1 _ nw_151)) (fun _ h9 => h9) rfl dX5_count_47 ?_
      obtain rfl := Option.some.inj h
      rw [← hQ]
      exact tx_ireturn hx hb hr hk  dX5_count_50 rfl hP hD hS
    · have h := ite_f sw1 h
      by_cases sw2 : p1 = (2 : Int32)
      · have h := ite_t sw2 h
        refine lv_tableIn (tgt := 51) hx hb dX5_count_1 (by rw [sw2]; decide) (by rw [sw2]; decide) (by rw [sw2]; rfl) (by decide) ?_
        refine lv_aload_n hx hb dX5_count_51 rfl (lv_at hl 0 rfl) ?_
        refine va_get (D := D) (ci := 5) (v := .ref (a_tp 0)) (C := "ConstraintText") (T := TX5) (N := 4) hx hb hts ing5 hown hK hP 0 rfl rfl 0 (by decide) (hts _ tw_260) (fun _ h9 => h9) rfl dX5_count_52 ?_
        refine va_getN (D := D) (ci := 4) (v := .int tp.2) (C := "ConstraintText$Tape") (T := TX4) (N := 2) hx hb hts ing4 hown hK hP 9 rfl rfl 1 (by decide) (va_Nw.use rfl (hN.1 _ nw_115)) (fun _ h9 => h9) rfl dX5_count_55 ?_
        obtain rfl := Option.some.inj h
        rw [← hQ]
        exact tx_ireturn hx hb hr hk  dX5_count_58 rfl hP hD hS
      · have h := ite_f sw2 h
        by_cases sw3 : p1 = (3 : Int32)
        · have h := ite_t sw3 h
          refine lv_tableIn (tgt := 59) hx hb dX5_count_1 (by rw [sw3]; decide) (by rw [sw3]; decide) (by rw [sw3]; rfl) (by decide) ?_
          refine lv_aload_n hx hb dX5_count_59 rfl (lv_at hl 0 rfl) ?_
          refine va_get (D := D) (ci := 5) (v := .ref (a_sh 0)) (C := "ConstraintText") (T := TX5) (N := 4) hx hb hts ing5 hown hK hP 0 rfl rfl 3 (by decide) (hts _ tw_263) (fun _ h9 => h9) rfl dX5_count_60 ?_
          refine va_getN (D := D) (ci := 3) (v := .int sh.2.2.2.2.2.2.2.2) (C := "ConstraintText$Sheet") (T := TX3) (N := 10) hx hb hts ing3 hown hK hP 1 rfl rfl 9 (by decide) (va_Nw.use rfl (hN.1 _ nw_197)) (fun _ h9 => h9) rfl dX5_count_63 ?_
          obtain rfl := Option.some.inj h
          rw [← hQ]
          exact tx_ireturn hx hb hr hk  dX5_count_66 rfl hP hD hS
        · have h := ite_f sw3 h
          refine lv_tableOut (tgt := 67) hx hb dX5_count_1 (by have q0 := lv_neT (a := 0) sw0 (by decide); have q1 := lv_neT (a := 1) sw1 (by decide); have q2 := lv_neT (a := 2) sw2 (by decide); have q3 := lv_neT (a := 3) sw3 (by decide); omega) (by decide) ?_
          obtain rfl := Option.some.inj h
          rw [← hQ]
          exact tx_throw (is := 168) hx hb hl9 hml hown hts hN hZ (hZ.2.1 8 (by decide)) hP hD hS hex hk hl.1 tw_613 tw_84 dX5_count_67 dX5_count_70 dX5_count_71 dX5_count_73 dX5_count_76 (Nat.le_of_ble_eq_true rfl) (Nat.le_of_ble_eq_true rfl) (Nat.le_of_ble_eq_true rfl) (Nat.le_of_ble_eq_true rfl)
