/-! ===== String's own members over the literals ===== -/
theorem jS_small : ∀ i, i < nJ → lenJ.getD i 0 < 2 ^ 31 := by decide +kernel
set_option maxHeartbeats 4000000 in
set_option maxRecDepth 100000 in
theorem cJ0_coder (l : Launch) (adK adV : Nat → Nat) (D : va_G) (kA : Nat → ClassId) (i : Nat) (hi : i < nJ) : Rs l yJ0_coder_7d493 cJ0_coder_7d493 1 (some .byte) rmJ0 adK adV D kA [.ref (adK i)] [] (some (.int 0)) := by
  refine Rs.of (by decide) (Nat.le_of_ble_eq_true rfl) ?_
  intro p e s m args below meth c hF hZ hP hK ls hl
  obtain ⟨hx, hb, hml, hown, hr, hk, hts, hN⟩ := hF
  have hl : lv_has ls 1 [(0, .ref (adK i))] := hl
  refine va_gets hx hb hZ.2.2.1 va_S.rf hown (hts _ tw_355) (fun _ h9 => h9) dJ0_coder_7d493_0 ?_
  refine lv_if_eq (tgt := 13) hx hb dJ0_coder_7d493_3 (by decide) (fun bc => absurd bc (by decide)) (fun bc => ?_)
  refine lv_aload_n hx hb dJ0_coder_7d493_6 rfl (lv_at hl 0 rfl) ?_
  refine vk_getf hx hb (hZ.1.1 i hi).2.1 va_S.rf hown (hts _ tw_1187) (fun _ h9 => h9) dJ0_coder_7d493_7 ?_
  refine lv_goto (tgt := 14) hx hb dJ0_coder_7d493_10 (by decide) ?_
  exact rs_zreturn hx hb hr hk (by decide) dJ0_coder_7d493_14
set_option maxHeartbeats 4000000 in
set_option maxRecDepth 100000 in
theorem cJ0_isLatin1 (l : Launch) (adK adV : Nat → Nat) (D : va_G) (kA : Nat → ClassId) (i : Nat) (hi : i < nJ) : Rs l yJ0_isLatin1_aae02 cJ0_isLatin1_aae02 1 (some .boolean) rmJ0 adK adV D kA [.ref (adK i)] [] (some (.int 1)) := by
  refine Rs.of (by decide) (Nat.le_of_ble_eq_true rfl) ?_
  intro p e s m args below meth c hF hZ hP hK ls hl
  obtain ⟨hx, hb, hml, hown, hr, hk, hts, hN⟩ := hF
  have hl : lv_has ls 1 [(0, .ref (adK i))] := hl
  refine va_gets hx hb hZ.2.2.1 va_S.rf hown (hts _ tw_355) (fun _ h9 => h9) dJ0_isLatin1_aae02_0 ?_
  refine lv_if_eq (tgt := 17) hx hb dJ0_isLatin1_aae02_3 (by decide) (fun bc => absurd bc (by decide)) (fun bc => ?_)
  refine lv_aload_n hx hb dJ0_isLatin1_aae02_6 rfl (lv_at hl 0 rfl) ?_
  refine vk_getf hx hb (hZ.1.1 i hi).2.1 va_S.rf hown (hts _ tw_1187) (fun _ h9 => h9) dJ0_isLatin1_aae02_7 ?_
  refine lv_if_ne (tgt := 17) hx hb dJ0_isLatin1_aae02_10 (by decide) (fun bc => absurd rfl bc) (fun bc => ?_)
  refine lv_iconst (v := 1) hx hb dJ0_isLatin1_aae02_13 (by decide) ?_
  refine lv_goto (tgt := 18) hx hb dJ0_isLatin1_aae02_14 (by decide) ?_
  exact rs_zreturn hx hb hr hk (by decide) dJ0_isLatin1_aae02_18
abbrev rmJ_length : Room := { frames := 1, cells := 0, slots := 0, locals := 20 }
set_option maxHeartbeats 4000000 in
set_option maxRecDepth 100000 in
theorem cJ0_length (l : Launch) (adK adV : Nat → Nat) (D : va_G) (kA : Nat → ClassId) (i : Nat) (hi : i < nJ) : Rs l yJ0_length_8abf5 cJ0_length_8abf5 1 (some .int) rmJ_length adK adV D kA [.ref (adK i)] [] (some (.int (sLen i))) := by
  refine Rs.of (by decide) (Nat.le_of_ble_eq_true rfl) ?_
  intro p e s m args below meth c hF hZ hP hK ls hl
  obtain ⟨hx, hb, hml, hown, hr, hk, hts, hN⟩ := hF
  have hl : lv_has ls 1 [(0, .ref (adK i))] := hl
  refine lv_aload_n hx hb dJ0_length_8abf5_0 rfl (lv_at hl 0 rfl) ?_
  refine vk_getf hx hb (hZ.1.1 i hi).2.2.1 va_S.rf hown (hts _ tw_1186) (fun _ h9 => h9) dJ0_length_8abf5_1 ?_
  refine va_tlen (v := sLen i) hx hb (hZ.1.1 i hi).2.2.2 va_S.rf rfl dJ0_length_8abf5_4 ?_
  refine lv_aload_n hx hb dJ0_length_8abf5_5 rfl (lv_at hl 0 rfl) ?_
  refine rs_V (n := 0) (As := []) (rest := [.int (sLen i)]) hx hb hml hown hts hN hZ va_S.rf hK hP (cJ0_coder l adK adV D kA i hi) [] rfl (vk_recv hZ.1 hi va_S.rf) tw_351 tw_352 tw_353 tw_86 tw_354 rfl rfl (by decide) ⟨Nat.le_of_ble_eq_true rfl, Nat.le_of_ble_eq_true rfl⟩ rfl hl.1 rfl (Nat.le_of_ble_eq_true rfl) dJ0_length_8abf5_6 ⟨Nat.le_of_ble_eq_true rfl, Nat.le_of_ble_eq_true rfl⟩ ?_
  refine lv_ishr hx hb dJ0_length_8abf5_9 ?_
  have e9 : sLen i >>> ((0 : Int32) &&& 31) = sLen i := sb_shr0 _
  rw [e9]
  exact rs_ireturn hx hb hr hk dJ0_length_8abf5_10
set_option maxHeartbeats 4000000 in
set_option maxRecDepth 100000 in
theorem cJ3_checkIndex (l : Launch) (adK adV : Nat → Nat) (D : va_G) (kA : Nat → ClassId) (k n : Int32) (h0 : ¬ k < 0) (h1 : k < n) (v3 : Value) (h3 : v3 = .null ∨ ∃ t : Nat, v3 = .ref t) : Rs l yJ3_checkIndex_8e157 cJ3_checkIndex_8e157 3 (some .int) rmJ0 adK adV D kA [.int k, .int n, v3] [] (some (.int k)) := by
  rcases h3 with rfl | ⟨t, rfl⟩
  all_goals
    refine Rs.of (by decide) (Nat.le_of_ble_eq_true rfl) ?_
    intro p e s m args below meth c hF hZ hP hK ls hl
    obtain ⟨hx, hb, hml, hown, hr, hk, hts, hN⟩ := hF
    have hl := lv_sub (l' := [(0, .int k), (1, .int n)]) hl [0, 1] rfl
    refine lv_iload_n hx hb dJ3_checkIndex_8e157_0 rfl (lv_at hl 0 rfl) ?_
    refine lv_if_lt (tgt := 9) hx hb dJ3_checkIndex_8e157_1 (by decide) (fun bc => absurd bc h0) (fun bc => ?_)
    refine lv_iload_n hx hb dJ3_checkIndex_8e157_4 rfl (lv_at hl 0 rfl) ?_
    refine lv_iload_n hx hb dJ3_checkIndex_8e157_5 rfl (lv_at hl 1 rfl) ?_
    refine lv_icmp_lt (tgt := 16) hx hb dJ3_checkIndex_8e157_6 (by decide) (fun bc => ?_) (fun bc => absurd h1 bc)
    refine lv_iload_n hx hb dJ3_checkIndex_8e157_16 rfl (lv_at hl 0 rfl) ?_
    exact rs_ireturn hx hb hr hk dJ3_checkIndex_8e157_17
abbrev rmJ_check : Room := { frames := 1, cells := 0, slots := 0, locals := 22 }
set_option maxHeartbeats 4000000 in
set_option maxRecDepth 100000 in
theorem cJ0_checkIndex (l : Launch) (adK adV : Nat → Nat) (D : va_G) (kA : Nat → ClassId) (k n : Int32) (h0 : ¬ k < 0) (h1 : k < n) : Rs l yJ0_checkIndex_df160 cJ0_checkIndex_df160 2 none rmJ_check adK adV D kA [.int k, .int n] [] none := by
  refine Rs.of (by decide) (Nat.le_of_ble_eq_true rfl) ?_
  intro p e s m args below meth c hF hZ hP hK ls hl
  obtain ⟨hx, hb, hml, hown, hr, hk, hts, hN⟩ := hF
  have hl : lv_has ls 2 [(0, .int k), (1, .int n)] := hl
  refine lv_iload_n hx hb dJ0_checkIndex_df160_0 rfl (lv_at hl 0 rfl) ?_
  refine lv_iload_n hx hb dJ0_checkIndex_df160_1 rfl (lv_at hl 1 rfl) ?_
  have go : ∀ v3 : Value, (v3 = .null ∨ ∃ t : Nat, v3 = .ref t) → va_Z "jdk/internal/util/Preconditions" "SIOOBE_FORMATTER" "Ljava/util/function/BiFunction;" v3 (fun _ => False) s s.heap → W p l e rmJ_check s m args below meth c s.heap [] 0 0 (rsQ below none args s) (F0 m 2 ls [.int n, .int k]) := by
    intro v3 h3 hz3
    refine va_gets hx hb hz3 va_S.rf hown (hts _ tw_371) (fun _ h9 => h9) dJ0_checkIndex_df160_2 ?_
    refine rs_S (n := 3) (As := [.int k, .int n, v3]) (rest := []) hx hb hml hown hts hN hZ va_S.rf hK hP (cJ3_checkIndex l adK adV D kA k n h0 h1 v3 h3) [] rfl tw_373 tw_374 tw_88 tw_375 rfl rfl (by decide) ⟨Nat.le_of_ble_eq_true rfl, Nat.le_of_ble_eq_true rfl⟩ rfl hl.1 rfl (Nat.le_of_ble_eq_true rfl) dJ0_checkIndex_df160_5 ⟨Nat.le_of_ble_eq_true rfl, Nat.le_of_ble_eq_true rfl⟩ ?_
    refine lv_pop hx hb dJ0_checkIndex_df160_8 rfl ?_
    exact rs_return hx hb hr hk dJ0_checkIndex_df160_9
  rcases hZ.2.2.2.1 with h | ⟨t, h⟩
  · exact go .null (Or.inl rfl) h
  · exact go (.ref t) (Or.inr ⟨t, rfl⟩) h
abbrev rmJ_latin : Room := { frames := 2, cells := 0, slots := 0, locals := 43 }
theorem jS_255 (x : Int32) : ((x &&& 255).toUInt32 % 65536).toInt32 = x &&& 255 := sc_c2 x
set_option maxHeartbeats 4000000 in
set_option maxRecDepth 100000 in
theorem cJ1_charAt (l : Launch) (adK adV : Nat → Nat) (D : va_G) (kA : Nat → ClassId) (i : Nat) (hi : i < nJ) (k : Int32) (h : vp_in k (lenJ.getD i 0)) : Rs l yJ1_charAt_3b067 cJ1_charAt_3b067 2 (some .char) rmJ_latin adK adV D kA [.ref (adV i), .int k] [] (some (.int (sCh i k))) := by
  refine Rs.of (by decide) (Nat.le_of_ble_eq_true rfl) ?_
  intro p e s m args below meth c hF hZ hP hK ls hl
  obtain ⟨hx, hb, hml, hown, hr, hk, hts, hN⟩ := hF
  obtain ⟨j, hj, rfl⟩ := vp_in_of h (jS_small i hi)
  have hl : lv_has ls 2 [(0, .ref (adV i)), (1, .int (nI j))] := hl
  refine lv_iload_n hx hb dJ1_charAt_3b067_0 rfl (lv_at hl 1 rfl) ?_
  refine lv_aload_n hx hb dJ1_charAt_3b067_1 rfl (lv_at hl 0 rfl) ?_
  refine va_tlen (v := sLen i) hx hb (hZ.1.1 i hi).2.2.2 va_S.rf rfl dJ1_charAt_3b067_2 ?_
  refine rs_S (n := 2) (As := [.int (nI j), .int (sLen i)]) (rest := []) hx hb hml hown hts hN hZ va_S.rf hK hP (cJ0_checkIndex l adK adV D kA (nI j) (sLen i) (nI_pos (by have := jS_small i hi; omega)) (nI_lt hj (jS_small i hi))) [] rfl tw_368 tw_369 tw_86 tw_370 rfl rfl (by decide) ⟨Nat.le_of_ble_eq_true rfl, Nat.le_of_ble_eq_true rfl⟩ rfl hl.1 rfl (Nat.le_of_ble_eq_true rfl) dJ1_charAt_3b067_3 ⟨Nat.le_of_ble_eq_true rfl, Nat.le_of_ble_eq_true rfl⟩ ?_
  refine lv_aload_n hx hb dJ1_charAt_3b067_6 rfl (lv_at hl 0 rfl) ?_
  refine lv_iload_n hx hb dJ1_charAt_3b067_7 rfl (lv_at hl 1 rfl) ?_
  refine va_tb hx hb (hZ.1.1 i hi).2.2.2 va_S.rf h rfl dJ1_charAt_3b067_8 ?_
  refine lv_sipush (v := 255) hx hb dJ1_charAt_3b067_9 (by decide) ?_
  refine lv_iand hx hb dJ1_charAt_3b067_12 ?_
  refine lv_i2c (v := sCh i (nI j)) hx hb dJ1_charAt_3b067_13 (jS_255 _) ?_
  exact rs_zreturn hx hb hr hk (sc_nar _) dJ1_charAt_3b067_14
abbrev rmJ_charAt : Room := { frames := 3, cells := 0, slots := 0, locals := 64 }
set_option maxHeartbeats 4000000 in
set_option maxRecDepth 100000 in
theorem cJ0_charAt (l : Launch) (adK adV : Nat → Nat) (D : va_G) (kA : Nat → ClassId) (i : Nat) (hi : i < nJ) (k : Int32) (h : vp_in k (lenJ.getD i 0)) : Rs l yJ0_charAt_5068e cJ0_charAt_5068e 2 (some .char) rmJ_charAt adK adV D kA [.ref (adK i), .int k] [] (some (.int (sCh i k))) := by
  refine Rs.of (by decide) (Nat.le_of_ble_eq_true rfl) ?_
  intro p e s m args below meth c hF hZ hP hK ls hl
  obtain ⟨hx, hb, hml, hown, hr, hk, hts, hN⟩ := hF
  have hl : lv_has ls 2 [(0, .ref (adK i)), (1, .int k)] := hl
  refine lv_aload_n hx hb dJ0_charAt_5068e_0 rfl (lv_at hl 0 rfl) ?_
  refine rs_V (n := 0) (As := []) (rest := []) hx hb hml hown hts hN hZ va_S.rf hK hP (cJ0_isLatin1 l adK adV D kA i hi) [] rfl (vk_recv hZ.1 hi va_S.rf) tw_361 tw_362 tw_363 tw_86 tw_364 rfl rfl (by decide) ⟨Nat.le_of_ble_eq_true rfl, Nat.le_of_ble_eq_true rfl⟩ rfl hl.1 rfl (Nat.le_of_ble_eq_true rfl) dJ0_charAt_5068e_1 ⟨Nat.le_of_ble_eq_true rfl, Nat.le_of_ble_eq_true rfl⟩ ?_
  refine lv_if_eq (tgt := 16) hx hb dJ0_charAt_5068e_4 (by decide) (fun bc => absurd bc (by decide)) (fun bc => ?_)
  refine lv_aload_n hx hb dJ0_charAt_5068e_7 rfl (lv_at hl 0 rfl) ?_
  refine vk_getf hx hb (hZ.1.1 i hi).2.2.1 va_S.rf hown (hts _ tw_1186) (fun _ h9 => h9) dJ0_charAt_5068e_8 ?_
  refine lv_iload_n hx hb dJ0_charAt_5068e_11 rfl (lv_at hl 1 rfl) ?_
  refine rs_S (n := 2) (As := [.ref (adV i), .int k]) (rest := []) hx hb hml hown hts hN hZ va_S.rf hK hP (cJ1_charAt l adK adV D kA i hi k h) [] rfl tw_365 tw_366 tw_87 tw_367 rfl rfl (by decide) ⟨Nat.le_of_ble_eq_true rfl, Nat.le_of_ble_eq_true rfl⟩ rfl hl.1 rfl (Nat.le_of_ble_eq_true rfl) dJ0_charAt_5068e_12 ⟨Nat.le_of_ble_eq_true rfl, Nat.le_of_ble_eq_true rfl⟩ ?_
  exact rs_zreturn hx hb hr hk (sc_nar _) dJ0_charAt_5068e_15
/-! ===== Reader.exchange ===== -/
set_option maxHeartbeats 4000000 in
set_option maxRecDepth 100000 in
theorem c2_exchange (l : Launch) (D : va_G) (kA : Nat → ClassId) (a q0 q1 q2 q3 q4 b b2 : Nat) (i6 i7 : Int32) : Rw l yX2_exchange cX2_exchange 3 (some (.object "ConstraintText$Sheet")) rmJ0 D kA [.ref a, .ref b2] [(a, .inr (2, [.ref q0, .ref q1, .ref q2, .ref q3, .ref q4, .ref b, .int i6, .int i7]))] (some (.ref b)) [(a, .inr (2, [.ref q0, .ref q1, .ref q2, .ref q3, .ref q4, .ref b2, .int i6, .int i7]))] := by
  refine Rw.of (by decide) (Nat.le_of_ble_eq_true rfl) ?_
  intro p e s m args below meth c A hF hP hD hS hA hK ls hl
  obtain ⟨hx, hb, hml, hown, hr, hk, hts, hN⟩ := hF
  have hl : lv_has ls 3 [(0, .ref a), (1, .ref b2)] := hl
  refine lv_aload_n hx hb dX2_exchange_0 rfl (lv_at hl 0 rfl) ?_
  refine va_get (D := D) (ci := 2) (v := .ref b) (C := "ConstraintText$Reader") (T := TX2) (N := 8) hx hb hts ing2 hown hK hP 0 rfl rfl 5 (by decide) (hts _ tw_225) (fun _ h9 => h9) rfl dX2_exchange_1 ?_
  refine lv_astore_n (lv' := [(2, .ref b), (0, .ref a), (1, .ref b2)]) hx hb dX2_exchange_4 rfl hl (by decide) rfl (fun ls hl => ?_)
  refine lv_aload_n hx hb dX2_exchange_5 rfl (lv_at hl 1 rfl) ?_
  refine lv_aload_n hx hb dX2_exchange_6 rfl (lv_at hl 2 rfl) ?_
  refine va_put (D := D) (ci := 2) (v := .ref b2) (ty := .object "ConstraintText$Sheet") (C := "ConstraintText$Reader") (T := TX2) (N := 8) hx hb hts ing2 tyX2 tyX2_ok nmX2 hown hK hP hD hS 0 rfl rfl 5 (by decide) (hts _ tw_225) (fun _ h9 => h9) rfl (tyX2_ok 5 (by decide)) rfl rfl (Nat.le_of_ble_eq_true rfl) dX2_exchange_7 (fun H locs hP hD hS => ?_)
  refine lv_aload_n hx hb dX2_exchange_10 rfl (lv_at hl 0 rfl) ?_
  exact rw_areturn hx hb hr hk dX2_exchange_11 hP hD hS
