abbrev rm3_reachedBy : Room := { frames := 1, cells := 0, slots := 0, locals := 21 }
set_option maxHeartbeats 4000000 in
set_option maxRecDepth 100000 in
theorem c3_reachedBy (l : Launch) (D : va_G) (kA : Nat → ClassId) (a_sh : Nat → Nat) (a_ck : Nat → Nat) (F : Nat) (p1 : Int32) (p2 : Int32) (p3 : Int32) (sh : T3) (res : Int32) (h : f3_reachedBy F p1 p2 p3 sh = some res) : Ro l yX3_reachedBy cX3_reachedBy 8 (some .int) rm3_reachedBy D kA [.ref (a_sh 0), .int p1, .int p2, .int p3] [(a_sh 0, .inr (3, [.ref (a_sh 1), .ref (a_sh 2), .ref (a_sh 3), .ref (a_sh 4), .ref (a_sh 5), .ref (a_sh 6), .ref (a_sh 7), .ref (a_ck 0), .int sh.2.2.2.2.2.2.2.1, .int sh.2.2.2.2.2.2.2.2])), (a_sh 1, .inl (kA 0, 40, .inl sh.1)), (a_sh 2, .inl (kA 0, 40, .inl sh.2.1)), (a_sh 3, .inl (kA 0, 80, .inl sh.2.2.1)), (a_sh 4, .inl (kA 0, 120, .inl sh.2.2.2.1)), (a_sh 5, .inl (kA 0, 120, .inl sh.2.2.2.2.1)), (a_sh 6, .inl (kA 2, 120, .inr (.inl sh.2.2.2.2.2.1))), (a_sh 7, .inl (kA 1, 1240, .inl sh.2.2.2.2.2.2.1))] (.int res) := by
  refine Ro.of (by decide +kernel) (Nat.le_of_ble_eq_true rfl) ?_
  intro p e s m args below meth c hF hP hK ls hl
  generalize hQ : roQ below _ args s = Q
  obtain ⟨hx, hb, hml, hown, hr, hk, hts, hN⟩ := hF
  have hl : lv_has ls 8 [(0, .ref (a_sh 0)), (1, .int p1), (2, .int p2), (3, .int p3)] := hl
  unfold f3_reachedBy at h
  refine lv_iconst (v := 0) hx hb dX3_reachedBy_0 (by decide) ?_
  refine lv_istore (lv' := [(4, .int (0 : Int32)), (0, .ref (a_sh 0)), (1, .int p1), (2, .int p2), (3, .int p3)]) hx hb dX3_reachedBy_1 hl (by decide) rfl (fun ls hl => ?_)
  refine lv_iconst (v := 0) hx hb dX3_reachedBy_3 (by decide) ?_
  refine lv_istore (lv' := [(5, .int (0 : Int32)), (4, .int (0 : Int32)), (0, .ref (a_sh 0)), (1, .int p1), (2, .int p2), (3, .int p3)]) hx hb dX3_reachedBy_4 hl (by decide) rfl (fun ls hl => ?_)
  obtain ⟨k6, e6, hk6, hi6, hc6⟩ := bnd_name h
  have x99w : ∀ (x99 : Int32) (ls : Array Slot), k6 x99 = some res → lv_has ls 8 [(4, .int x99)] → W p l e rm3_reachedBy s m args below meth c s.heap [] 0 0 Q (F0 m 99 ls []) := by
    intro x99 ls h hl
    have h := app_of hk6 h
    refine lv_iload hx hb dX3_reachedBy_99 (lv_at hl 0 rfl) ?_
    obtain rfl := Option.some.inj h
    rw [← hQ]
    exact ro_ireturn hx hb hr hk  dX3_reachedBy_101
  have lp6 : ∀ (n6 : Nat) (s6 : Int32 × Int32) (ls : Array Slot), iter (f3_reachedBy_L6 p1 p2 p3 sh) n6 s6 = some e6 → lv_has ls 8 [(0, .ref (a_sh 0)), (1, .int p1), (2, .int p2), (3, .int p3), (4, .int s6.1), (5, .int s6.2)] → W p l e rm3_reachedBy s m args below meth c s.heap [] 0 0 Q (F0 m 6 ls []) := by
    intro n6
    induction n6 with
    | zero =>
      intro s6 ls h hl
      exact (iter_zero h).elim
    | succ n6 ih6 =>
      intro s6 ls h hl
      obtain ⟨z6, h, hL6, hR6⟩ := iter_split h
      unfold f3_reachedBy_L6 at h
      refine lv_iload hx hb dX3_reachedBy_6 (lv_at hl 5 rfl) ?_
      refine lv_aload_n hx hb dX3_reachedBy_8 rfl (lv_at hl 0 rfl) ?_
      refine va_get (D := D) (ci := 3) (v := .ref (a_sh 5)) (C := "ConstraintText$Sheet") (T := TX3) (N := 10) hx hb hts ing3 hown hK hP 0 rfl rfl 4 (by decide) (hts _ tw_187) (fun _ h9 => h9) rfl dX3_reachedBy_9 ?_
      refine lv_iload_n hx hb dX3_reachedBy_12 rfl (lv_at hl 1 rfl) ?_
      obtain ⟨g13, h⟩ := grd_some h
      refine va_iald hx hb hK hP 5 0 rfl rfl (inb_in g13) dX3_reachedBy_13 ?_
      refine lv_icmp_ge (tgt := 99) hx hb dX3_reachedBy_14 (by decide) (fun bc => ?_) (fun bc => ?_)
      · have h := ite_t bc h
        obtain rfl := Option.some.inj h
        exact x99w _ ls (eq_some_app (hR6 _ rfl) hc6) (lv_sub hl [4] rfl)
      · have h := ite_f bc h
        refine lv_aload_n hx hb dX3_reachedBy_17 rfl (lv_at hl 0 rfl) ?_
        refine lv_aload_n hx hb dX3_reachedBy_18 rfl (lv_at hl 0 rfl) ?_
        refine va_get (D := D) (ci := 3) (v := .ref (a_sh 4)) (C := "ConstraintText$Sheet") (T := TX3) (N := 10) hx hb hts ing3 hown hK hP 0 rfl rfl 3 (by decide) (hts _ tw_186) (fun _ h9 => h9) rfl dX3_reachedBy_19 ?_
        refine lv_iload_n hx hb dX3_reachedBy_22 rfl (lv_at hl 1 rfl) ?_
        obtain ⟨g23, h⟩ := grd_some h
        refine va_iald hx hb hK hP 4 0 rfl rfl (inb_in g23) dX3_reachedBy_23 ?_
        refine lv_iload hx hb dX3_reachedBy_24 (lv_at hl 5 rfl) ?_
        refine lv_iadd hx hb dX3_reachedBy_26 ?_
        obtain ⟨u27, hc_27, h⟩ := bnd_some h
        refine ro_V (n := 1) (As := [.int ((sh.2.2.2.1 p1.toNatClampNeg) + s6.2)]) (rest := []) hx hb hml hown hts hN va_S.rf hK hP (c3_printedAt l D kA a_sh a_ck ((sh.2.2.2.1 p1.toNatClampNeg) + s6.2) sh u27 hc_27) [0, 1, 2, 3, 4, 5, 6, 7] rfl 0 3 rfl rfl rfl tw_407 tw_408 tw_409 tw_77 tw_410 rfl rfl (by decide) ⟨Nat.le_of_ble_eq_true rfl, Nat.le_of_ble_eq_true rfl⟩ rfl hl.1 rfl (Nat.le_of_ble_eq_true rfl) dX3_reachedBy_27 ⟨Nat.le_of_ble_eq_true rfl, Nat.le_of_ble_eq_true rfl⟩ ?_
        refine lv_istore (lv' := [(6, .int u27), (0, .ref (a_sh 0)), (1, .int p1), (2, .int p2), (3, .int p3), (4, .int s6.1), (5, .int s6.2)]) hx hb dX3_reachedBy_30 hl (by decide) rfl (fun ls hl => ?_)
        refine lv_iload_n hx hb dX3_reachedBy_32 rfl (lv_at hl 3 rfl) ?_
        refine lv_iconst (v := 1) hx hb dX3_reachedBy_33 (by decide) ?_
        refine lv_iload hx hb dX3_reachedBy_34 (lv_at hl 6 rfl) ?_
        refine lv_ishl hx hb dX3_reachedBy_36 ?_
        refine lv_iand hx hb dX3_reachedBy_37 ?_
        refine lv_istore (lv' := [(7, .int (p2 &&& ((1 : Int32) <<< (s6.2 &&& 31)))), (6, .int u27), (0, .ref (a_sh 0)), (1, .int p1), (2, .int p2), (3, .int p3), (4, .int s6.1), (5, .int s6.2)]) hx hb dX3_reachedBy_38 hl (by decide) rfl (fun ls hl => ?_)
        refine lv_iload hx hb dX3_reachedBy_40 (lv_at hl 1 rfl) ?_
        refine lv_bipush (v := 42) hx hb dX3_reachedBy_42 (by decide) ?_
        obtain ⟨k93, hk93, h⟩ := jn_name h
        have j93 : ∀ (v93 : Int32) (ls : Array Slot), k93 v93 = some z6 → lv_has ls 8 [(0, .ref (a_sh 0)), (1, .int p1), (2, .int p2), (3, .int p3), (4, .int v93), (5, .int s6.2)] → W p l e rm3_reachedBy s m args below meth c s.heap [] 0 0 Q (F0 m 93 ls []) := by
          intro v93 ls h hl
          have h := app_of hk93 h
          refine lv_iinc (v := (s6.2 + (1 : Int32))) (lv' := [(5, .int (s6.2 + (1 : Int32))), (0, .ref (a_sh 0)), (1, .int p1), (2, .int p2), (3, .int p3), (4, .int v93)]) hx hb dX3_reachedBy_93 hl (k := 5) rfl rfl (by decide) rfl (fun ls hl => ?_)
          refine lv_goto (tgt := 6) hx hb dX3_reachedBy_96 (by decide) ?_
          obtain rfl := Option.some.inj h
          exact ih6 _ ls (hL6 _ rfl) (lv_sub hl [1, 2, 3, 4, 5, 0] rfl)
        refine lv_icmp_ne (tgt := 71) hx hb dX3_reachedBy_44 (by decide) (fun bc => ?_) (fun bc => ?_)
        · have h := ite_f bc h
          refine lv_iload hx hb dX3_reachedBy_71 (lv_at hl 1 rfl) ?_
          refine lv_bipush (v := 63) hx hb dX3_reachedBy_73 (by decide) ?_
          obtain ⟨k84, hk84, h⟩ := jn_name h
          have j84 : ∀ (v84 : Unit) (ls : Array Slot), k84 v84 = some z6 → lv_has ls 8 [(0, .ref (a_sh 0)), (1, .int p1), (2, .int p2), (3, .int p3), (4, .int s6.1), (5, .int s6.2), (7, .int (p2 &&& ((1 : Int32) <<< (s6.2 &&& 31))))] → W p l e rm3_reachedBy s m args below meth c s.heap [] 0 0 Q (F0 m 84 ls []) := by
            intro v84 ls h hl
            have h := app_of hk84 h
            refine lv_iload hx hb dX3_reachedBy_84 (lv_at hl 4 rfl) ?_
            refine lv_iload hx hb dX3_reachedBy_86 (lv_at hl 6 rfl) ?_
            refine lv_iconst (v := 1) hx hb dX3_reachedBy_88 (by decide) ?_
            refine lv_ishl hx hb dX3_reachedBy_89 ?_
            refine lv_ior hx hb dX3_reachedBy_90 ?_
            refine lv_istore (lv' := [(4, .int (s6.1 ||| ((p2 &&& ((1 : Int32) <<< (s6.2 &&& 31))) <<< ((1 : Int32) &&& 31)))), (0, .ref (a_sh 0)), (1, .int p1), (2, .int p2), (3, .int p3), (5, .int s6.2), (7, .int (p2 &&& ((1 : Int32) <<< (s6.2 &&& 31))))]) hx hb dX3_reachedBy_91 hl (by decide) rfl (fun ls hl => ?_)
            exact j93 _ ls h (lv_sub hl [1, 2, 3, 4, 0, 5] rfl)
          refine lv_icmp_eq (tgt := 84) hx hb dX3_reachedBy_75 (by decide) (fun bc => ?_) (fun bc => ?_)
          · have h := ite_t bc h
            exact j84 _ ls h (lv_sub hl [2, 3, 4, 5, 6, 7, 0] rfl)
          · have h := ite_f bc h
            refine lv_iload hx hb dX3_reachedBy_78 (lv_at hl 1 rfl) ?_
            refine lv_iload_n hx hb dX3_reachedBy_80 rfl (lv_at hl 5 rfl) ?_
            refine lv_icmp_ne (tgt := 93) hx hb dX3_reachedBy_81 (by decide) (fun bc => ?_) (fun bc => ?_)
            · have h := ite_f bc h
              exact j93 _ ls h (lv_sub hl [2, 3, 4, 5, 6, 7] rfl)
            · have h := ite_t bc h
              exact j84 _ ls h (lv_sub hl [2, 3, 4, 5, 6, 7, 0] rfl)
        · have h := ite_t bc h
          refine lv_iload hx hb dX3_reachedBy_47 (lv_at hl 6 rfl) ?_
          refine lv_iload hx hb dX3_reachedBy_49 (lv_at hl 0 rfl) ?_
          refine lv_ior hx hb dX3_reachedBy_51 ?_
          refine lv_istore (lv' := [(4, .int (s6.1 ||| (p2 &&& ((1 : Int32) <<< (s6.2 &&& 31))))), (7, .int (p2 &&& ((1 : Int32) <<< (s6.2 &&& 31)))), (6, .int u27), (0, .ref (a_sh 0)), (1, .int p1), (2, .int p2), (3, .int p3), (5, .int s6.2)]) hx hb dX3_reachedBy_52 hl (by decide) rfl (fun ls hl => ?_)
          refine lv_iload hx hb dX3_reachedBy_54 (lv_at hl 0 rfl) ?_
          refine lv_iload hx hb dX3_reachedBy_56 (lv_at hl 0 rfl) ?_
          refine lv_iconst (v := 1) hx hb dX3_reachedBy_58 (by decide) ?_
          refine lv_iload hx hb dX3_reachedBy_59 (lv_at hl 7 rfl) ?_
          refine lv_ishl hx hb dX3_reachedBy_61 ?_
          refine lv_iand hx hb dX3_reachedBy_62 ?_
          refine lv_iconst (v := 1) hx hb dX3_reachedBy_63 (by decide) ?_
          refine lv_ishl hx hb dX3_reachedBy_64 ?_
          refine lv_ior hx hb dX3_reachedBy_65 ?_
          refine lv_istore (lv' := [(4, .int ((s6.1 ||| (p2 &&& ((1 : Int32) <<< (s6.2 &&& 31)))) ||| (((s6.1 ||| (p2 &&& ((1 : Int32) <<< (s6.2 &&& 31)))) &&& ((1 : Int32) <<< (s6.2 &&& 31))) <<< ((1 : Int32) &&& 31)))), (7, .int (p2 &&& ((1 : Int32) <<< (s6.2 &&& 31)))), (6, .int u27), (0, .ref (a_sh 0)), (1, .int p1), (2, .int p2), (3, .int p3), (5, .int s6.2)]) hx hb dX3_reachedBy_66 hl (by decide) rfl (fun ls hl => ?_)
          refine lv_goto (tgt := 93) hx hb dX3_reachedBy_68 (by decide) ?_
          exact j93 _ ls h (lv_sub hl [3, 4, 5, 6, 0, 7] rfl)
  exact lp6 F ((0 : Int32), (0 : Int32)) ls hi6 (lv_sub hl [2, 3, 4, 5, 1, 0] rfl)
abbrev rm3_fits : Room := { frames := 3, cells := 0, slots := 0, locals := 63 }
set_option maxHeartbeats 4000000 in
set_option maxRecDepth 100000 in
theorem c3_fits (l : Launch) (D : va_G) (kA : Nat → ClassId) (a_pn : Nat → Nat) (a_sh : Nat → Nat) (a_ck : Nat → Nat) (F : Nat) (p1 : Int32) (p3 : Int32) (pn : T1) (sh : T3) (res : Int32) (h : f3_fits F p1 p3 pn sh = some res) : Ro l yX3_fits cX3_fits 7 (some .boolean) rm3_fits D kA [.ref (a_sh 0), .int p1, .ref (a_pn 0), .int p3] [(a_pn 0, .inr (1, [.ref (a_pn 1), .ref (a_pn 2)])), (a_pn 1, .inl (kA 1, 640, .inl pn.1)), (a_pn 2, .inl (kA 0, 40, .inl pn.2)), (a_sh 0, .inr (3, [.ref (a_sh 1), .ref (a_sh 2), .ref (a_sh 3), .ref (a_sh 4), .ref (a_sh 5), .ref (a_sh 6), .ref (a_sh 7), .ref (a_ck 0), .int sh.2.2.2.2.2.2.2.1, .int sh.2.2.2.2.2.2.2.2])), (a_sh 1, .inl (kA 0, 40, .inl sh.1)), (a_sh 2, .inl (kA 0, 40, .inl sh.2.1)), (a_sh 3, .inl (kA 0, 80, .inl sh.2.2.1)), (a_sh 4, .inl (kA 0, 120, .inl sh.2.2.2.1)), (a_sh 5, .inl (kA 0, 120, .inl sh.2.2.2.2.1)), (a_sh 6, .inl (kA 2, 120, .inr (.inl sh.2.2.2.2.2.1))), (a_sh 7, .inl (kA 1, 1240, .inl sh.2.2.2.2.2.2.1))] (.int res) := by
  refine Ro.of (by decide +kernel) (Nat.le_of_ble_eq_true rfl) ?_
  intro p e s m args below meth c hF hP hK ls hl
  generalize hQ : roQ below _ args s = Q
  obtain ⟨hx, hb, hml, hown, hr, hk, hts, hN⟩ := hF
  have hl : lv_has ls 7 [(0, .ref (a_sh 0)), (1, .int p1), (2, .ref (a_pn 0)), (3, .int p3)] := hl
  unfold f3_fits at h
  refine lv_aload_n hx hb dX3_fits_0 rfl (lv_at hl 2 rfl) ?_
  refine lv_iload_n hx hb dX3_fits_1 rfl (lv_at hl 3 rfl) ?_
  obtain ⟨u2, hc_2, h⟩ := bnd_some h
  refine ro_V (n := 1) (As := [.int p3]) (rest := []) hx hb hml hown hts hN va_S.rf hK hP (c1_lengthOf l D kA a_pn p3 pn u2 hc_2) [0, 1, 2] rfl 0 1 rfl rfl rfl tw_583 tw_584 tw_585 tw_79 tw_586 rfl rfl (by decide) ⟨Nat.le_of_ble_eq_true rfl, Nat.le_of_ble_eq_true rfl⟩ rfl hl.1 rfl (Nat.le_of_ble_eq_true rfl) dX3_fits_2 ⟨Nat.le_of_ble_eq_true rfl, Nat.le_of_ble_eq_true rfl⟩ ?_
  refine lv_istore (lv' := [(4, .int u2), (0, .ref (a_sh 0)), (1, .int p1), (2, .ref (a_pn 0)), (3, .int p3)]) hx hb dX3_fits_5 hl (by decide) rfl (fun ls hl => ?_)
  refine lv_iload hx hb dX3_fits_7 (lv_at hl 0 rfl) ?_
  refine lv_if_ne (tgt := 14) hx hb dX3_fits_9 (by decide) (fun bc => ?_) (fun bc => ?_)
  · have h := ite_f bc h
    refine lv_aload_n hx hb dX3_fits_14 rfl (lv_at hl 1 rfl) ?_
    refine lv_iload_n hx hb dX3_fits_15 rfl (lv_at hl 2 rfl) ?_
    obtain ⟨u16, hc_16, h⟩ := bnd_some h
    refine ro_V (n := 1) (As := [.int p1]) (rest := []) hx hb hml hown hts hN va_S.rf hK hP (c3_reachedByStars l D kA a_sh a_ck F p1 sh u16 hc_16) [3, 4, 5, 6, 7, 8, 9, 10] rfl 3 3 rfl rfl rfl tw_590 tw_592 tw_28 tw_77 tw_593 rfl rfl (by decide) ⟨Nat.le_of_ble_eq_true rfl, Nat.le_of_ble_eq_true rfl⟩ rfl hl.1 rfl (Nat.le_of_ble_eq_true rfl) dX3_fits_16 ⟨Nat.le_of_ble_eq_true rfl, Nat.le_of_ble_eq_true rfl⟩ ?_
    refine lv_istore (lv' := [(5, .int u16), (4, .int u2), (0, .ref (a_sh 0)), (1, .int p1), (2, .ref (a_pn 0)), (3, .int p3)]) hx hb dX3_fits_19 hl (by decide) rfl (fun ls hl => ?_)
    refine lv_iconst (v := 0) hx hb dX3_fits_21 (by decide) ?_
    refine lv_istore (lv' := [(6, .int (0 : Int32)), (5, .int u16), (4, .int u2), (0, .ref (a_sh 0)), (1, .int p1), (2, .ref (a_pn 0)), (3, .int p3)]) hx hb dX3_fits_22 hl (by decide) rfl (fun ls hl => ?_)
    obtain ⟨k24, e24, hk24, hi24, hc24⟩ := bnd_name h
    have x58w : ∀ (x58 : Int32) (ls : Array Slot), k24 x58 = some res → lv_has ls 7 [(0, .ref (a_sh 0)), (1, .int p1), (5, .int x58)] → W p l e rm3_fits s m args below meth c s.heap [] 0 0 Q (F0 m 58 ls []) := by
      intro x58 ls h hl
      have h := app_of hk24 h
      refine lv_iload hx hb dX3_fits_58 (lv_at hl 2 rfl) ?_
      refine lv_aload_n hx hb dX3_fits_60 rfl (lv_at hl 0 rfl) ?_
      refine va_get (D := D) (ci := 3) (v := .ref (a_sh 5)) (C := "ConstraintText$Sheet") (T := TX3) (N := 10) hx hb hts ing3 hown hK hP 3 rfl rfl 4 (by decide) (hts _ tw_187) (fun _ h9 => h9) rfl dX3_fits_61 ?_
      refine lv_iload_n hx hb dX3_fits_64 rfl (lv_at hl 1 rfl) ?_
      obtain ⟨g65, h⟩ := grd_some h
      refine va_iald hx hb hK hP 8 0 rfl rfl (inb_in g65) dX3_fits_65 ?_
      refine lv_ishr hx hb dX3_fits_66 ?_
      refine lv_iconst (v := 1) hx hb dX3_fits_67 (by decide) ?_
      refine lv_iand hx hb dX3_fits_68 ?_
      refine lv_iconst (v := 1) hx hb dX3_fits_69 (by decide) ?_
      refine lv_icmp_ne (tgt := 77) hx hb dX3_fits_70 (by decide) (fun bc => ?_) (fun bc => ?_)
      · have h := ite_f bc h
        refine lv_iconst (v := 0) hx hb dX3_fits_77 (by decide) ?_
        obtain rfl := Option.some.inj h
        rw [← hQ]
        exact ro_zreturn hx hb hr hk nz_Z0 dX3_fits_78
      · have h := ite_t bc h
        refine lv_iconst (v := 1) hx hb dX3_fits_73 (by decide) ?_
        refine lv_goto (tgt := 78) hx hb dX3_fits_74 (by decide) ?_
        obtain rfl := Option.some.inj h
        rw [← hQ]
        exact ro_zreturn hx hb hr hk nz_Z1 dX3_fits_78
    have lp24 : ∀ (n24 : Nat) (s24 : Int32 × Int32) (ls : Array Slot), iter (f3_fits_L24 F p1 p3 pn sh u2) n24 s24 = some e24 → lv_has ls 7 [(0, .ref (a_sh 0)), (1, .int p1), (2, .ref (a_pn 0)), (3, .int p3), (4, .int u2), (5, .int s24.1), (6, .int s24.2)] → W p l e rm3_fits s m args below meth c s.heap [] 0 0 Q (F0 m 24 ls []) := by
      intro n24
      induction n24 with
      | zero =>
        intro s24 ls h hl
        exact (iter_zero h).elim
      | succ n24 ih24 =>
        intro s24 ls h hl
        obtain ⟨z24, h, hL24, hR24⟩ := iter_split h
        unfold f3_fits_L24 at h
        refine lv_iload hx hb dX3_fits_24 (lv_at hl 6 rfl) ?_
        refine lv_iload hx hb dX3_fits_26 (lv_at hl 4 rfl) ?_
        refine lv_icmp_ge (tgt := 58) hx hb dX3_fits_28 (by decide) (fun bc => ?_) (fun bc => ?_)
        · have h := ite_t bc h
          obtain rfl := Option.some.inj h
          exact x58w _ ls (eq_some_app (hR24 _ rfl) hc24) (lv_sub hl [0, 1, 5] rfl)
        · have h := ite_f bc h
          refine lv_iload hx hb dX3_fits_31 (lv_at hl 5 rfl) ?_
          refine lv_if_eq (tgt := 58) hx hb dX3_fits_33 (by decide) (fun bc => ?_) (fun bc => ?_)
          · have h := ite_t bc h
            obtain rfl := Option.some.inj h
            exact x58w _ ls (eq_some_app (hR24 _ rfl) hc24) (lv_sub hl [0, 1, 5] rfl)
          · have h := ite_f bc h
            refine lv_aload_n hx hb dX3_fits_36 rfl (lv_at hl 0 rfl) ?_
            refine lv_iload_n hx hb dX3_fits_37 rfl (lv_at hl 1 rfl) ?_
            refine lv_iload hx hb dX3_fits_38 (lv_at hl 5 rfl) ?_
            refine lv_aload_n hx hb dX3_fits_40 rfl (lv_at hl 2 rfl) ?_
            refine lv_iload_n hx hb dX3_fits_41 rfl (lv_at hl 3 rfl) ?_
            refine lv_iload hx hb dX3_fits_42 (lv_at hl 6 rfl) ?_
            obtain ⟨u44, hc_44, h⟩ := bnd_some h
            refine ro_V (n := 2) (As := [.int p3, .int s24.2]) (rest := [.int s24.1, .int p1, .ref (a_sh 0)]) hx hb hml hown hts hN va_S.rf hK hP (c1_at l D kA a_pn p3 s24.2 pn u44 hc_44) [0, 1, 2] rfl 0 1 rfl rfl rfl tw_594 tw_595 tw_596 tw_79 tw_597 rfl rfl (by decide) ⟨Nat.le_of_ble_eq_true rfl, Nat.le_of_ble_eq_true rfl⟩ rfl hl.1 rfl (Nat.le_of_ble_eq_true rfl) dX3_fits_44 ⟨Nat.le_of_ble_eq_true rfl, Nat.le_of_ble_eq_true rfl⟩ ?_
            obtain ⟨u47, hc_47, h⟩ := bnd_some h
            refine ro_V (n := 3) (As := [.int p1, .int s24.1, .int u44]) (rest := []) hx hb hml hown hts hN va_S.rf hK hP (c3_reachedBy l D kA a_sh a_ck F p1 s24.1 u44 sh u47 hc_47) [3, 4, 5, 6, 7, 8, 9, 10] rfl 3 3 rfl rfl rfl tw_599 tw_601 tw_29 tw_77 tw_602 rfl rfl (by decide) ⟨Nat.le_of_ble_eq_true rfl, Nat.le_of_ble_eq_true rfl⟩ rfl hl.1 rfl (Nat.le_of_ble_eq_true rfl) dX3_fits_47 ⟨Nat.le_of_ble_eq_true rfl, Nat.le_of_ble_eq_true rfl⟩ ?_
            refine lv_istore (lv' := [(5, .int u47), (0, .ref (a_sh 0)), (1, .int p1), (2, .ref (a_pn 0)), (3, .int p3), (4, .int u2), (6, .int s24.2)]) hx hb dX3_fits_50 hl (by decide) rfl (fun ls hl => ?_)
            refine lv_iinc (v := (s24.2 + (1 : Int32))) (lv' := [(6, .int (s24.2 + (1 : Int32))), (5, .int u47), (0, .ref (a_sh 0)), (1, .int p1), (2, .ref (a_pn 0)), (3, .int p3), (4, .int u2)]) hx hb dX3_fits_52 hl (k := 6) rfl rfl (by decide) rfl (fun ls hl => ?_)
            refine lv_goto (tgt := 24) hx hb dX3_fits_55 (by decide) ?_
            obtain rfl := Option.some.inj h
            exact ih24 _ ls (hL24 _ rfl) (lv_sub hl [2, 3, 4, 5, 6, 1, 0] rfl)
    exact lp24 F (u16, (0 : Int32)) ls hi24 (lv_sub hl [3, 4, 5, 6, 2, 1, 0] rfl)
  · have h := ite_t bc h
    refine lv_iconst (v := 0) hx hb dX3_fits_12 (by decide) ?_
    obtain rfl := Option.some.inj h
    rw [← hQ]
    exact ro_zreturn hx hb hr hk nz_Z0 dX3_fits_13
abbrev rm3_matchPin : Room := { frames := 4, cells := 0, slots := 0, locals := 89 }
set_option maxHeartbeats 4000000 in
set_option maxRecDepth 100000 in
theorem c3_matchPin (l : Launch) (D : va_G) (kA : Nat → ClassId) (a_sh : Nat → Nat) (a_pn : Nat → Nat) (a_ck : Nat → Nat) (F : Nat) (p2 : Int32) (sh : T3) (pn : T1) (res : T3) (h : f3_matchPin F p2 sh pn = some res) : Rw l yX3_matchPin cX3_matchPin 6 none rm3_matchPin D kA [.ref (a_sh 0), .ref (a_pn 0), .int p2] [(a_sh 0, .inr (3, [.ref (a_sh 1), .ref (a_sh 2), .ref (a_sh 3), .ref (a_sh 4), .ref (a_sh 5), .ref (a_sh 6), .ref (a_sh 7), .ref (a_ck 0), .int sh.2.2.2.2.2.2.2.1, .int sh.2.2.2.2.2.2.2.2])), (a_sh 1, .inl (kA 0, 40, .inl sh.1)), (a_sh 2, .inl (kA 0, 40, .inl sh.2.1)), (a_sh 3, .inl (kA 0, 80, .inl sh.2.2.1)), (a_sh 4, .inl (kA 0, 120, .inl sh.2.2.2.1)), (a_sh 5, .inl (kA 0, 120, .inl sh.2.2.2.2.1)), (a_sh 6, .inl (kA 2, 120, .inr (.inl sh.2.2.2.2.2.1))), (a_sh 7, .inl (kA 1, 1240, .inl sh.2.2.2.2.2.2.1)), (a_pn 0, .inr (1, [.ref (a_pn 1), .ref (a_pn 2)])), (a_pn 1, .inl (kA 1, 640, .inl pn.1)), (a_pn 2, .inl (kA 0, 40, .inl pn.2))] none [(a_sh 0, .inr (3, [.ref (a_sh 1), .ref (a_sh 2), .ref (a_sh 3), .ref (a_sh 4), .ref (a_sh 5), .ref (a_sh 6), .ref (a_sh 7), .ref (a_ck 0), .int res.2.2.2.2.2.2.2.1, .int res.2.2.2.2.2.2.2.2])), (a_sh 1, .inl (kA 0, 40, .inl res.1)), (a_sh 2, .inl (kA 0, 40, .inl res.2.1)), (a_sh 3, .inl (kA 0, 80, .inl res.2.2.1)), (a_sh 4, .inl (kA 0, 120, .inl res.2.2.2.1)), (a_sh 5, .inl (kA 0, 120, .inl res.2.2.2.2.1)), (a_sh 6, .inl (kA 2, 120, .inr (.inl res.2.2.2.2.2.1))), (a_sh 7, .inl (kA 1, 1240, .inl res.2.2.2.2.2.2.1)), (a_pn 0, .inr (1, [.ref (a_pn 1), .ref (a_pn 2)])), (a_pn 1, .inl (kA 1, 640, .inl pn.1)), (a_pn 2, .inl (kA 0, 40, .inl pn.2))] := by
  refine Rw.of (by decide) (Nat.le_of_ble_eq_true rfl) ?_
  intro p e s m args below meth c A hF hP hD hS hA hK ls hl
  generalize hQ : rwQ below D A _ _ args s = Q
  obtain ⟨hx, hb, hml, hown, hr, hk, hts, hN⟩ := hF
  have hl : lv_has ls 6 [(0, .ref (a_sh 0)), (1, .ref (a_pn 0)), (2, .int p2)] := hl
  unfold f3_matchPin at h
  refine lv_iconst (v := 0) hx hb dX3_matchPin_0 (by decide) ?_
  refine lv_istore_n (lv' := [(3, .int (0 : Int32)), (0, .ref (a_sh 0)), (1, .ref (a_pn 0)), (2, .int p2)]) hx hb dX3_matchPin_1 rfl hl (by decide) rfl (fun ls hl => ?_)
  obtain ⟨k2, e2, hk2, hi2, hc2⟩ := bnd_name h
  have x70w : ∀ (x70 : T3) (H : Heap) (locs : List Loc) (ls : Array Slot), k2 x70 = some res → va_P D vwCl [(a_sh 0, .inr (3, [.ref (a_sh 1), .ref (a_sh 2), .ref (a_sh 3), .ref (a_sh 4), .ref (a_sh 5), .ref (a_sh 6), .ref (a_sh 7), .ref (a_ck 0), .int x70.2.2.2.2.2.2.2.1, .int x70.2.2.2.2.2.2.2.2])), (a_sh 1, .inl (kA 0, 40, .inl x70.1)), (a_sh 2, .inl (kA 0, 40, .inl x70.2.1)), (a_sh 3, .inl (kA 0, 80, .inl x70.2.2.1)), (a_sh 4, .inl (kA 0, 120, .inl x70.2.2.2.1)), (a_sh 5, .inl (kA 0, 120, .inl x70.2.2.2.2.1)), (a_sh 6, .inl (kA 2, 120, .inr (.inl x70.2.2.2.2.2.1))), (a_sh 7, .inl (kA 1, 1240, .inl x70.2.2.2.2.2.2.1)), (a_pn 0, .inr (1, [.ref (a_pn 1), .ref (a_pn 2)])), (a_pn 1, .inl (kA 1, 640, .inl pn.1)), (a_pn 2, .inl (kA 0, 40, .inl pn.2))] H → va_D A [(a_sh 0, .inr (3, [.ref (a_sh 1), .ref (a_sh 2), .ref (a_sh 3), .ref (a_sh 4), .ref (a_sh 5), .ref (a_sh 6), .ref (a_sh 7), .ref (a_ck 0), .int x70.2.2.2.2.2.2.2.1, .int x70.2.2.2.2.2.2.2.2])), (a_sh 1, .inl (kA 0, 40, .inl x70.1)), (a_sh 2, .inl (kA 0, 40, .inl x70.2.1)), (a_sh 3, .inl (kA 0, 80, .inl x70.2.2.1)), (a_sh 4, .inl (kA 0, 120, .inl x70.2.2.2.1)), (a_sh 5, .inl (kA 0, 120, .inl x70.2.2.2.2.1)), (a_sh 6, .inl (kA 2, 120, .inr (.inl x70.2.2.2.2.2.1))), (a_sh 7, .inl (kA 1, 1240, .inl x70.2.2.2.2.2.2.1)), (a_pn 0, .inr (1, [.ref (a_pn 1), .ref (a_pn 2)])), (a_pn 1, .inl (kA 1, 640, .inl pn.1)), (a_pn 2, .inl (kA 0, 40, .inl pn.2))] → va_S A s.heap H locs → lv_has ls 6 [] → W p l e rm3_matchPin s m args below meth c H locs 0 0 Q (F0 m 70 ls []) := by
    intro x70 H locs ls h hP hD hS hl
    have h := app_of hk2 h
    obtain rfl := Option.some.inj h
    rw [← hQ]
    exact rw_return hx hb hr hk  dX3_matchPin_70  hP hD hS
  have lp2 : ∀ (n2 : Nat) (s2 : Int32 × T3) (H : Heap) (locs : List Loc) (ls : Array Slot), iter (f3_matchPin_L2 F p2 pn) n2 s2 = some e2 → va_P D vwCl [(a_sh 0, .inr (3, [.ref (a_sh 1), .ref (a_sh 2), .ref (a_sh 3), .ref (a_sh 4), .ref (a_sh 5), .ref (a_sh 6), .ref (a_sh 7), .ref (a_ck 0), .int s2.2.2.2.2.2.2.2.2.1, .int s2.2.2.2.2.2.2.2.2.2])), (a_sh 1, .inl (kA 0, 40, .inl s2.2.1)), (a_sh 2, .inl (kA 0, 40, .inl s2.2.2.1)), (a_sh 3, .inl (kA 0, 80, .inl s2.2.2.2.1)), (a_sh 4, .inl (kA 0, 120, .inl s2.2.2.2.2.1)), (a_sh 5, .inl (kA 0, 120, .inl s2.2.2.2.2.2.1)), (a_sh 6, .inl (kA 2, 120, .inr (.inl s2.2.2.2.2.2.2.1))), (a_sh 7, .inl (kA 1, 1240, .inl s2.2.2.2.2.2.2.2.1)), (a_pn 0, .inr (1, [.ref (a_pn 1), .ref (a_pn 2)])), (a_pn 1, .inl (kA 1, 640, .inl pn.1)), (a_pn 2, .inl (kA 0, 40, .inl pn.2))] H → va_D A [(a_sh 0, .inr (3, [.ref (a_sh 1), .ref (a_sh 2), .ref (a_sh 3), .ref (a_sh 4), .ref (a_sh 5), .ref (a_sh 6), .ref (a_sh 7), .ref (a_ck 0), .int s2.2.2.2.2.2.2.2.2.1, .int s2.2.2.2.2.2.2.2.2.2])), (a_sh 1, .inl (kA 0, 40, .inl s2.2.1)), (a_sh 2, .inl (kA 0, 40, .inl s2.2.2.1)), (a_sh 3, .inl (kA 0, 80, .inl s2.2.2.2.1)), (a_sh 4, .inl (kA 0, 120, .inl s2.2.2.2.2.1)), (a_sh 5, .inl (kA 0, 120, .inl s2.2.2.2.2.2.1)), (a_sh 6, .inl (kA 2, 120, .inr (.inl s2.2.2.2.2.2.2.1))), (a_sh 7, .inl (kA 1, 1240, .inl s2.2.2.2.2.2.2.2.1)), (a_pn 0, .inr (1, [.ref (a_pn 1), .ref (a_pn 2)])), (a_pn 1, .inl (kA 1, 640, .inl pn.1)), (a_pn 2, .inl (kA 0, 40, .inl pn.2))] → va_S A s.heap H locs → lv_has ls 6 [(0, .ref (a_sh 0)), (1, .ref (a_pn 0)), (2, .int p2), (3, .int s2.1)] → W p l e rm3_matchPin s m args below meth c H locs 0 0 Q (F0 m 2 ls []) := by
    intro n2
    induction n2 with
    | zero =>
      intro s2 H locs ls h hP hD hS hl
      exact (iter_zero h).elim
    | succ n2 ih2 =>
      intro s2 H locs ls h hP hD hS hl
      obtain ⟨z2, h, hL2, hR2⟩ := iter_split h
      unfold f3_matchPin_L2 at h
      refine lv_iload_n hx hb dX3_matchPin_2 rfl (lv_at hl 3 rfl) ?_
      refine lv_aload_n hx hb dX3_matchPin_3 rfl (lv_at hl 0 rfl) ?_
      refine va_get (D := D) (ci := 3) (v := .int s2.2.2.2.2.2.2.2.2.1) (C := "ConstraintText$Sheet") (T := TX3) (N := 10) hx hb hts ing3 hown hK hP 0 rfl rfl 8 (by decide) (hts _ tw_193) (fun _ h9 => h9) rfl dX3_matchPin_4 ?_
      refine lv_iconst (v := 3) hx hb dX3_matchPin_7 (by decide) ?_
      refine lv_imul hx hb dX3_matchPin_8 ?_
      refine lv_icmp_ge (tgt := 70) hx hb dX3_matchPin_9 (by decide) (fun bc => ?_) (fun bc => ?_)
      · have h := ite_t bc h
        obtain rfl := Option.some.inj h
        exact x70w _ _ _ ls (eq_some_app (hR2 _ rfl) hc2) hP hD hS (lv_sub hl [] rfl)
      · have h := ite_f bc h
        refine lv_aload_n hx hb dX3_matchPin_12 rfl (lv_at hl 0 rfl) ?_
        refine va_get (D := D) (ci := 3) (v := .ref (a_sh 5)) (C := "ConstraintText$Sheet") (T := TX3) (N := 10) hx hb hts ing3 hown hK hP 0 rfl rfl 4 (by decide) (hts _ tw_187) (fun _ h9 => h9) rfl dX3_matchPin_13 ?_
        refine lv_iload_n hx hb dX3_matchPin_16 rfl (lv_at hl 3 rfl) ?_
        obtain ⟨g17, h⟩ := grd_some h
        refine va_iald hx hb hK hP 5 0 rfl rfl (inb_in g17) dX3_matchPin_17 ?_
        obtain ⟨k64, hk64, h⟩ := jn_name h
        have j64 : ∀ (v64 : T3) (H : Heap) (locs : List Loc) (ls : Array Slot), k64 v64 = some z2 → va_P D vwCl [(a_sh 0, .inr (3, [.ref (a_sh 1), .ref (a_sh 2), .ref (a_sh 3), .ref (a_sh 4), .ref (a_sh 5), .ref (a_sh 6), .ref (a_sh 7), .ref (a_ck 0), .int v64.2.2.2.2.2.2.2.1, .int v64.2.2.2.2.2.2.2.2])), (a_sh 1, .inl (kA 0, 40, .inl v64.1)), (a_sh 2, .inl (kA 0, 40, .inl v64.2.1)), (a_sh 3, .inl (kA 0, 80, .inl v64.2.2.1)), (a_sh 4, .inl (kA 0, 120, .inl v64.2.2.2.1)), (a_sh 5, .inl (kA 0, 120, .inl v64.2.2.2.2.1)), (a_sh 6, .inl (kA 2, 120, .inr (.inl v64.2.2.2.2.2.1))), (a_sh 7, .inl (kA 1, 1240, .inl v64.2.2.2.2.2.2.1)), (a_pn 0, .inr (1, [.ref (a_pn 1), .ref (a_pn 2)])), (a_pn 1, .inl (kA 1, 640, .inl pn.1)), (a_pn 2, .inl (kA 0, 40, .inl pn.2))] H → va_D A [(a_sh 0, .inr (3, [.ref (a_sh 1), .ref (a_sh 2), .ref (a_sh 3), .ref (a_sh 4), .ref (a_sh 5), .ref (a_sh 6), .ref (a_sh 7), .ref (a_ck 0), .int v64.2.2.2.2.2.2.2.1, .int v64.2.2.2.2.2.2.2.2])), (a_sh 1, .inl (kA 0, 40, .inl v64.1)), (a_sh 2, .inl (kA 0, 40, .inl v64.2.1)), (a_sh 3, .inl (kA 0, 80, .inl v64.2.2.1)), (a_sh 4, .inl (kA 0, 120, .inl v64.2.2.2.1)), (a_sh 5, .inl (kA 0, 120, .inl v64.2.2.2.2.1)), (a_sh 6, .inl (kA 2, 120, .inr (.inl v64.2.2.2.2.2.1))), (a_sh 7, .inl (kA 1, 1240, .inl v64.2.2.2.2.2.2.1)), (a_pn 0, .inr (1, [.ref (a_pn 1), .ref (a_pn 2)])), (a_pn 1, .inl (kA 1, 640, .inl pn.1)), (a_pn 2, .inl (kA 0, 40, .inl pn.2))] → va_S A s.heap H locs → lv_has ls 6 [(0, .ref (a_sh 0)), (1, .ref (a_pn 0)), (2, .int p2), (3, .int s2.1)] → W p l e rm3_matchPin s m args below meth c H locs 0 0 Q (F0 m 64 ls []) := by
          intro v64 H locs ls h hP hD hS hl
          have h := app_of hk64 h
          refine lv_iinc (v := (s2.1 + (1 : Int32))) (lv' := [(3, .int (s2.1 + (1 : Int32))), (0, .ref (a_sh 0)), (1, .ref (a_pn 0)), (2, .int p2)]) hx hb dX3_matchPin_64 hl (k := 3) rfl rfl (by decide) rfl (fun ls hl => ?_)
          refine lv_goto (tgt := 2) hx hb dX3_matchPin_67 (by decide) ?_
          obtain rfl := Option.some.inj h
          exact ih2 _ _ _ ls (hL2 _ rfl) hP hD hS (lv_sub hl [1, 2, 3, 0] rfl)
        refine lv_if_le (tgt := 64) hx hb dX3_matchPin_18 (by decide) (fun bc => ?_) (fun bc => ?_)
        · have h := ite_t bc h
          exact j64 _ _ _ ls h hP hD hS hl
        · have h := ite_f bc h
          refine lv_aload_n hx hb dX3_matchPin_21 rfl (lv_at hl 0 rfl) ?_
          refine va_get (D := D) (ci := 3) (v := .ref (a_sh 6)) (C := "ConstraintText$Sheet") (T := TX3) (N := 10) hx hb hts ing3 hown hK hP 0 rfl rfl 5 (by decide) (hts _ tw_188) (fun _ h9 => h9) rfl dX3_matchPin_22 ?_
          refine lv_iload_n hx hb dX3_matchPin_25 rfl (lv_at hl 3 rfl) ?_
          obtain ⟨g26, h⟩ := grd_some h
          refine va_lald hx hb hK hP 6 2 rfl rfl (inb_in g26) dX3_matchPin_26 ?_
          refine lv_lconst (v := 1) hx hb dX3_matchPin_27 (by decide) ?_
          refine lv_iload_n hx hb dX3_matchPin_28 rfl (lv_at hl 2 rfl) ?_
          refine lv_lshl (v := (xlshl (1 : Int64) p2)) hx hb dX3_matchPin_29 rfl ?_
          refine lv_ldc2 (own := "ConstraintText$Sheet") (v := -1) hx hb hown (hts _ tw_578) dX3_matchPin_30 ?_
          refine lv_lxor hx hb dX3_matchPin_33 ?_
          refine lv_land hx hb dX3_matchPin_34 ?_
          refine lv_lstore (lv' := [(4, .long ((s2.2.2.2.2.2.2.1 s2.1.toNatClampNeg) &&& ((xlshl (1 : Int64) p2) ^^^ (-1 : Int64)))), (0, .ref (a_sh 0)), (1, .ref (a_pn 0)), (2, .int p2), (3, .int s2.1)]) hx hb dX3_matchPin_35 hl (by decide) rfl (fun ls hl => ?_)
          refine lv_aload_n hx hb dX3_matchPin_37 rfl (lv_at hl 1 rfl) ?_
          refine va_get (D := D) (ci := 3) (v := .ref (a_sh 6)) (C := "ConstraintText$Sheet") (T := TX3) (N := 10) hx hb hts ing3 hown hK hP 0 rfl rfl 5 (by decide) (hts _ tw_188) (fun _ h9 => h9) rfl dX3_matchPin_38 ?_
          refine lv_iload_n hx hb dX3_matchPin_41 rfl (lv_at hl 4 rfl) ?_
          refine lv_aload_n hx hb dX3_matchPin_42 rfl (lv_at hl 1 rfl) ?_
          refine lv_iload_n hx hb dX3_matchPin_43 rfl (lv_at hl 4 rfl) ?_
          refine lv_aload_n hx hb dX3_matchPin_44 rfl (lv_at hl 2 rfl) ?_
          refine lv_iload_n hx hb dX3_matchPin_45 rfl (lv_at hl 3 rfl) ?_
          obtain ⟨u46, hc_46, h⟩ := bnd_some h
          refine ro_V (n := 3) (As := [.int s2.1, .ref (a_pn 0), .int p2]) (rest := [.int s2.1, .ref (a_sh 6)]) hx hb hml hown hts hN hS hK hP (c3_fits l D kA a_pn a_sh a_ck F s2.1 p2 pn s2.2 u46 hc_46) [8, 9, 10, 0, 1, 2, 3, 4, 5, 6, 7] rfl 0 3 rfl rfl rfl tw_579 tw_581 tw_27 tw_77 tw_582 rfl rfl (by decide) ⟨Nat.le_of_ble_eq_true rfl, Nat.le_of_ble_eq_true rfl⟩ rfl hl.1 rfl (Nat.le_of_ble_eq_true rfl) dX3_matchPin_46 ⟨Nat.le_of_ble_eq_true rfl, Nat.le_of_ble_eq_true rfl⟩ ?_
          obtain ⟨k63, hk63, h⟩ := jn_name h
          have j63 : ∀ (v63 : Int64) (H : Heap) (locs : List Loc) (ls : Array Slot), k63 v63 = some z2 → va_P D vwCl [(a_sh 0, .inr (3, [.ref (a_sh 1), .ref (a_sh 2), .ref (a_sh 3), .ref (a_sh 4), .ref (a_sh 5), .ref (a_sh 6), .ref (a_sh 7), .ref (a_ck 0), .int s2.2.2.2.2.2.2.2.2.1, .int s2.2.2.2.2.2.2.2.2.2])), (a_sh 1, .inl (kA 0, 40, .inl s2.2.1)), (a_sh 2, .inl (kA 0, 40, .inl s2.2.2.1)), (a_sh 3, .inl (kA 0, 80, .inl s2.2.2.2.1)), (a_sh 4, .inl (kA 0, 120, .inl s2.2.2.2.2.1)), (a_sh 5, .inl (kA 0, 120, .inl s2.2.2.2.2.2.1)), (a_sh 6, .inl (kA 2, 120, .inr (.inl s2.2.2.2.2.2.2.1))), (a_sh 7, .inl (kA 1, 1240, .inl s2.2.2.2.2.2.2.2.1)), (a_pn 0, .inr (1, [.ref (a_pn 1), .ref (a_pn 2)])), (a_pn 1, .inl (kA 1, 640, .inl pn.1)), (a_pn 2, .inl (kA 0, 40, .inl pn.2))] H → va_D A [(a_sh 0, .inr (3, [.ref (a_sh 1), .ref (a_sh 2), .ref (a_sh 3), .ref (a_sh 4), .ref (a_sh 5), .ref (a_sh 6), .ref (a_sh 7), .ref (a_ck 0), .int s2.2.2.2.2.2.2.2.2.1, .int s2.2.2.2.2.2.2.2.2.2])), (a_sh 1, .inl (kA 0, 40, .inl s2.2.1)), (a_sh 2, .inl (kA 0, 40, .inl s2.2.2.1)), (a_sh 3, .inl (kA 0, 80, .inl s2.2.2.2.1)), (a_sh 4, .inl (kA 0, 120, .inl s2.2.2.2.2.1)), (a_sh 5, .inl (kA 0, 120, .inl s2.2.2.2.2.2.1)), (a_sh 6, .inl (kA 2, 120, .inr (.inl s2.2.2.2.2.2.2.1))), (a_sh 7, .inl (kA 1, 1240, .inl s2.2.2.2.2.2.2.2.1)), (a_pn 0, .inr (1, [.ref (a_pn 1), .ref (a_pn 2)])), (a_pn 1, .inl (kA 1, 640, .inl pn.1)), (a_pn 2, .inl (kA 0, 40, .inl pn.2))] → va_S A s.heap H locs → lv_has ls 6 [(0, .ref (a_sh 0)), (1, .ref (a_pn 0)), (2, .int p2), (3, .int s2.1)] → W p l e rm3_matchPin s m args below meth c H locs 0 0 Q (F0 m 63 ls [.long v63, .int s2.1, .ref (a_sh 6)]) := by
            intro v63 H locs ls h hP hD hS hl
            have h := app_of hk63 h
            obtain ⟨g63, h⟩ := grd_some h
            refine va_last hx hb hK hP hD hS 6 2 rfl rfl (inb_in g63) dX3_matchPin_63 (fun H locs hP hD hS => ?_)
            have hP : va_P D vwCl [(a_sh 0, .inr (3, [.ref (a_sh 1), .ref (a_sh 2), .ref (a_sh 3), .ref (a_sh 4), .ref (a_sh 5), .ref (a_sh 6), .ref (a_sh 7), .ref (a_ck 0), .int s2.2.2.2.2.2.2.2.2.1, .int s2.2.2.2.2.2.2.2.2.2])), (a_sh 1, .inl (kA 0, 40, .inl s2.2.1)), (a_sh 2, .inl (kA 0, 40, .inl s2.2.2.1)), (a_sh 3, .inl (kA 0, 80, .inl s2.2.2.2.1)), (a_sh 4, .inl (kA 0, 120, .inl s2.2.2.2.2.1)), (a_sh 5, .inl (kA 0, 120, .inl s2.2.2.2.2.2.1)), (a_sh 6, .inl (kA 2, 120, .inr (.inl (vp_updL s2.2.2.2.2.2.2.1 s2.1.toNatClampNeg v63)))), (a_sh 7, .inl (kA 1, 1240, .inl s2.2.2.2.2.2.2.2.1)), (a_pn 0, .inr (1, [.ref (a_pn 1), .ref (a_pn 2)])), (a_pn 1, .inl (kA 1, 640, .inl pn.1)), (a_pn 2, .inl (kA 0, 40, .inl pn.2))] H := hP
            have hD : va_D A [(a_sh 0, .inr (3, [.ref (a_sh 1), .ref (a_sh 2), .ref (a_sh 3), .ref (a_sh 4), .ref (a_sh 5), .ref (a_sh 6), .ref (a_sh 7), .ref (a_ck 0), .int s2.2.2.2.2.2.2.2.2.1, .int s2.2.2.2.2.2.2.2.2.2])), (a_sh 1, .inl (kA 0, 40, .inl s2.2.1)), (a_sh 2, .inl (kA 0, 40, .inl s2.2.2.1)), (a_sh 3, .inl (kA 0, 80, .inl s2.2.2.2.1)), (a_sh 4, .inl (kA 0, 120, .inl s2.2.2.2.2.1)), (a_sh 5, .inl (kA 0, 120, .inl s2.2.2.2.2.2.1)), (a_sh 6, .inl (kA 2, 120, .inr (.inl (vp_updL s2.2.2.2.2.2.2.1 s2.1.toNatClampNeg v63)))), (a_sh 7, .inl (kA 1, 1240, .inl s2.2.2.2.2.2.2.2.1)), (a_pn 0, .inr (1, [.ref (a_pn 1), .ref (a_pn 2)])), (a_pn 1, .inl (kA 1, 640, .inl pn.1)), (a_pn 2, .inl (kA 0, 40, .inl pn.2))] := hD
            exact j64 _ _ _ ls h hP hD hS hl
          refine lv_if_eq (tgt := 61) hx hb dX3_matchPin_49 (by decide) (fun bc => ?_) (fun bc => ?_)
          · have h := ite_t bc h
            refine lv_lload hx hb dX3_matchPin_61 (lv_at hl 0 rfl) ?_
            exact j63 _ _ _ ls h hP hD hS (lv_sub hl [1, 2, 3, 4] rfl)
          · have h := ite_f bc h
            refine lv_lload hx hb dX3_matchPin_52 (lv_at hl 0 rfl) ?_
            refine lv_lconst (v := 1) hx hb dX3_matchPin_54 (by decide) ?_
            refine lv_iload_n hx hb dX3_matchPin_55 rfl (lv_at hl 3 rfl) ?_
            refine lv_lshl (v := (xlshl (1 : Int64) p2)) hx hb dX3_matchPin_56 rfl ?_
            refine lv_lor hx hb dX3_matchPin_57 ?_
            refine lv_goto (tgt := 63) hx hb dX3_matchPin_58 (by decide) ?_
            exact j63 _ _ _ ls h hP hD hS (lv_sub hl [1, 2, 3, 4] rfl)
  exact lp2 F ((0 : Int32), sh) _ _ ls hi2 hP hD hS (lv_sub hl [1, 2, 3, 0] rfl)
abbrev rm3_saysApart : Room := { frames := 1, cells := 0, slots := 0, locals := 23 }
set_option maxHeartbeats 4000000 in
set_option maxRecDepth 100000 in
theorem c3_saysApart (l : Launch) (D : va_G) (kA : Nat → ClassId) (a_sh : Nat → Nat) (a_ck : Nat → Nat) (F : Nat) (p1 : Int32) (p2 : Int32) (sh : T3) (res : Int32) (h : f3_saysApart F p1 p2 sh = some res) : Ro l yX3_saysApart cX3_saysApart 6 (some .boolean) rm3_saysApart D kA [.ref (a_sh 0), .int p1, .int p2] [(a_sh 0, .inr (3, [.ref (a_sh 1), .ref (a_sh 2), .ref (a_sh 3), .ref (a_sh 4), .ref (a_sh 5), .ref (a_sh 6), .ref (a_sh 7), .ref (a_ck 0), .int sh.2.2.2.2.2.2.2.1, .int sh.2.2.2.2.2.2.2.2])), (a_sh 1, .inl (kA 0, 40, .inl sh.1)), (a_sh 2, .inl (kA 0, 40, .inl sh.2.1)), (a_sh 3, .inl (kA 0, 80, .inl sh.2.2.1)), (a_sh 4, .inl (kA 0, 120, .inl sh.2.2.2.1)), (a_sh 5, .inl (kA 0, 120, .inl sh.2.2.2.2.1)), (a_sh 6, .inl (kA 2, 120, .inr (.inl sh.2.2.2.2.2.1))), (a_sh 7, .inl (kA 1, 1240, .inl sh.2.2.2.2.2.2.1))] (.int res) := by
  refine Ro.of (by decide +kernel) (Nat.le_of_ble_eq_true rfl) ?_
  intro p e s m args below meth c hF hP hK ls hl
  generalize hQ : roQ below _ args s = Q
  obtain ⟨hx, hb, hml, hown, hr, hk, hts, hN⟩ := hF
  have hl : lv_has ls 6 [(0, .ref (a_sh 0)), (1, .int p1), (2, .int p2)] := hl
  unfold f3_saysApart at h
  refine lv_iconst (v := 1) hx hb dX3_saysApart_0 (by decide) ?_
  refine lv_istore_n (lv' := [(3, .int (1 : Int32)), (0, .ref (a_sh 0)), (1, .int p1), (2, .int p2)]) hx hb dX3_saysApart_1 rfl hl (by decide) rfl (fun ls hl => ?_)
  obtain ⟨k2, e2, hk2, hi2, hc2⟩ := bnd_name h
  have x62w : ∀ (x62 : Unit) (ls : Array Slot), k2 (.inl x62) = some res → lv_has ls 6 [] → W p l e rm3_saysApart s m args below meth c s.heap [] 0 0 Q (F0 m 62 ls []) := by
    intro x62 ls h hl
    have h := app_of hk2 h
    have h := cas_l h
    refine lv_iconst (v := 1) hx hb dX3_saysApart_62 (by decide) ?_
    obtain rfl := Option.some.inj h
    rw [← hQ]
    exact ro_zreturn hx hb hr hk nz_Z1 dX3_saysApart_63
  have x70w : ∀ (x70 : Unit) (ls : Array Slot), k2 (.inr x70) = some res → lv_has ls 6 [] → W p l e rm3_saysApart s m args below meth c s.heap [] 0 0 Q (F0 m 70 ls []) := by
    intro x70 ls h hl
    have h := app_of hk2 h
    have h := cas_r h
    refine lv_iconst (v := 0) hx hb dX3_saysApart_70 (by decide) ?_
    obtain rfl := Option.some.inj h
    rw [← hQ]
    exact ro_zreturn hx hb hr hk nz_Z0 dX3_saysApart_71
  have lp2 : ∀ (n2 : Nat) (s2 : Int32) (ls : Array Slot), iter (f3_saysApart_L2 p1 p2 sh) n2 s2 = some e2 → lv_has ls 6 [(0, .ref (a_sh 0)), (1, .int p1), (2, .int p2), (3, .int s2)] → W p l e rm3_saysApart s m args below meth c s.heap [] 0 0 Q (F0 m 2 ls []) := by
    intro n2
    induction n2 with
    | zero =>
      intro s2 ls h hl
      exact (iter_zero h).elim
    | succ n2 ih2 =>
      intro s2 ls h hl
      obtain ⟨z2, h, hL2, hR2⟩ := iter_split h
      unfold f3_saysApart_L2 at h
      refine lv_iload_n hx hb dX3_saysApart_2 rfl (lv_at hl 3 rfl) ?_
      refine lv_aload_n hx hb dX3_saysApart_3 rfl (lv_at hl 0 rfl) ?_
      refine va_get (D := D) (ci := 3) (v := .int sh.2.2.2.2.2.2.2.1) (C := "ConstraintText$Sheet") (T := TX3) (N := 10) hx hb hts ing3 hown hK hP 0 rfl rfl 8 (by decide) (hts _ tw_193) (fun _ h9 => h9) rfl dX3_saysApart_4 ?_
      refine lv_icmp_gt (tgt := 70) hx hb dX3_saysApart_7 (by decide) (fun bc => ?_) (fun bc => ?_)
      · have h := ite_t bc h
        obtain rfl := Option.some.inj h
        exact x70w _ ls (eq_some_app (hR2 _ rfl) hc2) (lv_sub hl [] rfl)
      · have h := ite_f bc h
        refine lv_aload_n hx hb dX3_saysApart_10 rfl (lv_at hl 0 rfl) ?_
        refine va_get (D := D) (ci := 3) (v := .ref (a_sh 1)) (C := "ConstraintText$Sheet") (T := TX3) (N := 10) hx hb hts ing3 hown hK hP 0 rfl rfl 0 (by decide) (hts _ tw_180) (fun _ h9 => h9) rfl dX3_saysApart_11 ?_
        refine lv_iload_n hx hb dX3_saysApart_14 rfl (lv_at hl 3 rfl) ?_
        refine lv_iconst (v := 1) hx hb dX3_saysApart_15 (by decide) ?_
        refine lv_isub hx hb dX3_saysApart_16 ?_
        obtain ⟨g17, h⟩ := grd_some h
        refine va_iald hx hb hK hP 1 0 rfl rfl (inb_in g17) dX3_saysApart_17 ?_
        refine lv_iconst (v := 3) hx hb dX3_saysApart_18 (by decide) ?_
        obtain ⟨k64, hk64, h⟩ := jn_name h
        have j64 : ∀ (v64 : Unit) (ls : Array Slot), k64 v64 = some z2 → lv_has ls 6 [(0, .ref (a_sh 0)), (1, .int p1), (2, .int p2), (3, .int s2)] → W p l e rm3_saysApart s m args below meth c s.heap [] 0 0 Q (F0 m 64 ls []) := by
          intro v64 ls h hl
          have h := app_of hk64 h
          refine lv_iinc (v := (s2 + (1 : Int32))) (lv' := [(3, .int (s2 + (1 : Int32))), (0, .ref (a_sh 0)), (1, .int p1), (2, .int p2)]) hx hb dX3_saysApart_64 hl (k := 3) rfl rfl (by decide) rfl (fun ls hl => ?_)
          refine lv_goto (tgt := 2) hx hb dX3_saysApart_67 (by decide) ?_
          obtain rfl := Option.some.inj h
          exact ih2 _ ls (hL2 _ rfl) (lv_sub hl [1, 2, 3, 0] rfl)
        refine lv_icmp_ne (tgt := 64) hx hb dX3_saysApart_19 (by decide) (fun bc => ?_) (fun bc => ?_)
        · have h := ite_f bc h
          exact j64 _ ls h hl
        · have h := ite_t bc h
          refine lv_aload_n hx hb dX3_saysApart_22 rfl (lv_at hl 0 rfl) ?_
          refine lv_iload_n hx hb dX3_saysApart_23 rfl (lv_at hl 3 rfl) ?_
          refine lv_iconst (v := 0) hx hb dX3_saysApart_24 (by decide) ?_
          obtain ⟨u25, hc_25, h⟩ := bnd_some h
          refine ro_V (n := 2) (As := [.int s2, .int (0 : Int32)]) (rest := []) hx hb hml hown hts hN va_S.rf hK hP (c3_linkOf l D kA a_sh a_ck s2 (0 : Int32) sh u25 hc_25) [0, 1, 2, 3, 4, 5, 6, 7] rfl 0 3 rfl rfl rfl tw_735 tw_539 tw_540 tw_77 tw_541 rfl rfl (by decide) ⟨Nat.le_of_ble_eq_true rfl, Nat.le_of_ble_eq_true rfl⟩ rfl hl.1 rfl (Nat.le_of_ble_eq_true rfl) dX3_saysApart_25 ⟨Nat.le_of_ble_eq_true rfl, Nat.le_of_ble_eq_true rfl⟩ ?_
          refine lv_istore (lv' := [(4, .int u25), (0, .ref (a_sh 0)), (1, .int p1), (2, .int p2), (3, .int s2)]) hx hb dX3_saysApart_28 hl (by decide) rfl (fun ls hl => ?_)
          refine lv_aload_n hx hb dX3_saysApart_30 rfl (lv_at hl 1 rfl) ?_
          refine lv_iload_n hx hb dX3_saysApart_31 rfl (lv_at hl 4 rfl) ?_
          refine lv_iconst (v := 1) hx hb dX3_saysApart_32 (by decide) ?_
          obtain ⟨u33, hc_33, h⟩ := bnd_some h
          refine ro_V (n := 2) (As := [.int s2, .int (1 : Int32)]) (rest := []) hx hb hml hown hts hN va_S.rf hK hP (c3_linkOf l D kA a_sh a_ck s2 (1 : Int32) sh u33 hc_33) [0, 1, 2, 3, 4, 5, 6, 7] rfl 0 3 rfl rfl rfl tw_735 tw_539 tw_540 tw_77 tw_541 rfl rfl (by decide) ⟨Nat.le_of_ble_eq_true rfl, Nat.le_of_ble_eq_true rfl⟩ rfl hl.1 rfl (Nat.le_of_ble_eq_true rfl) dX3_saysApart_33 ⟨Nat.le_of_ble_eq_true rfl, Nat.le_of_ble_eq_true rfl⟩ ?_
          refine lv_istore (lv' := [(5, .int u33), (4, .int u25), (0, .ref (a_sh 0)), (1, .int p1), (2, .int p2), (3, .int s2)]) hx hb dX3_saysApart_36 hl (by decide) rfl (fun ls hl => ?_)
          refine lv_iload hx hb dX3_saysApart_38 (lv_at hl 1 rfl) ?_
          refine lv_iload_n hx hb dX3_saysApart_40 rfl (lv_at hl 3 rfl) ?_
          obtain ⟨k50, hk50, h⟩ := jn_name h
          have j50 : ∀ (v50 : Unit) (ls : Array Slot), k50 v50 = some z2 → lv_has ls 6 [(0, .ref (a_sh 0)), (1, .int p1), (2, .int p2), (3, .int s2), (4, .int u25), (5, .int u33)] → W p l e rm3_saysApart s m args below meth c s.heap [] 0 0 Q (F0 m 50 ls []) := by
            intro v50 ls h hl
            have h := app_of hk50 h
            refine lv_iload hx hb dX3_saysApart_50 (lv_at hl 4 rfl) ?_
            refine lv_iload_n hx hb dX3_saysApart_52 rfl (lv_at hl 2 rfl) ?_
            refine lv_icmp_ne (tgt := 64) hx hb dX3_saysApart_53 (by decide) (fun bc => ?_) (fun bc => ?_)
            · have h := ite_f bc h
              exact j64 _ ls h (lv_sub hl [0, 1, 2, 3] rfl)
            · have h := ite_t bc h
              refine lv_iload hx hb dX3_saysApart_56 (lv_at hl 5 rfl) ?_
              refine lv_iload_n hx hb dX3_saysApart_58 rfl (lv_at hl 1 rfl) ?_
              refine lv_icmp_ne (tgt := 64) hx hb dX3_saysApart_59 (by decide) (fun bc => ?_) (fun bc => ?_)
              · have h := ite_f bc h
                exact j64 _ ls h (lv_sub hl [0, 1, 2, 3] rfl)
              · have h := ite_t bc h
                obtain rfl := Option.some.inj h
                exact x62w _ ls (eq_some_app (hR2 _ rfl) hc2) (lv_sub hl [] rfl)
          refine lv_icmp_ne (tgt := 50) hx hb dX3_saysApart_41 (by decide) (fun bc => ?_) (fun bc => ?_)
          · have h := ite_f bc h
            exact j50 _ ls h (lv_sub hl [2, 3, 4, 5, 1, 0] rfl)
          · have h := ite_t bc h
            refine lv_iload hx hb dX3_saysApart_44 (lv_at hl 0 rfl) ?_
            refine lv_iload_n hx hb dX3_saysApart_46 rfl (lv_at hl 4 rfl) ?_
            refine lv_icmp_eq (tgt := 62) hx hb dX3_saysApart_47 (by decide) (fun bc => ?_) (fun bc => ?_)
            · have h := ite_t bc h
              obtain rfl := Option.some.inj h
              exact x62w _ ls (eq_some_app (hR2 _ rfl) hc2) (lv_sub hl [] rfl)
            · have h := ite_f bc h
              exact j50 _ ls h (lv_sub hl [2, 3, 4, 5, 1, 0] rfl)
  exact lp2 F (1 : Int32) ls hi2 (lv_sub hl [1, 2, 3, 0] rfl)
abbrev rm3_strengthOf : Room := { frames := 0, cells := 0, slots := 0, locals := 0 }
set_option maxHeartbeats 4000000 in
set_option maxRecDepth 100000 in
theorem c3_strengthOf (l : Launch) (D : va_G) (kA : Nat → ClassId)  (p1 : Int32) (res : Int32) (h : f3_strengthOf p1 = some res) : Ro l yX3_strengthOf cX3_strengthOf 1 (some .int) rm3_strengthOf D kA [.int p1] [] (.int res) := by
  refine Ro.of (by decide +kernel) (Nat.le_of_ble_eq_true rfl) ?_
  intro p e s m args below meth c hF hP hK ls hl
  generalize hQ : roQ below _ args s = Q
  obtain ⟨hx, hb, hml, hown, hr, hk, hts, hN⟩ := hF
  have hl : lv_has ls 1 [(0, .int p1)] := hl
  unfold f3_strengthOf at h
  refine lv_iload_n hx hb dX3_strengthOf_0 rfl (lv_at hl 0 rfl) ?_
  by_cases sw0 : p1 = (4 : Int32)
  · have h := ite_t sw0 h
    refine lv_tableIn (tgt := 32) hx hb dX3_strengthOf_1 (by rw [sw0]; decide) (by rw [sw0]; decide) (by rw [sw0]; rfl) (by decide) ?_
    refine lv_iconst (v := 3) hx hb dX3_strengthOf_32 (by decide) ?_
    obtain rfl := Option.some.inj h
    rw [← hQ]
    exact ro_ireturn hx hb hr hk  dX3_strengthOf_33
  · have h := ite_f sw0 h
    by_cases sw1 : p1 = (5 : Int32)
    · have h := ite_t sw1 h
      refine lv_tableIn (tgt := 36) hx hb dX3_strengthOf_1 (by rw [sw1]; decide) (by rw [sw1]; decide) (by rw [sw1]; rfl) (by decide) ?_
      refine lv_iconst (v := 1) hx hb dX3_strengthOf_36 (by decide) ?_
      obtain rfl := Option.some.inj h
      rw [← hQ]
      exact ro_ireturn hx hb hr hk  dX3_strengthOf_37
    · have h := ite_f sw1 h
      by_cases sw2 : p1 = (6 : Int32)
      · have h := ite_t sw2 h
        refine lv_tableIn (tgt := 34) hx hb dX3_strengthOf_1 (by rw [sw2]; decide) (by rw [sw2]; decide) (by rw [sw2]; rfl) (by decide) ?_
        refine lv_iconst (v := 2) hx hb dX3_strengthOf_34 (by decide) ?_
        obtain rfl := Option.some.inj h
        rw [← hQ]
        exact ro_ireturn hx hb hr hk  dX3_strengthOf_35
      · have h := ite_f sw2 h
        by_cases sw3 : p1 = (7 : Int32)
        · have h := ite_t sw3 h
          refine lv_tableIn (tgt := 34) hx hb dX3_strengthOf_1 (by rw [sw3]; decide) (by rw [sw3]; decide) (by rw [sw3]; rfl) (by decide) ?_
          refine lv_iconst (v := 2) hx hb dX3_strengthOf_34 (by decide) ?_
          obtain rfl := Option.some.inj h
          rw [← hQ]
          exact ro_ireturn hx hb hr hk  dX3_strengthOf_35
        · have h := ite_f sw3 h
          refine lv_tableOut (tgt := 38) hx hb dX3_strengthOf_1 (by have q0 := lv_neT (a := 4) sw0 (by decide); have q1 := lv_neT (a := 5) sw1 (by decide); have q2 := lv_neT (a := 6) sw2 (by decide); have q3 := lv_neT (a := 7) sw3 (by decide); omega) (by decide) ?_
          refine lv_iconst (v := 0) hx hb dX3_strengthOf_38 (by decide) ?_
          obtain rfl := Option.some.inj h
          rw [← hQ]
          exact ro_ireturn hx hb hr hk  dX3_strengthOf_39
abbrev rm3_matches : Room := { frames := 2, cells := 0, slots := 0, locals := 46 }
set_option maxHeartbeats 4000000 in
set_option maxRecDepth 100000 in
theorem c3_matches (l : Launch) (D : va_G) (kA : Nat → ClassId) (a_sh : Nat → Nat) (a_ck : Nat → Nat) (p1 : Int32) (p2 : Int32) (p3 : Int32) (sh : T3) (res : Int32) (h : f3_matches p1 p2 p3 sh = some res) : Ro l yX3_matches cX3_matches 4 (some .boolean) rm3_matches D kA [.ref (a_sh 0), .int p1, .int p2, .int p3] [(a_sh 0, .inr (3, [.ref (a_sh 1), .ref (a_sh 2), .ref (a_sh 3), .ref (a_sh 4), .ref (a_sh 5), .ref (a_sh 6), .ref (a_sh 7), .ref (a_ck 0), .int sh.2.2.2.2.2.2.2.1, .int sh.2.2.2.2.2.2.2.2])), (a_sh 1, .inl (kA 0, 40, .inl sh.1)), (a_sh 2, .inl (kA 0, 40, .inl sh.2.1)), (a_sh 3, .inl (kA 0, 80, .inl sh.2.2.1)), (a_sh 4, .inl (kA 0, 120, .inl sh.2.2.2.1)), (a_sh 5, .inl (kA 0, 120, .inl sh.2.2.2.2.1)), (a_sh 6, .inl (kA 2, 120, .inr (.inl sh.2.2.2.2.2.1))), (a_sh 7, .inl (kA 1, 1240, .inl sh.2.2.2.2.2.2.1))] (.int res) := by
  refine Ro.of (by decide +kernel) (Nat.le_of_ble_eq_true rfl) ?_
  intro p e s m args below meth c hF hP hK ls hl
  generalize hQ : roQ below _ args s = Q
  obtain ⟨hx, hb, hml, hown, hr, hk, hts, hN⟩ := hF
  have hl : lv_has ls 4 [(0, .ref (a_sh 0)), (1, .int p1), (2, .int p2), (3, .int p3)] := hl
  unfold f3_matches at h
  refine lv_iload_n hx hb dX3_matches_0 rfl (lv_at hl 3 rfl) ?_
  refine lv_iconst (v := -1) hx hb dX3_matches_1 (by decide) ?_
  refine lv_icmp_eq (tgt := 24) hx hb dX3_matches_2 (by decide) (fun bc => ?_) (fun bc => ?_)
  · have h := ite_t bc h
    refine lv_iconst (v := 0) hx hb dX3_matches_24 (by decide) ?_
    obtain rfl := Option.some.inj h
    rw [← hQ]
    exact ro_zreturn hx hb hr hk nz_Z0 dX3_matches_25
  · have h := ite_f bc h
    refine lv_aload_n hx hb dX3_matches_5 rfl (lv_at hl 0 rfl) ?_
    refine lv_iload_n hx hb dX3_matches_6 rfl (lv_at hl 1 rfl) ?_
    refine lv_iload_n hx hb dX3_matches_7 rfl (lv_at hl 2 rfl) ?_
    obtain ⟨u8, hc_8, h⟩ := bnd_some h
    refine ro_V (n := 2) (As := [.int p1, .int p2]) (rest := []) hx hb hml hown hts hN va_S.rf hK hP (c3_hitsOf l D kA a_sh a_ck p1 p2 sh u8 hc_8) [0, 1, 2, 3, 4, 5, 6, 7] rfl 0 3 rfl rfl rfl tw_768 tw_693 tw_694 tw_77 tw_695 rfl rfl (by decide) ⟨Nat.le_of_ble_eq_true rfl, Nat.le_of_ble_eq_true rfl⟩ rfl hl.1 rfl (Nat.le_of_ble_eq_true rfl) dX3_matches_8 ⟨Nat.le_of_ble_eq_true rfl, Nat.le_of_ble_eq_true rfl⟩ ?_
    refine lv_iload_n hx hb dX3_matches_11 rfl (lv_at hl 3 rfl) ?_
    refine lv_lushr (v := (xlushr u8 p3)) hx hb dX3_matches_12 rfl ?_
    refine lv_lconst (v := 1) hx hb dX3_matches_13 (by decide) ?_
    refine lv_land hx hb dX3_matches_14 ?_
    refine lv_lconst (v := 1) hx hb dX3_matches_15 (by decide) ?_
    refine W.lcmp hx hb dX3_matches_16 ?_
    refine lv_if_ne (tgt := 24) hx hb dX3_matches_17 (by decide) (fun bc => ?_) (fun bc => ?_)
    · have h := ite_f bc h
      refine lv_iconst (v := 0) hx hb dX3_matches_24 (by decide) ?_
      obtain rfl := Option.some.inj h
      rw [← hQ]
      exact ro_zreturn hx hb hr hk nz_Z0 dX3_matches_25
    · have h := ite_t bc h
      refine lv_iconst (v := 1) hx hb dX3_matches_20 (by decide) ?_
      refine lv_goto (tgt := 25) hx hb dX3_matches_21 (by decide) ?_
      obtain rfl := Option.some.inj h
      rw [← hQ]
      exact ro_zreturn hx hb hr hk nz_Z1 dX3_matches_25
abbrev rm3_admits : Room := { frames := 3, cells := 0, slots := 0, locals := 69 }
set_option maxHeartbeats 4000000 in
set_option maxRecDepth 100000 in
theorem c3_admits (l : Launch) (D : va_G) (kA : Nat → ClassId) (a_sh : Nat → Nat) (a_ck : Nat → Nat) (p1 : Int32) (p2 : Int32) (p3 : Int32) (sh : T3) (res : Int32) (h : f3_admits p1 p2 p3 sh = some res) : Ro l yX3_admits cX3_admits 4 (some .boolean) rm3_admits D kA [.ref (a_sh 0), .int p1, .int p2, .int p3] [(a_sh 0, .inr (3, [.ref (a_sh 1), .ref (a_sh 2), .ref (a_sh 3), .ref (a_sh 4), .ref (a_sh 5), .ref (a_sh 6), .ref (a_sh 7), .ref (a_ck 0), .int sh.2.2.2.2.2.2.2.1, .int sh.2.2.2.2.2.2.2.2])), (a_sh 1, .inl (kA 0, 40, .inl sh.1)), (a_sh 2, .inl (kA 0, 40, .inl sh.2.1)), (a_sh 3, .inl (kA 0, 80, .inl sh.2.2.1)), (a_sh 4, .inl (kA 0, 120, .inl sh.2.2.2.1)), (a_sh 5, .inl (kA 0, 120, .inl sh.2.2.2.2.1)), (a_sh 6, .inl (kA 2, 120, .inr (.inl sh.2.2.2.2.2.1))), (a_sh 7, .inl (kA 1, 1240, .inl sh.2.2.2.2.2.2.1))] (.int res) := by
  refine Ro.of (by decide +kernel) (Nat.le_of_ble_eq_true rfl) ?_
  intro p e s m args below meth c hF hP hK ls hl
  generalize hQ : roQ below _ args s = Q
  obtain ⟨hx, hb, hml, hown, hr, hk, hts, hN⟩ := hF
  have hl : lv_has ls 4 [(0, .ref (a_sh 0)), (1, .int p1), (2, .int p2), (3, .int p3)] := hl
  unfold f3_admits at h
  refine lv_aload_n hx hb dX3_admits_0 rfl (lv_at hl 0 rfl) ?_
  refine lv_iload_n hx hb dX3_admits_1 rfl (lv_at hl 1 rfl) ?_
  refine lv_iload_n hx hb dX3_admits_2 rfl (lv_at hl 2 rfl) ?_
  obtain ⟨u3, hc_3, h⟩ := bnd_some h
  refine ro_V (n := 2) (As := [.int p1, .int p2]) (rest := []) hx hb hml hown hts hN va_S.rf hK hP (c3_hasPattern l D kA a_sh a_ck p1 p2 sh u3 hc_3) [0, 1, 2, 3, 4, 5, 6, 7] rfl 0 3 rfl rfl rfl tw_518 tw_520 tw_20 tw_77 tw_521 rfl rfl (by decide) ⟨Nat.le_of_ble_eq_true rfl, Nat.le_of_ble_eq_true rfl⟩ rfl hl.1 rfl (Nat.le_of_ble_eq_true rfl) dX3_admits_3 ⟨Nat.le_of_ble_eq_true rfl, Nat.le_of_ble_eq_true rfl⟩ ?_
  refine lv_if_eq (tgt := 19) hx hb dX3_admits_6 (by decide) (fun bc => ?_) (fun bc => ?_)
  · have h := ite_t bc h
    refine lv_iconst (v := 1) hx hb dX3_admits_19 (by decide) ?_
    refine lv_goto (tgt := 24) hx hb dX3_admits_20 (by decide) ?_
    obtain rfl := Option.some.inj h
    rw [← hQ]
    exact ro_zreturn hx hb hr hk nz_Z1 dX3_admits_24
  · have h := ite_f bc h
    refine lv_aload_n hx hb dX3_admits_9 rfl (lv_at hl 0 rfl) ?_
    refine lv_iload_n hx hb dX3_admits_10 rfl (lv_at hl 1 rfl) ?_
    refine lv_iload_n hx hb dX3_admits_11 rfl (lv_at hl 2 rfl) ?_
    refine lv_iload_n hx hb dX3_admits_12 rfl (lv_at hl 3 rfl) ?_
    obtain ⟨u13, hc_13, h⟩ := bnd_some h
    refine ro_V (n := 3) (As := [.int p1, .int p2, .int p3]) (rest := []) hx hb hml hown hts hN va_S.rf hK hP (c3_matches l D kA a_sh a_ck p1 p2 p3 sh u13 hc_13) [0, 1, 2, 3, 4, 5, 6, 7] rfl 0 3 rfl rfl rfl tw_764 tw_766 tw_32 tw_77 tw_767 rfl rfl (by decide) ⟨Nat.le_of_ble_eq_true rfl, Nat.le_of_ble_eq_true rfl⟩ rfl hl.1 rfl (Nat.le_of_ble_eq_true rfl) dX3_admits_13 ⟨Nat.le_of_ble_eq_true rfl, Nat.le_of_ble_eq_true rfl⟩ ?_
    refine lv_if_eq (tgt := 23) hx hb dX3_admits_16 (by decide) (fun bc => ?_) (fun bc => ?_)
    · have h := ite_t bc h
      refine lv_iconst (v := 0) hx hb dX3_admits_23 (by decide) ?_
      obtain rfl := Option.some.inj h
      rw [← hQ]
      exact ro_zreturn hx hb hr hk nz_Z0 dX3_admits_24
    · have h := ite_f bc h
      refine lv_iconst (v := 1) hx hb dX3_admits_19 (by decide) ?_
      refine lv_goto (tgt := 24) hx hb dX3_admits_20 (by decide) ?_
      obtain rfl := Option.some.inj h
      rw [← hQ]
      exact ro_zreturn hx hb hr hk nz_Z1 dX3_admits_24
abbrev rm3_weightOf : Room := { frames := 2, cells := 0, slots := 0, locals := 46 }
set_option maxHeartbeats 4000000 in
set_option maxRecDepth 100000 in
theorem c3_weightOf (l : Launch) (D : va_G) (kA : Nat → ClassId) (a_sh : Nat → Nat) (a_ck : Nat → Nat) (p1 : Int32) (sh : T3) (res : Int32) (h : f3_weightOf p1 sh = some res) : Ro l yX3_weightOf cX3_weightOf 2 (some .int) rm3_weightOf D kA [.ref (a_sh 0), .int p1] [(a_sh 0, .inr (3, [.ref (a_sh 1), .ref (a_sh 2), .ref (a_sh 3), .ref (a_sh 4), .ref (a_sh 5), .ref (a_sh 6), .ref (a_sh 7), .ref (a_ck 0), .int sh.2.2.2.2.2.2.2.1, .int sh.2.2.2.2.2.2.2.2])), (a_sh 1, .inl (kA 0, 40, .inl sh.1)), (a_sh 2, .inl (kA 0, 40, .inl sh.2.1)), (a_sh 3, .inl (kA 0, 80, .inl sh.2.2.1)), (a_sh 4, .inl (kA 0, 120, .inl sh.2.2.2.1)), (a_sh 5, .inl (kA 0, 120, .inl sh.2.2.2.2.1)), (a_sh 6, .inl (kA 2, 120, .inr (.inl sh.2.2.2.2.2.1))), (a_sh 7, .inl (kA 1, 1240, .inl sh.2.2.2.2.2.2.1))] (.int res) := by
  refine Ro.of (by decide +kernel) (Nat.le_of_ble_eq_true rfl) ?_
  intro p e s m args below meth c hF hP hK ls hl
  generalize hQ : roQ below _ args s = Q
  obtain ⟨hx, hb, hml, hown, hr, hk, hts, hN⟩ := hF
  have hl : lv_has ls 2 [(0, .ref (a_sh 0)), (1, .int p1)] := hl
  unfold f3_weightOf at h
  refine lv_aload_n hx hb dX3_weightOf_0 rfl (lv_at hl 0 rfl) ?_
  refine lv_iload_n hx hb dX3_weightOf_1 rfl (lv_at hl 1 rfl) ?_
  refine lv_iconst (v := 0) hx hb dX3_weightOf_2 (by decide) ?_
  obtain ⟨u3, hc_3, h⟩ := bnd_some h
  refine ro_V (n := 2) (As := [.int p1, .int (0 : Int32)]) (rest := []) hx hb hml hown hts hN va_S.rf hK hP (c3_hasPattern l D kA a_sh a_ck p1 (0 : Int32) sh u3 hc_3) [0, 1, 2, 3, 4, 5, 6, 7] rfl 0 3 rfl rfl rfl tw_518 tw_520 tw_20 tw_77 tw_521 rfl rfl (by decide) ⟨Nat.le_of_ble_eq_true rfl, Nat.le_of_ble_eq_true rfl⟩ rfl hl.1 rfl (Nat.le_of_ble_eq_true rfl) dX3_weightOf_3 ⟨Nat.le_of_ble_eq_true rfl, Nat.le_of_ble_eq_true rfl⟩ ?_
  obtain ⟨k14, hk14, h⟩ := jn_name h
  have j14 : ∀ (v14 : Int32) (ls : Array Slot), k14 v14 = some res → lv_has ls 2 [(0, .ref (a_sh 0)), (1, .int p1)] → W p l e rm3_weightOf s m args below meth c s.heap [] 0 0 Q (F0 m 14 ls [.int v14]) := by
    intro v14 ls h hl
    have h := app_of hk14 h
    refine lv_aload_n hx hb dX3_weightOf_14 rfl (lv_at hl 0 rfl) ?_
    refine lv_iload_n hx hb dX3_weightOf_15 rfl (lv_at hl 1 rfl) ?_
    refine lv_iconst (v := 2) hx hb dX3_weightOf_16 (by decide) ?_
    obtain ⟨u17, hc_17, h⟩ := bnd_some h
    refine ro_V (n := 2) (As := [.int p1, .int (2 : Int32)]) (rest := [.int v14]) hx hb hml hown hts hN va_S.rf hK hP (c3_hasPattern l D kA a_sh a_ck p1 (2 : Int32) sh u17 hc_17) [0, 1, 2, 3, 4, 5, 6, 7] rfl 0 3 rfl rfl rfl tw_518 tw_520 tw_20 tw_77 tw_521 rfl rfl (by decide) ⟨Nat.le_of_ble_eq_true rfl, Nat.le_of_ble_eq_true rfl⟩ rfl hl.1 rfl (Nat.le_of_ble_eq_true rfl) dX3_weightOf_17 ⟨Nat.le_of_ble_eq_true rfl, Nat.le_of_ble_eq_true rfl⟩ ?_
    obtain ⟨k28, hk28, h⟩ := jn_name h
    have j28 : ∀ (v28 : Int32) (ls : Array Slot), k28 v28 = some res → lv_has ls 2 [(0, .ref (a_sh 0)), (1, .int p1)] → W p l e rm3_weightOf s m args below meth c s.heap [] 0 0 Q (F0 m 28 ls [.int v28, .int v14]) := by
      intro v28 ls h hl
      have h := app_of hk28 h
      refine lv_iadd hx hb dX3_weightOf_28 ?_
      refine lv_aload_n hx hb dX3_weightOf_29 rfl (lv_at hl 0 rfl) ?_
      refine lv_iload_n hx hb dX3_weightOf_30 rfl (lv_at hl 1 rfl) ?_
      refine lv_iconst (v := 1) hx hb dX3_weightOf_31 (by decide) ?_
      obtain ⟨u32, hc_32, h⟩ := bnd_some h
      refine ro_V (n := 2) (As := [.int p1, .int (1 : Int32)]) (rest := [.int (v14 + v28)]) hx hb hml hown hts hN va_S.rf hK hP (c3_hasPattern l D kA a_sh a_ck p1 (1 : Int32) sh u32 hc_32) [0, 1, 2, 3, 4, 5, 6, 7] rfl 0 3 rfl rfl rfl tw_518 tw_520 tw_20 tw_77 tw_521 rfl rfl (by decide) ⟨Nat.le_of_ble_eq_true rfl, Nat.le_of_ble_eq_true rfl⟩ rfl hl.1 rfl (Nat.le_of_ble_eq_true rfl) dX3_weightOf_32 ⟨Nat.le_of_ble_eq_true rfl, Nat.le_of_ble_eq_true rfl⟩ ?_
      refine lv_if_eq (tgt := 42) hx hb dX3_weightOf_35 (by decide) (fun bc => ?_) (fun bc => ?_)
      · have h := ite_t bc h
        refine lv_iconst (v := 0) hx hb dX3_weightOf_42 (by decide) ?_
        refine lv_iadd hx hb dX3_weightOf_43 ?_
        obtain rfl := Option.some.inj h
        rw [← hQ]
        exact ro_ireturn hx hb hr hk  dX3_weightOf_44
      · have h := ite_f bc h
        refine lv_iconst (v := 1) hx hb dX3_weightOf_38 (by decide) ?_
        refine lv_goto (tgt := 43) hx hb dX3_weightOf_39 (by decide) ?_
        refine lv_iadd hx hb dX3_weightOf_43 ?_
        obtain rfl := Option.some.inj h
        rw [← hQ]
        exact ro_ireturn hx hb hr hk  dX3_weightOf_44
    refine lv_if_eq (tgt := 27) hx hb dX3_weightOf_20 (by decide) (fun bc => ?_) (fun bc => ?_)
    · have h := ite_t bc h
      refine lv_iconst (v := 0) hx hb dX3_weightOf_27 (by decide) ?_
      exact j28 _ ls h hl
    · have h := ite_f bc h
      refine lv_iconst (v := 2) hx hb dX3_weightOf_23 (by decide) ?_
      refine lv_goto (tgt := 28) hx hb dX3_weightOf_24 (by decide) ?_
      exact j28 _ ls h hl
  refine lv_if_eq (tgt := 13) hx hb dX3_weightOf_6 (by decide) (fun bc => ?_) (fun bc => ?_)
  · have h := ite_t bc h
    refine lv_iconst (v := 0) hx hb dX3_weightOf_13 (by decide) ?_
    exact j14 _ ls h hl
  · have h := ite_f bc h
    refine lv_iconst (v := 4) hx hb dX3_weightOf_9 (by decide) ?_
    refine lv_goto (tgt := 14) hx hb dX3_weightOf_10 (by decide) ?_
    exact j14 _ ls h hl
abbrev rm3_winner : Room := { frames := 4, cells := 0, slots := 0, locals := 92 }
set_option maxHeartbeats 4000000 in
set_option maxRecDepth 100000 in
theorem c3_winner (l : Launch) (D : va_G) (kA : Nat → ClassId) (a_sh : Nat → Nat) (a_ck : Nat → Nat) (F : Nat) (p1 : Int32) (p2 : Int32) (p3 : Int32) (sh : T3) (res : Int32) (h : f3_winner F p1 p2 p3 sh = some res) : Ro l yX3_winner cX3_winner 10 (some .int) rm3_winner D kA [.ref (a_sh 0), .int p1, .int p2, .int p3] [(a_sh 0, .inr (3, [.ref (a_sh 1), .ref (a_sh 2), .ref (a_sh 3), .ref (a_sh 4), .ref (a_sh 5), .ref (a_sh 6), .ref (a_sh 7), .ref (a_ck 0), .int sh.2.2.2.2.2.2.2.1, .int sh.2.2.2.2.2.2.2.2])), (a_sh 1, .inl (kA 0, 40, .inl sh.1)), (a_sh 2, .inl (kA 0, 40, .inl sh.2.1)), (a_sh 3, .inl (kA 0, 80, .inl sh.2.2.1)), (a_sh 4, .inl (kA 0, 120, .inl sh.2.2.2.1)), (a_sh 5, .inl (kA 0, 120, .inl sh.2.2.2.2.1)), (a_sh 6, .inl (kA 2, 120, .inr (.inl sh.2.2.2.2.2.1))), (a_sh 7, .inl (kA 1, 1240, .inl sh.2.2.2.2.2.2.1))] (.int res) := by
  refine Ro.of (by decide +kernel) (Nat.le_of_ble_eq_true rfl) ?_
  intro p e s m args below meth c hF hP hK ls hl
  generalize hQ : roQ below _ args s = Q
  obtain ⟨hx, hb, hml, hown, hr, hk, hts, hN⟩ := hF
  have hl : lv_has ls 10 [(0, .ref (a_sh 0)), (1, .int p1), (2, .int p2), (3, .int p3)] := hl
  unfold f3_winner at h
  refine lv_iconst (v := 0) hx hb dX3_winner_0 (by decide) ?_
  refine lv_istore (lv' := [(4, .int (0 : Int32)), (0, .ref (a_sh 0)), (1, .int p1), (2, .int p2), (3, .int p3)]) hx hb dX3_winner_1 hl (by decide) rfl (fun ls hl => ?_)
  refine lv_iconst (v := 0) hx hb dX3_winner_3 (by decide) ?_
  refine lv_istore (lv' := [(5, .int (0 : Int32)), (4, .int (0 : Int32)), (0, .ref (a_sh 0)), (1, .int p1), (2, .int p2), (3, .int p3)]) hx hb dX3_winner_4 hl (by decide) rfl (fun ls hl => ?_)
  refine lv_iconst (v := 1) hx hb dX3_winner_6 (by decide) ?_
  refine lv_istore (lv' := [(6, .int (1 : Int32)), (5, .int (0 : Int32)), (4, .int (0 : Int32)), (0, .ref (a_sh 0)), (1, .int p1), (2, .int p2), (3, .int p3)]) hx hb dX3_winner_7 hl (by decide) rfl (fun ls hl => ?_)
  obtain ⟨k9, e9, hk9, hi9, hc9⟩ := bnd_name h
  have x117w : ∀ (x117 : Int32) (ls : Array Slot), k9 x117 = some res → lv_has ls 10 [(4, .int x117)] → W p l e rm3_winner s m args below meth c s.heap [] 0 0 Q (F0 m 117 ls []) := by
    intro x117 ls h hl
    have h := app_of hk9 h
    refine lv_iload hx hb dX3_winner_117 (lv_at hl 0 rfl) ?_
    obtain rfl := Option.some.inj h
    rw [← hQ]
    exact ro_ireturn hx hb hr hk  dX3_winner_119
  have lp9 : ∀ (n9 : Nat) (s9 : Int32 × Int32 × Int32) (ls : Array Slot), iter (f3_winner_L9 p1 p2 p3 sh) n9 s9 = some e9 → lv_has ls 10 [(0, .ref (a_sh 0)), (1, .int p1), (2, .int p2), (3, .int p3), (4, .int s9.1), (5, .int s9.2.1), (6, .int s9.2.2)] → W p l e rm3_winner s m args below meth c s.heap [] 0 0 Q (F0 m 9 ls []) := by
    intro n9
    induction n9 with
    | zero =>
      intro s9 ls h hl
      exact (iter_zero h).elim
    | succ n9 ih9 =>
      intro s9 ls h hl
      obtain ⟨z9, h, hL9, hR9⟩ := iter_split h
      unfold f3_winner_L9 at h
      refine lv_iload hx hb dX3_winner_9 (lv_at hl 6 rfl) ?_
      refine lv_aload_n hx hb dX3_winner_11 rfl (lv_at hl 0 rfl) ?_
      refine va_get (D := D) (ci := 3) (v := .int sh.2.2.2.2.2.2.2.1) (C := "ConstraintText$Sheet") (T := TX3) (N := 10) hx hb hts ing3 hown hK hP 0 rfl rfl 8 (by decide) (hts _ tw_193) (fun _ h9 => h9) rfl dX3_winner_12 ?_
      refine lv_icmp_gt (tgt := 117) hx hb dX3_winner_15 (by decide) (fun bc => ?_) (fun bc => ?_)
      · have h := ite_t bc h
        obtain rfl := Option.some.inj h
        exact x117w _ ls (eq_some_app (hR9 _ rfl) hc9) (lv_sub hl [4] rfl)
      · have h := ite_f bc h
        refine lv_aload_n hx hb dX3_winner_18 rfl (lv_at hl 0 rfl) ?_
        refine va_get (D := D) (ci := 3) (v := .ref (a_sh 1)) (C := "ConstraintText$Sheet") (T := TX3) (N := 10) hx hb hts ing3 hown hK hP 0 rfl rfl 0 (by decide) (hts _ tw_180) (fun _ h9 => h9) rfl dX3_winner_19 ?_
        refine lv_iload hx hb dX3_winner_22 (lv_at hl 6 rfl) ?_
        refine lv_iconst (v := 1) hx hb dX3_winner_24 (by decide) ?_
        refine lv_isub hx hb dX3_winner_25 ?_
        obtain ⟨g26, h⟩ := grd_some h
        refine va_iald hx hb hK hP 1 0 rfl rfl (inb_in g26) dX3_winner_26 ?_
        obtain ⟨u27, hc_27, h⟩ := bnd_some h
        refine ro_S (n := 1) (As := [.int (sh.1 (s9.2.2 - (1 : Int32)).toNatClampNeg)]) (rest := []) hx hb hml hown hts hN va_S.rf hK hP (c3_strengthOf l D kA (sh.1 (s9.2.2 - (1 : Int32)).toNatClampNeg) u27 hc_27) [] rfl tw_757 tw_758 tw_77 tw_759 rfl rfl (by decide) ⟨Nat.le_of_ble_eq_true rfl, Nat.le_of_ble_eq_true rfl⟩ rfl hl.1 rfl (Nat.le_of_ble_eq_true rfl) dX3_winner_27 ⟨Nat.le_of_ble_eq_true rfl, Nat.le_of_ble_eq_true rfl⟩ ?_
        refine lv_istore (lv' := [(7, .int u27), (0, .ref (a_sh 0)), (1, .int p1), (2, .int p2), (3, .int p3), (4, .int s9.1), (5, .int s9.2.1), (6, .int s9.2.2)]) hx hb dX3_winner_30 hl (by decide) rfl (fun ls hl => ?_)
        refine lv_iload hx hb dX3_winner_32 (lv_at hl 0 rfl) ?_
        obtain ⟨k75, hk75, h⟩ := jn_name h
        have j75 : ∀ (v75 : Int32) (ls : Array Slot), k75 v75 = some z9 → lv_has ls 10 [(0, .ref (a_sh 0)), (1, .int p1), (2, .int p2), (3, .int p3), (4, .int s9.1), (5, .int s9.2.1), (6, .int s9.2.2), (7, .int u27)] → W p l e rm3_winner s m args below meth c s.heap [] 0 0 Q (F0 m 75 ls [.int v75]) := by
          intro v75 ls h hl
          have h := app_of hk75 h
          refine lv_istore (lv' := [(8, .int v75), (0, .ref (a_sh 0)), (1, .int p1), (2, .int p2), (3, .int p3), (4, .int s9.1), (5, .int s9.2.1), (6, .int s9.2.2), (7, .int u27)]) hx hb dX3_winner_75 hl (by decide) rfl (fun ls hl => ?_)
          refine lv_iload hx hb dX3_winner_77 (lv_at hl 8 rfl) ?_
          refine lv_bipush (v := 8) hx hb dX3_winner_79 (by decide) ?_
          refine lv_imul hx hb dX3_winner_81 ?_
          refine lv_aload_n hx hb dX3_winner_82 rfl (lv_at hl 1 rfl) ?_
          refine lv_iload hx hb dX3_winner_83 (lv_at hl 7 rfl) ?_
          obtain ⟨u85, hc_85, h⟩ := bnd_some h
          refine ro_V (n := 1) (As := [.int s9.2.2]) (rest := [.int (u27 * (8 : Int32))]) hx hb hml hown hts hN va_S.rf hK hP (c3_weightOf l D kA a_sh a_ck s9.2.2 sh u85 hc_85) [0, 1, 2, 3, 4, 5, 6, 7] rfl 0 3 rfl rfl rfl tw_769 tw_771 tw_33 tw_77 tw_772 rfl rfl (by decide) ⟨Nat.le_of_ble_eq_true rfl, Nat.le_of_ble_eq_true rfl⟩ rfl hl.1 rfl (Nat.le_of_ble_eq_true rfl) dX3_winner_85 ⟨Nat.le_of_ble_eq_true rfl, Nat.le_of_ble_eq_true rfl⟩ ?_
          refine lv_iadd hx hb dX3_winner_88 ?_
          refine lv_istore (lv' := [(9, .int ((u27 * (8 : Int32)) + u85)), (8, .int v75), (0, .ref (a_sh 0)), (1, .int p1), (2, .int p2), (3, .int p3), (4, .int s9.1), (5, .int s9.2.1), (6, .int s9.2.2), (7, .int u27)]) hx hb dX3_winner_89 hl (by decide) rfl (fun ls hl => ?_)
          refine lv_iload hx hb dX3_winner_91 (lv_at hl 1 rfl) ?_
          obtain ⟨k111, hk111, h⟩ := jn_name h
          have j111 : ∀ (v111 : Int32 × Int32) (ls : Array Slot), k111 v111 = some z9 → lv_has ls 10 [(0, .ref (a_sh 0)), (1, .int p1), (2, .int p2), (3, .int p3), (4, .int v111.1), (5, .int v111.2), (6, .int s9.2.2)] → W p l e rm3_winner s m args below meth c s.heap [] 0 0 Q (F0 m 111 ls []) := by
            intro v111 ls h hl
            have h := app_of hk111 h
            refine lv_iinc (v := (s9.2.2 + (1 : Int32))) (lv' := [(6, .int (s9.2.2 + (1 : Int32))), (0, .ref (a_sh 0)), (1, .int p1), (2, .int p2), (3, .int p3), (4, .int v111.1), (5, .int v111.2)]) hx hb dX3_winner_111 hl (k := 6) rfl rfl (by decide) rfl (fun ls hl => ?_)
            refine lv_goto (tgt := 9) hx hb dX3_winner_114 (by decide) ?_
            obtain rfl := Option.some.inj h
            exact ih9 _ ls (hL9 _ rfl) (lv_sub hl [1, 2, 3, 4, 5, 6, 0] rfl)
          refine lv_if_eq (tgt := 111) hx hb dX3_winner_93 (by decide) (fun bc => ?_) (fun bc => ?_)
          · have h := ite_t bc h
            exact j111 _ ls h (lv_sub hl [2, 3, 4, 5, 6, 7, 8] rfl)
          · have h := ite_f bc h
            refine lv_iload hx hb dX3_winner_96 (lv_at hl 0 rfl) ?_
            refine lv_iload hx hb dX3_winner_98 (lv_at hl 7 rfl) ?_
            refine lv_icmp_lt (tgt := 111) hx hb dX3_winner_100 (by decide) (fun bc => ?_) (fun bc => ?_)
            · have h := ite_t bc h
              exact j111 _ ls h (lv_sub hl [2, 3, 4, 5, 6, 7, 8] rfl)
            · have h := ite_f bc h
              refine lv_iload hx hb dX3_winner_103 (lv_at hl 8 rfl) ?_
              refine lv_istore (lv' := [(4, .int s9.2.2), (9, .int ((u27 * (8 : Int32)) + u85)), (8, .int v75), (0, .ref (a_sh 0)), (1, .int p1), (2, .int p2), (3, .int p3), (5, .int s9.2.1), (6, .int s9.2.2), (7, .int u27)]) hx hb dX3_winner_105 hl (by decide) rfl (fun ls hl => ?_)
              refine lv_iload hx hb dX3_winner_107 (lv_at hl 1 rfl) ?_
              refine lv_istore (lv' := [(5, .int ((u27 * (8 : Int32)) + u85)), (4, .int s9.2.2), (9, .int ((u27 * (8 : Int32)) + u85)), (8, .int v75), (0, .ref (a_sh 0)), (1, .int p1), (2, .int p2), (3, .int p3), (6, .int s9.2.2), (7, .int u27)]) hx hb dX3_winner_109 hl (by decide) rfl (fun ls hl => ?_)
              exact j111 _ ls h (lv_sub hl [4, 5, 6, 7, 1, 0, 8] rfl)
        refine lv_if_le (tgt := 74) hx hb dX3_winner_34 (by decide) (fun bc => ?_) (fun bc => ?_)
        · have h := ite_t bc h
          refine lv_iconst (v := 0) hx hb dX3_winner_74 (by decide) ?_
          exact j75 _ ls h (lv_sub hl [1, 2, 3, 4, 5, 6, 7, 0] rfl)
        · have h := ite_f bc h
          refine lv_aload_n hx hb dX3_winner_37 rfl (lv_at hl 1 rfl) ?_
          refine lv_iload hx hb dX3_winner_38 (lv_at hl 7 rfl) ?_
          refine lv_iconst (v := 0) hx hb dX3_winner_40 (by decide) ?_
          refine lv_iload_n hx hb dX3_winner_41 rfl (lv_at hl 2 rfl) ?_
          obtain ⟨u42, hc_42, h⟩ := bnd_some h
          refine ro_V (n := 3) (As := [.int s9.2.2, .int (0 : Int32), .int p1]) (rest := []) hx hb hml hown hts hN va_S.rf hK hP (c3_admits l D kA a_sh a_ck s9.2.2 (0 : Int32) p1 sh u42 hc_42) [0, 1, 2, 3, 4, 5, 6, 7] rfl 0 3 rfl rfl rfl tw_760 tw_762 tw_31 tw_77 tw_763 rfl rfl (by decide) ⟨Nat.le_of_ble_eq_true rfl, Nat.le_of_ble_eq_true rfl⟩ rfl hl.1 rfl (Nat.le_of_ble_eq_true rfl) dX3_winner_42 ⟨Nat.le_of_ble_eq_true rfl, Nat.le_of_ble_eq_true rfl⟩ ?_
          refine lv_if_eq (tgt := 74) hx hb dX3_winner_45 (by decide) (fun bc => ?_) (fun bc => ?_)
          · have h := ite_t bc h
            refine lv_iconst (v := 0) hx hb dX3_winner_74 (by decide) ?_
            exact j75 _ ls h (lv_sub hl [1, 2, 3, 4, 5, 6, 7, 0] rfl)
          · have h := ite_f bc h
            refine lv_aload_n hx hb dX3_winner_48 rfl (lv_at hl 1 rfl) ?_
            refine lv_iload hx hb dX3_winner_49 (lv_at hl 7 rfl) ?_
            refine lv_iconst (v := 1) hx hb dX3_winner_51 (by decide) ?_
            refine lv_iload_n hx hb dX3_winner_52 rfl (lv_at hl 3 rfl) ?_
            obtain ⟨u53, hc_53, h⟩ := bnd_some h
            refine ro_V (n := 3) (As := [.int s9.2.2, .int (1 : Int32), .int p2]) (rest := []) hx hb hml hown hts hN va_S.rf hK hP (c3_admits l D kA a_sh a_ck s9.2.2 (1 : Int32) p2 sh u53 hc_53) [0, 1, 2, 3, 4, 5, 6, 7] rfl 0 3 rfl rfl rfl tw_760 tw_762 tw_31 tw_77 tw_763 rfl rfl (by decide) ⟨Nat.le_of_ble_eq_true rfl, Nat.le_of_ble_eq_true rfl⟩ rfl hl.1 rfl (Nat.le_of_ble_eq_true rfl) dX3_winner_53 ⟨Nat.le_of_ble_eq_true rfl, Nat.le_of_ble_eq_true rfl⟩ ?_
            refine lv_if_eq (tgt := 74) hx hb dX3_winner_56 (by decide) (fun bc => ?_) (fun bc => ?_)
            · have h := ite_t bc h
              refine lv_iconst (v := 0) hx hb dX3_winner_74 (by decide) ?_
              exact j75 _ ls h (lv_sub hl [1, 2, 3, 4, 5, 6, 7, 0] rfl)
            · have h := ite_f bc h
              refine lv_aload_n hx hb dX3_winner_59 rfl (lv_at hl 1 rfl) ?_
              refine lv_iload hx hb dX3_winner_60 (lv_at hl 7 rfl) ?_
              refine lv_iconst (v := 2) hx hb dX3_winner_62 (by decide) ?_
              refine lv_iload_n hx hb dX3_winner_63 rfl (lv_at hl 4 rfl) ?_
              obtain ⟨u64, hc_64, h⟩ := bnd_some h
              refine ro_V (n := 3) (As := [.int s9.2.2, .int (2 : Int32), .int p3]) (rest := []) hx hb hml hown hts hN va_S.rf hK hP (c3_admits l D kA a_sh a_ck s9.2.2 (2 : Int32) p3 sh u64 hc_64) [0, 1, 2, 3, 4, 5, 6, 7] rfl 0 3 rfl rfl rfl tw_760 tw_762 tw_31 tw_77 tw_763 rfl rfl (by decide) ⟨Nat.le_of_ble_eq_true rfl, Nat.le_of_ble_eq_true rfl⟩ rfl hl.1 rfl (Nat.le_of_ble_eq_true rfl) dX3_winner_64 ⟨Nat.le_of_ble_eq_true rfl, Nat.le_of_ble_eq_true rfl⟩ ?_
              refine lv_if_eq (tgt := 74) hx hb dX3_winner_67 (by decide) (fun bc => ?_) (fun bc => ?_)
              · have h := ite_t bc h
                refine lv_iconst (v := 0) hx hb dX3_winner_74 (by decide) ?_
                exact j75 _ ls h (lv_sub hl [1, 2, 3, 4, 5, 6, 7, 0] rfl)
              · have h := ite_f bc h
                refine lv_iconst (v := 1) hx hb dX3_winner_70 (by decide) ?_
                refine lv_goto (tgt := 75) hx hb dX3_winner_71 (by decide) ?_
                exact j75 _ ls h (lv_sub hl [1, 2, 3, 4, 5, 6, 7, 0] rfl)
  exact lp9 F ((0 : Int32), (0 : Int32), (1 : Int32)) ls hi9 (lv_sub hl [3, 4, 5, 6, 2, 1, 0] rfl)
abbrev rm3_latestValue : Room := { frames := 3, cells := 0, slots := 0, locals := 69 }
set_option maxHeartbeats 4000000 in
set_option maxRecDepth 100000 in
theorem c3_latestValue (l : Launch) (D : va_G) (kA : Nat → ClassId) (a_sh : Nat → Nat) (a_ck : Nat → Nat) (F : Nat) (p1 : Int32) (p2 : Int32) (sh : T3) (res : Int32) (h : f3_latestValue F p1 p2 sh = some res) : Ro l yX3_latestValue cX3_latestValue 4 (some .int) rm3_latestValue D kA [.ref (a_sh 0), .int p1, .int p2] [(a_sh 0, .inr (3, [.ref (a_sh 1), .ref (a_sh 2), .ref (a_sh 3), .ref (a_sh 4), .ref (a_sh 5), .ref (a_sh 6), .ref (a_sh 7), .ref (a_ck 0), .int sh.2.2.2.2.2.2.2.1, .int sh.2.2.2.2.2.2.2.2])), (a_sh 1, .inl (kA 0, 40, .inl sh.1)), (a_sh 2, .inl (kA 0, 40, .inl sh.2.1)), (a_sh 3, .inl (kA 0, 80, .inl sh.2.2.1)), (a_sh 4, .inl (kA 0, 120, .inl sh.2.2.2.1)), (a_sh 5, .inl (kA 0, 120, .inl sh.2.2.2.2.1)), (a_sh 6, .inl (kA 2, 120, .inr (.inl sh.2.2.2.2.2.1))), (a_sh 7, .inl (kA 1, 1240, .inl sh.2.2.2.2.2.2.1))] (.int res) := by
  refine Ro.of (by decide +kernel) (Nat.le_of_ble_eq_true rfl) ?_
  intro p e s m args below meth c hF hP hK ls hl
  generalize hQ : roQ below _ args s = Q
  obtain ⟨hx, hb, hml, hown, hr, hk, hts, hN⟩ := hF
  have hl : lv_has ls 4 [(0, .ref (a_sh 0)), (1, .int p1), (2, .int p2)] := hl
  unfold f3_latestValue at h
  refine lv_aload_n hx hb dX3_latestValue_0 rfl (lv_at hl 0 rfl) ?_
  refine va_get (D := D) (ci := 3) (v := .int sh.2.2.2.2.2.2.2.1) (C := "ConstraintText$Sheet") (T := TX3) (N := 10) hx hb hts ing3 hown hK hP 0 rfl rfl 8 (by decide) (hts _ tw_193) (fun _ h9 => h9) rfl dX3_latestValue_1 ?_
  refine lv_istore_n (lv' := [(3, .int sh.2.2.2.2.2.2.2.1), (0, .ref (a_sh 0)), (1, .int p1), (2, .int p2)]) hx hb dX3_latestValue_4 rfl hl (by decide) rfl (fun ls hl => ?_)
  obtain ⟨k5, e5, hk5, hi5, hc5⟩ := bnd_name h
  have x32w : ∀ (x32 : Int32) (ls : Array Slot), k5 (.inl x32) = some res → lv_has ls 4 [(0, .ref (a_sh 0)), (3, .int x32)] → W p l e rm3_latestValue s m args below meth c s.heap [] 0 0 Q (F0 m 32 ls []) := by
    intro x32 ls h hl
    have h := app_of hk5 h
    have h := cas_l h
    refine lv_aload_n hx hb dX3_latestValue_32 rfl (lv_at hl 0 rfl) ?_
    refine va_get (D := D) (ci := 3) (v := .ref (a_sh 2)) (C := "ConstraintText$Sheet") (T := TX3) (N := 10) hx hb hts ing3 hown hK hP 0 rfl rfl 1 (by decide) (hts _ tw_182) (fun _ h9 => h9) rfl dX3_latestValue_33 ?_
    refine lv_iload_n hx hb dX3_latestValue_36 rfl (lv_at hl 1 rfl) ?_
    refine lv_iconst (v := 1) hx hb dX3_latestValue_37 (by decide) ?_
    refine lv_isub hx hb dX3_latestValue_38 ?_
    obtain ⟨g39, h⟩ := grd_some h
    refine va_iald hx hb hK hP 2 0 rfl rfl (inb_in g39) dX3_latestValue_39 ?_
    obtain rfl := Option.some.inj h
    rw [← hQ]
    exact ro_ireturn hx hb hr hk  dX3_latestValue_40
  have x47w : ∀ (x47 : Unit) (ls : Array Slot), k5 (.inr x47) = some res → lv_has ls 4 [] → W p l e rm3_latestValue s m args below meth c s.heap [] 0 0 Q (F0 m 47 ls []) := by
    intro x47 ls h hl
    have h := app_of hk5 h
    have h := cas_r h
    refine lv_iconst (v := -1) hx hb dX3_latestValue_47 (by decide) ?_
    obtain rfl := Option.some.inj h
    rw [← hQ]
    exact ro_ireturn hx hb hr hk  dX3_latestValue_48
  have lp5 : ∀ (n5 : Nat) (s5 : Int32) (ls : Array Slot), iter (f3_latestValue_L5 p1 p2 sh) n5 s5 = some e5 → lv_has ls 4 [(0, .ref (a_sh 0)), (1, .int p1), (2, .int p2), (3, .int s5)] → W p l e rm3_latestValue s m args below meth c s.heap [] 0 0 Q (F0 m 5 ls []) := by
    intro n5
    induction n5 with
    | zero =>
      intro s5 ls h hl
      exact (iter_zero h).elim
    | succ n5 ih5 =>
      intro s5 ls h hl
      obtain ⟨z5, h, hL5, hR5⟩ := iter_split h
      unfold f3_latestValue_L5 at h
      refine lv_iload_n hx hb dX3_latestValue_5 rfl (lv_at hl 3 rfl) ?_
      refine lv_iconst (v := 1) hx hb dX3_latestValue_6 (by decide) ?_
      refine lv_icmp_lt (tgt := 47) hx hb dX3_latestValue_7 (by decide) (fun bc => ?_) (fun bc => ?_)
      · have h := ite_t bc h
        obtain rfl := Option.some.inj h
        exact x47w _ ls (eq_some_app (hR5 _ rfl) hc5) (lv_sub hl [] rfl)
      · have h := ite_f bc h
        refine lv_aload_n hx hb dX3_latestValue_10 rfl (lv_at hl 0 rfl) ?_
        refine va_get (D := D) (ci := 3) (v := .ref (a_sh 1)) (C := "ConstraintText$Sheet") (T := TX3) (N := 10) hx hb hts ing3 hown hK hP 0 rfl rfl 0 (by decide) (hts _ tw_180) (fun _ h9 => h9) rfl dX3_latestValue_11 ?_
        refine lv_iload_n hx hb dX3_latestValue_14 rfl (lv_at hl 3 rfl) ?_
        refine lv_iconst (v := 1) hx hb dX3_latestValue_15 (by decide) ?_
        refine lv_isub hx hb dX3_latestValue_16 ?_
        obtain ⟨g17, h⟩ := grd_some h
        refine va_iald hx hb hK hP 1 0 rfl rfl (inb_in g17) dX3_latestValue_17 ?_
        refine lv_iload_n hx hb dX3_latestValue_18 rfl (lv_at hl 1 rfl) ?_
        obtain ⟨k41, hk41, h⟩ := jn_name h
        have j41 : ∀ (v41 : Unit) (ls : Array Slot), k41 v41 = some z5 → lv_has ls 4 [(0, .ref (a_sh 0)), (1, .int p1), (2, .int p2), (3, .int s5)] → W p l e rm3_latestValue s m args below meth c s.heap [] 0 0 Q (F0 m 41 ls []) := by
          intro v41 ls h hl
          have h := app_of hk41 h
          refine lv_iinc (v := (s5 + (-1 : Int32))) (lv' := [(3, .int (s5 + (-1 : Int32))), (0, .ref (a_sh 0)), (1, .int p1), (2, .int p2)]) hx hb dX3_latestValue_41 hl (k := 3) rfl rfl (by decide) rfl (fun ls hl => ?_)
          refine lv_goto (tgt := 5) hx hb dX3_latestValue_44 (by decide) ?_
          obtain rfl := Option.some.inj h
          exact ih5 _ ls (hL5 _ rfl) (lv_sub hl [1, 2, 3, 0] rfl)
        refine lv_icmp_ne (tgt := 41) hx hb dX3_latestValue_19 (by decide) (fun bc => ?_) (fun bc => ?_)
        · have h := ite_f bc h
          exact j41 _ ls h hl
        · have h := ite_t bc h
          refine lv_aload_n hx hb dX3_latestValue_22 rfl (lv_at hl 0 rfl) ?_
          refine lv_iload_n hx hb dX3_latestValue_23 rfl (lv_at hl 3 rfl) ?_
          refine lv_iconst (v := 0) hx hb dX3_latestValue_24 (by decide) ?_
          refine lv_iload_n hx hb dX3_latestValue_25 rfl (lv_at hl 2 rfl) ?_
          obtain ⟨u26, hc_26, h⟩ := bnd_some h
          refine ro_V (n := 3) (As := [.int s5, .int (0 : Int32), .int p2]) (rest := []) hx hb hml hown hts hN va_S.rf hK hP (c3_matches l D kA a_sh a_ck s5 (0 : Int32) p2 sh u26 hc_26) [0, 1, 2, 3, 4, 5, 6, 7] rfl 0 3 rfl rfl rfl tw_764 tw_766 tw_32 tw_77 tw_767 rfl rfl (by decide) ⟨Nat.le_of_ble_eq_true rfl, Nat.le_of_ble_eq_true rfl⟩ rfl hl.1 rfl (Nat.le_of_ble_eq_true rfl) dX3_latestValue_26 ⟨Nat.le_of_ble_eq_true rfl, Nat.le_of_ble_eq_true rfl⟩ ?_
          refine lv_if_eq (tgt := 41) hx hb dX3_latestValue_29 (by decide) (fun bc => ?_) (fun bc => ?_)
          · have h := ite_t bc h
            exact j41 _ ls h hl
          · have h := ite_f bc h
            obtain rfl := Option.some.inj h
            exact x32w _ ls (eq_some_app (hR5 _ rfl) hc5) (lv_sub hl [0, 3] rfl)
  exact lp5 F sh.2.2.2.2.2.2.2.1 ls hi5 (lv_sub hl [1, 2, 3, 0] rfl)
abbrev rm3_isIdle : Room := { frames := 2, cells := 0, slots := 0, locals := 46 }
set_option maxHeartbeats 4000000 in
set_option maxRecDepth 100000 in
theorem c3_isIdle (l : Launch) (D : va_G) (kA : Nat → ClassId) (a_sh : Nat → Nat) (a_ck : Nat → Nat) (F : Nat) (p1 : Int32) (sh : T3) (res : Int32) (h : f3_isIdle F p1 sh = some res) : Ro l yX3_isIdle cX3_isIdle 3 (some .boolean) rm3_isIdle D kA [.ref (a_sh 0), .int p1] [(a_sh 0, .inr (3, [.ref (a_sh 1), .ref (a_sh 2), .ref (a_sh 3), .ref (a_sh 4), .ref (a_sh 5), .ref (a_sh 6), .ref (a_sh 7), .ref (a_ck 0), .int sh.2.2.2.2.2.2.2.1, .int sh.2.2.2.2.2.2.2.2])), (a_sh 1, .inl (kA 0, 40, .inl sh.1)), (a_sh 2, .inl (kA 0, 40, .inl sh.2.1)), (a_sh 3, .inl (kA 0, 80, .inl sh.2.2.1)), (a_sh 4, .inl (kA 0, 120, .inl sh.2.2.2.1)), (a_sh 5, .inl (kA 0, 120, .inl sh.2.2.2.2.1)), (a_sh 6, .inl (kA 2, 120, .inr (.inl sh.2.2.2.2.2.1))), (a_sh 7, .inl (kA 1, 1240, .inl sh.2.2.2.2.2.2.1))] (.int res) := by
  refine Ro.of (by decide +kernel) (Nat.le_of_ble_eq_true rfl) ?_
  intro p e s m args below meth c hF hP hK ls hl
  generalize hQ : roQ below _ args s = Q
  obtain ⟨hx, hb, hml, hown, hr, hk, hts, hN⟩ := hF
  have hl : lv_has ls 3 [(0, .ref (a_sh 0)), (1, .int p1)] := hl
  unfold f3_isIdle at h
  refine lv_iconst (v := 0) hx hb dX3_isIdle_0 (by decide) ?_
  refine lv_istore_n (lv' := [(2, .int (0 : Int32)), (0, .ref (a_sh 0)), (1, .int p1)]) hx hb dX3_isIdle_1 rfl hl (by decide) rfl (fun ls hl => ?_)
  obtain ⟨k2, e2, hk2, hi2, hc2⟩ := bnd_name h
  have x27w : ∀ (x27 : Unit) (ls : Array Slot), k2 (.inl x27) = some res → lv_has ls 3 [] → W p l e rm3_isIdle s m args below meth c s.heap [] 0 0 Q (F0 m 27 ls []) := by
    intro x27 ls h hl
    have h := app_of hk2 h
    have h := cas_l h
    refine lv_iconst (v := 1) hx hb dX3_isIdle_27 (by decide) ?_
    obtain rfl := Option.some.inj h
    rw [← hQ]
    exact ro_zreturn hx hb hr hk nz_Z1 dX3_isIdle_28
  have x35w : ∀ (x35 : Unit) (ls : Array Slot), k2 (.inr x35) = some res → lv_has ls 3 [] → W p l e rm3_isIdle s m args below meth c s.heap [] 0 0 Q (F0 m 35 ls []) := by
    intro x35 ls h hl
    have h := app_of hk2 h
    have h := cas_r h
    refine lv_iconst (v := 0) hx hb dX3_isIdle_35 (by decide) ?_
    obtain rfl := Option.some.inj h
    rw [← hQ]
    exact ro_zreturn hx hb hr hk nz_Z0 dX3_isIdle_36
  have lp2 : ∀ (n2 : Nat) (s2 : Int32) (ls : Array Slot), iter (f3_isIdle_L2 p1 sh) n2 s2 = some e2 → lv_has ls 3 [(0, .ref (a_sh 0)), (1, .int p1), (2, .int s2)] → W p l e rm3_isIdle s m args below meth c s.heap [] 0 0 Q (F0 m 2 ls []) := by
    intro n2
    induction n2 with
    | zero =>
      intro s2 ls h hl
      exact (iter_zero h).elim
    | succ n2 ih2 =>
      intro s2 ls h hl
      obtain ⟨z2, h, hL2, hR2⟩ := iter_split h
      unfold f3_isIdle_L2 at h
      refine lv_iload_n hx hb dX3_isIdle_2 rfl (lv_at hl 2 rfl) ?_
      refine lv_iconst (v := 3) hx hb dX3_isIdle_3 (by decide) ?_
      refine lv_icmp_ge (tgt := 35) hx hb dX3_isIdle_4 (by decide) (fun bc => ?_) (fun bc => ?_)
      · have h := ite_t bc h
        obtain rfl := Option.some.inj h
        exact x35w _ ls (eq_some_app (hR2 _ rfl) hc2) (lv_sub hl [] rfl)
      · have h := ite_f bc h
        refine lv_aload_n hx hb dX3_isIdle_7 rfl (lv_at hl 0 rfl) ?_
        refine lv_iload_n hx hb dX3_isIdle_8 rfl (lv_at hl 1 rfl) ?_
        refine lv_iload_n hx hb dX3_isIdle_9 rfl (lv_at hl 2 rfl) ?_
        obtain ⟨u10, hc_10, h⟩ := bnd_some h
        refine ro_V (n := 2) (As := [.int p1, .int s2]) (rest := []) hx hb hml hown hts hN va_S.rf hK hP (c3_hasPattern l D kA a_sh a_ck p1 s2 sh u10 hc_10) [0, 1, 2, 3, 4, 5, 6, 7] rfl 0 3 rfl rfl rfl tw_518 tw_520 tw_20 tw_77 tw_521 rfl rfl (by decide) ⟨Nat.le_of_ble_eq_true rfl, Nat.le_of_ble_eq_true rfl⟩ rfl hl.1 rfl (Nat.le_of_ble_eq_true rfl) dX3_isIdle_10 ⟨Nat.le_of_ble_eq_true rfl, Nat.le_of_ble_eq_true rfl⟩ ?_
        obtain ⟨k29, hk29, h⟩ := jn_name h
        have j29 : ∀ (v29 : Unit) (ls : Array Slot), k29 v29 = some z2 → lv_has ls 3 [(0, .ref (a_sh 0)), (1, .int p1), (2, .int s2)] → W p l e rm3_isIdle s m args below meth c s.heap [] 0 0 Q (F0 m 29 ls []) := by
          intro v29 ls h hl
          have h := app_of hk29 h
          refine lv_iinc (v := (s2 + (1 : Int32))) (lv' := [(2, .int (s2 + (1 : Int32))), (0, .ref (a_sh 0)), (1, .int p1)]) hx hb dX3_isIdle_29 hl (k := 2) rfl rfl (by decide) rfl (fun ls hl => ?_)
          refine lv_goto (tgt := 2) hx hb dX3_isIdle_32 (by decide) ?_
          obtain rfl := Option.some.inj h
          exact ih2 _ ls (hL2 _ rfl) (lv_sub hl [1, 2, 0] rfl)
        refine lv_if_eq (tgt := 29) hx hb dX3_isIdle_13 (by decide) (fun bc => ?_) (fun bc => ?_)
        · have h := ite_t bc h
          exact j29 _ ls h hl
        · have h := ite_f bc h
          refine lv_aload_n hx hb dX3_isIdle_16 rfl (lv_at hl 0 rfl) ?_
          refine lv_iload_n hx hb dX3_isIdle_17 rfl (lv_at hl 1 rfl) ?_
          refine lv_iload_n hx hb dX3_isIdle_18 rfl (lv_at hl 2 rfl) ?_
          obtain ⟨u19, hc_19, h⟩ := bnd_some h
          refine ro_V (n := 2) (As := [.int p1, .int s2]) (rest := []) hx hb hml hown hts hN va_S.rf hK hP (c3_hitsOf l D kA a_sh a_ck p1 s2 sh u19 hc_19) [0, 1, 2, 3, 4, 5, 6, 7] rfl 0 3 rfl rfl rfl tw_768 tw_693 tw_694 tw_77 tw_695 rfl rfl (by decide) ⟨Nat.le_of_ble_eq_true rfl, Nat.le_of_ble_eq_true rfl⟩ rfl hl.1 rfl (Nat.le_of_ble_eq_true rfl) dX3_isIdle_19 ⟨Nat.le_of_ble_eq_true rfl, Nat.le_of_ble_eq_true rfl⟩ ?_
          refine lv_lconst (v := 0) hx hb dX3_isIdle_22 (by decide) ?_
          refine W.lcmp hx hb dX3_isIdle_23 ?_
          refine lv_if_ne (tgt := 29) hx hb dX3_isIdle_24 (by decide) (fun bc => ?_) (fun bc => ?_)
          · have h := ite_f bc h
            exact j29 _ ls h hl
          · have h := ite_t bc h
            obtain rfl := Option.some.inj h
            exact x27w _ ls (eq_some_app (hR2 _ rfl) hc2) (lv_sub hl [] rfl)
  exact lp2 F (0 : Int32) ls hi2 (lv_sub hl [1, 2, 0] rfl)
abbrev rm3_idleRow : Room := { frames := 3, cells := 0, slots := 0, locals := 68 }
set_option maxHeartbeats 4000000 in
set_option maxRecDepth 100000 in
theorem c3_idleRow (l : Launch) (D : va_G) (kA : Nat → ClassId) (a_sh : Nat → Nat) (a_ck : Nat → Nat) (F : Nat) (p1 : Int32) (sh : T3) (res : Int32) (h : f3_idleRow F p1 sh = some res) : Ro l yX3_idleRow cX3_idleRow 4 (some .int) rm3_idleRow D kA [.ref (a_sh 0), .int p1] [(a_sh 0, .inr (3, [.ref (a_sh 1), .ref (a_sh 2), .ref (a_sh 3), .ref (a_sh 4), .ref (a_sh 5), .ref (a_sh 6), .ref (a_sh 7), .ref (a_ck 0), .int sh.2.2.2.2.2.2.2.1, .int sh.2.2.2.2.2.2.2.2])), (a_sh 1, .inl (kA 0, 40, .inl sh.1)), (a_sh 2, .inl (kA 0, 40, .inl sh.2.1)), (a_sh 3, .inl (kA 0, 80, .inl sh.2.2.1)), (a_sh 4, .inl (kA 0, 120, .inl sh.2.2.2.1)), (a_sh 5, .inl (kA 0, 120, .inl sh.2.2.2.2.1)), (a_sh 6, .inl (kA 2, 120, .inr (.inl sh.2.2.2.2.2.1))), (a_sh 7, .inl (kA 1, 1240, .inl sh.2.2.2.2.2.2.1))] (.int res) := by
  refine Ro.of (by decide +kernel) (Nat.le_of_ble_eq_true rfl) ?_
  intro p e s m args below meth c hF hP hK ls hl
  generalize hQ : roQ below _ args s = Q
  obtain ⟨hx, hb, hml, hown, hr, hk, hts, hN⟩ := hF
  have hl : lv_has ls 4 [(0, .ref (a_sh 0)), (1, .int p1)] := hl
  unfold f3_idleRow at h
  refine lv_iconst (v := 0) hx hb dX3_idleRow_0 (by decide) ?_
  refine lv_istore_n (lv' := [(2, .int (0 : Int32)), (0, .ref (a_sh 0)), (1, .int p1)]) hx hb dX3_idleRow_1 rfl hl (by decide) rfl (fun ls hl => ?_)
  refine lv_iconst (v := 1) hx hb dX3_idleRow_2 (by decide) ?_
  refine lv_istore_n (lv' := [(3, .int (1 : Int32)), (2, .int (0 : Int32)), (0, .ref (a_sh 0)), (1, .int p1)]) hx hb dX3_idleRow_3 rfl hl (by decide) rfl (fun ls hl => ?_)
  obtain ⟨k4, e4, hk4, hi4, hc4⟩ := bnd_name h
  have x25w : ∀ (x25 : Int32) (ls : Array Slot), k4 (.inl x25) = some res → lv_has ls 4 [(3, .int x25)] → W p l e rm3_idleRow s m args below meth c s.heap [] 0 0 Q (F0 m 25 ls []) := by
    intro x25 ls h hl
    have h := app_of hk4 h
    have h := cas_l h
    refine lv_iload_n hx hb dX3_idleRow_25 rfl (lv_at hl 0 rfl) ?_
    obtain rfl := Option.some.inj h
    rw [← hQ]
    exact ro_ireturn hx hb hr hk  dX3_idleRow_26
  have x36w : ∀ (x36 : Unit) (ls : Array Slot), k4 (.inr x36) = some res → lv_has ls 4 [] → W p l e rm3_idleRow s m args below meth c s.heap [] 0 0 Q (F0 m 36 ls []) := by
    intro x36 ls h hl
    have h := app_of hk4 h
    have h := cas_r h
    refine lv_iconst (v := -1) hx hb dX3_idleRow_36 (by decide) ?_
    obtain rfl := Option.some.inj h
    rw [← hQ]
    exact ro_ireturn hx hb hr hk  dX3_idleRow_37
  have lp4 : ∀ (n4 : Nat) (s4 : Int32 × Int32) (ls : Array Slot), iter (f3_idleRow_L4 F p1 sh) n4 s4 = some e4 → lv_has ls 4 [(0, .ref (a_sh 0)), (1, .int p1), (2, .int s4.1), (3, .int s4.2)] → W p l e rm3_idleRow s m args below meth c s.heap [] 0 0 Q (F0 m 4 ls []) := by
    intro n4
    induction n4 with
    | zero =>
      intro s4 ls h hl
      exact (iter_zero h).elim
    | succ n4 ih4 =>
      intro s4 ls h hl
      obtain ⟨z4, h, hL4, hR4⟩ := iter_split h
      unfold f3_idleRow_L4 at h
      refine lv_iload_n hx hb dX3_idleRow_4 rfl (lv_at hl 3 rfl) ?_
      refine lv_aload_n hx hb dX3_idleRow_5 rfl (lv_at hl 0 rfl) ?_
      refine va_get (D := D) (ci := 3) (v := .int sh.2.2.2.2.2.2.2.1) (C := "ConstraintText$Sheet") (T := TX3) (N := 10) hx hb hts ing3 hown hK hP 0 rfl rfl 8 (by decide) (hts _ tw_193) (fun _ h9 => h9) rfl dX3_idleRow_6 ?_
      refine lv_icmp_gt (tgt := 36) hx hb dX3_idleRow_9 (by decide) (fun bc => ?_) (fun bc => ?_)
      · have h := ite_t bc h
        obtain rfl := Option.some.inj h
        exact x36w _ ls (eq_some_app (hR4 _ rfl) hc4) (lv_sub hl [] rfl)
      · have h := ite_f bc h
        refine lv_aload_n hx hb dX3_idleRow_12 rfl (lv_at hl 0 rfl) ?_
        refine lv_iload_n hx hb dX3_idleRow_13 rfl (lv_at hl 3 rfl) ?_
        obtain ⟨u14, hc_14, h⟩ := bnd_some h
        refine ro_V (n := 1) (As := [.int s4.2]) (rest := []) hx hb hml hown hts hN va_S.rf hK hP (c3_isIdle l D kA a_sh a_ck F s4.2 sh u14 hc_14) [0, 1, 2, 3, 4, 5, 6, 7] rfl 0 3 rfl rfl rfl tw_805 tw_807 tw_34 tw_77 tw_808 rfl rfl (by decide) ⟨Nat.le_of_ble_eq_true rfl, Nat.le_of_ble_eq_true rfl⟩ rfl hl.1 rfl (Nat.le_of_ble_eq_true rfl) dX3_idleRow_14 ⟨Nat.le_of_ble_eq_true rfl, Nat.le_of_ble_eq_true rfl⟩ ?_
        obtain ⟨k30, hk30, h⟩ := jn_name h
        have j30 : ∀ (v30 : Int32) (ls : Array Slot), k30 v30 = some z4 → lv_has ls 4 [(0, .ref (a_sh 0)), (1, .int p1), (2, .int v30), (3, .int s4.2)] → W p l e rm3_idleRow s m args below meth c s.heap [] 0 0 Q (F0 m 30 ls []) := by
          intro v30 ls h hl
          have h := app_of hk30 h
          refine lv_iinc (v := (s4.2 + (1 : Int32))) (lv' := [(3, .int (s4.2 + (1 : Int32))), (0, .ref (a_sh 0)), (1, .int p1), (2, .int v30)]) hx hb dX3_idleRow_30 hl (k := 3) rfl rfl (by decide) rfl (fun ls hl => ?_)
          refine lv_goto (tgt := 4) hx hb dX3_idleRow_33 (by decide) ?_
          obtain rfl := Option.some.inj h
          exact ih4 _ ls (hL4 _ rfl) (lv_sub hl [1, 2, 3, 0] rfl)
        refine lv_if_eq (tgt := 30) hx hb dX3_idleRow_17 (by decide) (fun bc => ?_) (fun bc => ?_)
        · have h := ite_t bc h
          exact j30 _ ls h hl
        · have h := ite_f bc h
          refine lv_iload_n hx hb dX3_idleRow_20 rfl (lv_at hl 2 rfl) ?_
          refine lv_iload_n hx hb dX3_idleRow_21 rfl (lv_at hl 1 rfl) ?_
          refine lv_icmp_ne (tgt := 27) hx hb dX3_idleRow_22 (by decide) (fun bc => ?_) (fun bc => ?_)
          · have h := ite_f bc h
            refine lv_iinc (v := (s4.1 + (1 : Int32))) (lv' := [(2, .int (s4.1 + (1 : Int32))), (0, .ref (a_sh 0)), (1, .int p1), (3, .int s4.2)]) hx hb dX3_idleRow_27 hl (k := 2) rfl rfl (by decide) rfl (fun ls hl => ?_)
            exact j30 _ ls h (lv_sub hl [1, 2, 0, 3] rfl)
          · have h := ite_t bc h
            obtain rfl := Option.some.inj h
            exact x25w _ ls (eq_some_app (hR4 _ rfl) hc4) (lv_sub hl [3] rfl)
  exact lp4 F ((0 : Int32), (1 : Int32)) ls hi4 (lv_sub hl [2, 3, 1, 0] rfl)
abbrev rm5_makesClock : Room := { frames := 0, cells := 0, slots := 0, locals := 0 }
set_option maxHeartbeats 4000000 in
set_option maxRecDepth 100000 in
theorem c5_makesClock (l : Launch) (D : va_G) (kA : Nat → ClassId)  (p1 : Int32) (res : Int32) (h : f5_makesClock p1 = some res) : Ro l yX5_makesClock cX5_makesClock 1 (some .boolean) rm5_makesClock D kA [.int p1] [] (.int res) := by
  refine Ro.of (by decide +kernel) (Nat.le_of_ble_eq_true rfl) ?_
  intro p e s m args below meth c hF hP hK ls hl
  generalize hQ : roQ below _ args s = Q
  obtain ⟨hx, hb, hml, hown, hr, hk, hts, hN⟩ := hF
  have hl : lv_has ls 1 [(0, .int p1)] := hl
  unfold f5_makesClock at h
  refine lv_iload_n hx hb dX5_makesClock_0 rfl (lv_at hl 0 rfl) ?_
  refine lv_if_eq (tgt := 14) hx hb dX5_makesClock_1 (by decide) (fun bc => ?_) (fun bc => ?_)
  · have h := ite_t bc h
    refine lv_iconst (v := 1) hx hb dX5_makesClock_14 (by decide) ?_
    refine lv_goto (tgt := 19) hx hb dX5_makesClock_15 (by decide) ?_
    obtain rfl := Option.some.inj h
    rw [← hQ]
    exact ro_zreturn hx hb hr hk nz_Z1 dX5_makesClock_19
  · have h := ite_f bc h
    refine lv_iload_n hx hb dX5_makesClock_4 rfl (lv_at hl 0 rfl) ?_
    refine lv_iconst (v := 1) hx hb dX5_makesClock_5 (by decide) ?_
    refine lv_icmp_eq (tgt := 14) hx hb dX5_makesClock_6 (by decide) (fun bc => ?_) (fun bc => ?_)
    · have h := ite_t bc h
      refine lv_iconst (v := 1) hx hb dX5_makesClock_14 (by decide) ?_
      refine lv_goto (tgt := 19) hx hb dX5_makesClock_15 (by decide) ?_
      obtain rfl := Option.some.inj h
      rw [← hQ]
      exact ro_zreturn hx hb hr hk nz_Z1 dX5_makesClock_19
    · have h := ite_f bc h
      refine lv_iload_n hx hb dX5_makesClock_9 rfl (lv_at hl 0 rfl) ?_
      refine lv_iconst (v := 2) hx hb dX5_makesClock_10 (by decide) ?_
      refine lv_icmp_ne (tgt := 18) hx hb dX5_makesClock_11 (by decide) (fun bc => ?_) (fun bc => ?_)
      · have h := ite_f bc h
        refine lv_iconst (v := 0) hx hb dX5_makesClock_18 (by decide) ?_
        obtain rfl := Option.some.inj h
        rw [← hQ]
        exact ro_zreturn hx hb hr hk nz_Z0 dX5_makesClock_19
      · have h := ite_t bc h
        refine lv_iconst (v := 1) hx hb dX5_makesClock_14 (by decide) ?_
        refine lv_goto (tgt := 19) hx hb dX5_makesClock_15 (by decide) ?_
        obtain rfl := Option.some.inj h
        rw [← hQ]
        exact ro_zreturn hx hb hr hk nz_Z1 dX5_makesClock_19
abbrev rm3_haveClash : Room := { frames := 2, cells := 0, slots := 0, locals := 46 }
set_option maxHeartbeats 4000000 in
set_option maxRecDepth 100000 in
theorem c3_haveClash (l : Launch) (D : va_G) (kA : Nat → ClassId) (a_sh : Nat → Nat) (a_ck : Nat → Nat) (p1 : Int32) (p2 : Int32) (sh : T3) (res : Int32) (h : f3_haveClash p1 p2 sh = some res) : Ro l yX3_haveClash cX3_haveClash 7 (some .boolean) rm3_haveClash D kA [.ref (a_sh 0), .int p1, .int p2] [(a_sh 0, .inr (3, [.ref (a_sh 1), .ref (a_sh 2), .ref (a_sh 3), .ref (a_sh 4), .ref (a_sh 5), .ref (a_sh 6), .ref (a_sh 7), .ref (a_ck 0), .int sh.2.2.2.2.2.2.2.1, .int sh.2.2.2.2.2.2.2.2])), (a_sh 1, .inl (kA 0, 40, .inl sh.1)), (a_sh 2, .inl (kA 0, 40, .inl sh.2.1)), (a_sh 3, .inl (kA 0, 80, .inl sh.2.2.1)), (a_sh 4, .inl (kA 0, 120, .inl sh.2.2.2.1)), (a_sh 5, .inl (kA 0, 120, .inl sh.2.2.2.2.1)), (a_sh 6, .inl (kA 2, 120, .inr (.inl sh.2.2.2.2.2.1))), (a_sh 7, .inl (kA 1, 1240, .inl sh.2.2.2.2.2.2.1))] (.int res) := by
  refine Ro.of (by decide +kernel) (Nat.le_of_ble_eq_true rfl) ?_
  intro p e s m args below meth c hF hP hK ls hl
  generalize hQ : roQ below _ args s = Q
  obtain ⟨hx, hb, hml, hown, hr, hk, hts, hN⟩ := hF
  have hl : lv_has ls 7 [(0, .ref (a_sh 0)), (1, .int p1), (2, .int p2)] := hl
  unfold f3_haveClash at h
  refine lv_aload_n hx hb dX3_haveClash_0 rfl (lv_at hl 0 rfl) ?_
  refine va_get (D := D) (ci := 3) (v := .ref (a_sh 1)) (C := "ConstraintText$Sheet") (T := TX3) (N := 10) hx hb hts ing3 hown hK hP 0 rfl rfl 0 (by decide) (hts _ tw_180) (fun _ h9 => h9) rfl dX3_haveClash_1 ?_
  refine lv_iload_n hx hb dX3_haveClash_4 rfl (lv_at hl 1 rfl) ?_
  refine lv_iconst (v := 1) hx hb dX3_haveClash_5 (by decide) ?_
  refine lv_isub hx hb dX3_haveClash_6 ?_
  obtain ⟨g7, h⟩ := grd_some h
  refine va_iald hx hb hK hP 1 0 rfl rfl (inb_in g7) dX3_haveClash_7 ?_
  refine lv_istore_n (lv' := [(3, .int (sh.1 (p1 - (1 : Int32)).toNatClampNeg)), (0, .ref (a_sh 0)), (1, .int p1), (2, .int p2)]) hx hb dX3_haveClash_8 rfl hl (by decide) rfl (fun ls hl => ?_)
  refine lv_aload_n hx hb dX3_haveClash_9 rfl (lv_at hl 1 rfl) ?_
  refine va_get (D := D) (ci := 3) (v := .ref (a_sh 1)) (C := "ConstraintText$Sheet") (T := TX3) (N := 10) hx hb hts ing3 hown hK hP 0 rfl rfl 0 (by decide) (hts _ tw_180) (fun _ h9 => h9) rfl dX3_haveClash_10 ?_
  refine lv_iload_n hx hb dX3_haveClash_13 rfl (lv_at hl 3 rfl) ?_
  refine lv_iconst (v := 1) hx hb dX3_haveClash_14 (by decide) ?_
  refine lv_isub hx hb dX3_haveClash_15 ?_
  obtain ⟨g16, h⟩ := grd_some h
  refine va_iald hx hb hK hP 1 0 rfl rfl (inb_in g16) dX3_haveClash_16 ?_
  refine lv_istore (lv' := [(4, .int (sh.1 (p2 - (1 : Int32)).toNatClampNeg)), (3, .int (sh.1 (p1 - (1 : Int32)).toNatClampNeg)), (0, .ref (a_sh 0)), (1, .int p1), (2, .int p2)]) hx hb dX3_haveClash_17 hl (by decide) rfl (fun ls hl => ?_)
  refine lv_iload_n hx hb dX3_haveClash_19 rfl (lv_at hl 1 rfl) ?_
  obtain ⟨u20, hc_20, h⟩ := bnd_some h
  refine ro_SN (n := 1) (As := [.int (sh.1 (p1 - (1 : Int32)).toNatClampNeg)]) (rest := []) hx hb hml hown hts hN va_S.rf hK hP (c5_makesClock l D kA (sh.1 (p1 - (1 : Int32)).toNatClampNeg) u20 hc_20) [] rfl nw_825 tw_826 tw_74 tw_827 rfl rfl (by decide) ⟨Nat.le_of_ble_eq_true rfl, Nat.le_of_ble_eq_true rfl⟩ rfl hl.1 rfl (Nat.le_of_ble_eq_true rfl) dX3_haveClash_20 ⟨Nat.le_of_ble_eq_true rfl, Nat.le_of_ble_eq_true rfl⟩ ?_
  obtain ⟨k39, hk39, h⟩ := jn_name h
  have j39 : ∀ (v39 : Int32) (ls : Array Slot), k39 v39 = some res → lv_has ls 7 [(0, .ref (a_sh 0)), (1, .int p1), (2, .int p2), (3, .int (sh.1 (p1 - (1 : Int32)).toNatClampNeg)), (4, .int (sh.1 (p2 - (1 : Int32)).toNatClampNeg))] → W p l e rm3_haveClash s m args below meth c s.heap [] 0 0 Q (F0 m 39 ls [.int v39]) := by
    intro v39 ls h hl
    have h := app_of hk39 h
    refine lv_istore (lv' := [(5, .int v39), (0, .ref (a_sh 0)), (1, .int p1), (2, .int p2), (3, .int (sh.1 (p1 - (1 : Int32)).toNatClampNeg)), (4, .int (sh.1 (p2 - (1 : Int32)).toNatClampNeg))]) hx hb dX3_haveClash_39 hl (by decide) rfl (fun ls hl => ?_)
    refine lv_iload_n hx hb dX3_haveClash_41 rfl (lv_at hl 4 rfl) ?_
    refine lv_bipush (v := 8) hx hb dX3_haveClash_42 (by decide) ?_
    obtain ⟨k83, hk83, h⟩ := jn_name h
    have j83 : ∀ (v83 : Int32) (ls : Array Slot), k83 v83 = some res → lv_has ls 7 [(0, .ref (a_sh 0)), (1, .int p1), (2, .int p2), (5, .int v39)] → W p l e rm3_haveClash s m args below meth c s.heap [] 0 0 Q (F0 m 83 ls [.int v83]) := by
      intro v83 ls h hl
      have h := app_of hk83 h
      refine lv_istore (lv' := [(6, .int v83), (0, .ref (a_sh 0)), (1, .int p1), (2, .int p2), (5, .int v39)]) hx hb dX3_haveClash_83 hl (by decide) rfl (fun ls hl => ?_)
      refine lv_iload hx hb dX3_haveClash_85 (lv_at hl 4 rfl) ?_
      obtain ⟨k95, hk95, h⟩ := jn_name h
      have j95 : ∀ (v95 : Unit) (ls : Array Slot), k95 v95 = some res → lv_has ls 7 [(0, .ref (a_sh 0)), (1, .int p1), (2, .int p2)] → W p l e rm3_haveClash s m args below meth c s.heap [] 0 0 Q (F0 m 95 ls []) := by
        intro v95 ls h hl
        have h := app_of hk95 h
        refine lv_aload_n hx hb dX3_haveClash_95 rfl (lv_at hl 0 rfl) ?_
        refine lv_iload_n hx hb dX3_haveClash_96 rfl (lv_at hl 1 rfl) ?_
        refine lv_iconst (v := 0) hx hb dX3_haveClash_97 (by decide) ?_
        obtain ⟨u98, hc_98, h⟩ := bnd_some h
        refine ro_V (n := 2) (As := [.int p1, .int (0 : Int32)]) (rest := []) hx hb hml hown hts hN va_S.rf hK hP (c3_hitsOf l D kA a_sh a_ck p1 (0 : Int32) sh u98 hc_98) [0, 1, 2, 3, 4, 5, 6, 7] rfl 0 3 rfl rfl rfl tw_768 tw_693 tw_694 tw_77 tw_695 rfl rfl (by decide) ⟨Nat.le_of_ble_eq_true rfl, Nat.le_of_ble_eq_true rfl⟩ rfl hl.1 rfl (Nat.le_of_ble_eq_true rfl) dX3_haveClash_98 ⟨Nat.le_of_ble_eq_true rfl, Nat.le_of_ble_eq_true rfl⟩ ?_
        refine lv_aload_n hx hb dX3_haveClash_101 rfl (lv_at hl 0 rfl) ?_
        refine lv_iload_n hx hb dX3_haveClash_102 rfl (lv_at hl 2 rfl) ?_
        refine lv_iconst (v := 0) hx hb dX3_haveClash_103 (by decide) ?_
        obtain ⟨u104, hc_104, h⟩ := bnd_some h
        refine ro_V (n := 2) (As := [.int p2, .int (0 : Int32)]) (rest := [.long u98]) hx hb hml hown hts hN va_S.rf hK hP (c3_hitsOf l D kA a_sh a_ck p2 (0 : Int32) sh u104 hc_104) [0, 1, 2, 3, 4, 5, 6, 7] rfl 0 3 rfl rfl rfl tw_768 tw_693 tw_694 tw_77 tw_695 rfl rfl (by decide) ⟨Nat.le_of_ble_eq_true rfl, Nat.le_of_ble_eq_true rfl⟩ rfl hl.1 rfl (Nat.le_of_ble_eq_true rfl) dX3_haveClash_104 ⟨Nat.le_of_ble_eq_true rfl, Nat.le_of_ble_eq_true rfl⟩ ?_
        refine lv_land hx hb dX3_haveClash_107 ?_
        refine lv_lconst (v := 0) hx hb dX3_haveClash_108 (by decide) ?_
        refine W.lcmp hx hb dX3_haveClash_109 ?_
        refine lv_if_eq (tgt := 117) hx hb dX3_haveClash_110 (by decide) (fun bc => ?_) (fun bc => ?_)
        · have h := ite_t bc h
          refine lv_iconst (v := 0) hx hb dX3_haveClash_117 (by decide) ?_
          obtain rfl := Option.some.inj h
          rw [← hQ]
          exact ro_zreturn hx hb hr hk nz_Z0 dX3_haveClash_118
        · have h := ite_f bc h
          refine lv_iconst (v := 1) hx hb dX3_haveClash_113 (by decide) ?_
          refine lv_goto (tgt := 118) hx hb dX3_haveClash_114 (by decide) ?_
          obtain rfl := Option.some.inj h
          rw [← hQ]
          exact ro_zreturn hx hb hr hk nz_Z1 dX3_haveClash_118
      refine lv_if_ne (tgt := 95) hx hb dX3_haveClash_87 (by decide) (fun bc => ?_) (fun bc => ?_)
      · have h := ite_f bc h
        exact j95 _ ls h (lv_sub hl [1, 2, 3] rfl)
      · have h := ite_t bc h
        refine lv_iload hx hb dX3_haveClash_90 (lv_at hl 0 rfl) ?_
        refine lv_if_eq (tgt := 117) hx hb dX3_haveClash_92 (by decide) (fun bc => ?_) (fun bc => ?_)
        · have h := ite_t bc h
          refine lv_iconst (v := 0) hx hb dX3_haveClash_117 (by decide) ?_
          obtain rfl := Option.some.inj h
          rw [← hQ]
          exact ro_zreturn hx hb hr hk nz_Z0 dX3_haveClash_118
        · have h := ite_f bc h
          exact j95 _ ls h (lv_sub hl [1, 2, 3] rfl)
    obtain ⟨k53, hk53, h⟩ := jn_name h
    have j53 : ∀ (v53 : Unit) (ls : Array Slot), k53 v53 = some res → lv_has ls 7 [(0, .ref (a_sh 0)), (1, .int p1), (2, .int p2), (3, .int (sh.1 (p1 - (1 : Int32)).toNatClampNeg)), (4, .int (sh.1 (p2 - (1 : Int32)).toNatClampNeg)), (5, .int v39)] → W p l e rm3_haveClash s m args below meth c s.heap [] 0 0 Q (F0 m 53 ls []) := by
      intro v53 ls h hl
      have h := app_of hk53 h
      refine lv_iload_n hx hb dX3_haveClash_53 rfl (lv_at hl 3 rfl) ?_
      refine lv_iload hx hb dX3_haveClash_54 (lv_at hl 4 rfl) ?_
      refine lv_icmp_ne (tgt := 82) hx hb dX3_haveClash_56 (by decide) (fun bc => ?_) (fun bc => ?_)
      · have h := ite_f bc h
        refine lv_iconst (v := 0) hx hb dX3_haveClash_82 (by decide) ?_
        exact j83 _ ls h (lv_sub hl [0, 1, 2, 5] rfl)
      · have h := ite_t bc h
        refine lv_aload_n hx hb dX3_haveClash_59 rfl (lv_at hl 0 rfl) ?_
        refine va_get (D := D) (ci := 3) (v := .ref (a_sh 2)) (C := "ConstraintText$Sheet") (T := TX3) (N := 10) hx hb hts ing3 hown hK hP 0 rfl rfl 1 (by decide) (hts _ tw_182) (fun _ h9 => h9) rfl dX3_haveClash_60 ?_
        refine lv_iload_n hx hb dX3_haveClash_63 rfl (lv_at hl 1 rfl) ?_
        refine lv_iconst (v := 1) hx hb dX3_haveClash_64 (by decide) ?_
        refine lv_isub hx hb dX3_haveClash_65 ?_
        obtain ⟨g66, h⟩ := grd_some h
        refine va_iald hx hb hK hP 2 0 rfl rfl (inb_in g66) dX3_haveClash_66 ?_
        refine lv_aload_n hx hb dX3_haveClash_67 rfl (lv_at hl 0 rfl) ?_
        refine va_get (D := D) (ci := 3) (v := .ref (a_sh 2)) (C := "ConstraintText$Sheet") (T := TX3) (N := 10) hx hb hts ing3 hown hK hP 0 rfl rfl 1 (by decide) (hts _ tw_182) (fun _ h9 => h9) rfl dX3_haveClash_68 ?_
        refine lv_iload_n hx hb dX3_haveClash_71 rfl (lv_at hl 2 rfl) ?_
        refine lv_iconst (v := 1) hx hb dX3_haveClash_72 (by decide) ?_
        refine lv_isub hx hb dX3_haveClash_73 ?_
        obtain ⟨g74, h⟩ := grd_some h
        refine va_iald hx hb hK hP 2 0 rfl rfl (inb_in g74) dX3_haveClash_74 ?_
        refine lv_icmp_eq (tgt := 82) hx hb dX3_haveClash_75 (by decide) (fun bc => ?_) (fun bc => ?_)
        · have h := ite_t bc h
          refine lv_iconst (v := 0) hx hb dX3_haveClash_82 (by decide) ?_
          exact j83 _ ls h (lv_sub hl [0, 1, 2, 5] rfl)
        · have h := ite_f bc h
          refine lv_iconst (v := 1) hx hb dX3_haveClash_78 (by decide) ?_
          refine lv_goto (tgt := 83) hx hb dX3_haveClash_79 (by decide) ?_
          exact j83 _ ls h (lv_sub hl [0, 1, 2, 5] rfl)
    refine lv_icmp_eq (tgt := 53) hx hb dX3_haveClash_44 (by decide) (fun bc => ?_) (fun bc => ?_)
    · have h := ite_t bc h
      exact j53 _ ls h (lv_sub hl [1, 2, 3, 4, 5, 0] rfl)
    · have h := ite_f bc h
      refine lv_iload_n hx hb dX3_haveClash_47 rfl (lv_at hl 4 rfl) ?_
      refine lv_bipush (v := 9) hx hb dX3_haveClash_48 (by decide) ?_
      refine lv_icmp_ne (tgt := 82) hx hb dX3_haveClash_50 (by decide) (fun bc => ?_) (fun bc => ?_)
      · have h := ite_f bc h
        refine lv_iconst (v := 0) hx hb dX3_haveClash_82 (by decide) ?_
        exact j83 _ ls h (lv_sub hl [1, 2, 3, 0] rfl)
      · have h := ite_t bc h
        exact j53 _ ls h (lv_sub hl [1, 2, 3, 4, 5, 0] rfl)
  refine lv_if_eq (tgt := 38) hx hb dX3_haveClash_23 (by decide) (fun bc => ?_) (fun bc => ?_)
  · have h := ite_t bc h
    refine lv_iconst (v := 0) hx hb dX3_haveClash_38 (by decide) ?_
    exact j39 _ ls h (lv_sub hl [2, 3, 4, 1, 0] rfl)
  · have h := ite_f bc h
    refine lv_iload hx hb dX3_haveClash_26 (lv_at hl 0 rfl) ?_
    obtain ⟨u28, hc_28, h⟩ := bnd_some h
    refine ro_SN (n := 1) (As := [.int (sh.1 (p2 - (1 : Int32)).toNatClampNeg)]) (rest := []) hx hb hml hown hts hN va_S.rf hK hP (c5_makesClock l D kA (sh.1 (p2 - (1 : Int32)).toNatClampNeg) u28 hc_28) [] rfl nw_825 tw_826 tw_74 tw_827 rfl rfl (by decide) ⟨Nat.le_of_ble_eq_true rfl, Nat.le_of_ble_eq_true rfl⟩ rfl hl.1 rfl (Nat.le_of_ble_eq_true rfl) dX3_haveClash_28 ⟨Nat.le_of_ble_eq_true rfl, Nat.le_of_ble_eq_true rfl⟩ ?_
    refine lv_if_eq (tgt := 38) hx hb dX3_haveClash_31 (by decide) (fun bc => ?_) (fun bc => ?_)
    · have h := ite_t bc h
      refine lv_iconst (v := 0) hx hb dX3_haveClash_38 (by decide) ?_
      exact j39 _ ls h (lv_sub hl [2, 3, 4, 1, 0] rfl)
    · have h := ite_f bc h
      refine lv_iconst (v := 1) hx hb dX3_haveClash_34 (by decide) ?_
      refine lv_goto (tgt := 39) hx hb dX3_haveClash_35 (by decide) ?_
      exact j39 _ ls h (lv_sub hl [2, 3, 4, 1, 0] rfl)
abbrev rm3_clashingRow : Room := { frames := 3, cells := 0, slots := 0, locals := 72 }
set_option maxHeartbeats 4000000 in
set_option maxRecDepth 100000 in
theorem c3_clashingRow (l : Launch) (D : va_G) (kA : Nat → ClassId) (a_sh : Nat → Nat) (a_ck : Nat → Nat) (F : Nat) (p1 : Int32) (p2 : Int32) (sh : T3) (res : Int32) (h : f3_clashingRow F p1 p2 sh = some res) : Ro l yX3_clashingRow cX3_clashingRow 6 (some .int) rm3_clashingRow D kA [.ref (a_sh 0), .int p1, .int p2] [(a_sh 0, .inr (3, [.ref (a_sh 1), .ref (a_sh 2), .ref (a_sh 3), .ref (a_sh 4), .ref (a_sh 5), .ref (a_sh 6), .ref (a_sh 7), .ref (a_ck 0), .int sh.2.2.2.2.2.2.2.1, .int sh.2.2.2.2.2.2.2.2])), (a_sh 1, .inl (kA 0, 40, .inl sh.1)), (a_sh 2, .inl (kA 0, 40, .inl sh.2.1)), (a_sh 3, .inl (kA 0, 80, .inl sh.2.2.1)), (a_sh 4, .inl (kA 0, 120, .inl sh.2.2.2.1)), (a_sh 5, .inl (kA 0, 120, .inl sh.2.2.2.2.1)), (a_sh 6, .inl (kA 2, 120, .inr (.inl sh.2.2.2.2.2.1))), (a_sh 7, .inl (kA 1, 1240, .inl sh.2.2.2.2.2.2.1))] (.int res) := by
  refine Ro.of (by decide +kernel) (Nat.le_of_ble_eq_true rfl) ?_
  intro p e s m args below meth c hF hP hK ls hl
  generalize hQ : roQ below _ args s = Q
  obtain ⟨hx, hb, hml, hown, hr, hk, hts, hN⟩ := hF
  have hl : lv_has ls 6 [(0, .ref (a_sh 0)), (1, .int p1), (2, .int p2)] := hl
  unfold f3_clashingRow at h
  refine lv_iconst (v := 0) hx hb dX3_clashingRow_0 (by decide) ?_
  refine lv_istore_n (lv' := [(3, .int (0 : Int32)), (0, .ref (a_sh 0)), (1, .int p1), (2, .int p2)]) hx hb dX3_clashingRow_1 rfl hl (by decide) rfl (fun ls hl => ?_)
  refine lv_iconst (v := 1) hx hb dX3_clashingRow_2 (by decide) ?_
  refine lv_istore (lv' := [(4, .int (1 : Int32)), (3, .int (0 : Int32)), (0, .ref (a_sh 0)), (1, .int p1), (2, .int p2)]) hx hb dX3_clashingRow_3 hl (by decide) rfl (fun ls hl => ?_)
  obtain ⟨k5, e5, hk5, hi5, hc5⟩ := bnd_name h
  have x45w : ∀ (x45 : Int32 × Int32) (ls : Array Slot), k5 (.inl x45) = some res → lv_has ls 6 [(2, .int p2), (4, .int x45.1), (5, .int x45.2)] → W p l e rm3_clashingRow s m args below meth c s.heap [] 0 0 Q (F0 m 45 ls []) := by
    intro x45 ls h hl
    have h := app_of hk5 h
    have h := cas_l h
    refine lv_iload_n hx hb dX3_clashingRow_45 rfl (lv_at hl 0 rfl) ?_
    refine lv_if_ne (tgt := 54) hx hb dX3_clashingRow_46 (by decide) (fun bc => ?_) (fun bc => ?_)
    · have h := ite_f bc h
      refine lv_iload hx hb dX3_clashingRow_54 (lv_at hl 2 rfl) ?_
      obtain rfl := Option.some.inj h
      rw [← hQ]
      exact ro_ireturn hx hb hr hk  dX3_clashingRow_56
    · have h := ite_t bc h
      refine lv_iload hx hb dX3_clashingRow_49 (lv_at hl 1 rfl) ?_
      refine lv_goto (tgt := 56) hx hb dX3_clashingRow_51 (by decide) ?_
      obtain rfl := Option.some.inj h
      rw [← hQ]
      exact ro_ireturn hx hb hr hk  dX3_clashingRow_56
  have x72w : ∀ (x72 : Unit) (ls : Array Slot), k5 (.inr x72) = some res → lv_has ls 6 [] → W p l e rm3_clashingRow s m args below meth c s.heap [] 0 0 Q (F0 m 72 ls []) := by
    intro x72 ls h hl
    have h := app_of hk5 h
    have h := cas_r h
    refine lv_iconst (v := -1) hx hb dX3_clashingRow_72 (by decide) ?_
    obtain rfl := Option.some.inj h
    rw [← hQ]
    exact ro_ireturn hx hb hr hk  dX3_clashingRow_73
  have lp5 : ∀ (n5 : Nat) (s5 : Int32 × Int32) (ls : Array Slot), iter (f3_clashingRow_L5 F p1 sh) n5 s5 = some e5 → lv_has ls 6 [(0, .ref (a_sh 0)), (1, .int p1), (2, .int p2), (3, .int s5.1), (4, .int s5.2)] → W p l e rm3_clashingRow s m args below meth c s.heap [] 0 0 Q (F0 m 5 ls []) := by
    intro n5
    induction n5 with
    | zero =>
      intro s5 ls h hl
      exact (iter_zero h).elim
    | succ n5 ih5 =>
      intro s5 ls h hl
      obtain ⟨z5, h, hL5, hR5⟩ := iter_split h
      unfold f3_clashingRow_L5 at h
      refine lv_iload hx hb dX3_clashingRow_5 (lv_at hl 4 rfl) ?_
      refine lv_aload_n hx hb dX3_clashingRow_7 rfl (lv_at hl 0 rfl) ?_
      refine va_get (D := D) (ci := 3) (v := .int sh.2.2.2.2.2.2.2.1) (C := "ConstraintText$Sheet") (T := TX3) (N := 10) hx hb hts ing3 hown hK hP 0 rfl rfl 8 (by decide) (hts _ tw_193) (fun _ h9 => h9) rfl dX3_clashingRow_8 ?_
      refine lv_icmp_gt (tgt := 72) hx hb dX3_clashingRow_11 (by decide) (fun bc => ?_) (fun bc => ?_)
      · have h := ite_t bc h
        obtain rfl := Option.some.inj h
        exact x72w _ ls (eq_some_app (hR5 _ rfl) hc5) (lv_sub hl [] rfl)
      · have h := ite_f bc h
        refine lv_iload hx hb dX3_clashingRow_14 (lv_at hl 4 rfl) ?_
        refine lv_iconst (v := 1) hx hb dX3_clashingRow_16 (by decide) ?_
        refine lv_iadd hx hb dX3_clashingRow_17 ?_
        refine lv_istore (lv' := [(5, .int (s5.2 + (1 : Int32))), (0, .ref (a_sh 0)), (1, .int p1), (2, .int p2), (3, .int s5.1), (4, .int s5.2)]) hx hb dX3_clashingRow_18 hl (by decide) rfl (fun ls hl => ?_)
        obtain ⟨k20, e20, hk20, hi20, hc20⟩ := bnd_name h
        have x45w : ∀ (x45 : Int32) (ls : Array Slot), k20 (.inl x45) = some z5 → lv_has ls 6 [(2, .int p2), (4, .int s5.2), (5, .int x45)] → W p l e rm3_clashingRow s m args below meth c s.heap [] 0 0 Q (F0 m 45 ls []) := by
          intro x45 ls h hl
          have h := app_of hk20 h
          have h := cas_l h
          obtain rfl := Option.some.inj h
          exact x45w _ ls (eq_some_app (hR5 _ rfl) hc5) hl
        have x66w : ∀ (x66 : Int32) (ls : Array Slot), k20 (.inr x66) = some z5 → lv_has ls 6 [(0, .ref (a_sh 0)), (1, .int p1), (2, .int p2), (3, .int x66), (4, .int s5.2)] → W p l e rm3_clashingRow s m args below meth c s.heap [] 0 0 Q (F0 m 66 ls []) := by
          intro x66 ls h hl
          have h := app_of hk20 h
          have h := cas_r h
          refine lv_iinc (v := (s5.2 + (1 : Int32))) (lv' := [(4, .int (s5.2 + (1 : Int32))), (0, .ref (a_sh 0)), (1, .int p1), (2, .int p2), (3, .int x66)]) hx hb dX3_clashingRow_66 hl (k := 4) rfl rfl (by decide) rfl (fun ls hl => ?_)
          refine lv_goto (tgt := 5) hx hb dX3_clashingRow_69 (by decide) ?_
          obtain rfl := Option.some.inj h
          exact ih5 _ ls (hL5 _ rfl) (lv_sub hl [1, 2, 3, 4, 0] rfl)
        have lp20 : ∀ (n20 : Nat) (s20 : Int32 × Int32) (ls : Array Slot), iter (f3_clashingRow_L20 p1 sh s5) n20 s20 = some e20 → lv_has ls 6 [(0, .ref (a_sh 0)), (1, .int p1), (2, .int p2), (3, .int s20.1), (4, .int s5.2), (5, .int s20.2)] → W p l e rm3_clashingRow s m args below meth c s.heap [] 0 0 Q (F0 m 20 ls []) := by
          intro n20
          induction n20 with
          | zero =>
            intro s20 ls h hl
            exact (iter_zero h).elim
          | succ n20 ih20 =>
            intro s20 ls h hl
            obtain ⟨z20, h, hL20, hR20⟩ := iter_split h
            unfold f3_clashingRow_L20 at h
            refine lv_iload hx hb dX3_clashingRow_20 (lv_at hl 5 rfl) ?_
            refine lv_aload_n hx hb dX3_clashingRow_22 rfl (lv_at hl 0 rfl) ?_
            refine va_get (D := D) (ci := 3) (v := .int sh.2.2.2.2.2.2.2.1) (C := "ConstraintText$Sheet") (T := TX3) (N := 10) hx hb hts ing3 hown hK hP 0 rfl rfl 8 (by decide) (hts _ tw_193) (fun _ h9 => h9) rfl dX3_clashingRow_23 ?_
            refine lv_icmp_gt (tgt := 66) hx hb dX3_clashingRow_26 (by decide) (fun bc => ?_) (fun bc => ?_)
            · have h := ite_t bc h
              obtain rfl := Option.some.inj h
              exact x66w _ ls (eq_some_app (hR20 _ rfl) hc20) (lv_sub hl [0, 1, 2, 3, 4] rfl)
            · have h := ite_f bc h
              refine lv_aload_n hx hb dX3_clashingRow_29 rfl (lv_at hl 0 rfl) ?_
              refine lv_iload hx hb dX3_clashingRow_30 (lv_at hl 4 rfl) ?_
              refine lv_iload hx hb dX3_clashingRow_32 (lv_at hl 5 rfl) ?_
              obtain ⟨u34, hc_34, h⟩ := bnd_some h
              refine ro_V (n := 2) (As := [.int s5.2, .int s20.2]) (rest := []) hx hb hml hown hts hN va_S.rf hK hP (c3_haveClash l D kA a_sh a_ck s5.2 s20.2 sh u34 hc_34) [0, 1, 2, 3, 4, 5, 6, 7] rfl 0 3 rfl rfl rfl tw_821 tw_823 tw_35 tw_77 tw_824 rfl rfl (by decide) ⟨Nat.le_of_ble_eq_true rfl, Nat.le_of_ble_eq_true rfl⟩ rfl hl.1 rfl (Nat.le_of_ble_eq_true rfl) dX3_clashingRow_34 ⟨Nat.le_of_ble_eq_true rfl, Nat.le_of_ble_eq_true rfl⟩ ?_
              obtain ⟨k60, hk60, h⟩ := jn_name h
              have j60 : ∀ (v60 : Int32) (ls : Array Slot), k60 v60 = some z20 → lv_has ls 6 [(0, .ref (a_sh 0)), (1, .int p1), (2, .int p2), (3, .int v60), (4, .int s5.2), (5, .int s20.2)] → W p l e rm3_clashingRow s m args below meth c s.heap [] 0 0 Q (F0 m 60 ls []) := by
                intro v60 ls h hl
                have h := app_of hk60 h
                refine lv_iinc (v := (s20.2 + (1 : Int32))) (lv' := [(5, .int (s20.2 + (1 : Int32))), (0, .ref (a_sh 0)), (1, .int p1), (2, .int p2), (3, .int v60), (4, .int s5.2)]) hx hb dX3_clashingRow_60 hl (k := 5) rfl rfl (by decide) rfl (fun ls hl => ?_)
                refine lv_goto (tgt := 20) hx hb dX3_clashingRow_63 (by decide) ?_
                obtain rfl := Option.some.inj h
                exact ih20 _ ls (hL20 _ rfl) (lv_sub hl [1, 2, 3, 4, 5, 0] rfl)
              refine lv_if_eq (tgt := 60) hx hb dX3_clashingRow_37 (by decide) (fun bc => ?_) (fun bc => ?_)
              · have h := ite_t bc h
                exact j60 _ ls h hl
              · have h := ite_f bc h
                refine lv_iload_n hx hb dX3_clashingRow_40 rfl (lv_at hl 3 rfl) ?_
                refine lv_iload_n hx hb dX3_clashingRow_41 rfl (lv_at hl 1 rfl) ?_
                refine lv_icmp_ne (tgt := 57) hx hb dX3_clashingRow_42 (by decide) (fun bc => ?_) (fun bc => ?_)
                · have h := ite_f bc h
                  refine lv_iinc (v := (s20.1 + (1 : Int32))) (lv' := [(3, .int (s20.1 + (1 : Int32))), (0, .ref (a_sh 0)), (1, .int p1), (2, .int p2), (4, .int s5.2), (5, .int s20.2)]) hx hb dX3_clashingRow_57 hl (k := 3) rfl rfl (by decide) rfl (fun ls hl => ?_)
                  exact j60 _ ls h (lv_sub hl [1, 2, 3, 0, 4, 5] rfl)
                · have h := ite_t bc h
                  obtain rfl := Option.some.inj h
                  exact x45w _ ls (eq_some_app (hR20 _ rfl) hc20) (lv_sub hl [2, 4, 5] rfl)
        exact lp20 F (s5.1, (s5.2 + (1 : Int32))) ls hi20 (lv_sub hl [1, 2, 3, 4, 5, 0] rfl)
  exact lp5 F ((0 : Int32), (1 : Int32)) ls hi5 (lv_sub hl [2, 3, 4, 1, 0] rfl)
abbrev rm4_takes : Room := { frames := 0, cells := 0, slots := 0, locals := 0 }
set_option maxHeartbeats 4000000 in
set_option maxRecDepth 100000 in
theorem c4_takes (l : Launch) (D : va_G) (kA : Nat → ClassId)  (p1 : Int32) (res : Int32) (h : f4_takes p1 = some res) : Ro l yX4_takes cX4_takes 1 (some .boolean) rm4_takes D kA [.int p1] [] (.int res) := by
  refine Ro.of (by decide +kernel) (Nat.le_of_ble_eq_true rfl) ?_
  intro p e s m args below meth c hF hP hK ls hl
  generalize hQ : roQ below _ args s = Q
  obtain ⟨hx, hb, hml, hown, hr, hk, hts, hN⟩ := hF
  have hl : lv_has ls 1 [(0, .int p1)] := hl
  unfold f4_takes at h
  refine lv_iload_n hx hb dX4_takes_0 rfl (lv_at hl 0 rfl) ?_
  refine lv_bipush (v := 32) hx hb dX4_takes_1 (by decide) ?_
  obtain ⟨k12, hk12, h⟩ := jn_name h
  have j12 : ∀ (v12 : Unit) (ls : Array Slot), k12 v12 = some res → lv_has ls 1 [(0, .int p1)] → W p l e rm4_takes s m args below meth c s.heap [] 0 0 Q (F0 m 12 ls []) := by
    intro v12 ls h hl
    have h := app_of hk12 h
    refine lv_iload_n hx hb dX4_takes_12 rfl (lv_at hl 0 rfl) ?_
    refine lv_bipush (v := 10) hx hb dX4_takes_13 (by decide) ?_
    refine lv_icmp_ne (tgt := 22) hx hb dX4_takes_15 (by decide) (fun bc => ?_) (fun bc => ?_)
    · have h := ite_f bc h
      refine lv_iconst (v := 0) hx hb dX4_takes_22 (by decide) ?_
      obtain rfl := Option.some.inj h
      rw [← hQ]
      exact ro_zreturn hx hb hr hk nz_Z0 dX4_takes_23
    · have h := ite_t bc h
      refine lv_iconst (v := 1) hx hb dX4_takes_18 (by decide) ?_
      refine lv_goto (tgt := 23) hx hb dX4_takes_19 (by decide) ?_
      obtain rfl := Option.some.inj h
      rw [← hQ]
      exact ro_zreturn hx hb hr hk nz_Z1 dX4_takes_23
  refine lv_icmp_lt (tgt := 12) hx hb dX4_takes_3 (by decide) (fun bc => ?_) (fun bc => ?_)
  · have h := ite_t bc h
    exact j12 _ ls h hl
  · have h := ite_f bc h
    refine lv_iload_n hx hb dX4_takes_6 rfl (lv_at hl 0 rfl) ?_
    refine lv_bipush (v := 126) hx hb dX4_takes_7 (by decide) ?_
    refine lv_icmp_le (tgt := 18) hx hb dX4_takes_9 (by decide) (fun bc => ?_) (fun bc => ?_)
    · have h := ite_t bc h
      refine lv_iconst (v := 1) hx hb dX4_takes_18 (by decide) ?_
      refine lv_goto (tgt := 23) hx hb dX4_takes_19 (by decide) ?_
      obtain rfl := Option.some.inj h
      rw [← hQ]
      exact ro_zreturn hx hb hr hk nz_Z1 dX4_takes_23
    · have h := ite_f bc h
      exact j12 _ ls h hl
abbrev rm4_room : Room := { frames := 0, cells := 0, slots := 0, locals := 0 }
set_option maxHeartbeats 4000000 in
set_option maxRecDepth 100000 in
theorem c4_room (l : Launch) (D : va_G) (kA : Nat → ClassId) (a_tp : Nat → Nat) (tp : T4) (res : Int32) (h : f4_room tp = some res) : Ro l yX4_room cX4_room 1 (some .int) rm4_room D kA [.ref (a_tp 0)] [(a_tp 0, .inr (4, [.ref (a_tp 1), .int tp.2])), (a_tp 1, .inl (kA 1, 1200, .inl tp.1))] (.int res) := by
  refine Ro.of (by decide +kernel) (Nat.le_of_ble_eq_true rfl) ?_
  intro p e s m args below meth c hF hP hK ls hl
  generalize hQ : roQ below _ args s = Q
  obtain ⟨hx, hb, hml, hown, hr, hk, hts, hN⟩ := hF
  have hl : lv_has ls 1 [(0, .ref (a_tp 0))] := hl
  unfold f4_room at h
  refine lv_sipush (v := 1200) hx hb dX4_room_0 (by decide) ?_
  refine lv_aload_n hx hb dX4_room_3 rfl (lv_at hl 0 rfl) ?_
  refine va_get (D := D) (ci := 4) (v := .int tp.2) (C := "ConstraintText$Tape") (T := TX4) (N := 2) hx hb hts ing4 hown hK hP 0 rfl rfl 1 (by decide) (hts _ tw_113) (fun _ h9 => h9) rfl dX4_room_4 ?_
  refine lv_isub hx hb dX4_room_7 ?_
  obtain rfl := Option.some.inj h
  rw [← hQ]
  exact ro_ireturn hx hb hr hk  dX4_room_8
abbrev rm4_append : Room := { frames := 0, cells := 0, slots := 0, locals := 0 }
set_option maxHeartbeats 4000000 in
set_option maxRecDepth 100000 in
theorem c4_append (l : Launch) (D : va_G) (kA : Nat → ClassId) (a_tp : Nat → Nat) (p1 : Int32) (tp : T4) (res : T4) (h : f4_append p1 tp = some res) : Rw l yX4_append cX4_append 2 none rm4_append D kA [.ref (a_tp 0), .int p1] [(a_tp 0, .inr (4, [.ref (a_tp 1), .int tp.2])), (a_tp 1, .inl (kA 1, 1200, .inl tp.1))] none [(a_tp 0, .inr (4, [.ref (a_tp 1), .int res.2])), (a_tp 1, .inl (kA 1, 1200, .inl res.1))] := by
  refine Rw.of (by decide) (Nat.le_of_ble_eq_true rfl) ?_
  intro p e s m args below meth c A hF hP hD hS hA hK ls hl
  generalize hQ : rwQ below D A _ _ args s = Q
  obtain ⟨hx, hb, hml, hown, hr, hk, hts, hN⟩ := hF
  have hl : lv_has ls 2 [(0, .ref (a_tp 0)), (1, .int p1)] := hl
  unfold f4_append at h
  refine lv_aload_n hx hb dX4_append_0 rfl (lv_at hl 0 rfl) ?_
  refine va_get (D := D) (ci := 4) (v := .int tp.2) (C := "ConstraintText$Tape") (T := TX4) (N := 2) hx hb hts ing4 hown hK hP 0 rfl rfl 1 (by decide) (hts _ tw_113) (fun _ h9 => h9) rfl dX4_append_1 ?_
  refine lv_aload_n hx hb dX4_append_4 rfl (lv_at hl 0 rfl) ?_
  refine va_get (D := D) (ci := 4) (v := .ref (a_tp 1)) (C := "ConstraintText$Tape") (T := TX4) (N := 2) hx hb hts ing4 hown hK hP 0 rfl rfl 0 (by decide) (hts _ tw_112) (fun _ h9 => h9) rfl dX4_append_5 ?_
  refine va_alen (v := 1200) hx hb hK hP 1 1 rfl rfl (show Int32.ofNat 1200 = (1200 : Int32) from by decide) dX4_append_8 ?_
  refine lv_icmp_ge (tgt := 33) hx hb dX4_append_9 (by decide) (fun bc => ?_) (fun bc => ?_)
  · have h := ite_t bc h
    obtain rfl := Option.some.inj h
    rw [← hQ]
    exact rw_return hx hb hr hk  dX4_append_33  hP hD hS
  · have h := ite_f bc h
    refine lv_aload_n hx hb dX4_append_12 rfl (lv_at hl 0 rfl) ?_
    refine va_get (D := D) (ci := 4) (v := .ref (a_tp 1)) (C := "ConstraintText$Tape") (T := TX4) (N := 2) hx hb hts ing4 hown hK hP 0 rfl rfl 0 (by decide) (hts _ tw_112) (fun _ h9 => h9) rfl dX4_append_13 ?_
    refine lv_aload_n hx hb dX4_append_16 rfl (lv_at hl 0 rfl) ?_
    refine va_get (D := D) (ci := 4) (v := .int tp.2) (C := "ConstraintText$Tape") (T := TX4) (N := 2) hx hb hts ing4 hown hK hP 0 rfl rfl 1 (by decide) (hts _ tw_113) (fun _ h9 => h9) rfl dX4_append_17 ?_
    refine lv_iload_n hx hb dX4_append_20 rfl (lv_at hl 1 rfl) ?_
    refine lv_i2c (v := (xi2c p1)) hx hb dX4_append_21 rfl ?_
    obtain ⟨g22, h⟩ := grd_some h
    refine va_cast hx hb hK hP hD hS 1 1 rfl rfl (inb_in g22) dX4_append_22 (fun H locs hP hD hS => ?_)
    have hP : va_P D vwCl [(a_tp 0, .inr (4, [.ref (a_tp 1), .int tp.2])), (a_tp 1, .inl (kA 1, 1200, .inl (upd tp.1 tp.2.toNatClampNeg (vp_nar .char (xi2c p1)))))] H := hP
    have hD : va_D A [(a_tp 0, .inr (4, [.ref (a_tp 1), .int tp.2])), (a_tp 1, .inl (kA 1, 1200, .inl (upd tp.1 tp.2.toNatClampNeg (vp_nar .char (xi2c p1)))))] := hD
    refine lv_aload_n hx hb dX4_append_23 rfl (lv_at hl 0 rfl) ?_
    refine lv_dup hx hb dX4_append_24 rfl ?_
    refine va_get (D := D) (ci := 4) (v := .int tp.2) (C := "ConstraintText$Tape") (T := TX4) (N := 2) hx hb hts ing4 hown hK hP 0 rfl rfl 1 (by decide) (hts _ tw_113) (fun _ h9 => h9) rfl dX4_append_25 ?_
    refine lv_iconst (v := 1) hx hb dX4_append_28 (by decide) ?_
    refine lv_iadd hx hb dX4_append_29 ?_
    refine va_put (D := D) (ci := 4) (v := .int (tp.2 + (1 : Int32))) (ty := .int) (C := "ConstraintText$Tape") (T := TX4) (N := 2) hx hb hts ing4 tyX4 tyX4_ok nmX4 hown hK hP hD hS 0 rfl rfl 1 (by decide) (hts _ tw_113) (fun _ h9 => h9) rfl (tyX4_ok 1 (by decide)) rfl rfl (Nat.le_of_ble_eq_true rfl) dX4_append_30 (fun H locs hP hD hS => ?_)
    have hP : va_P D vwCl [(a_tp 0, .inr (4, [.ref (a_tp 1), .int (tp.2 + (1 : Int32))])), (a_tp 1, .inl (kA 1, 1200, .inl (upd tp.1 tp.2.toNatClampNeg (vp_nar .char (xi2c p1)))))] H := hP
    have hD : va_D A [(a_tp 0, .inr (4, [.ref (a_tp 1), .int (tp.2 + (1 : Int32))])), (a_tp 1, .inl (kA 1, 1200, .inl (upd tp.1 tp.2.toNatClampNeg (vp_nar .char (xi2c p1)))))] := hD
    obtain rfl := Option.some.inj h
    rw [← hQ]
    exact rw_return hx hb hr hk  dX4_append_33  hP hD hS
abbrev rm4_wipe : Room := { frames := 0, cells := 0, slots := 0, locals := 0 }
set_option maxHeartbeats 4000000 in
set_option maxRecDepth 100000 in
theorem c4_wipe (l : Launch) (D : va_G) (kA : Nat → ClassId) (a_tp : Nat → Nat) (tp : T4) (res : T4) (h : f4_wipe tp = some res) : Rw l yX4_wipe cX4_wipe 1 none rm4_wipe D kA [.ref (a_tp 0)] [(a_tp 0, .inr (4, [.ref (a_tp 1), .int tp.2])), (a_tp 1, .inl (kA 1, 1200, .inl tp.1))] none [(a_tp 0, .inr (4, [.ref (a_tp 1), .int res.2])), (a_tp 1, .inl (kA 1, 1200, .inl res.1))] := by
  refine Rw.of (by decide) (Nat.le_of_ble_eq_true rfl) ?_
  intro p e s m args below meth c A hF hP hD hS hA hK ls hl
  generalize hQ : rwQ below D A _ _ args s = Q
  obtain ⟨hx, hb, hml, hown, hr, hk, hts, hN⟩ := hF
  have hl : lv_has ls 1 [(0, .ref (a_tp 0))] := hl
  unfold f4_wipe at h
  refine lv_aload_n hx hb dX4_wipe_0 rfl (lv_at hl 0 rfl) ?_
  refine lv_iconst (v := 0) hx hb dX4_wipe_1 (by decide) ?_
  refine va_put (D := D) (ci := 4) (v := .int (0 : Int32)) (ty := .int) (C := "ConstraintText$Tape") (T := TX4) (N := 2) hx hb hts ing4 tyX4 tyX4_ok nmX4 hown hK hP hD hS 0 rfl rfl 1 (by decide) (hts _ tw_113) (fun _ h9 => h9) rfl (tyX4_ok 1 (by decide)) rfl rfl (Nat.le_of_ble_eq_true rfl) dX4_wipe_2 (fun H locs hP hD hS => ?_)
  have hP : va_P D vwCl [(a_tp 0, .inr (4, [.ref (a_tp 1), .int (0 : Int32)])), (a_tp 1, .inl (kA 1, 1200, .inl tp.1))] H := hP
  have hD : va_D A [(a_tp 0, .inr (4, [.ref (a_tp 1), .int (0 : Int32)])), (a_tp 1, .inl (kA 1, 1200, .inl tp.1))] := hD
  obtain rfl := Option.some.inj h
  rw [← hQ]
  exact rw_return hx hb hr hk  dX4_wipe_5  hP hD hS
abbrev rm5_unit : Room := { frames := 1, cells := 0, slots := 0, locals := 21 }
set_option maxHeartbeats 4000000 in
set_option maxRecDepth 100000 in
theorem c5_unit (l : Launch) (D : va_G) (kA : Nat → ClassId) (a_ct : Nat → Nat) (a_tp : Nat → Nat) (a_pn : Nat → Nat) (a_rd : Nat → Nat) (a_sh : Nat → Nat) (p1 : Int32) (tp : T4) (res : Int32 × T4) (h : f5_unit p1 tp = some res) : Rw l yX5_unit cX5_unit 2 (some .boolean) rm5_unit D kA [.ref (a_ct 0), .int p1] [(a_ct 0, .inr (5, [.ref (a_tp 0), .ref (a_pn 0), .ref (a_rd 0), .ref (a_sh 0)])), (a_tp 0, .inr (4, [.ref (a_tp 1), .int tp.2])), (a_tp 1, .inl (kA 1, 1200, .inl tp.1))] (some (.int res.1)) [(a_ct 0, .inr (5, [.ref (a_tp 0), .ref (a_pn 0), .ref (a_rd 0), .ref (a_sh 0)])), (a_tp 0, .inr (4, [.ref (a_tp 1), .int res.2.2])), (a_tp 1, .inl (kA 1, 1200, .inl res.2.1))] := by
  refine Rw.of (by decide) (Nat.le_of_ble_eq_true rfl) ?_
  intro p e s m args below meth c A hF hP hD hS hA hK ls hl
  generalize hQ : rwQ below D A _ _ args s = Q
  obtain ⟨hx, hb, hml, hown, hr, hk, hts, hN⟩ := hF
  have hl : lv_has ls 2 [(0, .ref (a_ct 0)), (1, .int p1)] := hl
  unfold f5_unit at h
  refine lv_iload_n hx hb dX5_unit_0 rfl (lv_at hl 1 rfl) ?_
  obtain ⟨u1, hc_1, h⟩ := bnd_some h
  refine ro_S (n := 1) (As := [.int p1]) (rest := []) hx hb hml hown hts hN hS hK hP (c4_takes l D kA p1 u1 hc_1) [] rfl tw_277 tw_278 tw_76 tw_279 rfl rfl (by decide) ⟨Nat.le_of_ble_eq_true rfl, Nat.le_of_ble_eq_true rfl⟩ rfl hl.1 rfl (Nat.le_of_ble_eq_true rfl) dX5_unit_1 ⟨Nat.le_of_ble_eq_true rfl, Nat.le_of_ble_eq_true rfl⟩ ?_
  refine lv_if_eq (tgt := 18) hx hb dX5_unit_4 (by decide) (fun bc => ?_) (fun bc => ?_)
  · have h := ite_t bc h
    refine lv_iconst (v := 0) hx hb dX5_unit_18 (by decide) ?_
    obtain rfl := Option.some.inj h
    rw [← hQ]
    exact rw_zreturn hx hb hr hk nz_Z0 dX5_unit_19  hP hD hS
  · have h := ite_f bc h
    refine lv_aload_n hx hb dX5_unit_7 rfl (lv_at hl 0 rfl) ?_
    refine va_get (D := D) (ci := 5) (v := .ref (a_tp 0)) (C := "ConstraintText") (T := TX5) (N := 4) hx hb hts ing5 hown hK hP 0 rfl rfl 0 (by decide) (hts _ tw_260) (fun _ h9 => h9) rfl dX5_unit_8 ?_
    obtain ⟨u11, hc_11, h⟩ := bnd_some h
    refine ro_V (n := 0) (As := []) (rest := []) hx hb hml hown hts hN hS hK hP (c4_room l D kA a_tp tp u11 hc_11) [1, 2] rfl 1 4 rfl rfl rfl tw_280 tw_281 tw_282 tw_76 tw_283 rfl rfl (by decide) ⟨Nat.le_of_ble_eq_true rfl, Nat.le_of_ble_eq_true rfl⟩ rfl hl.1 rfl (Nat.le_of_ble_eq_true rfl) dX5_unit_11 ⟨Nat.le_of_ble_eq_true rfl, Nat.le_of_ble_eq_true rfl⟩ ?_
    refine lv_iconst (v := 1) hx hb dX5_unit_14 (by decide) ?_
    refine lv_icmp_ge (tgt := 20) hx hb dX5_unit_15 (by decide) (fun bc => ?_) (fun bc => ?_)
    · have h := ite_t bc h
      refine lv_aload_n hx hb dX5_unit_20 rfl (lv_at hl 0 rfl) ?_
      refine va_get (D := D) (ci := 5) (v := .ref (a_tp 0)) (C := "ConstraintText") (T := TX5) (N := 4) hx hb hts ing5 hown hK hP 0 rfl rfl 0 (by decide) (hts _ tw_260) (fun _ h9 => h9) rfl dX5_unit_21 ?_
      refine lv_iload_n hx hb dX5_unit_24 rfl (lv_at hl 1 rfl) ?_
      obtain ⟨u25, hc_25, h⟩ := bnd_some h
      refine rw_V (wr := [(a_ct 0, .inr (5, [.ref (a_tp 0), .ref (a_pn 0), .ref (a_rd 0), .ref (a_sh 0)]))]) (n := 1) (As := [.int p1]) (rest := []) hx hb hml hown hts hN hS hK hP hD hA (c4_append l D kA a_tp p1 tp u25 hc_25) [1, 2] [0] rfl (by decide) rfl (by decide) (by decide) 1 4 rfl rfl rfl tw_284 tw_285 tw_286 tw_76 tw_287 rfl rfl (by decide) ⟨Nat.le_of_ble_eq_true rfl, Nat.le_of_ble_eq_true rfl⟩ rfl hl.1 rfl (Nat.le_of_ble_eq_true rfl) dX5_unit_25 ⟨Nat.le_of_ble_eq_true rfl, Nat.le_of_ble_eq_true rfl⟩ (fun H locs hP hD hS => ?_)
      have hP : va_P D vwCl [(a_ct 0, .inr (5, [.ref (a_tp 0), .ref (a_pn 0), .ref (a_rd 0), .ref (a_sh 0)])), (a_tp 0, .inr (4, [.ref (a_tp 1), .int u25.2])), (a_tp 1, .inl (kA 1, 1200, .inl u25.1))] H := hP
      have hD : va_D A [(a_ct 0, .inr (5, [.ref (a_tp 0), .ref (a_pn 0), .ref (a_rd 0), .ref (a_sh 0)])), (a_tp 0, .inr (4, [.ref (a_tp 1), .int u25.2])), (a_tp 1, .inl (kA 1, 1200, .inl u25.1))] := hD
      refine lv_iconst (v := 1) hx hb dX5_unit_28 (by decide) ?_
      obtain rfl := Option.some.inj h
      rw [← hQ]
      exact rw_zreturn hx hb hr hk nz_Z1 dX5_unit_29  hP hD hS
    · have h := ite_f bc h
      refine lv_iconst (v := 0) hx hb dX5_unit_18 (by decide) ?_
      obtain rfl := Option.some.inj h
      rw [← hQ]
      exact rw_zreturn hx hb hr hk nz_Z0 dX5_unit_19  hP hD hS
abbrev rm5_units : Room := { frames := 1, cells := 0, slots := 0, locals := 21 }
set_option maxHeartbeats 4000000 in
set_option maxRecDepth 100000 in
theorem c5_units (l : Launch) (D : va_G) (kA : Nat → ClassId) (a_ct : Nat → Nat) (a_tp : Nat → Nat) (a_pn : Nat → Nat) (a_rd : Nat → Nat) (a_sh : Nat → Nat) (F : Nat) (p1 : Int32) (tp : T4) (res : Int32 × T4) (h : f5_units F p1 tp = some res) : Rw l yX5_units cX5_units 5 (some .boolean) rm5_units D kA [.ref (a_ct 0), .int p1] [(a_ct 0, .inr (5, [.ref (a_tp 0), .ref (a_pn 0), .ref (a_rd 0), .ref (a_sh 0)])), (a_tp 0, .inr (4, [.ref (a_tp 1), .int tp.2])), (a_tp 1, .inl (kA 1, 1200, .inl tp.1))] (some (.int res.1)) [(a_ct 0, .inr (5, [.ref (a_tp 0), .ref (a_pn 0), .ref (a_rd 0), .ref (a_sh 0)])), (a_tp 0, .inr (4, [.ref (a_tp 1), .int res.2.2])), (a_tp 1, .inl (kA 1, 1200, .inl res.2.1))] := by
  refine Rw.of (by decide) (Nat.le_of_ble_eq_true rfl) ?_
  intro p e s m args below meth c A hF hP hD hS hA hK ls hl
  generalize hQ : rwQ below D A _ _ args s = Q
  obtain ⟨hx, hb, hml, hown, hr, hk, hts, hN⟩ := hF
  have hl : lv_has ls 5 [(0, .ref (a_ct 0)), (1, .int p1)] := hl
  unfold f5_units at h
  refine lv_iconst (v := 0) hx hb dX5_units_0 (by decide) ?_
  refine lv_istore_n (lv' := [(2, .int (0 : Int32)), (0, .ref (a_ct 0)), (1, .int p1)]) hx hb dX5_units_1 rfl hl (by decide) rfl (fun ls hl => ?_)
  refine lv_bipush (v := 24) hx hb dX5_units_2 (by decide) ?_
  refine lv_istore_n (lv' := [(3, .int (24 : Int32)), (2, .int (0 : Int32)), (0, .ref (a_ct 0)), (1, .int p1)]) hx hb dX5_units_4 rfl hl (by decide) rfl (fun ls hl => ?_)
  obtain ⟨k5, e5, hk5, hi5, hc5⟩ := bnd_name h
  have x31w : ∀ (x31 : Unit) (H : Heap) (locs : List Loc) (ls : Array Slot), k5 (.inl x31) = some res → va_P D vwCl [(a_ct 0, .inr (5, [.ref (a_tp 0), .ref (a_pn 0), .ref (a_rd 0), .ref (a_sh 0)])), (a_tp 0, .inr (4, [.ref (a_tp 1), .int tp.2])), (a_tp 1, .inl (kA 1, 1200, .inl tp.1))] H → va_D A [(a_ct 0, .inr (5, [.ref (a_tp 0), .ref (a_pn 0), .ref (a_rd 0), .ref (a_sh 0)])), (a_tp 0, .inr (4, [.ref (a_tp 1), .int tp.2])), (a_tp 1, .inl (kA 1, 1200, .inl tp.1))] → va_S A s.heap H locs → lv_has ls 5 [] → W p l e rm5_units s m args below meth c H locs 0 0 Q (F0 m 31 ls []) := by
    intro x31 H locs ls h hP hD hS hl
    have h := app_of hk5 h
    have h := cas_l h
    refine lv_iconst (v := 0) hx hb dX5_units_31 (by decide) ?_
    obtain rfl := Option.some.inj h
    rw [← hQ]
    exact rw_zreturn hx hb hr hk nz_Z0 dX5_units_32  hP hD hS
  have x42w : ∀ (x42 : Int32) (H : Heap) (locs : List Loc) (ls : Array Slot), k5 (.inr x42) = some res → va_P D vwCl [(a_ct 0, .inr (5, [.ref (a_tp 0), .ref (a_pn 0), .ref (a_rd 0), .ref (a_sh 0)])), (a_tp 0, .inr (4, [.ref (a_tp 1), .int tp.2])), (a_tp 1, .inl (kA 1, 1200, .inl tp.1))] H → va_D A [(a_ct 0, .inr (5, [.ref (a_tp 0), .ref (a_pn 0), .ref (a_rd 0), .ref (a_sh 0)])), (a_tp 0, .inr (4, [.ref (a_tp 1), .int tp.2])), (a_tp 1, .inl (kA 1, 1200, .inl tp.1))] → va_S A s.heap H locs → lv_has ls 5 [(0, .ref (a_ct 0)), (1, .int p1), (2, .int x42)] → W p l e rm5_units s m args below meth c H locs 0 0 Q (F0 m 42 ls []) := by
    intro x42 H locs ls h hP hD hS hl
    have h := app_of hk5 h
    have h := cas_r h
    refine lv_aload_n hx hb dX5_units_42 rfl (lv_at hl 0 rfl) ?_
    refine va_get (D := D) (ci := 5) (v := .ref (a_tp 0)) (C := "ConstraintText") (T := TX5) (N := 4) hx hb hts ing5 hown hK hP 0 rfl rfl 0 (by decide) (hts _ tw_260) (fun _ h9 => h9) rfl dX5_units_43 ?_
    obtain ⟨u46, hc_46, h⟩ := bnd_some h
    refine ro_V (n := 0) (As := []) (rest := []) hx hb hml hown hts hN hS hK hP (c4_room l D kA a_tp tp u46 hc_46) [1, 2] rfl 1 4 rfl rfl rfl tw_280 tw_281 tw_282 tw_76 tw_283 rfl rfl (by decide) ⟨Nat.le_of_ble_eq_true rfl, Nat.le_of_ble_eq_true rfl⟩ rfl hl.1 rfl (Nat.le_of_ble_eq_true rfl) dX5_units_46 ⟨Nat.le_of_ble_eq_true rfl, Nat.le_of_ble_eq_true rfl⟩ ?_
    refine lv_iload_n hx hb dX5_units_49 rfl (lv_at hl 2 rfl) ?_
    refine lv_icmp_ge (tgt := 55) hx hb dX5_units_50 (by decide) (fun bc => ?_) (fun bc => ?_)
    · have h := ite_t bc h
      refine lv_bipush (v := 24) hx hb dX5_units_55 (by decide) ?_
      refine lv_istore_n (lv' := [(3, .int (24 : Int32)), (0, .ref (a_ct 0)), (1, .int p1), (2, .int x42)]) hx hb dX5_units_57 rfl hl (by decide) rfl (fun ls hl => ?_)
      obtain ⟨k58, e58, hk58, hi58, hc58⟩ := bnd_name h
      have x91w : ∀ (x91 : T4) (H : Heap) (locs : List Loc) (ls : Array Slot), k58 x91 = some res → va_P D vwCl [(a_ct 0, .inr (5, [.ref (a_tp 0), .ref (a_pn 0), .ref (a_rd 0), .ref (a_sh 0)])), (a_tp 0, .inr (4, [.ref (a_tp 1), .int x91.2])), (a_tp 1, .inl (kA 1, 1200, .inl x91.1))] H → va_D A [(a_ct 0, .inr (5, [.ref (a_tp 0), .ref (a_pn 0), .ref (a_rd 0), .ref (a_sh 0)])), (a_tp 0, .inr (4, [.ref (a_tp 1), .int x91.2])), (a_tp 1, .inl (kA 1, 1200, .inl x91.1))] → va_S A s.heap H locs → lv_has ls 5 [] → W p l e rm5_units s m args below meth c H locs 0 0 Q (F0 m 91 ls []) := by
        intro x91 H locs ls h hP hD hS hl
        have h := app_of hk58 h
        refine lv_iconst (v := 1) hx hb dX5_units_91 (by decide) ?_
        obtain rfl := Option.some.inj h
        rw [← hQ]
        exact rw_zreturn hx hb hr hk nz_Z1 dX5_units_92  hP hD hS
      have lp58 : ∀ (n58 : Nat) (s58 : Int32 × T4) (H : Heap) (locs : List Loc) (ls : Array Slot), iter (f5_units_L58 p1) n58 s58 = some e58 → va_P D vwCl [(a_ct 0, .inr (5, [.ref (a_tp 0), .ref (a_pn 0), .ref (a_rd 0), .ref (a_sh 0)])), (a_tp 0, .inr (4, [.ref (a_tp 1), .int s58.2.2])), (a_tp 1, .inl (kA 1, 1200, .inl s58.2.1))] H → va_D A [(a_ct 0, .inr (5, [.ref (a_tp 0), .ref (a_pn 0), .ref (a_rd 0), .ref (a_sh 0)])), (a_tp 0, .inr (4, [.ref (a_tp 1), .int s58.2.2])), (a_tp 1, .inl (kA 1, 1200, .inl s58.2.1))] → va_S A s.heap H locs → lv_has ls 5 [(0, .ref (a_ct 0)), (1, .int p1), (3, .int s58.1)] → W p l e rm5_units s m args below meth c H locs 0 0 Q (F0 m 58 ls []) := by
        intro n58
        induction n58 with
        | zero =>
          intro s58 H locs ls h hP hD hS hl
          exact (iter_zero h).elim
        | succ n58 ih58 =>
          intro s58 H locs ls h hP hD hS hl
          obtain ⟨z58, h, hL58, hR58⟩ := iter_split h
          unfold f5_units_L58 at h
          refine lv_iload_n hx hb dX5_units_58 rfl (lv_at hl 2 rfl) ?_
          refine lv_if_lt (tgt := 91) hx hb dX5_units_59 (by decide) (fun bc => ?_) (fun bc => ?_)
          · have h := ite_t bc h
            obtain rfl := Option.some.inj h
            exact x91w _ _ _ ls (eq_some_app (hR58 _ rfl) hc58) hP hD hS (lv_sub hl [] rfl)
          · have h := ite_f bc h
            refine lv_iload_n hx hb dX5_units_62 rfl (lv_at hl 1 rfl) ?_
            refine lv_iload_n hx hb dX5_units_63 rfl (lv_at hl 2 rfl) ?_
            refine lv_iushr (v := (xiushr p1 s58.1)) hx hb dX5_units_64 rfl ?_
            refine lv_sipush (v := 255) hx hb dX5_units_65 (by decide) ?_
            refine lv_iand hx hb dX5_units_68 ?_
            refine lv_istore (lv' := [(4, .int ((xiushr p1 s58.1) &&& (255 : Int32))), (0, .ref (a_ct 0)), (1, .int p1), (3, .int s58.1)]) hx hb dX5_units_69 hl (by decide) rfl (fun ls hl => ?_)
            refine lv_iload hx hb dX5_units_71 (lv_at hl 0 rfl) ?_
            obtain ⟨k85, hk85, h⟩ := jn_name h
            have j85 : ∀ (v85 : T4) (H : Heap) (locs : List Loc) (ls : Array Slot), k85 v85 = some z58 → va_P D vwCl [(a_ct 0, .inr (5, [.ref (a_tp 0), .ref (a_pn 0), .ref (a_rd 0), .ref (a_sh 0)])), (a_tp 0, .inr (4, [.ref (a_tp 1), .int v85.2])), (a_tp 1, .inl (kA 1, 1200, .inl v85.1))] H → va_D A [(a_ct 0, .inr (5, [.ref (a_tp 0), .ref (a_pn 0), .ref (a_rd 0), .ref (a_sh 0)])), (a_tp 0, .inr (4, [.ref (a_tp 1), .int v85.2])), (a_tp 1, .inl (kA 1, 1200, .inl v85.1))] → va_S A s.heap H locs → lv_has ls 5 [(0, .ref (a_ct 0)), (1, .int p1), (3, .int s58.1)] → W p l e rm5_units s m args below meth c H locs 0 0 Q (F0 m 85 ls []) := by
              intro v85 H locs ls h hP hD hS hl
              have h := app_of hk85 h
              refine lv_iinc (v := (s58.1 + (-8 : Int32))) (lv' := [(3, .int (s58.1 + (-8 : Int32))), (0, .ref (a_ct 0)), (1, .int p1)]) hx hb dX5_units_85 hl (k := 2) rfl rfl (by decide) rfl (fun ls hl => ?_)
              refine lv_goto (tgt := 58) hx hb dX5_units_88 (by decide) ?_
              obtain rfl := Option.some.inj h
              exact ih58 _ _ _ ls (hL58 _ rfl) hP hD hS (lv_sub hl [1, 2, 0] rfl)
            refine lv_if_eq (tgt := 85) hx hb dX5_units_73 (by decide) (fun bc => ?_) (fun bc => ?_)
            · have h := ite_t bc h
              exact j85 _ _ _ ls h hP hD hS (lv_sub hl [1, 2, 3] rfl)
            · have h := ite_f bc h
              refine lv_aload_n hx hb dX5_units_76 rfl (lv_at hl 1 rfl) ?_
              refine va_get (D := D) (ci := 5) (v := .ref (a_tp 0)) (C := "ConstraintText") (T := TX5) (N := 4) hx hb hts ing5 hown hK hP 0 rfl rfl 0 (by decide) (hts _ tw_260) (fun _ h9 => h9) rfl dX5_units_77 ?_
              refine lv_iload hx hb dX5_units_80 (lv_at hl 0 rfl) ?_
              obtain ⟨u82, hc_82, h⟩ := bnd_some h
              refine rw_V (wr := [(a_ct 0, .inr (5, [.ref (a_tp 0), .ref (a_pn 0), .ref (a_rd 0), .ref (a_sh 0)]))]) (n := 1) (As := [.int ((xiushr p1 s58.1) &&& (255 : Int32))]) (rest := []) hx hb hml hown hts hN hS hK hP hD hA (c4_append l D kA a_tp ((xiushr p1 s58.1) &&& (255 : Int32)) s58.2 u82 hc_82) [1, 2] [0] rfl (by decide) rfl (by decide) (by decide) 1 4 rfl rfl rfl tw_284 tw_285 tw_286 tw_76 tw_287 rfl rfl (by decide) ⟨Nat.le_of_ble_eq_true rfl, Nat.le_of_ble_eq_true rfl⟩ rfl hl.1 rfl (Nat.le_of_ble_eq_true rfl) dX5_units_82 ⟨Nat.le_of_ble_eq_true rfl, Nat.le_of_ble_eq_true rfl⟩ (fun H locs hP hD hS => ?_)
              have hP : va_P D vwCl [(a_ct 0, .inr (5, [.ref (a_tp 0), .ref (a_pn 0), .ref (a_rd 0), .ref (a_sh 0)])), (a_tp 0, .inr (4, [.ref (a_tp 1), .int u82.2])), (a_tp 1, .inl (kA 1, 1200, .inl u82.1))] H := hP
              have hD : va_D A [(a_ct 0, .inr (5, [.ref (a_tp 0), .ref (a_pn 0), .ref (a_rd 0), .ref (a_sh 0)])), (a_tp 0, .inr (4, [.ref (a_tp 1), .int u82.2])), (a_tp 1, .inl (kA 1, 1200, .inl u82.1))] := hD
              exact j85 _ _ _ ls h hP hD hS (lv_sub hl [1, 2, 3] rfl)
      exact lp58 F ((24 : Int32), tp) _ _ ls hi58 hP hD hS (lv_sub hl [1, 2, 0] rfl)
    · have h := ite_f bc h
      refine lv_iconst (v := 0) hx hb dX5_units_53 (by decide) ?_
      obtain rfl := Option.some.inj h
      rw [← hQ]
      exact rw_zreturn hx hb hr hk nz_Z0 dX5_units_54  hP hD hS
  have lp5 : ∀ (n5 : Nat) (s5 : Int32 × Int32) (H : Heap) (locs : List Loc) (ls : Array Slot), iter (f5_units_L5 p1) n5 s5 = some e5 → va_P D vwCl [(a_ct 0, .inr (5, [.ref (a_tp 0), .ref (a_pn 0), .ref (a_rd 0), .ref (a_sh 0)])), (a_tp 0, .inr (4, [.ref (a_tp 1), .int tp.2])), (a_tp 1, .inl (kA 1, 1200, .inl tp.1))] H → va_D A [(a_ct 0, .inr (5, [.ref (a_tp 0), .ref (a_pn 0), .ref (a_rd 0), .ref (a_sh 0)])), (a_tp 0, .inr (4, [.ref (a_tp 1), .int tp.2])), (a_tp 1, .inl (kA 1, 1200, .inl tp.1))] → va_S A s.heap H locs → lv_has ls 5 [(0, .ref (a_ct 0)), (1, .int p1), (2, .int s5.1), (3, .int s5.2)] → W p l e rm5_units s m args below meth c H locs 0 0 Q (F0 m 5 ls []) := by
    intro n5
    induction n5 with
    | zero =>
      intro s5 H locs ls h hP hD hS hl
      exact (iter_zero h).elim
    | succ n5 ih5 =>
      intro s5 H locs ls h hP hD hS hl
      obtain ⟨z5, h, hL5, hR5⟩ := iter_split h
      unfold f5_units_L5 at h
      refine lv_iload_n hx hb dX5_units_5 rfl (lv_at hl 3 rfl) ?_
      refine lv_if_lt (tgt := 42) hx hb dX5_units_6 (by decide) (fun bc => ?_) (fun bc => ?_)
      · have h := ite_t bc h
        obtain rfl := Option.some.inj h
        exact x42w _ _ _ ls (eq_some_app (hR5 _ rfl) hc5) hP hD hS (lv_sub hl [0, 1, 2] rfl)
      · have h := ite_f bc h
        refine lv_iload_n hx hb dX5_units_9 rfl (lv_at hl 1 rfl) ?_
        refine lv_iload_n hx hb dX5_units_10 rfl (lv_at hl 3 rfl) ?_
        refine lv_iushr (v := (xiushr p1 s5.2)) hx hb dX5_units_11 rfl ?_
        refine lv_sipush (v := 255) hx hb dX5_units_12 (by decide) ?_
        refine lv_iand hx hb dX5_units_15 ?_
        refine lv_istore (lv' := [(4, .int ((xiushr p1 s5.2) &&& (255 : Int32))), (0, .ref (a_ct 0)), (1, .int p1), (2, .int s5.1), (3, .int s5.2)]) hx hb dX5_units_16 hl (by decide) rfl (fun ls hl => ?_)
        refine lv_iload hx hb dX5_units_18 (lv_at hl 0 rfl) ?_
        obtain ⟨k36, hk36, h⟩ := jn_name h
        have j36 : ∀ (v36 : Int32) (H : Heap) (locs : List Loc) (ls : Array Slot), k36 v36 = some z5 → va_P D vwCl [(a_ct 0, .inr (5, [.ref (a_tp 0), .ref (a_pn 0), .ref (a_rd 0), .ref (a_sh 0)])), (a_tp 0, .inr (4, [.ref (a_tp 1), .int tp.2])), (a_tp 1, .inl (kA 1, 1200, .inl tp.1))] H → va_D A [(a_ct 0, .inr (5, [.ref (a_tp 0), .ref (a_pn 0), .ref (a_rd 0), .ref (a_sh 0)])), (a_tp 0, .inr (4, [.ref (a_tp 1), .int tp.2])), (a_tp 1, .inl (kA 1, 1200, .inl tp.1))] → va_S A s.heap H locs → lv_has ls 5 [(0, .ref (a_ct 0)), (1, .int p1), (2, .int v36), (3, .int s5.2)] → W p l e rm5_units s m args below meth c H locs 0 0 Q (F0 m 36 ls []) := by
          intro v36 H locs ls h hP hD hS hl
          have h := app_of hk36 h
          refine lv_iinc (v := (s5.2 + (-8 : Int32))) (lv' := [(3, .int (s5.2 + (-8 : Int32))), (0, .ref (a_ct 0)), (1, .int p1), (2, .int v36)]) hx hb dX5_units_36 hl (k := 3) rfl rfl (by decide) rfl (fun ls hl => ?_)
          refine lv_goto (tgt := 5) hx hb dX5_units_39 (by decide) ?_
          obtain rfl := Option.some.inj h
          exact ih5 _ _ _ ls (hL5 _ rfl) hP hD hS (lv_sub hl [1, 2, 3, 0] rfl)
        refine lv_if_eq (tgt := 36) hx hb dX5_units_20 (by decide) (fun bc => ?_) (fun bc => ?_)
        · have h := ite_t bc h
          exact j36 _ _ _ ls h hP hD hS (lv_sub hl [1, 2, 3, 4] rfl)
        · have h := ite_f bc h
          refine lv_iload hx hb dX5_units_23 (lv_at hl 0 rfl) ?_
          obtain ⟨u25, hc_25, h⟩ := bnd_some h
          refine ro_S (n := 1) (As := [.int ((xiushr p1 s5.2) &&& (255 : Int32))]) (rest := []) hx hb hml hown hts hN hS hK hP (c4_takes l D kA ((xiushr p1 s5.2) &&& (255 : Int32)) u25 hc_25) [] rfl tw_277 tw_278 tw_76 tw_279 rfl rfl (by decide) ⟨Nat.le_of_ble_eq_true rfl, Nat.le_of_ble_eq_true rfl⟩ rfl hl.1 rfl (Nat.le_of_ble_eq_true rfl) dX5_units_25 ⟨Nat.le_of_ble_eq_true rfl, Nat.le_of_ble_eq_true rfl⟩ ?_
          refine lv_if_ne (tgt := 33) hx hb dX5_units_28 (by decide) (fun bc => ?_) (fun bc => ?_)
          · have h := ite_f bc h
            refine lv_iinc (v := (s5.1 + (1 : Int32))) (lv' := [(2, .int (s5.1 + (1 : Int32))), (4, .int ((xiushr p1 s5.2) &&& (255 : Int32))), (0, .ref (a_ct 0)), (1, .int p1), (3, .int s5.2)]) hx hb dX5_units_33 hl (k := 3) rfl rfl (by decide) rfl (fun ls hl => ?_)
            exact j36 _ _ _ ls h hP hD hS (lv_sub hl [2, 3, 0, 4] rfl)
          · have h := ite_t bc h
            obtain rfl := Option.some.inj h
            exact x31w _ _ _ ls (eq_some_app (hR5 _ rfl) hc5) hP hD hS (lv_sub hl [] rfl)
  exact lp5 F ((0 : Int32), (24 : Int32)) _ _ ls hi5 hP hD hS (lv_sub hl [2, 3, 1, 0] rfl)
abbrev rm5_name : Room := { frames := 6, cells := 1, slots := 6, locals := 114 }
set_option maxHeartbeats 4000000 in
set_option maxRecDepth 100000 in
theorem c5_name (l : Launch) (hl9 : l.stackTraces = false) (D : va_G) (kA : Nat → ClassId) (a_ct : Nat → Nat) (a_pn : Nat → Nat) (a_sh : Nat → Nat) (a_tp : Nat → Nat) (a_rd : Nat → Nat) (a_ck : Nat → Nat) (F : Nat) (p1 : Int32) (p2 : Int32) (pn : T1) (sh : T3) (res : Option (Int32 × T1 × T3)) (h : f5_name F p1 p2 pn sh = some res) : Tx l yX5_name cX5_name 3 (some .boolean) rm5_name D kA [.ref (a_ct 0), .int p1, .int p2] [(a_ct 0, .inr (5, [.ref (a_tp 0), .ref (a_pn 0), .ref (a_rd 0), .ref (a_sh 0)])), (a_pn 0, .inr (1, [.ref (a_pn 1), .ref (a_pn 2)])), (a_pn 1, .inl (kA 1, 640, .inl pn.1)), (a_pn 2, .inl (kA 0, 40, .inl pn.2)), (a_sh 0, .inr (3, [.ref (a_sh 1), .ref (a_sh 2), .ref (a_sh 3), .ref (a_sh 4), .ref (a_sh 5), .ref (a_sh 6), .ref (a_sh 7), .ref (a_ck 0), .int sh.2.2.2.2.2.2.2.1, .int sh.2.2.2.2.2.2.2.2])), (a_sh 1, .inl (kA 0, 40, .inl sh.1)), (a_sh 2, .inl (kA 0, 40, .inl sh.2.1)), (a_sh 3, .inl (kA 0, 80, .inl sh.2.2.1)), (a_sh 4, .inl (kA 0, 120, .inl sh.2.2.2.1)), (a_sh 5, .inl (kA 0, 120, .inl sh.2.2.2.2.1)), (a_sh 6, .inl (kA 2, 120, .inr (.inl sh.2.2.2.2.2.1))), (a_sh 7, .inl (kA 1, 1240, .inl sh.2.2.2.2.2.2.1))] (res.map (fun res => ((some (.int res.1) : Option Value), [(a_ct 0, .inr (5, [.ref (a_tp 0), .ref (a_pn 0), .ref (a_rd 0), .ref (a_sh 0)])), (a_pn 0, .inr (1, [.ref (a_pn 1), .ref (a_pn 2)])), (a_pn 1, .inl (kA 1, 640, .inl res.2.1.1)), (a_pn 2, .inl (kA 0, 40, .inl res.2.1.2)), (a_sh 0, .inr (3, [.ref (a_sh 1), .ref (a_sh 2), .ref (a_sh 3), .ref (a_sh 4), .ref (a_sh 5), .ref (a_sh 6), .ref (a_sh 7), .ref (a_ck 0), .int res.2.2.2.2.2.2.2.2.2.1, .int res.2.2.2.2.2.2.2.2.2.2])), (a_sh 1, .inl (kA 0, 40, .inl res.2.2.1)), (a_sh 2, .inl (kA 0, 40, .inl res.2.2.2.1)), (a_sh 3, .inl (kA 0, 80, .inl res.2.2.2.2.1)), (a_sh 4, .inl (kA 0, 120, .inl res.2.2.2.2.2.1)), (a_sh 5, .inl (kA 0, 120, .inl res.2.2.2.2.2.2.1)), (a_sh 6, .inl (kA 2, 120, .inr (.inl res.2.2.2.2.2.2.2.1))), (a_sh 7, .inl (kA 1, 1240, .inl res.2.2.2.2.2.2.2.2.1))]))) := by
  refine Tx.of (by decide) (Nat.le_of_ble_eq_true rfl) ?_
  intro p e s m args below meth c A hF hex hP hD hS hA hK ls hl
  generalize hQ : txQ below D A _ _ args s = Q
  obtain ⟨hx, hb, hml, hown, hr, hk, hts, hN⟩ := hF
  obtain ⟨hN1, adK, adV, hZ⟩ := id hN
  have hl : lv_has ls 3 [(0, .ref (a_ct 0)), (1, .int p1), (2, .int p2)] := hl
  unfold f5_name at h
  refine lv_iload_n hx hb dX5_name_0 rfl (lv_at hl 1 rfl) ?_
  obtain ⟨u1, hc_1, h⟩ := bnd_some h
  refine ro_S (n := 1) (As := [.int p1]) (rest := []) hx hb hml hown hts hN hS hK hP (c1_has l D kA p1 u1 hc_1) [] rfl tw_612 tw_588 tw_79 tw_589 rfl rfl (by decide) ⟨Nat.le_of_ble_eq_true rfl, Nat.le_of_ble_eq_true rfl⟩ rfl hl.1 rfl (Nat.le_of_ble_eq_true rfl) dX5_name_1 ⟨Nat.le_of_ble_eq_true rfl, Nat.le_of_ble_eq_true rfl⟩ ?_
  refine lv_if_ne (tgt := 17) hx hb dX5_name_4 (by decide) (fun bc => ?_) (fun bc => ?_)
  · have h := ite_f bc h
    refine lv_iload_n hx hb dX5_name_17 rfl (lv_at hl 2 rfl) ?_
    obtain ⟨u18, hc_18, h⟩ := bnd_some h
    refine ro_S (n := 1) (As := [.int p2]) (rest := []) hx hb hml hown hts hN hS hK hP (c5_isNameUnit l D kA p2 u18 hc_18) [] rfl tw_678 tw_482 tw_74 tw_483 rfl rfl (by decide) ⟨Nat.le_of_ble_eq_true rfl, Nat.le_of_ble_eq_true rfl⟩ rfl hl.1 rfl (Nat.le_of_ble_eq_true rfl) dX5_name_18 ⟨Nat.le_of_ble_eq_true rfl, Nat.le_of_ble_eq_true rfl⟩ ?_
    refine lv_if_eq (tgt := 36) hx hb dX5_name_21 (by decide) (fun bc => ?_) (fun bc => ?_)
    · have h := ite_t bc h
      refine lv_iconst (v := 0) hx hb dX5_name_36 (by decide) ?_
      obtain rfl := Option.some.inj h
      rw [← hQ]
      exact tx_zreturn hx hb hr hk nz_Z0 dX5_name_37 rfl hP hD hS
    · have h := ite_f bc h
      refine lv_aload_n hx hb dX5_name_24 rfl (lv_at hl 0 rfl) ?_
      refine va_get (D := D) (ci := 5) (v := .ref (a_pn 0)) (C := "ConstraintText") (T := TX5) (N := 4) hx hb hts ing5 hown hK hP 0 rfl rfl 1 (by decide) (hts _ tw_261) (fun _ h9 => h9) rfl dX5_name_25 ?_
      refine lv_iload_n hx hb dX5_name_28 rfl (lv_at hl 1 rfl) ?_
      refine lv_iload_n hx hb dX5_name_29 rfl (lv_at hl 2 rfl) ?_
      obtain ⟨u30, hc_30, h⟩ := bnd_some h
      refine rw_V (wr := [(a_ct 0, .inr (5, [.ref (a_tp 0), .ref (a_pn 0), .ref (a_rd 0), .ref (a_sh 0)])), (a_sh 0, .inr (3, [.ref (a_sh 1), .ref (a_sh 2), .ref (a_sh 3), .ref (a_sh 4), .ref (a_sh 5), .ref (a_sh 6), .ref (a_sh 7), .ref (a_ck 0), .int sh.2.2.2.2.2.2.2.1, .int sh.2.2.2.2.2.2.2.2])), (a_sh 1, .inl (kA 0, 40, .inl sh.1)), (a_sh 2, .inl (kA 0, 40, .inl sh.2.1)), (a_sh 3, .inl (kA 0, 80, .inl sh.2.2.1)), (a_sh 4, .inl (kA 0, 120, .inl sh.2.2.2.1)), (a_sh 5, .inl (kA 0, 120, .inl sh.2.2.2.2.1)), (a_sh 6, .inl (kA 2, 120, .inr (.inl sh.2.2.2.2.2.1))), (a_sh 7, .inl (kA 1, 1240, .inl sh.2.2.2.2.2.2.1))]) (n := 2) (As := [.int p1, .int p2]) (rest := []) hx hb hml hown hts hN hS hK hP hD hA (c1_grow l D kA a_pn p1 p2 pn u30 hc_30) [1, 2, 3] [0, 4, 5, 6, 7, 8, 9, 10, 11] rfl (by decide) rfl (by decide) (by decide) 1 1 rfl rfl rfl tw_679 tw_680 tw_681 tw_79 tw_682 rfl rfl (by decide) ⟨Nat.le_of_ble_eq_true rfl, Nat.le_of_ble_eq_true rfl⟩ rfl hl.1 rfl (Nat.le_of_ble_eq_true rfl) dX5_name_30 ⟨Nat.le_of_ble_eq_true rfl, Nat.le_of_ble_eq_true rfl⟩ (fun H locs hP hD hS => ?_)
      have hP : va_P D vwCl [(a_ct 0, .inr (5, [.ref (a_tp 0), .ref (a_pn 0), .ref (a_rd 0), .ref (a_sh 0)])), (a_sh 0, .inr (3, [.ref (a_sh 1), .ref (a_sh 2), .ref (a_sh 3), .ref (a_sh 4), .ref (a_sh 5), .ref (a_sh 6), .ref (a_sh 7), .ref (a_ck 0), .int sh.2.2.2.2.2.2.2.1, .int sh.2.2.2.2.2.2.2.2])), (a_sh 1, .inl (kA 0, 40, .inl sh.1)), (a_sh 2, .inl (kA 0, 40, .inl sh.2.1)), (a_sh 3, .inl (kA 0, 80, .inl sh.2.2.1)), (a_sh 4, .inl (kA 0, 120, .inl sh.2.2.2.1)), (a_sh 5, .inl (kA 0, 120, .inl sh.2.2.2.2.1)), (a_sh 6, .inl (kA 2, 120, .inr (.inl sh.2.2.2.2.2.1))), (a_sh 7, .inl (kA 1, 1240, .inl sh.2.2.2.2.2.2.1)), (a_pn 0, .inr (1, [.ref (a_pn 1), .ref (a_pn 2)])), (a_pn 1, .inl (kA 1, 640, .inl u30.2.1)), (a_pn 2, .inl (kA 0, 40, .inl u30.2.2))] H := hP
      have hD : va_D A [(a_ct 0, .inr (5, [.ref (a_tp 0), .ref (a_pn 0), .ref (a_rd 0), .ref (a_sh 0)])), (a_sh 0, .inr (3, [.ref (a_sh 1), .ref (a_sh 2), .ref (a_sh 3), .ref (a_sh 4), .ref (a_sh 5), .ref (a_sh 6), .ref (a_sh 7), .ref (a_ck 0), .int sh.2.2.2.2.2.2.2.1, .int sh.2.2.2.2.2.2.2.2])), (a_sh 1, .inl (kA 0, 40, .inl sh.1)), (a_sh 2, .inl (kA 0, 40, .inl sh.2.1)), (a_sh 3, .inl (kA 0, 80, .inl sh.2.2.1)), (a_sh 4, .inl (kA 0, 120, .inl sh.2.2.2.1)), (a_sh 5, .inl (kA 0, 120, .inl sh.2.2.2.2.1)), (a_sh 6, .inl (kA 2, 120, .inr (.inl sh.2.2.2.2.2.1))), (a_sh 7, .inl (kA 1, 1240, .inl sh.2.2.2.2.2.2.1)), (a_pn 0, .inr (1, [.ref (a_pn 1), .ref (a_pn 2)])), (a_pn 1, .inl (kA 1, 640, .inl u30.2.1)), (a_pn 2, .inl (kA 0, 40, .inl u30.2.2))] := hD
      refine lv_if_ne (tgt := 38) hx hb dX5_name_33 (by decide) (fun bc => ?_) (fun bc => ?_)
      · have h := ite_f bc h
        refine lv_aload_n hx hb dX5_name_38 rfl (lv_at hl 0 rfl) ?_
        refine va_get (D := D) (ci := 5) (v := .ref (a_sh 0)) (C := "ConstraintText") (T := TX5) (N := 4) hx hb hts ing5 hown hK hP 0 rfl rfl 3 (by decide) (hts _ tw_263) (fun _ h9 => h9) rfl dX5_name_39 ?_
        refine lv_aload_n hx hb dX5_name_42 rfl (lv_at hl 0 rfl) ?_
        refine va_get (D := D) (ci := 5) (v := .ref (a_pn 0)) (C := "ConstraintText") (T := TX5) (N := 4) hx hb hts ing5 hown hK hP 0 rfl rfl 1 (by decide) (hts _ tw_261) (fun _ h9 => h9) rfl dX5_name_43 ?_
        refine lv_iload_n hx hb dX5_name_46 rfl (lv_at hl 1 rfl) ?_
        obtain ⟨u47, hc_47, h⟩ := bnd_some h
        refine rw_V (wr := [(a_ct 0, .inr (5, [.ref (a_tp 0), .ref (a_pn 0), .ref (a_rd 0), .ref (a_sh 0)]))]) (n := 2) (As := [.ref (a_pn 0), .int p1]) (rest := []) hx hb hml hown hts hN hS hK hP hD hA (c3_matchPin l D kA a_sh a_pn a_ck F p1 sh u30.2 u47 hc_47) [1, 2, 3, 4, 5, 6, 7, 8, 9, 10, 11] [0] rfl (by decide) rfl (by decide) (by decide) 1 3 rfl rfl rfl tw_574 tw_575 tw_576 tw_77 tw_577 rfl rfl (by decide) ⟨Nat.le_of_ble_eq_true rfl, Nat.le_of_ble_eq_true rfl⟩ rfl hl.1 rfl (Nat.le_of_ble_eq_true rfl) dX5_name_47 ⟨Nat.le_of_ble_eq_true rfl, Nat.le_of_ble_eq_true rfl⟩ (fun H locs hP hD hS => ?_)
        have hP : va_P D vwCl [(a_ct 0, .inr (5, [.ref (a_tp 0), .ref (a_pn 0), .ref (a_rd 0), .ref (a_sh 0)])), (a_sh 0, .inr (3, [.ref (a_sh 1), .ref (a_sh 2), .ref (a_sh 3), .ref (a_sh 4), .ref (a_sh 5), .ref (a_sh 6), .ref (a_sh 7), .ref (a_ck 0), .int u47.2.2.2.2.2.2.2.1, .int u47.2.2.2.2.2.2.2.2])), (a_sh 1, .inl (kA 0, 40, .inl u47.1)), (a_sh 2, .inl (kA 0, 40, .inl u47.2.1)), (a_sh 3, .inl (kA 0, 80, .inl u47.2.2.1)), (a_sh 4, .inl (kA 0, 120, .inl u47.2.2.2.1)), (a_sh 5, .inl (kA 0, 120, .inl u47.2.2.2.2.1)), (a_sh 6, .inl (kA 2, 120, .inr (.inl u47.2.2.2.2.2.1))), (a_sh 7, .inl (kA 1, 1240, .inl u47.2.2.2.2.2.2.1)), (a_pn 0, .inr (1, [.ref (a_pn 1), .ref (a_pn 2)])), (a_pn 1, .inl (kA 1, 640, .inl u30.2.1)), (a_pn 2, .inl (kA 0, 40, .inl u30.2.2))] H := hP
        have hD : va_D A [(a_ct 0, .inr (5, [.ref (a_tp 0), .ref (a_pn 0), .ref (a_rd 0), .ref (a_sh 0)])), (a_sh 0, .inr (3, [.ref (a_sh 1), .ref (a_sh 2), .ref (a_sh 3), .ref (a_sh 4), .ref (a_sh 5), .ref (a_sh 6), .ref (a_sh 7), .ref (a_ck 0), .int u47.2.2.2.2.2.2.2.1, .int u47.2.2.2.2.2.2.2.2])), (a_sh 1, .inl (kA 0, 40, .inl u47.1)), (a_sh 2, .inl (kA 0, 40, .inl u47.2.1)), (a_sh 3, .inl (kA 0, 80, .inl u47.2.2.1)), (a_sh 4, .inl (kA 0, 120, .inl u47.2.2.2.1)), (a_sh 5, .inl (kA 0, 120, .inl u47.2.2.2.2.1)), (a_sh 6, .inl (kA 2, 120, .inr (.inl u47.2.2.2.2.2.1))), (a_sh 7, .inl (kA 1, 1240, .inl u47.2.2.2.2.2.2.1)), (a_pn 0, .inr (1, [.ref (a_pn 1), .ref (a_pn 2)])), (a_pn 1, .inl (kA 1, 640, .inl u30.2.1)), (a_pn 2, .inl (kA 0, 40, .inl u30.2.2))] := hD
        refine lv_iconst (v := 1) hx hb dX5_name_50 (by decide) ?_
        obtain rfl := Option.some.inj h
        rw [← hQ]
        exact tx_zreturn hx hb hr hk nz_Z1 dX5_name_51 rfl (hP.sub [0, 9, 10, 11, 1, 2, 3, 4, 5, 6, 7, 8] rfl) (hD.sub [0, 9, 10, 11, 1, 2, 3, 4, 5, 6, 7, 8] (by decide) rfl) hS
      · have h := ite_t bc h
        refine lv_iconst (v := 0) hx hb dX5_name_36 (by decide) ?_
        obtain rfl := Option.some.inj h
        rw [← hQ]
        exact tx_zreturn hx hb hr hk nz_Z0 dX5_name_37 rfl (hP.sub [0, 9, 10, 11, 1, 2, 3, 4, 5, 6, 7, 8] rfl) (hD.sub [0, 9, 10, 11, 1, 2, 3, 4, 5, 6, 7, 8] (by decide) rfl) hS
  · have h := ite_t bc h
    obtain rfl := Option.some.inj h
    rw [← hQ]
    exact tx_throw (is := 54) hx hb hl9 hml hown hts hN hZ (hZ.2.1 0 (by decide)) hP hD hS hex hk hl.1 tw_613 tw_84 dX5_name_7 dX5_name_10 dX5_name_11 dX5_name_13 dX5_name_16 (Nat.le_of_ble_eq_true rfl) (Nat.le_of_ble_eq_true rfl) (Nat.le_of_ble_eq_true rfl) (Nat.le_of_ble_eq_true rfl)
abbrev rm5_read : Room := { frames := 8, cells := 0, slots := 0, locals := 171 }
set_option maxHeartbeats 4000000 in
set_option maxRecDepth 100000 in
theorem c5_read (l : Launch) (D : va_G) (kA : Nat → ClassId) (a_ct : Nat → Nat) (a_rd : Nat → Nat) (a_sp : Nat → Nat) (a_sk : Nat → Nat) (a_tp : Nat → Nat) (a_sh : Nat → Nat) (a_ck : Nat → Nat) (a_pn : Nat → Nat) (F : Nat) (rd : T2) (sp : T3) (sk : T0) (tp : T4) (sh : T3) (ck : T0) (pn : T1) (res : Int32 × T2 × T3 × T0 × T4 × T3 × T0 × Bool) (h : f5_read F rd sp sk tp sh ck pn = some res) : Rw l yX5_read cX5_read 3 (some .int) rm5_read D kA [.ref (a_ct 0)] [(a_ct 0, .inr (5, [.ref (a_tp 0), .ref (a_pn 0), .ref (a_rd 0), .ref (a_sh 0)])), (a_rd 0, .inr (2, [.ref (a_tp 0), .ref (a_rd 2), .ref (a_rd 3), .ref (a_rd 4), .ref (a_rd 5), .ref (a_sp 0), .int rd.2.2.2.2.1, .int rd.2.2.2.2.2])), (a_rd 2, .inl (kA 0, 12, .inl rd.1)), (a_rd 3, .inl (kA 0, 12, .inl rd.2.1)), (a_rd 4, .inl (kA 0, 80, .inl rd.2.2.1)), (a_rd 5, .inl (kA 0, 80, .inl rd.2.2.2.1)), (a_sp 0, .inr (3, [.ref (a_sp 1), .ref (a_sp 2), .ref (a_sp 3), .ref (a_sp 4), .ref (a_sp 5), .ref (a_sp 6), .ref (a_sp 7), .ref (a_sk 0), .int sp.2.2.2.2.2.2.2.1, .int sp.2.2.2.2.2.2.2.2])), (a_sp 1, .inl (kA 0, 40, .inl sp.1)), (a_sp 2, .inl (kA 0, 40, .inl sp.2.1)), (a_sp 3, .inl (kA 0, 80, .inl sp.2.2.1)), (a_sp 4, .inl (kA 0, 120, .inl sp.2.2.2.1)), (a_sp 5, .inl (kA 0, 120, .inl sp.2.2.2.2.1)), (a_sp 6, .inl (kA 2, 120, .inr (.inl sp.2.2.2.2.2.1))), (a_sp 7, .inl (kA 1, 1240, .inl sp.2.2.2.2.2.2.1)), (a_sk 0, .inr (0, [.ref (a_sk 1), .ref (a_sk 2), .ref (a_sk 3), .ref (a_sk 4), .ref (a_sk 5), .ref (a_sk 6), .ref (a_sk 7), .ref (a_sk 8), .ref (a_sk 9), .ref (a_sk 10), .ref (a_sk 11), .int sk.2.2.2.2.2.2.2.2.2.2.2])), (a_sk 1, .inl (kA 0, 12, .inl sk.1)), (a_sk 2, .inl (kA 0, 12, .inl sk.2.1)), (a_sk 3, .inl (kA 3, 12, .inl sk.2.2.1)), (a_sk 4, .inl (kA 0, 12, .inl sk.2.2.2.1)), (a_sk 5, .inl (kA 0, 12, .inl sk.2.2.2.2.1)), (a_sk 6, .inl (kA 2, 12, .inr (.inl sk.2.2.2.2.2.1))), (a_sk 7, .inl (kA 2, 12, .inr (.inl sk.2.2.2.2.2.2.1))), (a_sk 8, .inl (kA 2, 12, .inr (.inl sk.2.2.2.2.2.2.2.1))), (a_sk 9, .inl (kA 2, 12, .inr (.inl sk.2.2.2.2.2.2.2.2.1))), (a_sk 10, .inl (kA 3, 12, .inl sk.2.2.2.2.2.2.2.2.2.1)), (a_sk 11, .inl (kA 3, 12, .inl sk.2.2.2.2.2.2.2.2.2.2.1)), (a_tp 0, .inr (4, [.ref (a_tp 1), .int tp.2])), (a_tp 1, .inl (kA 1, 1200, .inl tp.1)), (a_sh 0, .inr (3, [.ref (a_sh 1), .ref (a_sh 2), .ref (a_sh 3), .ref (a_sh 4), .ref (a_sh 5), .ref (a_sh 6), .ref (a_sh 7), .ref (a_ck 0), .int sh.2.2.2.2.2.2.2.1, .int sh.2.2.2.2.2.2.2.2])), (a_sh 1, .inl (kA 0, 40, .inl sh.1)), (a_sh 2, .inl (kA 0, 40, .inl sh.2.1)), (a_sh 3, .inl (kA 0, 80, .inl sh.2.2.1)), (a_sh 4, .inl (kA 0, 120, .inl sh.2.2.2.1)), (a_sh 5, .inl (kA 0, 120, .inl sh.2.2.2.2.1)), (a_sh 6, .inl (kA 2, 120, .inr (.inl sh.2.2.2.2.2.1))), (a_sh 7, .inl (kA 1, 1240, .inl sh.2.2.2.2.2.2.1)), (a_ck 0, .inr (0, [.ref (a_ck 1), .ref (a_ck 2), .ref (a_ck 3), .ref (a_ck 4), .ref (a_ck 5), .ref (a_ck 6), .ref (a_ck 7), .ref (a_ck 8), .ref (a_ck 9), .ref (a_ck 10), .ref (a_ck 11), .int ck.2.2.2.2.2.2.2.2.2.2.2])), (a_ck 1, .inl (kA 0, 12, .inl ck.1)), (a_ck 2, .inl (kA 0, 12, .inl ck.2.1)), (a_ck 3, .inl (kA 3, 12, .inl ck.2.2.1)), (a_ck 4, .inl (kA 0, 12, .inl ck.2.2.2.1)), (a_ck 5, .inl (kA 0, 12, .inl ck.2.2.2.2.1)), (a_ck 6, .inl (kA 2, 12, .inr (.inl ck.2.2.2.2.2.1))), (a_ck 7, .inl (kA 2, 12, .inr (.inl ck.2.2.2.2.2.2.1))), (a_ck 8, .inl (kA 2, 12, .inr (.inl ck.2.2.2.2.2.2.2.1))), (a_ck 9, .inl (kA 2, 12, .inr (.inl ck.2.2.2.2.2.2.2.2.1))), (a_ck 10, .inl (kA 3, 12, .inl ck.2.2.2.2.2.2.2.2.2.1)), (a_ck 11, .inl (kA 3, 12, .inl ck.2.2.2.2.2.2.2.2.2.2.1)), (a_pn 0, .inr (1, [.ref (a_pn 1), .ref (a_pn 2)])), (a_pn 1, .inl (kA 1, 640, .inl pn.1)), (a_pn 2, .inl (kA 0, 40, .inl pn.2))] (some (.int res.1)) [(a_ct 0, .inr (5, [.ref (a_tp 0), .ref (a_pn 0), .ref (a_rd 0), .ref ((bif res.2.2.2.2.2.2.2 then a_sp else a_sh) 0)])), (a_rd 0, .inr (2, [.ref (a_tp 0), .ref (a_rd 2), .ref (a_rd 3), .ref (a_rd 4), .ref (a_rd 5), .ref ((bif res.2.2.2.2.2.2.2 then a_sh else a_sp) 0), .int res.2.1.2.2.2.2.1, .int res.2.1.2.2.2.2.2])), (a_rd 2, .inl (kA 0, 12, .inl res.2.1.1)), (a_rd 3, .inl (kA 0, 12, .inl res.2.1.2.1)), (a_rd 4, .inl (kA 0, 80, .inl res.2.1.2.2.1)), (a_rd 5, .inl (kA 0, 80, .inl res.2.1.2.2.2.1)), ((bif res.2.2.2.2.2.2.2 then a_sh else a_sp) 0, .inr (3, [.ref ((bif res.2.2.2.2.2.2.2 then a_sh else a_sp) 1), .ref ((bif res.2.2.2.2.2.2.2 then a_sh else a_sp) 2), .ref ((bif res.2.2.2.2.2.2.2 then a_sh else a_sp) 3), .ref ((bif res.2.2.2.2.2.2.2 then a_sh else a_sp) 4), .ref ((bif res.2.2.2.2.2.2.2 then a_sh else a_sp) 5), .ref ((bif res.2.2.2.2.2.2.2 then a_sh else a_sp) 6), .ref ((bif res.2.2.2.2.2.2.2 then a_sh else a_sp) 7), .ref ((bif res.2.2.2.2.2.2.2 then a_ck else a_sk) 0), .int res.2.2.1.2.2.2.2.2.2.2.1, .int res.2.2.1.2.2.2.2.2.2.2.2])), ((bif res.2.2.2.2.2.2.2 then a_sh else a_sp) 1, .inl (kA 0, 40, .inl res.2.2.1.1)), ((bif res.2.2.2.2.2.2.2 then a_sh else a_sp) 2, .inl (kA 0, 40, .inl res.2.2.1.2.1)), ((bif res.2.2.2.2.2.2.2 then a_sh else a_sp) 3, .inl (kA 0, 80, .inl res.2.2.1.2.2.1)), ((bif res.2.2.2.2.2.2.2 then a_sh else a_sp) 4, .inl (kA 0, 120, .inl res.2.2.1.2.2.2.1)), ((bif res.2.2.2.2.2.2.2 then a_sh else a_sp) 5, .inl (kA 0, 120, .inl res.2.2.1.2.2.2.2.1)), ((bif res.2.2.2.2.2.2.2 then a_sh else a_sp) 6, .inl (kA 2, 120, .inr (.inl res.2.2.1.2.2.2.2.2.1))), ((bif res.2.2.2.2.2.2.2 then a_sh else a_sp) 7, .inl (kA 1, 1240, .inl res.2.2.1.2.2.2.2.2.2.1)), ((bif res.2.2.2.2.2.2.2 then a_ck else a_sk) 0, .inr (0, [.ref ((bif res.2.2.2.2.2.2.2 then a_ck else a_sk) 1), .ref ((bif res.2.2.2.2.2.2.2 then a_ck else a_sk) 2), .ref ((bif res.2.2.2.2.2.2.2 then a_ck else a_sk) 3), .ref ((bif res.2.2.2.2.2.2.2 then a_ck else a_sk) 4), .ref ((bif res.2.2.2.2.2.2.2 then a_ck else a_sk) 5), .ref ((bif res.2.2.2.2.2.2.2 then a_ck else a_sk) 6), .ref ((bif res.2.2.2.2.2.2.2 then a_ck else a_sk) 7), .ref ((bif res.2.2.2.2.2.2.2 then a_ck else a_sk) 8), .ref ((bif res.2.2.2.2.2.2.2 then a_ck else a_sk) 9), .ref ((bif res.2.2.2.2.2.2.2 then a_ck else a_sk) 10), .ref ((bif res.2.2.2.2.2.2.2 then a_ck else a_sk) 11), .int res.2.2.2.1.2.2.2.2.2.2.2.2.2.2.2])), ((bif res.2.2.2.2.2.2.2 then a_ck else a_sk) 1, .inl (kA 0, 12, .inl res.2.2.2.1.1)), ((bif res.2.2.2.2.2.2.2 then a_ck else a_sk) 2, .inl (kA 0, 12, .inl res.2.2.2.1.2.1)), ((bif res.2.2.2.2.2.2.2 then a_ck else a_sk) 3, .inl (kA 3, 12, .inl res.2.2.2.1.2.2.1)), ((bif res.2.2.2.2.2.2.2 then a_ck else a_sk) 4, .inl (kA 0, 12, .inl res.2.2.2.1.2.2.2.1)), ((bif res.2.2.2.2.2.2.2 then a_ck else a_sk) 5, .inl (kA 0, 12, .inl res.2.2.2.1.2.2.2.2.1)), ((bif res.2.2.2.2.2.2.2 then a_ck else a_sk) 6, .inl (kA 2, 12, .inr (.inl res.2.2.2.1.2.2.2.2.2.1))), ((bif res.2.2.2.2.2.2.2 then a_ck else a_sk) 7, .inl (kA 2, 12, .inr (.inl res.2.2.2.1.2.2.2.2.2.2.1))), ((bif res.2.2.2.2.2.2.2 then a_ck else a_sk) 8, .inl (kA 2, 12, .inr (.inl res.2.2.2.1.2.2.2.2.2.2.2.1))), ((bif res.2.2.2.2.2.2.2 then a_ck else a_sk) 9, .inl (kA 2, 12, .inr (.inl res.2.2.2.1.2.2.2.2.2.2.2.2.1))), ((bif res.2.2.2.2.2.2.2 then a_ck else a_sk) 10, .inl (kA 3, 12, .inl res.2.2.2.1.2.2.2.2.2.2.2.2.2.1)), ((bif res.2.2.2.2.2.2.2 then a_ck else a_sk) 11, .inl (kA 3, 12, .inl res.2.2.2.1.2.2.2.2.2.2.2.2.2.2.1)), (a_tp 0, .inr (4, [.ref (a_tp 1), .int res.2.2.2.2.1.2])), (a_tp 1, .inl (kA 1, 1200, .inl res.2.2.2.2.1.1)), ((bif res.2.2.2.2.2.2.2 then a_sp else a_sh) 0, .inr (3, [.ref ((bif res.2.2.2.2.2.2.2 then a_sp else a_sh) 1), .ref ((bif res.2.2.2.2.2.2.2 then a_sp else a_sh) 2), .ref ((bif res.2.2.2.2.2.2.2 then a_sp else a_sh) 3), .ref ((bif res.2.2.2.2.2.2.2 then a_sp else a_sh) 4), .ref ((bif res.2.2.2.2.2.2.2 then a_sp else a_sh) 5), .ref ((bif res.2.2.2.2.2.2.2 then a_sp else a_sh) 6), .ref ((bif res.2.2.2.2.2.2.2 then a_sp else a_sh) 7), .ref ((bif res.2.2.2.2.2.2.2 then a_sk else a_ck) 0), .int res.2.2.2.2.2.1.2.2.2.2.2.2.2.1, .int res.2.2.2.2.2.1.2.2.2.2.2.2.2.2])), ((bif res.2.2.2.2.2.2.2 then a_sp else a_sh) 1, .inl (kA 0, 40, .inl res.2.2.2.2.2.1.1)), ((bif res.2.2.2.2.2.2.2 then a_sp else a_sh) 2, .inl (kA 0, 40, .inl res.2.2.2.2.2.1.2.1)), ((bif res.2.2.2.2.2.2.2 then a_sp else a_sh) 3, .inl (kA 0, 80, .inl res.2.2.2.2.2.1.2.2.1)), ((bif res.2.2.2.2.2.2.2 then a_sp else a_sh) 4, .inl (kA 0, 120, .inl res.2.2.2.2.2.1.2.2.2.1)), ((bif res.2.2.2.2.2.2.2 then a_sp else a_sh) 5, .inl (kA 0, 120, .inl res.2.2.2.2.2.1.2.2.2.2.1)), ((bif res.2.2.2.2.2.2.2 then a_sp else a_sh) 6, .inl (kA 2, 120, .inr (.inl res.2.2.2.2.2.1.2.2.2.2.2.1))), ((bif res.2.2.2.2.2.2.2 then a_sp else a_sh) 7, .inl (kA 1, 1240, .inl res.2.2.2.2.2.1.2.2.2.2.2.2.1)), ((bif res.2.2.2.2.2.2.2 then a_sk else a_ck) 0, .inr (0, [.ref ((bif res.2.2.2.2.2.2.2 then a_sk else a_ck) 1), .ref ((bif res.2.2.2.2.2.2.2 then a_sk else a_ck) 2), .ref ((bif res.2.2.2.2.2.2.2 then a_sk else a_ck) 3), .ref ((bif res.2.2.2.2.2.2.2 then a_sk else a_ck) 4), .ref ((bif res.2.2.2.2.2.2.2 then a_sk else a_ck) 5), .ref ((bif res.2.2.2.2.2.2.2 then a_sk else a_ck) 6), .ref ((bif res.2.2.2.2.2.2.2 then a_sk else a_ck) 7), .ref ((bif res.2.2.2.2.2.2.2 then a_sk else a_ck) 8), .ref ((bif res.2.2.2.2.2.2.2 then a_sk else a_ck) 9), .ref ((bif res.2.2.2.2.2.2.2 then a_sk else a_ck) 10), .ref ((bif res.2.2.2.2.2.2.2 then a_sk else a_ck) 11), .int res.2.2.2.2.2.2.1.2.2.2.2.2.2.2.2.2.2.2])), ((bif res.2.2.2.2.2.2.2 then a_sk else a_ck) 1, .inl (kA 0, 12, .inl res.2.2.2.2.2.2.1.1)), ((bif res.2.2.2.2.2.2.2 then a_sk else a_ck) 2, .inl (kA 0, 12, .inl res.2.2.2.2.2.2.1.2.1)), ((bif res.2.2.2.2.2.2.2 then a_sk else a_ck) 3, .inl (kA 3, 12, .inl res.2.2.2.2.2.2.1.2.2.1)), ((bif res.2.2.2.2.2.2.2 then a_sk else a_ck) 4, .inl (kA 0, 12, .inl res.2.2.2.2.2.2.1.2.2.2.1)), ((bif res.2.2.2.2.2.2.2 then a_sk else a_ck) 5, .inl (kA 0, 12, .inl res.2.2.2.2.2.2.1.2.2.2.2.1)), ((bif res.2.2.2.2.2.2.2 then a_sk else a_ck) 6, .inl (kA 2, 12, .inr (.inl res.2.2.2.2.2.2.1.2.2.2.2.2.1))), ((bif res.2.2.2.2.2.2.2 then a_sk else a_ck) 7, .inl (kA 2, 12, .inr (.inl res.2.2.2.2.2.2.1.2.2.2.2.2.2.1))), ((bif res.2.2.2.2.2.2.2 then a_sk else a_ck) 8, .inl (kA 2, 12, .inr (.inl res.2.2.2.2.2.2.1.2.2.2.2.2.2.2.1))), ((bif res.2.2.2.2.2.2.2 then a_sk else a_ck) 9, .inl (kA 2, 12, .inr (.inl res.2.2.2.2.2.2.1.2.2.2.2.2.2.2.2.1))), ((bif res.2.2.2.2.2.2.2 then a_sk else a_ck) 10, .inl (kA 3, 12, .inl res.2.2.2.2.2.2.1.2.2.2.2.2.2.2.2.2.1)), ((bif res.2.2.2.2.2.2.2 then a_sk else a_ck) 11, .inl (kA 3, 12, .inl res.2.2.2.2.2.2.1.2.2.2.2.2.2.2.2.2.2.1)), (a_pn 0, .inr (1, [.ref (a_pn 1), .ref (a_pn 2)])), (a_pn 1, .inl (kA 1, 640, .inl pn.1)), (a_pn 2, .inl (kA 0, 40, .inl pn.2))] := by
  refine Rw.of (by decide) (Nat.le_of_ble_eq_true rfl) ?_
  intro p e s m args below meth c A hF hP hD hS hA hK ls hl
  generalize hQ : rwQ below D A _ _ args s = Q
  obtain ⟨hx, hb, hml, hown, hr, hk, hts, hN⟩ := hF
  have hl : lv_has ls 3 [(0, .ref (a_ct 0))] := hl
  unfold f5_read at h
  refine lv_aload_n hx hb dX5_read_0 rfl (lv_at hl 0 rfl) ?_
  refine va_get (D := D) (ci := 5) (v := .ref (a_rd 0)) (C := "ConstraintText") (T := TX5) (N := 4) hx hb hts ing5 hown hK hP 0 rfl rfl 2 (by decide) (hts _ tw_262) (fun _ h9 => h9) rfl dX5_read_1 ?_
  obtain ⟨u4, hc_4, h⟩ := bnd_some h
  refine rw_V (wr := [(a_ct 0, .inr (5, [.ref (a_tp 0), .ref (a_pn 0), .ref (a_rd 0), .ref (a_sh 0)])), (a_sh 0, .inr (3, [.ref (a_sh 1), .ref (a_sh 2), .ref (a_sh 3), .ref (a_sh 4), .ref (a_sh 5), .ref (a_sh 6), .ref (a_sh 7), .ref (a_ck 0), .int sh.2.2.2.2.2.2.2.1, .int sh.2.2.2.2.2.2.2.2])), (a_sh 1, .inl (kA 0, 40, .inl sh.1)), (a_sh 2, .inl (kA 0, 40, .inl sh.2.1)), (a_sh 3, .inl (kA 0, 80, .inl sh.2.2.1)), (a_sh 4, .inl (kA 0, 120, .inl sh.2.2.2.1)), (a_sh 5, .inl (kA 0, 120, .inl sh.2.2.2.2.1)), (a_sh 6, .inl (kA 2, 120, .inr (.inl sh.2.2.2.2.2.1))), (a_sh 7, .inl (kA 1, 1240, .inl sh.2.2.2.2.2.2.1)), (a_ck 0, .inr (0, [.ref (a_ck 1), .ref (a_ck 2), .ref (a_ck 3), .ref (a_ck 4), .ref (a_ck 5), .ref (a_ck 6), .ref (a_ck 7), .ref (a_ck 8), .ref (a_ck 9), .ref (a_ck 10), .ref (a_ck 11), .int ck.2.2.2.2.2.2.2.2.2.2.2])), (a_ck 1, .inl (kA 0, 12, .inl ck.1)), (a_ck 2, .inl (kA 0, 12, .inl ck.2.1)), (a_ck 3, .inl (kA 3, 12, .inl ck.2.2.1)), (a_ck 4, .inl (kA 0, 12, .inl ck.2.2.2.1)), (a_ck 5, .inl (kA 0, 12, .inl ck.2.2.2.2.1)), (a_ck 6, .inl (kA 2, 12, .inr (.inl ck.2.2.2.2.2.1))), (a_ck 7, .inl (kA 2, 12, .inr (.inl ck.2.2.2.2.2.2.1))), (a_ck 8, .inl (kA 2, 12, .inr (.inl ck.2.2.2.2.2.2.2.1))), (a_ck 9, .inl (kA 2, 12, .inr (.inl ck.2.2.2.2.2.2.2.2.1))), (a_ck 10, .inl (kA 3, 12, .inl ck.2.2.2.2.2.2.2.2.2.1)), (a_ck 11, .inl (kA 3, 12, .inl ck.2.2.2.2.2.2.2.2.2.2.1)), (a_pn 0, .inr (1, [.ref (a_pn 1), .ref (a_pn 2)])), (a_pn 1, .inl (kA 1, 640, .inl pn.1)), (a_pn 2, .inl (kA 0, 40, .inl pn.2))]) (n := 0) (As := []) (rest := []) hx hb hml hown hts hN hS hK hP hD hA (c2_faultOfTape l D kA a_rd a_sp a_sk a_tp F rd sp sk tp u4 hc_4) [1, 2, 3, 4, 5, 6, 7, 8, 9, 10, 11, 12, 13, 14, 15, 16, 17, 18, 19, 20, 21, 22, 23, 24, 25, 26, 27] [0, 28, 29, 30, 31, 32, 33, 34, 35, 36, 37, 38, 39, 40, 41, 42, 43, 44, 45, 46, 47, 48, 49, 50] rfl (by decide) rfl (by decide) (by decide) 1 2 rfl rfl rfl tw_296 tw_297 tw_298 tw_75 tw_299 rfl rfl (by decide) ⟨Nat.le_of_ble_eq_true rfl, Nat.le_of_ble_eq_true rfl⟩ rfl hl.1 rfl (Nat.le_of_ble_eq_true rfl) dX5_read_4 ⟨Nat.le_of_ble_eq_true rfl, Nat.le_of_ble_eq_true rfl⟩ (fun H locs hP hD hS => ?_)
  have hP : va_P D vwCl [(a_ct 0, .inr (5, [.ref (a_tp 0), .ref (a_pn 0), .ref (a_rd 0), .ref (a_sh 0)])), (a_sh 0, .inr (3, [.ref (a_sh 1), .ref (a_sh 2), .ref (a_sh 3), .ref (a_sh 4), .ref (a_sh 5), .ref (a_sh 6), .ref (a_sh 7), .ref (a_ck 0), .int sh.2.2.2.2.2.2.2.1, .int sh.2.2.2.2.2.2.2.2])), (a_sh 1, .inl (kA 0, 40, .inl sh.1)), (a_sh 2, .inl (kA 0, 40, .inl sh.2.1)), (a_sh 3, .inl (kA 0, 80, .inl sh.2.2.1)), (a_sh 4, .inl (kA 0, 120, .inl sh.2.2.2.1)), (a_sh 5, .inl (kA 0, 120, .inl sh.2.2.2.2.1)), (a_sh 6, .inl (kA 2, 120, .inr (.inl sh.2.2.2.2.2.1))), (a_sh 7, .inl (kA 1, 1240, .inl sh.2.2.2.2.2.2.1)), (a_ck 0, .inr (0, [.ref (a_ck 1), .ref (a_ck 2), .ref (a_ck 3), .ref (a_ck 4), .ref (a_ck 5), .ref (a_ck 6), .ref (a_ck 7), .ref (a_ck 8), .ref (a_ck 9), .ref (a_ck 10), .ref (a_ck 11), .int ck.2.2.2.2.2.2.2.2.2.2.2])), (a_ck 1, .inl (kA 0, 12, .inl ck.1)), (a_ck 2, .inl (kA 0, 12, .inl ck.2.1)), (a_ck 3, .inl (kA 3, 12, .inl ck.2.2.1)), (a_ck 4, .inl (kA 0, 12, .inl ck.2.2.2.1)), (a_ck 5, .inl (kA 0, 12, .inl ck.2.2.2.2.1)), (a_ck 6, .inl (kA 2, 12, .inr (.inl ck.2.2.2.2.2.1))), (a_ck 7, .inl (kA 2, 12, .inr (.inl ck.2.2.2.2.2.2.1))), (a_ck 8, .inl (kA 2, 12, .inr (.inl ck.2.2.2.2.2.2.2.1))), (a_ck 9, .inl (kA 2, 12, .inr (.inl ck.2.2.2.2.2.2.2.2.1))), (a_ck 10, .inl (kA 3, 12, .inl ck.2.2.2.2.2.2.2.2.2.1)), (a_ck 11, .inl (kA 3, 12, .inl ck.2.2.2.2.2.2.2.2.2.2.1)), (a_pn 0, .inr (1, [.ref (a_pn 1), .ref (a_pn 2)])), (a_pn 1, .inl (kA 1, 640, .inl pn.1)), (a_pn 2, .inl (kA 0, 40, .inl pn.2)), (a_rd 0, .inr (2, [.ref (a_tp 0), .ref (a_rd 2), .ref (a_rd 3), .ref (a_rd 4), .ref (a_rd 5), .ref (a_sp 0), .int u4.2.1.2.2.2.2.1, .int u4.2.1.2.2.2.2.2])), (a_rd 2, .inl (kA 0, 12, .inl u4.2.1.1)), (a_rd 3, .inl (kA 0, 12, .inl u4.2.1.2.1)), (a_rd 4, .inl (kA 0, 80, .inl u4.2.1.2.2.1)), (a_rd 5, .inl (kA 0, 80, .inl u4.2.1.2.2.2.1)), (a_sp 0, .inr (3, [.ref (a_sp 1), .ref (a_sp 2), .ref (a_sp 3), .ref (a_sp 4), .ref (a_sp 5), .ref (a_sp 6), .ref (a_sp 7), .ref (a_sk 0), .int u4.2.2.1.2.2.2.2.2.2.2.1, .int u4.2.2.1.2.2.2.2.2.2.2.2])), (a_sp 1, .inl (kA 0, 40, .inl u4.2.2.1.1)), (a_sp 2, .inl (kA 0, 40, .inl u4.2.2.1.2.1)), (a_sp 3, .inl (kA 0, 80, .inl u4.2.2.1.2.2.1)), (a_sp 4, .inl (kA 0, 120, .inl u4.2.2.1.2.2.2.1)), (a_sp 5, .inl (kA 0, 120, .inl u4.2.2.1.2.2.2.2.1)), (a_sp 6, .inl (kA 2, 120, .inr (.inl u4.2.2.1.2.2.2.2.2.1))), (a_sp 7, .inl (kA 1, 1240, .inl u4.2.2.1.2.2.2.2.2.2.1)), (a_sk 0, .inr (0, [.ref (a_sk 1), .ref (a_sk 2), .ref (a_sk 3), .ref (a_sk 4), .ref (a_sk 5), .ref (a_sk 6), .ref (a_sk 7), .ref (a_sk 8), .ref (a_sk 9), .ref (a_sk 10), .ref (a_sk 11), .int u4.2.2.2.2.2.2.2.2.2.2.2.2.2.2])), (a_sk 1, .inl (kA 0, 12, .inl u4.2.2.2.1)), (a_sk 2, .inl (kA 0, 12, .inl u4.2.2.2.2.1)), (a_sk 3, .inl (kA 3, 12, .inl u4.2.2.2.2.2.1)), (a_sk 4, .inl (kA 0, 12, .inl u4.2.2.2.2.2.2.1)), (a_sk 5, .inl (kA 0, 12, .inl u4.2.2.2.2.2.2.2.1)), (a_sk 6, .inl (kA 2, 12, .inr (.inl u4.2.2.2.2.2.2.2.2.1))), (a_sk 7, .inl (kA 2, 12, .inr (.inl u4.2.2.2.2.2.2.2.2.2.1))), (a_sk 8, .inl (kA 2, 12, .inr (.inl u4.2.2.2.2.2.2.2.2.2.2.1))), (a_sk 9, .inl (kA 2, 12, .inr (.inl u4.2.2.2.2.2.2.2.2.2.2.2.1))), (a_sk 10, .inl (kA 3, 12, .inl u4.2.2.2.2.2.2.2.2.2.2.2.2.1)), (a_sk 11, .inl (kA 3, 12, .inl u4.2.2.2.2.2.2.2.2.2.2.2.2.2.1)), (a_tp 0, .inr (4, [.ref (a_tp 1), .int tp.2])), (a_tp 1, .inl (kA 1, 1200, .inl tp.1))] H := hP
  have hD : va_D A [(a_ct 0, .inr (5, [.ref (a_tp 0), .ref (a_pn 0), .ref (a_rd 0), .ref (a_sh 0)])), (a_sh 0, .inr (3, [.ref (a_sh 1), .ref (a_sh 2), .ref (a_sh 3), .ref (a_sh 4), .ref (a_sh 5), .ref (a_sh 6), .ref (a_sh 7), .ref (a_ck 0), .int sh.2.2.2.2.2.2.2.1, .int sh.2.2.2.2.2.2.2.2])), (a_sh 1, .inl (kA 0, 40, .inl sh.1)), (a_sh 2, .inl (kA 0, 40, .inl sh.2.1)), (a_sh 3, .inl (kA 0, 80, .inl sh.2.2.1)), (a_sh 4, .inl (kA 0, 120, .inl sh.2.2.2.1)), (a_sh 5, .inl (kA 0, 120, .inl sh.2.2.2.2.1)), (a_sh 6, .inl (kA 2, 120, .inr (.inl sh.2.2.2.2.2.1))), (a_sh 7, .inl (kA 1, 1240, .inl sh.2.2.2.2.2.2.1)), (a_ck 0, .inr (0, [.ref (a_ck 1), .ref (a_ck 2), .ref (a_ck 3), .ref (a_ck 4), .ref (a_ck 5), .ref (a_ck 6), .ref (a_ck 7), .ref (a_ck 8), .ref (a_ck 9), .ref (a_ck 10), .ref (a_ck 11), .int ck.2.2.2.2.2.2.2.2.2.2.2])), (a_ck 1, .inl (kA 0, 12, .inl ck.1)), (a_ck 2, .inl (kA 0, 12, .inl ck.2.1)), (a_ck 3, .inl (kA 3, 12, .inl ck.2.2.1)), (a_ck 4, .inl (kA 0, 12, .inl ck.2.2.2.1)), (a_ck 5, .inl (kA 0, 12, .inl ck.2.2.2.2.1)), (a_ck 6, .inl (kA 2, 12, .inr (.inl ck.2.2.2.2.2.1))), (a_ck 7, .inl (kA 2, 12, .inr (.inl ck.2.2.2.2.2.2.1))), (a_ck 8, .inl (kA 2, 12, .inr (.inl ck.2.2.2.2.2.2.2.1))), (a_ck 9, .inl (kA 2, 12, .inr (.inl ck.2.2.2.2.2.2.2.2.1))), (a_ck 10, .inl (kA 3, 12, .inl ck.2.2.2.2.2.2.2.2.2.1)), (a_ck 11, .inl (kA 3, 12, .inl ck.2.2.2.2.2.2.2.2.2.2.1)), (a_pn 0, .inr (1, [.ref (a_pn 1), .ref (a_pn 2)])), (a_pn 1, .inl (kA 1, 640, .inl pn.1)), (a_pn 2, .inl (kA 0, 40, .inl pn.2)), (a_rd 0, .inr (2, [.ref (a_tp 0), .ref (a_rd 2), .ref (a_rd 3), .ref (a_rd 4), .ref (a_rd 5), .ref (a_sp 0), .int u4.2.1.2.2.2.2.1, .int u4.2.1.2.2.2.2.2])), (a_rd 2, .inl (kA 0, 12, .inl u4.2.1.1)), (a_rd 3, .inl (kA 0, 12, .inl u4.2.1.2.1)), (a_rd 4, .inl (kA 0, 80, .inl u4.2.1.2.2.1)), (a_rd 5, .inl (kA 0, 80, .inl u4.2.1.2.2.2.1)), (a_sp 0, .inr (3, [.ref (a_sp 1), .ref (a_sp 2), .ref (a_sp 3), .ref (a_sp 4), .ref (a_sp 5), .ref (a_sp 6), .ref (a_sp 7), .ref (a_sk 0), .int u4.2.2.1.2.2.2.2.2.2.2.1, .int u4.2.2.1.2.2.2.2.2.2.2.2])), (a_sp 1, .inl (kA 0, 40, .inl u4.2.2.1.1)), (a_sp 2, .inl (kA 0, 40, .inl u4.2.2.1.2.1)), (a_sp 3, .inl (kA 0, 80, .inl u4.2.2.1.2.2.1)), (a_sp 4, .inl (kA 0, 120, .inl u4.2.2.1.2.2.2.1)), (a_sp 5, .inl (kA 0, 120, .inl u4.2.2.1.2.2.2.2.1)), (a_sp 6, .inl (kA 2, 120, .inr (.inl u4.2.2.1.2.2.2.2.2.1))), (a_sp 7, .inl (kA 1, 1240, .inl u4.2.2.1.2.2.2.2.2.2.1)), (a_sk 0, .inr (0, [.ref (a_sk 1), .ref (a_sk 2), .ref (a_sk 3), .ref (a_sk 4), .ref (a_sk 5), .ref (a_sk 6), .ref (a_sk 7), .ref (a_sk 8), .ref (a_sk 9), .ref (a_sk 10), .ref (a_sk 11), .int u4.2.2.2.2.2.2.2.2.2.2.2.2.2.2])), (a_sk 1, .inl (kA 0, 12, .inl u4.2.2.2.1)), (a_sk 2, .inl (kA 0, 12, .inl u4.2.2.2.2.1)), (a_sk 3, .inl (kA 3, 12, .inl u4.2.2.2.2.2.1)), (a_sk 4, .inl (kA 0, 12, .inl u4.2.2.2.2.2.2.1)), (a_sk 5, .inl (kA 0, 12, .inl u4.2.2.2.2.2.2.2.1)), (a_sk 6, .inl (kA 2, 12, .inr (.inl u4.2.2.2.2.2.2.2.2.1))), (a_sk 7, .inl (kA 2, 12, .inr (.inl u4.2.2.2.2.2.2.2.2.2.1))), (a_sk 8, .inl (kA 2, 12, .inr (.inl u4.2.2.2.2.2.2.2.2.2.2.1))), (a_sk 9, .inl (kA 2, 12, .inr (.inl u4.2.2.2.2.2.2.2.2.2.2.2.1))), (a_sk 10, .inl (kA 3, 12, .inl u4.2.2.2.2.2.2.2.2.2.2.2.2.1)), (a_sk 11, .inl (kA 3, 12, .inl u4.2.2.2.2.2.2.2.2.2.2.2.2.2.1)), (a_tp 0, .inr (4, [.ref (a_tp 1), .int tp.2])), (a_tp 1, .inl (kA 1, 1200, .inl tp.1))] := hD
  refine lv_istore_n (lv' := [(1, .int u4.1), (0, .ref (a_ct 0))]) hx hb dX5_read_7 rfl hl (by decide) rfl (fun ls hl => ?_)
  refine lv_aload_n hx hb dX5_read_8 rfl (lv_at hl 1 rfl) ?_
  refine va_get (D := D) (ci := 5) (v := .ref (a_tp 0)) (C := "ConstraintText") (T := TX5) (N := 4) hx hb hts ing5 hown hK hP 0 rfl rfl 0 (by decide) (hts _ tw_260) (fun _ h9 => h9) rfl dX5_read_9 ?_
  obtain ⟨u12, hc_12, h⟩ := bnd_some h
  refine rw_V (wr := [(a_ct 0, .inr (5, [.ref (a_tp 0), .ref (a_pn 0), .ref (a_rd 0), .ref (a_sh 0)])), (a_sh 0, .inr (3, [.ref (a_sh 1), .ref (a_sh 2), .ref (a_sh 3), .ref (a_sh 4), .ref (a_sh 5), .ref (a_sh 6), .ref (a_sh 7), .ref (a_ck 0), .int sh.2.2.2.2.2.2.2.1, .int sh.2.2.2.2.2.2.2.2])), (a_sh 1, .inl (kA 0, 40, .inl sh.1)), (a_sh 2, .inl (kA 0, 40, .inl sh.2.1)), (a_sh 3, .inl (kA 0, 80, .inl sh.2.2.1)), (a_sh 4, .inl (kA 0, 120, .inl sh.2.2.2.1)), (a_sh 5, .inl (kA 0, 120, .inl sh.2.2.2.2.1)), (a_sh 6, .inl (kA 2, 120, .inr (.inl sh.2.2.2.2.2.1))), (a_sh 7, .inl (kA 1, 1240, .inl sh.2.2.2.2.2.2.1)), (a_ck 0, .inr (0, [.ref (a_ck 1), .ref (a_ck 2), .ref (a_ck 3), .ref (a_ck 4), .ref (a_ck 5), .ref (a_ck 6), .ref (a_ck 7), .ref (a_ck 8), .ref (a_ck 9), .ref (a_ck 10), .ref (a_ck 11), .int ck.2.2.2.2.2.2.2.2.2.2.2])), (a_ck 1, .inl (kA 0, 12, .inl ck.1)), (a_ck 2, .inl (kA 0, 12, .inl ck.2.1)), (a_ck 3, .inl (kA 3, 12, .inl ck.2.2.1)), (a_ck 4, .inl (kA 0, 12, .inl ck.2.2.2.1)), (a_ck 5, .inl (kA 0, 12, .inl ck.2.2.2.2.1)), (a_ck 6, .inl (kA 2, 12, .inr (.inl ck.2.2.2.2.2.1))), (a_ck 7, .inl (kA 2, 12, .inr (.inl ck.2.2.2.2.2.2.1))), (a_ck 8, .inl (kA 2, 12, .inr (.inl ck.2.2.2.2.2.2.2.1))), (a_ck 9, .inl (kA 2, 12, .inr (.inl ck.2.2.2.2.2.2.2.2.1))), (a_ck 10, .inl (kA 3, 12, .inl ck.2.2.2.2.2.2.2.2.2.1)), (a_ck 11, .inl (kA 3, 12, .inl ck.2.2.2.2.2.2.2.2.2.2.1)), (a_pn 0, .inr (1, [.ref (a_pn 1), .ref (a_pn 2)])), (a_pn 1, .inl (kA 1, 640, .inl pn.1)), (a_pn 2, .inl (kA 0, 40, .inl pn.2)), (a_rd 0, .inr (2, [.ref (a_tp 0), .ref (a_rd 2), .ref (a_rd 3), .ref (a_rd 4), .ref (a_rd 5), .ref (a_sp 0), .int u4.2.1.2.2.2.2.1, .int u4.2.1.2.2.2.2.2])), (a_rd 2, .inl (kA 0, 12, .inl u4.2.1.1)), (a_rd 3, .inl (kA 0, 12, .inl u4.2.1.2.1)), (a_rd 4, .inl (kA 0, 80, .inl u4.2.1.2.2.1)), (a_rd 5, .inl (kA 0, 80, .inl u4.2.1.2.2.2.1)), (a_sp 0, .inr (3, [.ref (a_sp 1), .ref (a_sp 2), .ref (a_sp 3), .ref (a_sp 4), .ref (a_sp 5), .ref (a_sp 6), .ref (a_sp 7), .ref (a_sk 0), .int u4.2.2.1.2.2.2.2.2.2.2.1, .int u4.2.2.1.2.2.2.2.2.2.2.2])), (a_sp 1, .inl (kA 0, 40, .inl u4.2.2.1.1)), (a_sp 2, .inl (kA 0, 40, .inl u4.2.2.1.2.1)), (a_sp 3, .inl (kA 0, 80, .inl u4.2.2.1.2.2.1)), (a_sp 4, .inl (kA 0, 120, .inl u4.2.2.1.2.2.2.1)), (a_sp 5, .inl (kA 0, 120, .inl u4.2.2.1.2.2.2.2.1)), (a_sp 6, .inl (kA 2, 120, .inr (.inl u4.2.2.1.2.2.2.2.2.1))), (a_sp 7, .inl (kA 1, 1240, .inl u4.2.2.1.2.2.2.2.2.2.1)), (a_sk 0, .inr (0, [.ref (a_sk 1), .ref (a_sk 2), .ref (a_sk 3), .ref (a_sk 4), .ref (a_sk 5), .ref (a_sk 6), .ref (a_sk 7), .ref (a_sk 8), .ref (a_sk 9), .ref (a_sk 10), .ref (a_sk 11), .int u4.2.2.2.2.2.2.2.2.2.2.2.2.2.2])), (a_sk 1, .inl (kA 0, 12, .inl u4.2.2.2.1)), (a_sk 2, .inl (kA 0, 12, .inl u4.2.2.2.2.1)), (a_sk 3, .inl (kA 3, 12, .inl u4.2.2.2.2.2.1)), (a_sk 4, .inl (kA 0, 12, .inl u4.2.2.2.2.2.2.1)), (a_sk 5, .inl (kA 0, 12, .inl u4.2.2.2.2.2.2.2.1)), (a_sk 6, .inl (kA 2, 12, .inr (.inl u4.2.2.2.2.2.2.2.2.1))), (a_sk 7, .inl (kA 2, 12, .inr (.inl u4.2.2.2.2.2.2.2.2.2.1))), (a_sk 8, .inl (kA 2, 12, .inr (.inl u4.2.2.2.2.2.2.2.2.2.2.1))), (a_sk 9, .inl (kA 2, 12, .inr (.inl u4.2.2.2.2.2.2.2.2.2.2.2.1))), (a_sk 10, .inl (kA 3, 12, .inl u4.2.2.2.2.2.2.2.2.2.2.2.2.1)), (a_sk 11, .inl (kA 3, 12, .inl u4.2.2.2.2.2.2.2.2.2.2.2.2.2.1))]) (n := 0) (As := []) (rest := []) hx hb hml hown hts hN hS hK hP hD hA (c4_wipe l D kA a_tp tp u12 hc_12) [49, 50] [0, 1, 2, 3, 4, 5, 6, 7, 8, 9, 10, 11, 12, 13, 14, 15, 16, 17, 18, 19, 20, 21, 22, 23, 24, 25, 26, 27, 28, 29, 30, 31, 32, 33, 34, 35, 36, 37, 38, 39, 40, 41, 42, 43, 44, 45, 46, 47, 48] rfl (by decide) rfl (by decide) (by decide) 49 4 rfl rfl rfl tw_566 tw_567 tw_568 tw_76 tw_569 rfl rfl (by decide) ⟨Nat.le_of_ble_eq_true rfl, Nat.le_of_ble_eq_true rfl⟩ rfl hl.1 rfl (Nat.le_of_ble_eq_true rfl) dX5_read_12 ⟨Nat.le_of_ble_eq_true rfl, Nat.le_of_ble_eq_true rfl⟩ (fun H locs hP hD hS => ?_)
  have hP : va_P D vwCl [(a_ct 0, .inr (5, [.ref (a_tp 0), .ref (a_pn 0), .ref (a_rd 0), .ref (a_sh 0)])), (a_sh 0, .inr (3, [.ref (a_sh 1), .ref (a_sh 2), .ref (a_sh 3), .ref (a_sh 4), .ref (a_sh 5), .ref (a_sh 6), .ref (a_sh 7), .ref (a_ck 0), .int sh.2.2.2.2.2.2.2.1, .int sh.2.2.2.2.2.2.2.2])), (a_sh 1, .inl (kA 0, 40, .inl sh.1)), (a_sh 2, .inl (kA 0, 40, .inl sh.2.1)), (a_sh 3, .inl (kA 0, 80, .inl sh.2.2.1)), (a_sh 4, .inl (kA 0, 120, .inl sh.2.2.2.1)), (a_sh 5, .inl (kA 0, 120, .inl sh.2.2.2.2.1)), (a_sh 6, .inl (kA 2, 120, .inr (.inl sh.2.2.2.2.2.1))), (a_sh 7, .inl (kA 1, 1240, .inl sh.2.2.2.2.2.2.1)), (a_ck 0, .inr (0, [.ref (a_ck 1), .ref (a_ck 2), .ref (a_ck 3), .ref (a_ck 4), .ref (a_ck 5), .ref (a_ck 6), .ref (a_ck 7), .ref (a_ck 8), .ref (a_ck 9), .ref (a_ck 10), .ref (a_ck 11), .int ck.2.2.2.2.2.2.2.2.2.2.2])), (a_ck 1, .inl (kA 0, 12, .inl ck.1)), (a_ck 2, .inl (kA 0, 12, .inl ck.2.1)), (a_ck 3, .inl (kA 3, 12, .inl ck.2.2.1)), (a_ck 4, .inl (kA 0, 12, .inl ck.2.2.2.1)), (a_ck 5, .inl (kA 0, 12, .inl ck.2.2.2.2.1)), (a_ck 6, .inl (kA 2, 12, .inr (.inl ck.2.2.2.2.2.1))), (a_ck 7, .inl (kA 2, 12, .inr (.inl ck.2.2.2.2.2.2.1))), (a_ck 8, .inl (kA 2, 12, .inr (.inl ck.2.2.2.2.2.2.2.1))), (a_ck 9, .inl (kA 2, 12, .inr (.inl ck.2.2.2.2.2.2.2.2.1))), (a_ck 10, .inl (kA 3, 12, .inl ck.2.2.2.2.2.2.2.2.2.1)), (a_ck 11, .inl (kA 3, 12, .inl ck.2.2.2.2.2.2.2.2.2.2.1)), (a_pn 0, .inr (1, [.ref (a_pn 1), .ref (a_pn 2)])), (a_pn 1, .inl (kA 1, 640, .inl pn.1)), (a_pn 2, .inl (kA 0, 40, .inl pn.2)), (a_rd 0, .inr (2, [.ref (a_tp 0), .ref (a_rd 2), .ref (a_rd 3), .ref (a_rd 4), .ref (a_rd 5), .ref (a_sp 0), .int u4.2.1.2.2.2.2.1, .int u4.2.1.2.2.2.2.2])), (a_rd 2, .inl (kA 0, 12, .inl u4.2.1.1)), (a_rd 3, .inl (kA 0, 12, .inl u4.2.1.2.1)), (a_rd 4, .inl (kA 0, 80, .inl u4.2.1.2.2.1)), (a_rd 5, .inl (kA 0, 80, .inl u4.2.1.2.2.2.1)), (a_sp 0, .inr (3, [.ref (a_sp 1), .ref (a_sp 2), .ref (a_sp 3), .ref (a_sp 4), .ref (a_sp 5), .ref (a_sp 6), .ref (a_sp 7), .ref (a_sk 0), .int u4.2.2.1.2.2.2.2.2.2.2.1, .int u4.2.2.1.2.2.2.2.2.2.2.2])), (a_sp 1, .inl (kA 0, 40, .inl u4.2.2.1.1)), (a_sp 2, .inl (kA 0, 40, .inl u4.2.2.1.2.1)), (a_sp 3, .inl (kA 0, 80, .inl u4.2.2.1.2.2.1)), (a_sp 4, .inl (kA 0, 120, .inl u4.2.2.1.2.2.2.1)), (a_sp 5, .inl (kA 0, 120, .inl u4.2.2.1.2.2.2.2.1)), (a_sp 6, .inl (kA 2, 120, .inr (.inl u4.2.2.1.2.2.2.2.2.1))), (a_sp 7, .inl (kA 1, 1240, .inl u4.2.2.1.2.2.2.2.2.2.1)), (a_sk 0, .inr (0, [.ref (a_sk 1), .ref (a_sk 2), .ref (a_sk 3), .ref (a_sk 4), .ref (a_sk 5), .ref (a_sk 6), .ref (a_sk 7), .ref (a_sk 8), .ref (a_sk 9), .ref (a_sk 10), .ref (a_sk 11), .int u4.2.2.2.2.2.2.2.2.2.2.2.2.2.2])), (a_sk 1, .inl (kA 0, 12, .inl u4.2.2.2.1)), (a_sk 2, .inl (kA 0, 12, .inl u4.2.2.2.2.1)), (a_sk 3, .inl (kA 3, 12, .inl u4.2.2.2.2.2.1)), (a_sk 4, .inl (kA 0, 12, .inl u4.2.2.2.2.2.2.1)), (a_sk 5, .inl (kA 0, 12, .inl u4.2.2.2.2.2.2.2.1)), (a_sk 6, .inl (kA 2, 12, .inr (.inl u4.2.2.2.2.2.2.2.2.1))), (a_sk 7, .inl (kA 2, 12, .inr (.inl u4.2.2.2.2.2.2.2.2.2.1))), (a_sk 8, .inl (kA 2, 12, .inr (.inl u4.2.2.2.2.2.2.2.2.2.2.1))), (a_sk 9, .inl (kA 2, 12, .inr (.inl u4.2.2.2.2.2.2.2.2.2.2.2.1))), (a_sk 10, .inl (kA 3, 12, .inl u4.2.2.2.2.2.2.2.2.2.2.2.2.1)), (a_sk 11, .inl (kA 3, 12, .inl u4.2.2.2.2.2.2.2.2.2.2.2.2.2.1)), (a_tp 0, .inr (4, [.ref (a_tp 1), .int u12.2])), (a_tp 1, .inl (kA 1, 1200, .inl u12.1))] H := hP
  have hD : va_D A [(a_ct 0, .inr (5, [.ref (a_tp 0), .ref (a_pn 0), .ref (a_rd 0), .ref (a_sh 0)])), (a_sh 0, .inr (3, [.ref (a_sh 1), .ref (a_sh 2), .ref (a_sh 3), .ref (a_sh 4), .ref (a_sh 5), .ref (a_sh 6), .ref (a_sh 7), .ref (a_ck 0), .int sh.2.2.2.2.2.2.2.1, .int sh.2.2.2.2.2.2.2.2])), (a_sh 1, .inl (kA 0, 40, .inl sh.1)), (a_sh 2, .inl (kA 0, 40, .inl sh.2.1)), (a_sh 3, .inl (kA 0, 80, .inl sh.2.2.1)), (a_sh 4, .inl (kA 0, 120, .inl sh.2.2.2.1)), (a_sh 5, .inl (kA 0, 120, .inl sh.2.2.2.2.1)), (a_sh 6, .inl (kA 2, 120, .inr (.inl sh.2.2.2.2.2.1))), (a_sh 7, .inl (kA 1, 1240, .inl sh.2.2.2.2.2.2.1)), (a_ck 0, .inr (0, [.ref (a_ck 1), .ref (a_ck 2), .ref (a_ck 3), .ref (a_ck 4), .ref (a_ck 5), .ref (a_ck 6), .ref (a_ck 7), .ref (a_ck 8), .ref (a_ck 9), .ref (a_ck 10), .ref (a_ck 11), .int ck.2.2.2.2.2.2.2.2.2.2.2])), (a_ck 1, .inl (kA 0, 12, .inl ck.1)), (a_ck 2, .inl (kA 0, 12, .inl ck.2.1)), (a_ck 3, .inl (kA 3, 12, .inl ck.2.2.1)), (a_ck 4, .inl (kA 0, 12, .inl ck.2.2.2.1)), (a_ck 5, .inl (kA 0, 12, .inl ck.2.2.2.2.1)), (a_ck 6, .inl (kA 2, 12, .inr (.inl ck.2.2.2.2.2.1))), (a_ck 7, .inl (kA 2, 12, .inr (.inl ck.2.2.2.2.2.2.1))), (a_ck 8, .inl (kA 2, 12, .inr (.inl ck.2.2.2.2.2.2.2.1))), (a_ck 9, .inl (kA 2, 12, .inr (.inl ck.2.2.2.2.2.2.2.2.1))), (a_ck 10, .inl (kA 3, 12, .inl ck.2.2.2.2.2.2.2.2.2.1)), (a_ck 11, .inl (kA 3, 12, .inl ck.2.2.2.2.2.2.2.2.2.2.1)), (a_pn 0, .inr (1, [.ref (a_pn 1), .ref (a_pn 2)])), (a_pn 1, .inl (kA 1, 640, .inl pn.1)), (a_pn 2, .inl (kA 0, 40, .inl pn.2)), (a_rd 0, .inr (2, [.ref (a_tp 0), .ref (a_rd 2), .ref (a_rd 3), .ref (a_rd 4), .ref (a_rd 5), .ref (a_sp 0), .int u4.2.1.2.2.2.2.1, .int u4.2.1.2.2.2.2.2])), (a_rd 2, .inl (kA 0, 12, .inl u4.2.1.1)), (a_rd 3, .inl (kA 0, 12, .inl u4.2.1.2.1)), (a_rd 4, .inl (kA 0, 80, .inl u4.2.1.2.2.1)), (a_rd 5, .inl (kA 0, 80, .inl u4.2.1.2.2.2.1)), (a_sp 0, .inr (3, [.ref (a_sp 1), .ref (a_sp 2), .ref (a_sp 3), .ref (a_sp 4), .ref (a_sp 5), .ref (a_sp 6), .ref (a_sp 7), .ref (a_sk 0), .int u4.2.2.1.2.2.2.2.2.2.2.1, .int u4.2.2.1.2.2.2.2.2.2.2.2])), (a_sp 1, .inl (kA 0, 40, .inl u4.2.2.1.1)), (a_sp 2, .inl (kA 0, 40, .inl u4.2.2.1.2.1)), (a_sp 3, .inl (kA 0, 80, .inl u4.2.2.1.2.2.1)), (a_sp 4, .inl (kA 0, 120, .inl u4.2.2.1.2.2.2.1)), (a_sp 5, .inl (kA 0, 120, .inl u4.2.2.1.2.2.2.2.1)), (a_sp 6, .inl (kA 2, 120, .inr (.inl u4.2.2.1.2.2.2.2.2.1))), (a_sp 7, .inl (kA 1, 1240, .inl u4.2.2.1.2.2.2.2.2.2.1)), (a_sk 0, .inr (0, [.ref (a_sk 1), .ref (a_sk 2), .ref (a_sk 3), .ref (a_sk 4), .ref (a_sk 5), .ref (a_sk 6), .ref (a_sk 7), .ref (a_sk 8), .ref (a_sk 9), .ref (a_sk 10), .ref (a_sk 11), .int u4.2.2.2.2.2.2.2.2.2.2.2.2.2.2])), (a_sk 1, .inl (kA 0, 12, .inl u4.2.2.2.1)), (a_sk 2, .inl (kA 0, 12, .inl u4.2.2.2.2.1)), (a_sk 3, .inl (kA 3, 12, .inl u4.2.2.2.2.2.1)), (a_sk 4, .inl (kA 0, 12, .inl u4.2.2.2.2.2.2.1)), (a_sk 5, .inl (kA 0, 12, .inl u4.2.2.2.2.2.2.2.1)), (a_sk 6, .inl (kA 2, 12, .inr (.inl u4.2.2.2.2.2.2.2.2.1))), (a_sk 7, .inl (kA 2, 12, .inr (.inl u4.2.2.2.2.2.2.2.2.2.1))), (a_sk 8, .inl (kA 2, 12, .inr (.inl u4.2.2.2.2.2.2.2.2.2.2.1))), (a_sk 9, .inl (kA 2, 12, .inr (.inl u4.2.2.2.2.2.2.2.2.2.2.2.1))), (a_sk 10, .inl (kA 3, 12, .inl u4.2.2.2.2.2.2.2.2.2.2.2.2.1)), (a_sk 11, .inl (kA 3, 12, .inl u4.2.2.2.2.2.2.2.2.2.2.2.2.2.1)), (a_tp 0, .inr (4, [.ref (a_tp 1), .int u12.2])), (a_tp 1, .inl (kA 1, 1200, .inl u12.1))] := hD
  refine lv_iload_n hx hb dX5_read_15 rfl (lv_at hl 0 rfl) ?_
  refine lv_iconst (v := -1) hx hb dX5_read_16 (by decide) ?_
  refine lv_icmp_eq (tgt := 24) hx hb dX5_read_17 (by decide) (fun bc => ?_) (fun bc => ?_)
  · have h := ite_t bc h
    refine lv_aload_n hx hb dX5_read_24 rfl (lv_at hl 1 rfl) ?_
    refine lv_aload_n hx hb dX5_read_25 rfl (lv_at hl 1 rfl) ?_
    refine va_get (D := D) (ci := 5) (v := .ref (a_rd 0)) (C := "ConstraintText") (T := TX5) (N := 4) hx hb hts ing5 hown hK hP 0 rfl rfl 2 (by decide) (hts _ tw_262) (fun _ h9 => h9) rfl dX5_read_26 ?_
    refine lv_aload_n hx hb dX5_read_29 rfl (lv_at hl 1 rfl) ?_
    refine va_get (D := D) (ci := 5) (v := .ref (a_sh 0)) (C := "ConstraintText") (T := TX5) (N := 4) hx hb hts ing5 hown hK hP 0 rfl rfl 3 (by decide) (hts _ tw_263) (fun _ h9 => h9) rfl dX5_read_30 ?_
    refine rw_V (wr := [(a_ct 0, .inr (5, [.ref (a_tp 0), .ref (a_pn 0), .ref (a_rd 0), .ref (a_sh 0)])), (a_sh 0, .inr (3, [.ref (a_sh 1), .ref (a_sh 2), .ref (a_sh 3), .ref (a_sh 4), .ref (a_sh 5), .ref (a_sh 6), .ref (a_sh 7), .ref (a_ck 0), .int sh.2.2.2.2.2.2.2.1, .int sh.2.2.2.2.2.2.2.2])), (a_sh 1, .inl (kA 0, 40, .inl sh.1)), (a_sh 2, .inl (kA 0, 40, .inl sh.2.1)), (a_sh 3, .inl (kA 0, 80, .inl sh.2.2.1)), (a_sh 4, .inl (kA 0, 120, .inl sh.2.2.2.1)), (a_sh 5, .inl (kA 0, 120, .inl sh.2.2.2.2.1)), (a_sh 6, .inl (kA 2, 120, .inr (.inl sh.2.2.2.2.2.1))), (a_sh 7, .inl (kA 1, 1240, .inl sh.2.2.2.2.2.2.1)), (a_ck 0, .inr (0, [.ref (a_ck 1), .ref (a_ck 2), .ref (a_ck 3), .ref (a_ck 4), .ref (a_ck 5), .ref (a_ck 6), .ref (a_ck 7), .ref (a_ck 8), .ref (a_ck 9), .ref (a_ck 10), .ref (a_ck 11), .int ck.2.2.2.2.2.2.2.2.2.2.2])), (a_ck 1, .inl (kA 0, 12, .inl ck.1)), (a_ck 2, .inl (kA 0, 12, .inl ck.2.1)), (a_ck 3, .inl (kA 3, 12, .inl ck.2.2.1)), (a_ck 4, .inl (kA 0, 12, .inl ck.2.2.2.1)), (a_ck 5, .inl (kA 0, 12, .inl ck.2.2.2.2.1)), (a_ck 6, .inl (kA 2, 12, .inr (.inl ck.2.2.2.2.2.1))), (a_ck 7, .inl (kA 2, 12, .inr (.inl ck.2.2.2.2.2.2.1))), (a_ck 8, .inl (kA 2, 12, .inr (.inl ck.2.2.2.2.2.2.2.1))), (a_ck 9, .inl (kA 2, 12, .inr (.inl ck.2.2.2.2.2.2.2.2.1))), (a_ck 10, .inl (kA 3, 12, .inl ck.2.2.2.2.2.2.2.2.2.1)), (a_ck 11, .inl (kA 3, 12, .inl ck.2.2.2.2.2.2.2.2.2.2.1)), (a_pn 0, .inr (1, [.ref (a_pn 1), .ref (a_pn 2)])), (a_pn 1, .inl (kA 1, 640, .inl pn.1)), (a_pn 2, .inl (kA 0, 40, .inl pn.2)), (a_rd 2, .inl (kA 0, 12, .inl u4.2.1.1)), (a_rd 3, .inl (kA 0, 12, .inl u4.2.1.2.1)), (a_rd 4, .inl (kA 0, 80, .inl u4.2.1.2.2.1)), (a_rd 5, .inl (kA 0, 80, .inl u4.2.1.2.2.2.1)), (a_sp 0, .inr (3, [.ref (a_sp 1), .ref (a_sp 2), .ref (a_sp 3), .ref (a_sp 4), .ref (a_sp 5), .ref (a_sp 6), .ref (a_sp 7), .ref (a_sk 0), .int u4.2.2.1.2.2.2.2.2.2.2.1, .int u4.2.2.1.2.2.2.2.2.2.2.2])), (a_sp 1, .inl (kA 0, 40, .inl u4.2.2.1.1)), (a_sp 2, .inl (kA 0, 40, .inl u4.2.2.1.2.1)), (a_sp 3, .inl (kA 0, 80, .inl u4.2.2.1.2.2.1)), (a_sp 4, .inl (kA 0, 120, .inl u4.2.2.1.2.2.2.1)), (a_sp 5, .inl (kA 0, 120, .inl u4.2.2.1.2.2.2.2.1)), (a_sp 6, .inl (kA 2, 120, .inr (.inl u4.2.2.1.2.2.2.2.2.1))), (a_sp 7, .inl (kA 1, 1240, .inl u4.2.2.1.2.2.2.2.2.2.1)), (a_sk 0, .inr (0, [.ref (a_sk 1), .ref (a_sk 2), .ref (a_sk 3), .ref (a_sk 4), .ref (a_sk 5), .ref (a_sk 6), .ref (a_sk 7), .ref (a_sk 8), .ref (a_sk 9), .ref (a_sk 10), .ref (a_sk 11), .int u4.2.2.2.2.2.2.2.2.2.2.2.2.2.2])), (a_sk 1, .inl (kA 0, 12, .inl u4.2.2.2.1)), (a_sk 2, .inl (kA 0, 12, .inl u4.2.2.2.2.1)), (a_sk 3, .inl (kA 3, 12, .inl u4.2.2.2.2.2.1)), (a_sk 4, .inl (kA 0, 12, .inl u4.2.2.2.2.2.2.1)), (a_sk 5, .inl (kA 0, 12, .inl u4.2.2.2.2.2.2.2.1)), (a_sk 6, .inl (kA 2, 12, .inr (.inl u4.2.2.2.2.2.2.2.2.1))), (a_sk 7, .inl (kA 2, 12, .inr (.inl u4.2.2.2.2.2.2.2.2.2.1))), (a_sk 8, .inl (kA 2, 12, .inr (.inl u4.2.2.2.2.2.2.2.2.2.2.1))), (a_sk 9, .inl (kA 2, 12, .inr (.inl u4.2.2.2.2.2.2.2.2.2.2.2.1))), (a_sk 10, .inl (kA 3, 12, .inl u4.2.2.2.2.2.2.2.2.2.2.2.2.1)), (a_sk 11, .inl (kA 3, 12, .inl u4.2.2.2.2.2.2.2.2.2.2.2.2.2.1)), (a_tp 0, .inr (4, [.ref (a_tp 1), .int u12.2])), (a_tp 1, .inl (kA 1, 1200, .inl u12.1))]) (n := 1) (As := [.ref (a_sh 0)]) (rest := [.ref (a_ct 0)]) hx hb hml hown hts hN hS hK hP hD hA (c2_exchange l D kA (a_rd 0) (a_tp 0) (a_rd 2) (a_rd 3) (a_rd 4) (a_rd 5) (a_sp 0) (a_sh 0) u4.2.1.2.2.2.2.1 u4.2.1.2.2.2.2.2) [24] [0, 1, 2, 3, 4, 5, 6, 7, 8, 9, 10, 11, 12, 13, 14, 15, 16, 17, 18, 19, 20, 21, 22, 23, 25, 26, 27, 28, 29, 30, 31, 32, 33, 34, 35, 36, 37, 38, 39, 40, 41, 42, 43, 44, 45, 46, 47, 48, 49, 50] rfl (by decide) rfl (by decide) (by decide) 24 2 rfl rfl rfl tw_570 tw_571 tw_572 tw_75 tw_573 rfl rfl (by decide) ⟨Nat.le_of_ble_eq_true rfl, Nat.le_of_ble_eq_true rfl⟩ rfl hl.1 rfl (Nat.le_of_ble_eq_true rfl) dX5_read_33 ⟨Nat.le_of_ble_eq_true rfl, Nat.le_of_ble_eq_true rfl⟩ (fun H locs hP hD hS => ?_)
    have hP : va_P D vwCl [(a_ct 0, .inr (5, [.ref (a_tp 0), .ref (a_pn 0), .ref (a_rd 0), .ref (a_sh 0)])), (a_sh 0, .inr (3, [.ref (a_sh 1), .ref (a_sh 2), .ref (a_sh 3), .ref (a_sh 4), .ref (a_sh 5), .ref (a_sh 6), .ref (a_sh 7), .ref (a_ck 0), .int sh.2.2.2.2.2.2.2.1, .int sh.2.2.2.2.2.2.2.2])), (a_sh 1, .inl (kA 0, 40, .inl sh.1)), (a_sh 2, .inl (kA 0, 40, .inl sh.2.1)), (a_sh 3, .inl (kA 0, 80, .inl sh.2.2.1)), (a_sh 4, .inl (kA 0, 120, .inl sh.2.2.2.1)), (a_sh 5, .inl (kA 0, 120, .inl sh.2.2.2.2.1)), (a_sh 6, .inl (kA 2, 120, .inr (.inl sh.2.2.2.2.2.1))), (a_sh 7, .inl (kA 1, 1240, .inl sh.2.2.2.2.2.2.1)), (a_ck 0, .inr (0, [.ref (a_ck 1), .ref (a_ck 2), .ref (a_ck 3), .ref (a_ck 4), .ref (a_ck 5), .ref (a_ck 6), .ref (a_ck 7), .ref (a_ck 8), .ref (a_ck 9), .ref (a_ck 10), .ref (a_ck 11), .int ck.2.2.2.2.2.2.2.2.2.2.2])), (a_ck 1, .inl (kA 0, 12, .inl ck.1)), (a_ck 2, .inl (kA 0, 12, .inl ck.2.1)), (a_ck 3, .inl (kA 3, 12, .inl ck.2.2.1)), (a_ck 4, .inl (kA 0, 12, .inl ck.2.2.2.1)), (a_ck 5, .inl (kA 0, 12, .inl ck.2.2.2.2.1)), (a_ck 6, .inl (kA 2, 12, .inr (.inl ck.2.2.2.2.2.1))), (a_ck 7, .inl (kA 2, 12, .inr (.inl ck.2.2.2.2.2.2.1))), (a_ck 8, .inl (kA 2, 12, .inr (.inl ck.2.2.2.2.2.2.2.1))), (a_ck 9, .inl (kA 2, 12, .inr (.inl ck.2.2.2.2.2.2.2.2.1))), (a_ck 10, .inl (kA 3, 12, .inl ck.2.2.2.2.2.2.2.2.2.1)), (a_ck 11, .inl (kA 3, 12, .inl ck.2.2.2.2.2.2.2.2.2.2.1)), (a_pn 0, .inr (1, [.ref (a_pn 1), .ref (a_pn 2)])), (a_pn 1, .inl (kA 1, 640, .inl pn.1)), (a_pn 2, .inl (kA 0, 40, .inl pn.2)), (a_rd 2, .inl (kA 0, 12, .inl u4.2.1.1)), (a_rd 3, .inl (kA 0, 12, .inl u4.2.1.2.1)), (a_rd 4, .inl (kA 0, 80, .inl u4.2.1.2.2.1)), (a_rd 5, .inl (kA 0, 80, .inl u4.2.1.2.2.2.1)), (a_sp 0, .inr (3, [.ref (a_sp 1), .ref (a_sp 2), .ref (a_sp 3), .ref (a_sp 4), .ref (a_sp 5), .ref (a_sp 6), .ref (a_sp 7), .ref (a_sk 0), .int u4.2.2.1.2.2.2.2.2.2.2.1, .int u4.2.2.1.2.2.2.2.2.2.2.2])), (a_sp 1, .inl (kA 0, 40, .inl u4.2.2.1.1)), (a_sp 2, .inl (kA 0, 40, .inl u4.2.2.1.2.1)), (a_sp 3, .inl (kA 0, 80, .inl u4.2.2.1.2.2.1)), (a_sp 4, .inl (kA 0, 120, .inl u4.2.2.1.2.2.2.1)), (a_sp 5, .inl (kA 0, 120, .inl u4.2.2.1.2.2.2.2.1)), (a_sp 6, .inl (kA 2, 120, .inr (.inl u4.2.2.1.2.2.2.2.2.1))), (a_sp 7, .inl (kA 1, 1240, .inl u4.2.2.1.2.2.2.2.2.2.1)), (a_sk 0, .inr (0, [.ref (a_sk 1), .ref (a_sk 2), .ref (a_sk 3), .ref (a_sk 4), .ref (a_sk 5), .ref (a_sk 6), .ref (a_sk 7), .ref (a_sk 8), .ref (a_sk 9), .ref (a_sk 10), .ref (a_sk 11), .int u4.2.2.2.2.2.2.2.2.2.2.2.2.2.2])), (a_sk 1, .inl (kA 0, 12, .inl u4.2.2.2.1)), (a_sk 2, .inl (kA 0, 12, .inl u4.2.2.2.2.1)), (a_sk 3, .inl (kA 3, 12, .inl u4.2.2.2.2.2.1)), (a_sk 4, .inl (kA 0, 12, .inl u4.2.2.2.2.2.2.1)), (a_sk 5, .inl (kA 0, 12, .inl u4.2.2.2.2.2.2.2.1)), (a_sk 6, .inl (kA 2, 12, .inr (.inl u4.2.2.2.2.2.2.2.2.1))), (a_sk 7, .inl (kA 2, 12, .inr (.inl u4.2.2.2.2.2.2.2.2.2.1))), (a_sk 8, .inl (kA 2, 12, .inr (.inl u4.2.2.2.2.2.2.2.2.2.2.1))), (a_sk 9, .inl (kA 2, 12, .inr (.inl u4.2.2.2.2.2.2.2.2.2.2.2.1))), (a_sk 10, .inl (kA 3, 12, .inl u4.2.2.2.2.2.2.2.2.2.2.2.2.1)), (a_sk 11, .inl (kA 3, 12, .inl u4.2.2.2.2.2.2.2.2.2.2.2.2.2.1)), (a_tp 0, .inr (4, [.ref (a_tp 1), .int u12.2])), (a_tp 1, .inl (kA 1, 1200, .inl u12.1)), (a_rd 0, .inr (2, [.ref (a_tp 0), .ref (a_rd 2), .ref (a_rd 3), .ref (a_rd 4), .ref (a_rd 5), .ref (a_sh 0), .int u4.2.1.2.2.2.2.1, .int u4.2.1.2.2.2.2.2]))] H := hP
    have hD : va_D A [(a_ct 0, .inr (5, [.ref (a_tp 0), .ref (a_pn 0), .ref (a_rd 0), .ref (a_sh 0)])), (a_sh 0, .inr (3, [.ref (a_sh 1), .ref (a_sh 2), .ref (a_sh 3), .ref (a_sh 4), .ref (a_sh 5), .ref (a_sh 6), .ref (a_sh 7), .ref (a_ck 0), .int sh.2.2.2.2.2.2.2.1, .int sh.2.2.2.2.2.2.2.2])), (a_sh 1, .inl (kA 0, 40, .inl sh.1)), (a_sh 2, .inl (kA 0, 40, .inl sh.2.1)), (a_sh 3, .inl (kA 0, 80, .inl sh.2.2.1)), (a_sh 4, .inl (kA 0, 120, .inl sh.2.2.2.1)), (a_sh 5, .inl (kA 0, 120, .inl sh.2.2.2.2.1)), (a_sh 6, .inl (kA 2, 120, .inr (.inl sh.2.2.2.2.2.1))), (a_sh 7, .inl (kA 1, 1240, .inl sh.2.2.2.2.2.2.1)), (a_ck 0, .inr (0, [.ref (a_ck 1), .ref (a_ck 2), .ref (a_ck 3), .ref (a_ck 4), .ref (a_ck 5), .ref (a_ck 6), .ref (a_ck 7), .ref (a_ck 8), .ref (a_ck 9), .ref (a_ck 10), .ref (a_ck 11), .int ck.2.2.2.2.2.2.2.2.2.2.2])), (a_ck 1, .inl (kA 0, 12, .inl ck.1)), (a_ck 2, .inl (kA 0, 12, .inl ck.2.1)), (a_ck 3, .inl (kA 3, 12, .inl ck.2.2.1)), (a_ck 4, .inl (kA 0, 12, .inl ck.2.2.2.1)), (a_ck 5, .inl (kA 0, 12, .inl ck.2.2.2.2.1)), (a_ck 6, .inl (kA 2, 12, .inr (.inl ck.2.2.2.2.2.1))), (a_ck 7, .inl (kA 2, 12, .inr (.inl ck.2.2.2.2.2.2.1))), (a_ck 8, .inl (kA 2, 12, .inr (.inl ck.2.2.2.2.2.2.2.1))), (a_ck 9, .inl (kA 2, 12, .inr (.inl ck.2.2.2.2.2.2.2.2.1))), (a_ck 10, .inl (kA 3, 12, .inl ck.2.2.2.2.2.2.2.2.2.1)), (a_ck 11, .inl (kA 3, 12, .inl ck.2.2.2.2.2.2.2.2.2.2.1)), (a_pn 0, .inr (1, [.ref (a_pn 1), .ref (a_pn 2)])), (a_pn 1, .inl (kA 1, 640, .inl pn.1)), (a_pn 2, .inl (kA 0, 40, .inl pn.2)), (a_rd 2, .inl (kA 0, 12, .inl u4.2.1.1)), (a_rd 3, .inl (kA 0, 12, .inl u4.2.1.2.1)), (a_rd 4, .inl (kA 0, 80, .inl u4.2.1.2.2.1)), (a_rd 5, .inl (kA 0, 80, .inl u4.2.1.2.2.2.1)), (a_sp 0, .inr (3, [.ref (a_sp 1), .ref (a_sp 2), .ref (a_sp 3), .ref (a_sp 4), .ref (a_sp 5), .ref (a_sp 6), .ref (a_sp 7), .ref (a_sk 0), .int u4.2.2.1.2.2.2.2.2.2.2.1, .int u4.2.2.1.2.2.2.2.2.2.2.2])), (a_sp 1, .inl (kA 0, 40, .inl u4.2.2.1.1)), (a_sp 2, .inl (kA 0, 40, .inl u4.2.2.1.2.1)), (a_sp 3, .inl (kA 0, 80, .inl u4.2.2.1.2.2.1)), (a_sp 4, .inl (kA 0, 120, .inl u4.2.2.1.2.2.2.1)), (a_sp 5, .inl (kA 0, 120, .inl u4.2.2.1.2.2.2.2.1)), (a_sp 6, .inl (kA 2, 120, .inr (.inl u4.2.2.1.2.2.2.2.2.1))), (a_sp 7, .inl (kA 1, 1240, .inl u4.2.2.1.2.2.2.2.2.2.1)), (a_sk 0, .inr (0, [.ref (a_sk 1), .ref (a_sk 2), .ref (a_sk 3), .ref (a_sk 4), .ref (a_sk 5), .ref (a_sk 6), .ref (a_sk 7), .ref (a_sk 8), .ref (a_sk 9), .ref (a_sk 10), .ref (a_sk 11), .int u4.2.2.2.2.2.2.2.2.2.2.2.2.2.2])), (a_sk 1, .inl (kA 0, 12, .inl u4.2.2.2.1)), (a_sk 2, .inl (kA 0, 12, .inl u4.2.2.2.2.1)), (a_sk 3, .inl (kA 3, 12, .inl u4.2.2.2.2.2.1)), (a_sk 4, .inl (kA 0, 12, .inl u4.2.2.2.2.2.2.1)), (a_sk 5, .inl (kA 0, 12, .inl u4.2.2.2.2.2.2.2.1)), (a_sk 6, .inl (kA 2, 12, .inr (.inl u4.2.2.2.2.2.2.2.2.1))), (a_sk 7, .inl (kA 2, 12, .inr (.inl u4.2.2.2.2.2.2.2.2.2.1))), (a_sk 8, .inl (kA 2, 12, .inr (.inl u4.2.2.2.2.2.2.2.2.2.2.1))), (a_sk 9, .inl (kA 2, 12, .inr (.inl u4.2.2.2.2.2.2.2.2.2.2.2.1))), (a_sk 10, .inl (kA 3, 12, .inl u4.2.2.2.2.2.2.2.2.2.2.2.2.1)), (a_sk 11, .inl (kA 3, 12, .inl u4.2.2.2.2.2.2.2.2.2.2.2.2.2.1)), (a_tp 0, .inr (4, [.ref (a_tp 1), .int u12.2])), (a_tp 1, .inl (kA 1, 1200, .inl u12.1)), (a_rd 0, .inr (2, [.ref (a_tp 0), .ref (a_rd 2), .ref (a_rd 3), .ref (a_rd 4), .ref (a_rd 5), .ref (a_sh 0), .int u4.2.1.2.2.2.2.1, .int u4.2.1.2.2.2.2.2]))] := hD
    refine va_put (D := D) (ci := 5) (v := .ref (a_sp 0)) (ty := .object "ConstraintText$Sheet") (C := "ConstraintText") (T := TX5) (N := 4) hx hb hts ing5 tyX5 tyX5_ok nmX5 hown hK hP hD hS 0 rfl rfl 3 (by decide) (hts _ tw_263) (fun _ h9 => h9) rfl (tyX5_ok 3 (by decide)) rfl rfl (Nat.le_of_ble_eq_true rfl) dX5_read_36 (fun H locs hP hD hS => ?_)
    have hP : va_P D vwCl [(a_ct 0, .inr (5, [.ref (a_tp 0), .ref (a_pn 0), .ref (a_rd 0), .ref (a_sp 0)])), (a_sh 0, .inr (3, [.ref (a_sh 1), .ref (a_sh 2), .ref (a_sh 3), .ref (a_sh 4), .ref (a_sh 5), .ref (a_sh 6), .ref (a_sh 7), .ref (a_ck 0), .int sh.2.2.2.2.2.2.2.1, .int sh.2.2.2.2.2.2.2.2])), (a_sh 1, .inl (kA 0, 40, .inl sh.1)), (a_sh 2, .inl (kA 0, 40, .inl sh.2.1)), (a_sh 3, .inl (kA 0, 80, .inl sh.2.2.1)), (a_sh 4, .inl (kA 0, 120, .inl sh.2.2.2.1)), (a_sh 5, .inl (kA 0, 120, .inl sh.2.2.2.2.1)), (a_sh 6, .inl (kA 2, 120, .inr (.inl sh.2.2.2.2.2.1))), (a_sh 7, .inl (kA 1, 1240, .inl sh.2.2.2.2.2.2.1)), (a_ck 0, .inr (0, [.ref (a_ck 1), .ref (a_ck 2), .ref (a_ck 3), .ref (a_ck 4), .ref (a_ck 5), .ref (a_ck 6), .ref (a_ck 7), .ref (a_ck 8), .ref (a_ck 9), .ref (a_ck 10), .ref (a_ck 11), .int ck.2.2.2.2.2.2.2.2.2.2.2])), (a_ck 1, .inl (kA 0, 12, .inl ck.1)), (a_ck 2, .inl (kA 0, 12, .inl ck.2.1)), (a_ck 3, .inl (kA 3, 12, .inl ck.2.2.1)), (a_ck 4, .inl (kA 0, 12, .inl ck.2.2.2.1)), (a_ck 5, .inl (kA 0, 12, .inl ck.2.2.2.2.1)), (a_ck 6, .inl (kA 2, 12, .inr (.inl ck.2.2.2.2.2.1))), (a_ck 7, .inl (kA 2, 12, .inr (.inl ck.2.2.2.2.2.2.1))), (a_ck 8, .inl (kA 2, 12, .inr (.inl ck.2.2.2.2.2.2.2.1))), (a_ck 9, .inl (kA 2, 12, .inr (.inl ck.2.2.2.2.2.2.2.2.1))), (a_ck 10, .inl (kA 3, 12, .inl ck.2.2.2.2.2.2.2.2.2.1)), (a_ck 11, .inl (kA 3, 12, .inl ck.2.2.2.2.2.2.2.2.2.2.1)), (a_pn 0, .inr (1, [.ref (a_pn 1), .ref (a_pn 2)])), (a_pn 1, .inl (kA 1, 640, .inl pn.1)), (a_pn 2, .inl (kA 0, 40, .inl pn.2)), (a_rd 2, .inl (kA 0, 12, .inl u4.2.1.1)), (a_rd 3, .inl (kA 0, 12, .inl u4.2.1.2.1)), (a_rd 4, .inl (kA 0, 80, .inl u4.2.1.2.2.1)), (a_rd 5, .inl (kA 0, 80, .inl u4.2.1.2.2.2.1)), (a_sp 0, .inr (3, [.ref (a_sp 1), .ref (a_sp 2), .ref (a_sp 3), .ref (a_sp 4), .ref (a_sp 5), .ref (a_sp 6), .ref (a_sp 7), .ref (a_sk 0), .int u4.2.2.1.2.2.2.2.2.2.2.1, .int u4.2.2.1.2.2.2.2.2.2.2.2])), (a_sp 1, .inl (kA 0, 40, .inl u4.2.2.1.1)), (a_sp 2, .inl (kA 0, 40, .inl u4.2.2.1.2.1)), (a_sp 3, .inl (kA 0, 80, .inl u4.2.2.1.2.2.1)), (a_sp 4, .inl (kA 0, 120, .inl u4.2.2.1.2.2.2.1)), (a_sp 5, .inl (kA 0, 120, .inl u4.2.2.1.2.2.2.2.1)), (a_sp 6, .inl (kA 2, 120, .inr (.inl u4.2.2.1.2.2.2.2.2.1))), (a_sp 7, .inl (kA 1, 1240, .inl u4.2.2.1.2.2.2.2.2.2.1)), (a_sk 0, .inr (0, [.ref (a_sk 1), .ref (a_sk 2), .ref (a_sk 3), .ref (a_sk 4), .ref (a_sk 5), .ref (a_sk 6), .ref (a_sk 7), .ref (a_sk 8), .ref (a_sk 9), .ref (a_sk 10), .ref (a_sk 11), .int u4.2.2.2.2.2.2.2.2.2.2.2.2.2.2])), (a_sk 1, .inl (kA 0, 12, .inl u4.2.2.2.1)), (a_sk 2, .inl (kA 0, 12, .inl u4.2.2.2.2.1)), (a_sk 3, .inl (kA 3, 12, .inl u4.2.2.2.2.2.1)), (a_sk 4, .inl (kA 0, 12, .inl u4.2.2.2.2.2.2.1)), (a_sk 5, .inl (kA 0, 12, .inl u4.2.2.2.2.2.2.2.1)), (a_sk 6, .inl (kA 2, 12, .inr (.inl u4.2.2.2.2.2.2.2.2.1))), (a_sk 7, .inl (kA 2, 12, .inr (.inl u4.2.2.2.2.2.2.2.2.2.1))), (a_sk 8, .inl (kA 2, 12, .inr (.inl u4.2.2.2.2.2.2.2.2.2.2.1))), (a_sk 9, .inl (kA 2, 12, .inr (.inl u4.2.2.2.2.2.2.2.2.2.2.2.1))), (a_sk 10, .inl (kA 3, 12, .inl u4.2.2.2.2.2.2.2.2.2.2.2.2.1)), (a_sk 11, .inl (kA 3, 12, .inl u4.2.2.2.2.2.2.2.2.2.2.2.2.2.1)), (a_tp 0, .inr (4, [.ref (a_tp 1), .int u12.2])), (a_tp 1, .inl (kA 1, 1200, .inl u12.1)), (a_rd 0, .inr (2, [.ref (a_tp 0), .ref (a_rd 2), .ref (a_rd 3), .ref (a_rd 4), .ref (a_rd 5), .ref (a_sh 0), .int u4.2.1.2.2.2.2.1, .int u4.2.1.2.2.2.2.2]))] H := hP
    have hD : va_D A [(a_ct 0, .inr (5, [.ref (a_tp 0), .ref (a_pn 0), .ref (a_rd 0), .ref (a_sp 0)])), (a_sh 0, .inr (3, [.ref (a_sh 1), .ref (a_sh 2), .ref (a_sh 3), .ref (a_sh 4), .ref (a_sh 5), .ref (a_sh 6), .ref (a_sh 7), .ref (a_ck 0), .int sh.2.2.2.2.2.2.2.1, .int sh.2.2.2.2.2.2.2.2])), (a_sh 1, .inl (kA 0, 40, .inl sh.1)), (a_sh 2, .inl (kA 0, 40, .inl sh.2.1)), (a_sh 3, .inl (kA 0, 80, .inl sh.2.2.1)), (a_sh 4, .inl (kA 0, 120, .inl sh.2.2.2.1)), (a_sh 5, .inl (kA 0, 120, .inl sh.2.2.2.2.1)), (a_sh 6, .inl (kA 2, 120, .inr (.inl sh.2.2.2.2.2.1))), (a_sh 7, .inl (kA 1, 1240, .inl sh.2.2.2.2.2.2.1)), (a_ck 0, .inr (0, [.ref (a_ck 1), .ref (a_ck 2), .ref (a_ck 3), .ref (a_ck 4), .ref (a_ck 5), .ref (a_ck 6), .ref (a_ck 7), .ref (a_ck 8), .ref (a_ck 9), .ref (a_ck 10), .ref (a_ck 11), .int ck.2.2.2.2.2.2.2.2.2.2.2])), (a_ck 1, .inl (kA 0, 12, .inl ck.1)), (a_ck 2, .inl (kA 0, 12, .inl ck.2.1)), (a_ck 3, .inl (kA 3, 12, .inl ck.2.2.1)), (a_ck 4, .inl (kA 0, 12, .inl ck.2.2.2.1)), (a_ck 5, .inl (kA 0, 12, .inl ck.2.2.2.2.1)), (a_ck 6, .inl (kA 2, 12, .inr (.inl ck.2.2.2.2.2.1))), (a_ck 7, .inl (kA 2, 12, .inr (.inl ck.2.2.2.2.2.2.1))), (a_ck 8, .inl (kA 2, 12, .inr (.inl ck.2.2.2.2.2.2.2.1))), (a_ck 9, .inl (kA 2, 12, .inr (.inl ck.2.2.2.2.2.2.2.2.1))), (a_ck 10, .inl (kA 3, 12, .inl ck.2.2.2.2.2.2.2.2.2.1)), (a_ck 11, .inl (kA 3, 12, .inl ck.2.2.2.2.2.2.2.2.2.2.1)), (a_pn 0, .inr (1, [.ref (a_pn 1), .ref (a_pn 2)])), (a_pn 1, .inl (kA 1, 640, .inl pn.1)), (a_pn 2, .inl (kA 0, 40, .inl pn.2)), (a_rd 2, .inl (kA 0, 12, .inl u4.2.1.1)), (a_rd 3, .inl (kA 0, 12, .inl u4.2.1.2.1)), (a_rd 4, .inl (kA 0, 80, .inl u4.2.1.2.2.1)), (a_rd 5, .inl (kA 0, 80, .inl u4.2.1.2.2.2.1)), (a_sp 0, .inr (3, [.ref (a_sp 1), .ref (a_sp 2), .ref (a_sp 3), .ref (a_sp 4), .ref (a_sp 5), .ref (a_sp 6), .ref (a_sp 7), .ref (a_sk 0), .int u4.2.2.1.2.2.2.2.2.2.2.1, .int u4.2.2.1.2.2.2.2.2.2.2.2])), (a_sp 1, .inl (kA 0, 40, .inl u4.2.2.1.1)), (a_sp 2, .inl (kA 0, 40, .inl u4.2.2.1.2.1)), (a_sp 3, .inl (kA 0, 80, .inl u4.2.2.1.2.2.1)), (a_sp 4, .inl (kA 0, 120, .inl u4.2.2.1.2.2.2.1)), (a_sp 5, .inl (kA 0, 120, .inl u4.2.2.1.2.2.2.2.1)), (a_sp 6, .inl (kA 2, 120, .inr (.inl u4.2.2.1.2.2.2.2.2.1))), (a_sp 7, .inl (kA 1, 1240, .inl u4.2.2.1.2.2.2.2.2.2.1)), (a_sk 0, .inr (0, [.ref (a_sk 1), .ref (a_sk 2), .ref (a_sk 3), .ref (a_sk 4), .ref (a_sk 5), .ref (a_sk 6), .ref (a_sk 7), .ref (a_sk 8), .ref (a_sk 9), .ref (a_sk 10), .ref (a_sk 11), .int u4.2.2.2.2.2.2.2.2.2.2.2.2.2.2])), (a_sk 1, .inl (kA 0, 12, .inl u4.2.2.2.1)), (a_sk 2, .inl (kA 0, 12, .inl u4.2.2.2.2.1)), (a_sk 3, .inl (kA 3, 12, .inl u4.2.2.2.2.2.1)), (a_sk 4, .inl (kA 0, 12, .inl u4.2.2.2.2.2.2.1)), (a_sk 5, .inl (kA 0, 12, .inl u4.2.2.2.2.2.2.2.1)), (a_sk 6, .inl (kA 2, 12, .inr (.inl u4.2.2.2.2.2.2.2.2.1))), (a_sk 7, .inl (kA 2, 12, .inr (.inl u4.2.2.2.2.2.2.2.2.2.1))), (a_sk 8, .inl (kA 2, 12, .inr (.inl u4.2.2.2.2.2.2.2.2.2.2.1))), (a_sk 9, .inl (kA 2, 12, .inr (.inl u4.2.2.2.2.2.2.2.2.2.2.2.1))), (a_sk 10, .inl (kA 3, 12, .inl u4.2.2.2.2.2.2.2.2.2.2.2.2.1)), (a_sk 11, .inl (kA 3, 12, .inl u4.2.2.2.2.2.2.2.2.2.2.2.2.2.1)), (a_tp 0, .inr (4, [.ref (a_tp 1), .int u12.2])), (a_tp 1, .inl (kA 1, 1200, .inl u12.1)), (a_rd 0, .inr (2, [.ref (a_tp 0), .ref (a_rd 2), .ref (a_rd 3), .ref (a_rd 4), .ref (a_rd 5), .ref (a_sh 0), .int u4.2.1.2.2.2.2.1, .int u4.2.1.2.2.2.2.2]))] := hD
    refine lv_iconst (v := 0) hx hb dX5_read_39 (by decide) ?_
    refine lv_istore_n (lv' := [(2, .int (0 : Int32)), (1, .int u4.1), (0, .ref (a_ct 0))]) hx hb dX5_read_40 rfl hl (by decide) rfl (fun ls hl => ?_)
    obtain ⟨k41, e41, hk41, hi41, hc41⟩ := bnd_name h
    have x65w : ∀ (x65 : T3) (H : Heap) (locs : List Loc) (ls : Array Slot), k41 x65 = some res → va_P D vwCl [(a_ct 0, .inr (5, [.ref (a_tp 0), .ref (a_pn 0), .ref (a_rd 0), .ref (a_sp 0)])), (a_rd 0, .inr (2, [.ref (a_tp 0), .ref (a_rd 2), .ref (a_rd 3), .ref (a_rd 4), .ref (a_rd 5), .ref (a_sh 0), .int u4.2.1.2.2.2.2.1, .int u4.2.1.2.2.2.2.2])), (a_rd 2, .inl (kA 0, 12, .inl u4.2.1.1)), (a_rd 3, .inl (kA 0, 12, .inl u4.2.1.2.1)), (a_rd 4, .inl (kA 0, 80, .inl u4.2.1.2.2.1)), (a_rd 5, .inl (kA 0, 80, .inl u4.2.1.2.2.2.1)), (a_sh 0, .inr (3, [.ref (a_sh 1), .ref (a_sh 2), .ref (a_sh 3), .ref (a_sh 4), .ref (a_sh 5), .ref (a_sh 6), .ref (a_sh 7), .ref (a_ck 0), .int sh.2.2.2.2.2.2.2.1, .int sh.2.2.2.2.2.2.2.2])), (a_sh 1, .inl (kA 0, 40, .inl sh.1)), (a_sh 2, .inl (kA 0, 40, .inl sh.2.1)), (a_sh 3, .inl (kA 0, 80, .inl sh.2.2.1)), (a_sh 4, .inl (kA 0, 120, .inl sh.2.2.2.1)), (a_sh 5, .inl (kA 0, 120, .inl sh.2.2.2.2.1)), (a_sh 6, .inl (kA 2, 120, .inr (.inl sh.2.2.2.2.2.1))), (a_sh 7, .inl (kA 1, 1240, .inl sh.2.2.2.2.2.2.1)), (a_ck 0, .inr (0, [.ref (a_ck 1), .ref (a_ck 2), .ref (a_ck 3), .ref (a_ck 4), .ref (a_ck 5), .ref (a_ck 6), .ref (a_ck 7), .ref (a_ck 8), .ref (a_ck 9), .ref (a_ck 10), .ref (a_ck 11), .int ck.2.2.2.2.2.2.2.2.2.2.2])), (a_ck 1, .inl (kA 0, 12, .inl ck.1)), (a_ck 2, .inl (kA 0, 12, .inl ck.2.1)), (a_ck 3, .inl (kA 3, 12, .inl ck.2.2.1)), (a_ck 4, .inl (kA 0, 12, .inl ck.2.2.2.1)), (a_ck 5, .inl (kA 0, 12, .inl ck.2.2.2.2.1)), (a_ck 6, .inl (kA 2, 12, .inr (.inl ck.2.2.2.2.2.1))), (a_ck 7, .inl (kA 2, 12, .inr (.inl ck.2.2.2.2.2.2.1))), (a_ck 8, .inl (kA 2, 12, .inr (.inl ck.2.2.2.2.2.2.2.1))), (a_ck 9, .inl (kA 2, 12, .inr (.inl ck.2.2.2.2.2.2.2.2.1))), (a_ck 10, .inl (kA 3, 12, .inl ck.2.2.2.2.2.2.2.2.2.1)), (a_ck 11, .inl (kA 3, 12, .inl ck.2.2.2.2.2.2.2.2.2.2.1)), (a_tp 0, .inr (4, [.ref (a_tp 1), .int u12.2])), (a_tp 1, .inl (kA 1, 1200, .inl u12.1)), (a_sp 0, .inr (3, [.ref (a_sp 1), .ref (a_sp 2), .ref (a_sp 3), .ref (a_sp 4), .ref (a_sp 5), .ref (a_sp 6), .ref (a_sp 7), .ref (a_sk 0), .int x65.2.2.2.2.2.2.2.1, .int x65.2.2.2.2.2.2.2.2])), (a_sp 1, .inl (kA 0, 40, .inl x65.1)), (a_sp 2, .inl (kA 0, 40, .inl x65.2.1)), (a_sp 3, .inl (kA 0, 80, .inl x65.2.2.1)), (a_sp 4, .inl (kA 0, 120, .inl x65.2.2.2.1)), (a_sp 5, .inl (kA 0, 120, .inl x65.2.2.2.2.1)), (a_sp 6, .inl (kA 2, 120, .inr (.inl x65.2.2.2.2.2.1))), (a_sp 7, .inl (kA 1, 1240, .inl x65.2.2.2.2.2.2.1)), (a_sk 0, .inr (0, [.ref (a_sk 1), .ref (a_sk 2), .ref (a_sk 3), .ref (a_sk 4), .ref (a_sk 5), .ref (a_sk 6), .ref (a_sk 7), .ref (a_sk 8), .ref (a_sk 9), .ref (a_sk 10), .ref (a_sk 11), .int u4.2.2.2.2.2.2.2.2.2.2.2.2.2.2])), (a_sk 1, .inl (kA 0, 12, .inl u4.2.2.2.1)), (a_sk 2, .inl (kA 0, 12, .inl u4.2.2.2.2.1)), (a_sk 3, .inl (kA 3, 12, .inl u4.2.2.2.2.2.1)), (a_sk 4, .inl (kA 0, 12, .inl u4.2.2.2.2.2.2.1)), (a_sk 5, .inl (kA 0, 12, .inl u4.2.2.2.2.2.2.2.1)), (a_sk 6, .inl (kA 2, 12, .inr (.inl u4.2.2.2.2.2.2.2.2.1))), (a_sk 7, .inl (kA 2, 12, .inr (.inl u4.2.2.2.2.2.2.2.2.2.1))), (a_sk 8, .inl (kA 2, 12, .inr (.inl u4.2.2.2.2.2.2.2.2.2.2.1))), (a_sk 9, .inl (kA 2, 12, .inr (.inl u4.2.2.2.2.2.2.2.2.2.2.2.1))), (a_sk 10, .inl (kA 3, 12, .inl u4.2.2.2.2.2.2.2.2.2.2.2.2.1)), (a_sk 11, .inl (kA 3, 12, .inl u4.2.2.2.2.2.2.2.2.2.2.2.2.2.1)), (a_pn 0, .inr (1, [.ref (a_pn 1), .ref (a_pn 2)])), (a_pn 1, .inl (kA 1, 640, .inl pn.1)), (a_pn 2, .inl (kA 0, 40, .inl pn.2))] H → va_D A [(a_ct 0, .inr (5, [.ref (a_tp 0), .ref (a_pn 0), .ref (a_rd 0), .ref (a_sp 0)])), (a_rd 0, .inr (2, [.ref (a_tp 0), .ref (a_rd 2), .ref (a_rd 3), .ref (a_rd 4), .ref (a_rd 5), .ref (a_sh 0), .int u4.2.1.2.2.2.2.1, .int u4.2.1.2.2.2.2.2])), (a_rd 2, .inl (kA 0, 12, .inl u4.2.1.1)), (a_rd 3, .inl (kA 0, 12, .inl u4.2.1.2.1)), (a_rd 4, .inl (kA 0, 80, .inl u4.2.1.2.2.1)), (a_rd 5, .inl (kA 0, 80, .inl u4.2.1.2.2.2.1)), (a_sh 0, .inr (3, [.ref (a_sh 1), .ref (a_sh 2), .ref (a_sh 3), .ref (a_sh 4), .ref (a_sh 5), .ref (a_sh 6), .ref (a_sh 7), .ref (a_ck 0), .int sh.2.2.2.2.2.2.2.1, .int sh.2.2.2.2.2.2.2.2])), (a_sh 1, .inl (kA 0, 40, .inl sh.1)), (a_sh 2, .inl (kA 0, 40, .inl sh.2.1)), (a_sh 3, .inl (kA 0, 80, .inl sh.2.2.1)), (a_sh 4, .inl (kA 0, 120, .inl sh.2.2.2.1)), (a_sh 5, .inl (kA 0, 120, .inl sh.2.2.2.2.1)), (a_sh 6, .inl (kA 2, 120, .inr (.inl sh.2.2.2.2.2.1))), (a_sh 7, .inl (kA 1, 1240, .inl sh.2.2.2.2.2.2.1)), (a_ck 0, .inr (0, [.ref (a_ck 1), .ref (a_ck 2), .ref (a_ck 3), .ref (a_ck 4), .ref (a_ck 5), .ref (a_ck 6), .ref (a_ck 7), .ref (a_ck 8), .ref (a_ck 9), .ref (a_ck 10), .ref (a_ck 11), .int ck.2.2.2.2.2.2.2.2.2.2.2])), (a_ck 1, .inl (kA 0, 12, .inl ck.1)), (a_ck 2, .inl (kA 0, 12, .inl ck.2.1)), (a_ck 3, .inl (kA 3, 12, .inl ck.2.2.1)), (a_ck 4, .inl (kA 0, 12, .inl ck.2.2.2.1)), (a_ck 5, .inl (kA 0, 12, .inl ck.2.2.2.2.1)), (a_ck 6, .inl (kA 2, 12, .inr (.inl ck.2.2.2.2.2.1))), (a_ck 7, .inl (kA 2, 12, .inr (.inl ck.2.2.2.2.2.2.1))), (a_ck 8, .inl (kA 2, 12, .inr (.inl ck.2.2.2.2.2.2.2.1))), (a_ck 9, .inl (kA 2, 12, .inr (.inl ck.2.2.2.2.2.2.2.2.1))), (a_ck 10, .inl (kA 3, 12, .inl ck.2.2.2.2.2.2.2.2.2.1)), (a_ck 11, .inl (kA 3, 12, .inl ck.2.2.2.2.2.2.2.2.2.2.1)), (a_tp 0, .inr (4, [.ref (a_tp 1), .int u12.2])), (a_tp 1, .inl (kA 1, 1200, .inl u12.1)), (a_sp 0, .inr (3, [.ref (a_sp 1), .ref (a_sp 2), .ref (a_sp 3), .ref (a_sp 4), .ref (a_sp 5), .ref (a_sp 6), .ref (a_sp 7), .ref (a_sk 0), .int x65.2.2.2.2.2.2.2.1, .int x65.2.2.2.2.2.2.2.2])), (a_sp 1, .inl (kA 0, 40, .inl x65.1)), (a_sp 2, .inl (kA 0, 40, .inl x65.2.1)), (a_sp 3, .inl (kA 0, 80, .inl x65.2.2.1)), (a_sp 4, .inl (kA 0, 120, .inl x65.2.2.2.1)), (a_sp 5, .inl (kA 0, 120, .inl x65.2.2.2.2.1)), (a_sp 6, .inl (kA 2, 120, .inr (.inl x65.2.2.2.2.2.1))), (a_sp 7, .inl (kA 1, 1240, .inl x65.2.2.2.2.2.2.1)), (a_sk 0, .inr (0, [.ref (a_sk 1), .ref (a_sk 2), .ref (a_sk 3), .ref (a_sk 4), .ref (a_sk 5), .ref (a_sk 6), .ref (a_sk 7), .ref (a_sk 8), .ref (a_sk 9), .ref (a_sk 10), .ref (a_sk 11), .int u4.2.2.2.2.2.2.2.2.2.2.2.2.2.2])), (a_sk 1, .inl (kA 0, 12, .inl u4.2.2.2.1)), (a_sk 2, .inl (kA 0, 12, .inl u4.2.2.2.2.1)), (a_sk 3, .inl (kA 3, 12, .inl u4.2.2.2.2.2.1)), (a_sk 4, .inl (kA 0, 12, .inl u4.2.2.2.2.2.2.1)), (a_sk 5, .inl (kA 0, 12, .inl u4.2.2.2.2.2.2.2.1)), (a_sk 6, .inl (kA 2, 12, .inr (.inl u4.2.2.2.2.2.2.2.2.1))), (a_sk 7, .inl (kA 2, 12, .inr (.inl u4.2.2.2.2.2.2.2.2.2.1))), (a_sk 8, .inl (kA 2, 12, .inr (.inl u4.2.2.2.2.2.2.2.2.2.2.1))), (a_sk 9, .inl (kA 2, 12, .inr (.inl u4.2.2.2.2.2.2.2.2.2.2.2.1))), (a_sk 10, .inl (kA 3, 12, .inl u4.2.2.2.2.2.2.2.2.2.2.2.2.1)), (a_sk 11, .inl (kA 3, 12, .inl u4.2.2.2.2.2.2.2.2.2.2.2.2.2.1)), (a_pn 0, .inr (1, [.ref (a_pn 1), .ref (a_pn 2)])), (a_pn 1, .inl (kA 1, 640, .inl pn.1)), (a_pn 2, .inl (kA 0, 40, .inl pn.2))] → va_S A s.heap H locs → lv_has ls 3 [(0, .ref (a_ct 0))] → W p l e rm5_read s m args below meth c H locs 0 0 Q (F0 m 65 ls []) := by
      intro x65 H locs ls h hP hD hS hl
      have h := app_of hk41 h
      refine lv_aload_n hx hb dX5_read_65 rfl (lv_at hl 0 rfl) ?_
      refine va_get (D := D) (ci := 5) (v := .ref (a_sp 0)) (C := "ConstraintText") (T := TX5) (N := 4) hx hb hts ing5 hown hK hP 0 rfl rfl 3 (by decide) (hts _ tw_263) (fun _ h9 => h9) rfl dX5_read_66 ?_
      refine va_getN (D := D) (ci := 3) (v := .int x65.2.2.2.2.2.2.2.1) (C := "ConstraintText$Sheet") (T := TX3) (N := 10) hx hb hts ing3 hown hK hP 28 rfl rfl 8 (by decide) (va_Nw.use rfl (hN.1 _ nw_194)) (fun _ h9 => h9) rfl dX5_read_69 ?_
      obtain rfl := Option.some.inj h
      rw [← hQ]
      exact rw_ireturn hx hb hr hk  dX5_read_72  hP hD hS
    have lp41 : ∀ (n41 : Nat) (s41 : Int32 × T3) (H : Heap) (locs : List Loc) (ls : Array Slot), iter (f5_read_L41 F pn) n41 s41 = some e41 → va_P D vwCl [(a_ct 0, .inr (5, [.ref (a_tp 0), .ref (a_pn 0), .ref (a_rd 0), .ref (a_sp 0)])), (a_rd 0, .inr (2, [.ref (a_tp 0), .ref (a_rd 2), .ref (a_rd 3), .ref (a_rd 4), .ref (a_rd 5), .ref (a_sh 0), .int u4.2.1.2.2.2.2.1, .int u4.2.1.2.2.2.2.2])), (a_rd 2, .inl (kA 0, 12, .inl u4.2.1.1)), (a_rd 3, .inl (kA 0, 12, .inl u4.2.1.2.1)), (a_rd 4, .inl (kA 0, 80, .inl u4.2.1.2.2.1)), (a_rd 5, .inl (kA 0, 80, .inl u4.2.1.2.2.2.1)), (a_sh 0, .inr (3, [.ref (a_sh 1), .ref (a_sh 2), .ref (a_sh 3), .ref (a_sh 4), .ref (a_sh 5), .ref (a_sh 6), .ref (a_sh 7), .ref (a_ck 0), .int sh.2.2.2.2.2.2.2.1, .int sh.2.2.2.2.2.2.2.2])), (a_sh 1, .inl (kA 0, 40, .inl sh.1)), (a_sh 2, .inl (kA 0, 40, .inl sh.2.1)), (a_sh 3, .inl (kA 0, 80, .inl sh.2.2.1)), (a_sh 4, .inl (kA 0, 120, .inl sh.2.2.2.1)), (a_sh 5, .inl (kA 0, 120, .inl sh.2.2.2.2.1)), (a_sh 6, .inl (kA 2, 120, .inr (.inl sh.2.2.2.2.2.1))), (a_sh 7, .inl (kA 1, 1240, .inl sh.2.2.2.2.2.2.1)), (a_ck 0, .inr (0, [.ref (a_ck 1), .ref (a_ck 2), .ref (a_ck 3), .ref (a_ck 4), .ref (a_ck 5), .ref (a_ck 6), .ref (a_ck 7), .ref (a_ck 8), .ref (a_ck 9), .ref (a_ck 10), .ref (a_ck 11), .int ck.2.2.2.2.2.2.2.2.2.2.2])), (a_ck 1, .inl (kA 0, 12, .inl ck.1)), (a_ck 2, .inl (kA 0, 12, .inl ck.2.1)), (a_ck 3, .inl (kA 3, 12, .inl ck.2.2.1)), (a_ck 4, .inl (kA 0, 12, .inl ck.2.2.2.1)), (a_ck 5, .inl (kA 0, 12, .inl ck.2.2.2.2.1)), (a_ck 6, .inl (kA 2, 12, .inr (.inl ck.2.2.2.2.2.1))), (a_ck 7, .inl (kA 2, 12, .inr (.inl ck.2.2.2.2.2.2.1))), (a_ck 8, .inl (kA 2, 12, .inr (.inl ck.2.2.2.2.2.2.2.1))), (a_ck 9, .inl (kA 2, 12, .inr (.inl ck.2.2.2.2.2.2.2.2.1))), (a_ck 10, .inl (kA 3, 12, .inl ck.2.2.2.2.2.2.2.2.2.1)), (a_ck 11, .inl (kA 3, 12, .inl ck.2.2.2.2.2.2.2.2.2.2.1)), (a_tp 0, .inr (4, [.ref (a_tp 1), .int u12.2])), (a_tp 1, .inl (kA 1, 1200, .inl u12.1)), (a_sp 0, .inr (3, [.ref (a_sp 1), .ref (a_sp 2), .ref (a_sp 3), .ref (a_sp 4), .ref (a_sp 5), .ref (a_sp 6), .ref (a_sp 7), .ref (a_sk 0), .int s41.2.2.2.2.2.2.2.2.1, .int s41.2.2.2.2.2.2.2.2.2])), (a_sp 1, .inl (kA 0, 40, .inl s41.2.1)), (a_sp 2, .inl (kA 0, 40, .inl s41.2.2.1)), (a_sp 3, .inl (kA 0, 80, .inl s41.2.2.2.1)), (a_sp 4, .inl (kA 0, 120, .inl s41.2.2.2.2.1)), (a_sp 5, .inl (kA 0, 120, .inl s41.2.2.2.2.2.1)), (a_sp 6, .inl (kA 2, 120, .inr (.inl s41.2.2.2.2.2.2.1))), (a_sp 7, .inl (kA 1, 1240, .inl s41.2.2.2.2.2.2.2.1)), (a_sk 0, .inr (0, [.ref (a_sk 1), .ref (a_sk 2), .ref (a_sk 3), .ref (a_sk 4), .ref (a_sk 5), .ref (a_sk 6), .ref (a_sk 7), .ref (a_sk 8), .ref (a_sk 9), .ref (a_sk 10), .ref (a_sk 11), .int u4.2.2.2.2.2.2.2.2.2.2.2.2.2.2])), (a_sk 1, .inl (kA 0, 12, .inl u4.2.2.2.1)), (a_sk 2, .inl (kA 0, 12, .inl u4.2.2.2.2.1)), (a_sk 3, .inl (kA 3, 12, .inl u4.2.2.2.2.2.1)), (a_sk 4, .inl (kA 0, 12, .inl u4.2.2.2.2.2.2.1)), (a_sk 5, .inl (kA 0, 12, .inl u4.2.2.2.2.2.2.2.1)), (a_sk 6, .inl (kA 2, 12, .inr (.inl u4.2.2.2.2.2.2.2.2.1))), (a_sk 7, .inl (kA 2, 12, .inr (.inl u4.2.2.2.2.2.2.2.2.2.1))), (a_sk 8, .inl (kA 2, 12, .inr (.inl u4.2.2.2.2.2.2.2.2.2.2.1))), (a_sk 9, .inl (kA 2, 12, .inr (.inl u4.2.2.2.2.2.2.2.2.2.2.2.1))), (a_sk 10, .inl (kA 3, 12, .inl u4.2.2.2.2.2.2.2.2.2.2.2.2.1)), (a_sk 11, .inl (kA 3, 12, .inl u4.2.2.2.2.2.2.2.2.2.2.2.2.2.1)), (a_pn 0, .inr (1, [.ref (a_pn 1), .ref (a_pn 2)])), (a_pn 1, .inl (kA 1, 640, .inl pn.1)), (a_pn 2, .inl (kA 0, 40, .inl pn.2))] H → va_D A [(a_ct 0, .inr (5, [.ref (a_tp 0), .ref (a_pn 0), .ref (a_rd 0), .ref (a_sp 0)])), (a_rd 0, .inr (2, [.ref (a_tp 0), .ref (a_rd 2), .ref (a_rd 3), .ref (a_rd 4), .ref (a_rd 5), .ref (a_sh 0), .int u4.2.1.2.2.2.2.1, .int u4.2.1.2.2.2.2.2])), (a_rd 2, .inl (kA 0, 12, .inl u4.2.1.1)), (a_rd 3, .inl (kA 0, 12, .inl u4.2.1.2.1)), (a_rd 4, .inl (kA 0, 80, .inl u4.2.1.2.2.1)), (a_rd 5, .inl (kA 0, 80, .inl u4.2.1.2.2.2.1)), (a_sh 0, .inr (3, [.ref (a_sh 1), .ref (a_sh 2), .ref (a_sh 3), .ref (a_sh 4), .ref (a_sh 5), .ref (a_sh 6), .ref (a_sh 7), .ref (a_ck 0), .int sh.2.2.2.2.2.2.2.1, .int sh.2.2.2.2.2.2.2.2])), (a_sh 1, .inl (kA 0, 40, .inl sh.1)), (a_sh 2, .inl (kA 0, 40, .inl sh.2.1)), (a_sh 3, .inl (kA 0, 80, .inl sh.2.2.1)), (a_sh 4, .inl (kA 0, 120, .inl sh.2.2.2.1)), (a_sh 5, .inl (kA 0, 120, .inl sh.2.2.2.2.1)), (a_sh 6, .inl (kA 2, 120, .inr (.inl sh.2.2.2.2.2.1))), (a_sh 7, .inl (kA 1, 1240, .inl sh.2.2.2.2.2.2.1)), (a_ck 0, .inr (0, [.ref (a_ck 1), .ref (a_ck 2), .ref (a_ck 3), .ref (a_ck 4), .ref (a_ck 5), .ref (a_ck 6), .ref (a_ck 7), .ref (a_ck 8), .ref (a_ck 9), .ref (a_ck 10), .ref (a_ck 11), .int ck.2.2.2.2.2.2.2.2.2.2.2])), (a_ck 1, .inl (kA 0, 12, .inl ck.1)), (a_ck 2, .inl (kA 0, 12, .inl ck.2.1)), (a_ck 3, .inl (kA 3, 12, .inl ck.2.2.1)), (a_ck 4, .inl (kA 0, 12, .inl ck.2.2.2.1)), (a_ck 5, .inl (kA 0, 12, .inl ck.2.2.2.2.1)), (a_ck 6, .inl (kA 2, 12, .inr (.inl ck.2.2.2.2.2.1))), (a_ck 7, .inl (kA 2, 12, .inr (.inl ck.2.2.2.2.2.2.1))), (a_ck 8, .inl (kA 2, 12, .inr (.inl ck.2.2.2.2.2.2.2.1))), (a_ck 9, .inl (kA 2, 12, .inr (.inl ck.2.2.2.2.2.2.2.2.1))), (a_ck 10, .inl (kA 3, 12, .inl ck.2.2.2.2.2.2.2.2.2.1)), (a_ck 11, .inl (kA 3, 12, .inl ck.2.2.2.2.2.2.2.2.2.2.1)), (a_tp 0, .inr (4, [.ref (a_tp 1), .int u12.2])), (a_tp 1, .inl (kA 1, 1200, .inl u12.1)), (a_sp 0, .inr (3, [.ref (a_sp 1), .ref (a_sp 2), .ref (a_sp 3), .ref (a_sp 4), .ref (a_sp 5), .ref (a_sp 6), .ref (a_sp 7), .ref (a_sk 0), .int s41.2.2.2.2.2.2.2.2.1, .int s41.2.2.2.2.2.2.2.2.2])), (a_sp 1, .inl (kA 0, 40, .inl s41.2.1)), (a_sp 2, .inl (kA 0, 40, .inl s41.2.2.1)), (a_sp 3, .inl (kA 0, 80, .inl s41.2.2.2.1)), (a_sp 4, .inl (kA 0, 120, .inl s41.2.2.2.2.1)), (a_sp 5, .inl (kA 0, 120, .inl s41.2.2.2.2.2.1)), (a_sp 6, .inl (kA 2, 120, .inr (.inl s41.2.2.2.2.2.2.1))), (a_sp 7, .inl (kA 1, 1240, .inl s41.2.2.2.2.2.2.2.1)), (a_sk 0, .inr (0, [.ref (a_sk 1), .ref (a_sk 2), .ref (a_sk 3), .ref (a_sk 4), .ref (a_sk 5), .ref (a_sk 6), .ref (a_sk 7), .ref (a_sk 8), .ref (a_sk 9), .ref (a_sk 10), .ref (a_sk 11), .int u4.2.2.2.2.2.2.2.2.2.2.2.2.2.2])), (a_sk 1, .inl (kA 0, 12, .inl u4.2.2.2.1)), (a_sk 2, .inl (kA 0, 12, .inl u4.2.2.2.2.1)), (a_sk 3, .inl (kA 3, 12, .inl u4.2.2.2.2.2.1)), (a_sk 4, .inl (kA 0, 12, .inl u4.2.2.2.2.2.2.1)), (a_sk 5, .inl (kA 0, 12, .inl u4.2.2.2.2.2.2.2.1)), (a_sk 6, .inl (kA 2, 12, .inr (.inl u4.2.2.2.2.2.2.2.2.1))), (a_sk 7, .inl (kA 2, 12, .inr (.inl u4.2.2.2.2.2.2.2.2.2.1))), (a_sk 8, .inl (kA 2, 12, .inr (.inl u4.2.2.2.2.2.2.2.2.2.2.1))), (a_sk 9, .inl (kA 2, 12, .inr (.inl u4.2.2.2.2.2.2.2.2.2.2.2.1))), (a_sk 10, .inl (kA 3, 12, .inl u4.2.2.2.2.2.2.2.2.2.2.2.2.1)), (a_sk 11, .inl (kA 3, 12, .inl u4.2.2.2.2.2.2.2.2.2.2.2.2.2.1)), (a_pn 0, .inr (1, [.ref (a_pn 1), .ref (a_pn 2)])), (a_pn 1, .inl (kA 1, 640, .inl pn.1)), (a_pn 2, .inl (kA 0, 40, .inl pn.2))] → va_S A s.heap H locs → lv_has ls 3 [(0, .ref (a_ct 0)), (2, .int s41.1)] → W p l e rm5_read s m args below meth c H locs 0 0 Q (F0 m 41 ls []) := by
      intro n41
      induction n41 with
      | zero =>
        intro s41 H locs ls h hP hD hS hl
        exact (iter_zero h).elim
      | succ n41 ih41 =>
        intro s41 H locs ls h hP hD hS hl
        obtain ⟨z41, h, hL41, hR41⟩ := iter_split h
        unfold f5_read_L41 at h
        refine lv_iload_n hx hb dX5_read_41 rfl (lv_at hl 1 rfl) ?_
        refine lv_bipush (v := 40) hx hb dX5_read_42 (by decide) ?_
        refine lv_icmp_ge (tgt := 65) hx hb dX5_read_44 (by decide) (fun bc => ?_) (fun bc => ?_)
        · have h := ite_t bc h
          obtain rfl := Option.some.inj h
          exact x65w _ _ _ ls (eq_some_app (hR41 _ rfl) hc41) hP hD hS (lv_sub hl [0] rfl)
        · have h := ite_f bc h
          refine lv_aload_n hx hb dX5_read_47 rfl (lv_at hl 0 rfl) ?_
          refine va_get (D := D) (ci := 5) (v := .ref (a_sp 0)) (C := "ConstraintText") (T := TX5) (N := 4) hx hb hts ing5 hown hK hP 0 rfl rfl 3 (by decide) (hts _ tw_263) (fun _ h9 => h9) rfl dX5_read_48 ?_
          refine lv_aload_n hx hb dX5_read_51 rfl (lv_at hl 0 rfl) ?_
          refine va_get (D := D) (ci := 5) (v := .ref (a_pn 0)) (C := "ConstraintText") (T := TX5) (N := 4) hx hb hts ing5 hown hK hP 0 rfl rfl 1 (by decide) (hts _ tw_261) (fun _ h9 => h9) rfl dX5_read_52 ?_
          refine lv_iload_n hx hb dX5_read_55 rfl (lv_at hl 1 rfl) ?_
          obtain ⟨u56, hc_56, h⟩ := bnd_some h
          refine rw_V (wr := [(a_ct 0, .inr (5, [.ref (a_tp 0), .ref (a_pn 0), .ref (a_rd 0), .ref (a_sp 0)])), (a_rd 0, .inr (2, [.ref (a_tp 0), .ref (a_rd 2), .ref (a_rd 3), .ref (a_rd 4), .ref (a_rd 5), .ref (a_sh 0), .int u4.2.1.2.2.2.2.1, .int u4.2.1.2.2.2.2.2])), (a_rd 2, .inl (kA 0, 12, .inl u4.2.1.1)), (a_rd 3, .inl (kA 0, 12, .inl u4.2.1.2.1)), (a_rd 4, .inl (kA 0, 80, .inl u4.2.1.2.2.1)), (a_rd 5, .inl (kA 0, 80, .inl u4.2.1.2.2.2.1)), (a_sh 0, .inr (3, [.ref (a_sh 1), .ref (a_sh 2), .ref (a_sh 3), .ref (a_sh 4), .ref (a_sh 5), .ref (a_sh 6), .ref (a_sh 7), .ref (a_ck 0), .int sh.2.2.2.2.2.2.2.1, .int sh.2.2.2.2.2.2.2.2])), (a_sh 1, .inl (kA 0, 40, .inl sh.1)), (a_sh 2, .inl (kA 0, 40, .inl sh.2.1)), (a_sh 3, .inl (kA 0, 80, .inl sh.2.2.1)), (a_sh 4, .inl (kA 0, 120, .inl sh.2.2.2.1)), (a_sh 5, .inl (kA 0, 120, .inl sh.2.2.2.2.1)), (a_sh 6, .inl (kA 2, 120, .inr (.inl sh.2.2.2.2.2.1))), (a_sh 7, .inl (kA 1, 1240, .inl sh.2.2.2.2.2.2.1)), (a_ck 0, .inr (0, [.ref (a_ck 1), .ref (a_ck 2), .ref (a_ck 3), .ref (a_ck 4), .ref (a_ck 5), .ref (a_ck 6), .ref (a_ck 7), .ref (a_ck 8), .ref (a_ck 9), .ref (a_ck 10), .ref (a_ck 11), .int ck.2.2.2.2.2.2.2.2.2.2.2])), (a_ck 1, .inl (kA 0, 12, .inl ck.1)), (a_ck 2, .inl (kA 0, 12, .inl ck.2.1)), (a_ck 3, .inl (kA 3, 12, .inl ck.2.2.1)), (a_ck 4, .inl (kA 0, 12, .inl ck.2.2.2.1)), (a_ck 5, .inl (kA 0, 12, .inl ck.2.2.2.2.1)), (a_ck 6, .inl (kA 2, 12, .inr (.inl ck.2.2.2.2.2.1))), (a_ck 7, .inl (kA 2, 12, .inr (.inl ck.2.2.2.2.2.2.1))), (a_ck 8, .inl (kA 2, 12, .inr (.inl ck.2.2.2.2.2.2.2.1))), (a_ck 9, .inl (kA 2, 12, .inr (.inl ck.2.2.2.2.2.2.2.2.1))), (a_ck 10, .inl (kA 3, 12, .inl ck.2.2.2.2.2.2.2.2.2.1)), (a_ck 11, .inl (kA 3, 12, .inl ck.2.2.2.2.2.2.2.2.2.2.1)), (a_tp 0, .inr (4, [.ref (a_tp 1), .int u12.2])), (a_tp 1, .inl (kA 1, 1200, .inl u12.1)), (a_sk 0, .inr (0, [.ref (a_sk 1), .ref (a_sk 2), .ref (a_sk 3), .ref (a_sk 4), .ref (a_sk 5), .ref (a_sk 6), .ref (a_sk 7), .ref (a_sk 8), .ref (a_sk 9), .ref (a_sk 10), .ref (a_sk 11), .int u4.2.2.2.2.2.2.2.2.2.2.2.2.2.2])), (a_sk 1, .inl (kA 0, 12, .inl u4.2.2.2.1)), (a_sk 2, .inl (kA 0, 12, .inl u4.2.2.2.2.1)), (a_sk 3, .inl (kA 3, 12, .inl u4.2.2.2.2.2.1)), (a_sk 4, .inl (kA 0, 12, .inl u4.2.2.2.2.2.2.1)), (a_sk 5, .inl (kA 0, 12, .inl u4.2.2.2.2.2.2.2.1)), (a_sk 6, .inl (kA 2, 12, .inr (.inl u4.2.2.2.2.2.2.2.2.1))), (a_sk 7, .inl (kA 2, 12, .inr (.inl u4.2.2.2.2.2.2.2.2.2.1))), (a_sk 8, .inl (kA 2, 12, .inr (.inl u4.2.2.2.2.2.2.2.2.2.2.1))), (a_sk 9, .inl (kA 2, 12, .inr (.inl u4.2.2.2.2.2.2.2.2.2.2.2.1))), (a_sk 10, .inl (kA 3, 12, .inl u4.2.2.2.2.2.2.2.2.2.2.2.2.1)), (a_sk 11, .inl (kA 3, 12, .inl u4.2.2.2.2.2.2.2.2.2.2.2.2.2.1))]) (n := 2) (As := [.ref (a_pn 0), .int s41.1]) (rest := []) hx hb hml hown hts hN hS hK hP hD hA (c3_matchPin l D kA a_sp a_pn a_sk F s41.1 s41.2 pn u56 hc_56) [28, 29, 30, 31, 32, 33, 34, 35, 48, 49, 50] [0, 1, 2, 3, 4, 5, 6, 7, 8, 9, 10, 11, 12, 13, 14, 15, 16, 17, 18, 19, 20, 21, 22, 23, 24, 25, 26, 27, 36, 37, 38, 39, 40, 41, 42, 43, 44, 45, 46, 47] rfl (by decide) rfl (by decide) (by decide) 28 3 rfl rfl rfl tw_574 tw_575 tw_576 tw_77 tw_577 rfl rfl (by decide) ⟨Nat.le_of_ble_eq_true rfl, Nat.le_of_ble_eq_true rfl⟩ rfl hl.1 rfl (Nat.le_of_ble_eq_true rfl) dX5_read_56 ⟨Nat.le_of_ble_eq_true rfl, Nat.le_of_ble_eq_true rfl⟩ (fun H locs hP hD hS => ?_)
          have hP : va_P D vwCl [(a_ct 0, .inr (5, [.ref (a_tp 0), .ref (a_pn 0), .ref (a_rd 0), .ref (a_sp 0)])), (a_rd 0, .inr (2, [.ref (a_tp 0), .ref (a_rd 2), .ref (a_rd 3), .ref (a_rd 4), .ref (a_rd 5), .ref (a_sh 0), .int u4.2.1.2.2.2.2.1, .int u4.2.1.2.2.2.2.2])), (a_rd 2, .inl (kA 0, 12, .inl u4.2.1.1)), (a_rd 3, .inl (kA 0, 12, .inl u4.2.1.2.1)), (a_rd 4, .inl (kA 0, 80, .inl u4.2.1.2.2.1)), (a_rd 5, .inl (kA 0, 80, .inl u4.2.1.2.2.2.1)), (a_sh 0, .inr (3, [.ref (a_sh 1), .ref (a_sh 2), .ref (a_sh 3), .ref (a_sh 4), .ref (a_sh 5), .ref (a_sh 6), .ref (a_sh 7), .ref (a_ck 0), .int sh.2.2.2.2.2.2.2.1, .int sh.2.2.2.2.2.2.2.2])), (a_sh 1, .inl (kA 0, 40, .inl sh.1)), (a_sh 2, .inl (kA 0, 40, .inl sh.2.1)), (a_sh 3, .inl (kA 0, 80, .inl sh.2.2.1)), (a_sh 4, .inl (kA 0, 120, .inl sh.2.2.2.1)), (a_sh 5, .inl (kA 0, 120, .inl sh.2.2.2.2.1)), (a_sh 6, .inl (kA 2, 120, .inr (.inl sh.2.2.2.2.2.1))), (a_sh 7, .inl (kA 1, 1240, .inl sh.2.2.2.2.2.2.1)), (a_ck 0, .inr (0, [.ref (a_ck 1), .ref (a_ck 2), .ref (a_ck 3), .ref (a_ck 4), .ref (a_ck 5), .ref (a_ck 6), .ref (a_ck 7), .ref (a_ck 8), .ref (a_ck 9), .ref (a_ck 10), .ref (a_ck 11), .int ck.2.2.2.2.2.2.2.2.2.2.2])), (a_ck 1, .inl (kA 0, 12, .inl ck.1)), (a_ck 2, .inl (kA 0, 12, .inl ck.2.1)), (a_ck 3, .inl (kA 3, 12, .inl ck.2.2.1)), (a_ck 4, .inl (kA 0, 12, .inl ck.2.2.2.1)), (a_ck 5, .inl (kA 0, 12, .inl ck.2.2.2.2.1)), (a_ck 6, .inl (kA 2, 12, .inr (.inl ck.2.2.2.2.2.1))), (a_ck 7, .inl (kA 2, 12, .inr (.inl ck.2.2.2.2.2.2.1))), (a_ck 8, .inl (kA 2, 12, .inr (.inl ck.2.2.2.2.2.2.2.1))), (a_ck 9, .inl (kA 2, 12, .inr (.inl ck.2.2.2.2.2.2.2.2.1))), (a_ck 10, .inl (kA 3, 12, .inl ck.2.2.2.2.2.2.2.2.2.1)), (a_ck 11, .inl (kA 3, 12, .inl ck.2.2.2.2.2.2.2.2.2.2.1)), (a_tp 0, .inr (4, [.ref (a_tp 1), .int u12.2])), (a_tp 1, .inl (kA 1, 1200, .inl u12.1)), (a_sk 0, .inr (0, [.ref (a_sk 1), .ref (a_sk 2), .ref (a_sk 3), .ref (a_sk 4), .ref (a_sk 5), .ref (a_sk 6), .ref (a_sk 7), .ref (a_sk 8), .ref (a_sk 9), .ref (a_sk 10), .ref (a_sk 11), .int u4.2.2.2.2.2.2.2.2.2.2.2.2.2.2])), (a_sk 1, .inl (kA 0, 12, .inl u4.2.2.2.1)), (a_sk 2, .inl (kA 0, 12, .inl u4.2.2.2.2.1)), (a_sk 3, .inl (kA 3, 12, .inl u4.2.2.2.2.2.1)), (a_sk 4, .inl (kA 0, 12, .inl u4.2.2.2.2.2.2.1)), (a_sk 5, .inl (kA 0, 12, .inl u4.2.2.2.2.2.2.2.1)), (a_sk 6, .inl (kA 2, 12, .inr (.inl u4.2.2.2.2.2.2.2.2.1))), (a_sk 7, .inl (kA 2, 12, .inr (.inl u4.2.2.2.2.2.2.2.2.2.1))), (a_sk 8, .inl (kA 2, 12, .inr (.inl u4.2.2.2.2.2.2.2.2.2.2.1))), (a_sk 9, .inl (kA 2, 12, .inr (.inl u4.2.2.2.2.2.2.2.2.2.2.2.1))), (a_sk 10, .inl (kA 3, 12, .inl u4.2.2.2.2.2.2.2.2.2.2.2.2.1)), (a_sk 11, .inl (kA 3, 12, .inl u4.2.2.2.2.2.2.2.2.2.2.2.2.2.1)), (a_sp 0, .inr (3, [.ref (a_sp 1), .ref (a_sp 2), .ref (a_sp 3), .ref (a_sp 4), .ref (a_sp 5), .ref (a_sp 6), .ref (a_sp 7), .ref (a_sk 0), .int u56.2.2.2.2.2.2.2.1, .int u56.2.2.2.2.2.2.2.2])), (a_sp 1, .inl (kA 0, 40, .inl u56.1)), (a_sp 2, .inl (kA 0, 40, .inl u56.2.1)), (a_sp 3, .inl (kA 0, 80, .inl u56.2.2.1)), (a_sp 4, .inl (kA 0, 120, .inl u56.2.2.2.1)), (a_sp 5, .inl (kA 0, 120, .inl u56.2.2.2.2.1)), (a_sp 6, .inl (kA 2, 120, .inr (.inl u56.2.2.2.2.2.1))), (a_sp 7, .inl (kA 1, 1240, .inl u56.2.2.2.2.2.2.1)), (a_pn 0, .inr (1, [.ref (a_pn 1), .ref (a_pn 2)])), (a_pn 1, .inl (kA 1, 640, .inl pn.1)), (a_pn 2, .inl (kA 0, 40, .inl pn.2))] H := hP
          have hD : va_D A [(a_ct 0, .inr (5, [.ref (a_tp 0), .ref (a_pn 0), .ref (a_rd 0), .ref (a_sp 0)])), (a_rd 0, .inr (2, [.ref (a_tp 0), .ref (a_rd 2), .ref (a_rd 3), .ref (a_rd 4), .ref (a_rd 5), .ref (a_sh 0), .int u4.2.1.2.2.2.2.1, .int u4.2.1.2.2.2.2.2])), (a_rd 2, .inl (kA 0, 12, .inl u4.2.1.1)), (a_rd 3, .inl (kA 0, 12, .inl u4.2.1.2.1)), (a_rd 4, .inl (kA 0, 80, .inl u4.2.1.2.2.1)), (a_rd 5, .inl (kA 0, 80, .inl u4.2.1.2.2.2.1)), (a_sh 0, .inr (3, [.ref (a_sh 1), .ref (a_sh 2), .ref (a_sh 3), .ref (a_sh 4), .ref (a_sh 5), .ref (a_sh 6), .ref (a_sh 7), .ref (a_ck 0), .int sh.2.2.2.2.2.2.2.1, .int sh.2.2.2.2.2.2.2.2])), (a_sh 1, .inl (kA 0, 40, .inl sh.1)), (a_sh 2, .inl (kA 0, 40, .inl sh.2.1)), (a_sh 3, .inl (kA 0, 80, .inl sh.2.2.1)), (a_sh 4, .inl (kA 0, 120, .inl sh.2.2.2.1)), (a_sh 5, .inl (kA 0, 120, .inl sh.2.2.2.2.1)), (a_sh 6, .inl (kA 2, 120, .inr (.inl sh.2.2.2.2.2.1))), (a_sh 7, .inl (kA 1, 1240, .inl sh.2.2.2.2.2.2.1)), (a_ck 0, .inr (0, [.ref (a_ck 1), .ref (a_ck 2), .ref (a_ck 3), .ref (a_ck 4), .ref (a_ck 5), .ref (a_ck 6), .ref (a_ck 7), .ref (a_ck 8), .ref (a_ck 9), .ref (a_ck 10), .ref (a_ck 11), .int ck.2.2.2.2.2.2.2.2.2.2.2])), (a_ck 1, .inl (kA 0, 12, .inl ck.1)), (a_ck 2, .inl (kA 0, 12, .inl ck.2.1)), (a_ck 3, .inl (kA 3, 12, .inl ck.2.2.1)), (a_ck 4, .inl (kA 0, 12, .inl ck.2.2.2.1)), (a_ck 5, .inl (kA 0, 12, .inl ck.2.2.2.2.1)), (a_ck 6, .inl (kA 2, 12, .inr (.inl ck.2.2.2.2.2.1))), (a_ck 7, .inl (kA 2, 12, .inr (.inl ck.2.2.2.2.2.2.1))), (a_ck 8, .inl (kA 2, 12, .inr (.inl ck.2.2.2.2.2.2.2.1))), (a_ck 9, .inl (kA 2, 12, .inr (.inl ck.2.2.2.2.2.2.2.2.1))), (a_ck 10, .inl (kA 3, 12, .inl ck.2.2.2.2.2.2.2.2.2.1)), (a_ck 11, .inl (kA 3, 12, .inl ck.2.2.2.2.2.2.2.2.2.2.1)), (a_tp 0, .inr (4, [.ref (a_tp 1), .int u12.2])), (a_tp 1, .inl (kA 1, 1200, .inl u12.1)), (a_sk 0, .inr (0, [.ref (a_sk 1), .ref (a_sk 2), .ref (a_sk 3), .ref (a_sk 4), .ref (a_sk 5), .ref (a_sk 6), .ref (a_sk 7), .ref (a_sk 8), .ref (a_sk 9), .ref (a_sk 10), .ref (a_sk 11), .int u4.2.2.2.2.2.2.2.2.2.2.2.2.2.2])), (a_sk 1, .inl (kA 0, 12, .inl u4.2.2.2.1)), (a_sk 2, .inl (kA 0, 12, .inl u4.2.2.2.2.1)), (a_sk 3, .inl (kA 3, 12, .inl u4.2.2.2.2.2.1)), (a_sk 4, .inl (kA 0, 12, .inl u4.2.2.2.2.2.2.1)), (a_sk 5, .inl (kA 0, 12, .inl u4.2.2.2.2.2.2.2.1)), (a_sk 6, .inl (kA 2, 12, .inr (.inl u4.2.2.2.2.2.2.2.2.1))), (a_sk 7, .inl (kA 2, 12, .inr (.inl u4.2.2.2.2.2.2.2.2.2.1))), (a_sk 8, .inl (kA 2, 12, .inr (.inl u4.2.2.2.2.2.2.2.2.2.2.1))), (a_sk 9, .inl (kA 2, 12, .inr (.inl u4.2.2.2.2.2.2.2.2.2.2.2.1))), (a_sk 10, .inl (kA 3, 12, .inl u4.2.2.2.2.2.2.2.2.2.2.2.2.1)), (a_sk 11, .inl (kA 3, 12, .inl u4.2.2.2.2.2.2.2.2.2.2.2.2.2.1)), (a_sp 0, .inr (3, [.ref (a_sp 1), .ref (a_sp 2), .ref (a_sp 3), .ref (a_sp 4), .ref (a_sp 5), .ref (a_sp 6), .ref (a_sp 7), .ref (a_sk 0), .int u56.2.2.2.2.2.2.2.1, .int u56.2.2.2.2.2.2.2.2])), (a_sp 1, .inl (kA 0, 40, .inl u56.1)), (a_sp 2, .inl (kA 0, 40, .inl u56.2.1)), (a_sp 3, .inl (kA 0, 80, .inl u56.2.2.1)), (a_sp 4, .inl (kA 0, 120, .inl u56.2.2.2.1)), (a_sp 5, .inl (kA 0, 120, .inl u56.2.2.2.2.1)), (a_sp 6, .inl (kA 2, 120, .inr (.inl u56.2.2.2.2.2.1))), (a_sp 7, .inl (kA 1, 1240, .inl u56.2.2.2.2.2.2.1)), (a_pn 0, .inr (1, [.ref (a_pn 1), .ref (a_pn 2)])), (a_pn 1, .inl (kA 1, 640, .inl pn.1)), (a_pn 2, .inl (kA 0, 40, .inl pn.2))] := hD
          refine lv_iinc (v := (s41.1 + (1 : Int32))) (lv' := [(2, .int (s41.1 + (1 : Int32))), (0, .ref (a_ct 0))]) hx hb dX5_read_59 hl (k := 1) rfl rfl (by decide) rfl (fun ls hl => ?_)
          refine lv_goto (tgt := 41) hx hb dX5_read_62 (by decide) ?_
          obtain rfl := Option.some.inj h
          exact ih41 _ _ _ ls (hL41 _ rfl) (hP.sub [0, 1, 2, 3, 4, 5, 6, 7, 8, 9, 10, 11, 12, 13, 14, 15, 16, 17, 18, 19, 20, 21, 22, 23, 24, 25, 26, 27, 40, 41, 42, 43, 44, 45, 46, 47, 28, 29, 30, 31, 32, 33, 34, 35, 36, 37, 38, 39, 48, 49, 50] rfl) (hD.sub [0, 1, 2, 3, 4, 5, 6, 7, 8, 9, 10, 11, 12, 13, 14, 15, 16, 17, 18, 19, 20, 21, 22, 23, 24, 25, 26, 27, 40, 41, 42, 43, 44, 45, 46, 47, 28, 29, 30, 31, 32, 33, 34, 35, 36, 37, 38, 39, 48, 49, 50] (by decide) rfl) hS (lv_sub hl [1, 0] rfl)
    exact lp41 F ((0 : Int32), u4.2.2.1) _ _ ls hi41 (hP.sub [0, 50, 24, 25, 26, 27, 1, 2, 3, 4, 5, 6, 7, 8, 9, 10, 11, 12, 13, 14, 15, 16, 17, 18, 19, 20, 48, 49, 28, 29, 30, 31, 32, 33, 34, 35, 36, 37, 38, 39, 40, 41, 42, 43, 44, 45, 46, 47, 21, 22, 23] rfl) (hD.sub [0, 50, 24, 25, 26, 27, 1, 2, 3, 4, 5, 6, 7, 8, 9, 10, 11, 12, 13, 14, 15, 16, 17, 18, 19, 20, 48, 49, 28, 29, 30, 31, 32, 33, 34, 35, 36, 37, 38, 39, 40, 41, 42, 43, 44, 45, 46, 47, 21, 22, 23] (by decide) rfl) hS (lv_sub hl [2, 0] rfl)
  · have h := ite_f bc h
    refine lv_iconst (v := -1) hx hb dX5_read_20 (by decide) ?_
    refine lv_iload_n hx hb dX5_read_21 rfl (lv_at hl 0 rfl) ?_
    refine lv_isub hx hb dX5_read_22 ?_
    obtain rfl := Option.some.inj h
    rw [← hQ]
    exact rw_ireturn hx hb hr hk  dX5_read_23  (hP.sub [0, 24, 25, 26, 27, 28, 29, 30, 31, 32, 33, 34, 35, 36, 37, 38, 39, 40, 41, 42, 43, 44, 45, 46, 47, 48, 49, 50, 1, 2, 3, 4, 5, 6, 7, 8, 9, 10, 11, 12, 13, 14, 15, 16, 17, 18, 19, 20, 21, 22, 23] rfl) (hD.sub [0, 24, 25, 26, 27, 28, 29, 30, 31, 32, 33, 34, 35, 36, 37, 38, 39, 40, 41, 42, 43, 44, 45, 46, 47, 48, 49, 50, 1, 2, 3, 4, 5, 6, 7, 8, 9, 10, 11, 12, 13, 14, 15, 16, 17, 18, 19, 20, 21, 22, 23] (by decide) rfl) hS
