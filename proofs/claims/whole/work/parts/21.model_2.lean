abbrev rm6_wordName : Room := { frames := 0, cells := 0, slots := 0, locals := 0 }
set_option maxHeartbeats 4000000 in
set_option maxRecDepth 100000 in
theorem c6_wordName (l : Launch) (D : va_G) (kA : Nat → ClassId) (a_md : Nat → Nat) (F : Nat) (md : T6) (res : Int64) (h : f6_wordName F md = some res) : Ro l yX6_wordName cX6_wordName 5 (some .long) rm6_wordName D kA [.ref (a_md 0)] [(a_md 0, .inr (6, [.int md.1.1, .ref (a_md 2), .ref (a_md 3), .ref (a_md 4), .int md.1.2.2.2.2, .int md.2.1.1, .ref (a_md 7), .ref (a_md 8), .ref (a_md 9), .ref (a_md 10), .ref (a_md 11), .ref (a_md 12), .ref (a_md 13), .ref (a_md 14), .int md.2.2.1.1, .ref (a_md 16), .ref (a_md 17), .ref (a_md 18), .ref (a_md 19), .ref (a_md 20), .ref (a_md 21), .ref (a_md 22), .int md.2.2.2.1.1, .int md.2.2.2.1.2.1, .int md.2.2.2.1.2.2.1, .int md.2.2.2.1.2.2.2.1, .int md.2.2.2.1.2.2.2.2.1, .ref (a_md 28), .ref (a_md 29), .ref (a_md 30), .int md.2.2.2.2.2.1, .int md.2.2.2.2.2.2.1, .int md.2.2.2.2.2.2.2])), (a_md 2, .inl (kA 0, 640, .inl md.1.2.1)), (a_md 3, .inl (kA 0, 40, .inl md.1.2.2.1)), (a_md 4, .inl (kA 0, 1200, .inl md.1.2.2.2.1)), (a_md 7, .inl (kA 0, 80, .inl md.2.1.2.1)), (a_md 8, .inl (kA 2, 80, .inr (.inl md.2.1.2.2.1))), (a_md 9, .inl (kA 2, 80, .inr (.inl md.2.1.2.2.2.1))), (a_md 10, .inl (kA 0, 80, .inl md.2.1.2.2.2.2.1)), (a_md 11, .inl (kA 0, 80, .inl md.2.1.2.2.2.2.2.1)), (a_md 12, .inl (kA 0, 80, .inl md.2.1.2.2.2.2.2.2.1)), (a_md 13, .inl (kA 0, 3840, .inl md.2.1.2.2.2.2.2.2.2.1)), (a_md 14, .inl (kA 0, 240, .inl md.2.1.2.2.2.2.2.2.2.2)), (a_md 16, .inl (kA 0, 24, .inl md.2.2.1.2.1)), (a_md 17, .inl (kA 0, 24, .inl md.2.2.1.2.2.1)), (a_md 18, .inl (kA 2, 24, .inr (.inl md.2.2.1.2.2.2.1))), (a_md 19, .inl (kA 2, 24, .inr (.inl md.2.2.1.2.2.2.2.1))), (a_md 20, .inl (kA 2, 24, .inr (.inl md.2.2.1.2.2.2.2.2.1))), (a_md 21, .inl (kA 2, 24, .inr (.inl md.2.2.1.2.2.2.2.2.2.1))), (a_md 22, .inl (kA 3, 24, .inl md.2.2.1.2.2.2.2.2.2.2)), (a_md 28, .inl (kA 0, 40, .inl md.2.2.2.1.2.2.2.2.2.1)), (a_md 29, .inl (kA 0, 40, .inl md.2.2.2.1.2.2.2.2.2.2)), (a_md 30, .inl (kA 3, 17, .inl md.2.2.2.2.1))] (.long res) := by
  refine Ro.of (by decide +kernel) (Nat.le_of_ble_eq_true rfl) ?_
  intro p e s m args below meth c hF hP hK ls hl
  generalize hQ : roQ below _ args s = Q
  obtain ⟨hx, hb, hml, hown, hr, hk, hts, hN⟩ := hF
  have hl : lv_has ls 5 [(0, .ref (a_md 0))] := hl
  unfold f6_wordName at h
  refine lv_lconst (v := 0) hx hb dX6_wordName_0 (by decide) ?_
  refine lv_lstore_n (lv' := [(1, .long (0 : Int64)), (0, .ref (a_md 0))]) hx hb dX6_wordName_1 rfl hl (by decide) rfl (fun ls hl => ?_)
  refine lv_aload_n hx hb dX6_wordName_2 rfl (lv_at hl 1 rfl) ?_
  refine va_get (D := D) (ci := 6) (v := .int md.2.2.2.1.2.1) (C := "ConstraintTextModel") (T := TX6) (N := 33) hx hb hts ing6 hown hK hP 0 rfl rfl 23 (by decide) (hts _ tw_873) (fun _ h9 => h9) rfl dX6_wordName_3 ?_
  refine lv_aload_n hx hb dX6_wordName_6 rfl (lv_at hl 1 rfl) ?_
  refine va_get (D := D) (ci := 6) (v := .int md.2.2.2.1.1) (C := "ConstraintTextModel") (T := TX6) (N := 33) hx hb hts ing6 hown hK hP 0 rfl rfl 22 (by decide) (hts _ tw_872) (fun _ h9 => h9) rfl dX6_wordName_7 ?_
  obtain ⟨k32, hk32, h⟩ := jn_name h
  have j32 : ∀ (v32 : Int32) (ls : Array Slot), k32 v32 = some res → lv_has ls 5 [(0, .ref (a_md 0)), (1, .long (0 : Int64))] → W p l e rm6_wordName s m args below meth c s.heap [] 0 0 Q (F0 m 32 ls [.int v32]) := by
    intro v32 ls h hl
    have h := app_of hk32 h
    refine lv_istore_n (lv' := [(3, .int v32), (0, .ref (a_md 0)), (1, .long (0 : Int64))]) hx hb dX6_wordName_32 rfl hl (by decide) rfl (fun ls hl => ?_)
    refine lv_aload_n hx hb dX6_wordName_33 rfl (lv_at hl 1 rfl) ?_
    refine va_get (D := D) (ci := 6) (v := .int md.2.2.2.1.1) (C := "ConstraintTextModel") (T := TX6) (N := 33) hx hb hts ing6 hown hK hP 0 rfl rfl 22 (by decide) (hts _ tw_872) (fun _ h9 => h9) rfl dX6_wordName_34 ?_
    refine lv_istore (lv' := [(4, .int md.2.2.2.1.1), (3, .int v32), (0, .ref (a_md 0)), (1, .long (0 : Int64))]) hx hb dX6_wordName_37 hl (by decide) rfl (fun ls hl => ?_)
    obtain ⟨k39, e39, hk39, hi39, hc39⟩ := bnd_name h
    have x107w : ∀ (x107 : Int64 × Int32) (ls : Array Slot), k39 x107 = some res → lv_has ls 5 [(1, .long x107.1), (3, .int x107.2)] → W p l e rm6_wordName s m args below meth c s.heap [] 0 0 Q (F0 m 107 ls []) := by
      intro x107 ls h hl
      have h := app_of hk39 h
      refine lv_iload_n hx hb dX6_wordName_107 rfl (lv_at hl 1 rfl) ?_
      refine lv_if_eq (tgt := 115) hx hb dX6_wordName_108 (by decide) (fun bc => ?_) (fun bc => ?_)
      · have h := ite_t bc h
        refine lv_lconst (v := 0) hx hb dX6_wordName_115 (by decide) ?_
        obtain rfl := Option.some.inj h
        rw [← hQ]
        exact ro_lreturn hx hb hr hk  dX6_wordName_116
      · have h := ite_f bc h
        refine lv_lload_n hx hb dX6_wordName_111 rfl (lv_at hl 0 rfl) ?_
        refine lv_goto (tgt := 116) hx hb dX6_wordName_112 (by decide) ?_
        obtain rfl := Option.some.inj h
        rw [← hQ]
        exact ro_lreturn hx hb hr hk  dX6_wordName_116
    have lp39 : ∀ (n39 : Nat) (s39 : Int64 × Int32 × Int32) (ls : Array Slot), iter (f6_wordName_L39 md) n39 s39 = some e39 → lv_has ls 5 [(0, .ref (a_md 0)), (1, .long s39.1), (3, .int s39.2.1), (4, .int s39.2.2)] → W p l e rm6_wordName s m args below meth c s.heap [] 0 0 Q (F0 m 39 ls []) := by
      intro n39
      induction n39 with
      | zero =>
        intro s39 ls h hl
        exact (iter_zero h).elim
      | succ n39 ih39 =>
        intro s39 ls h hl
        obtain ⟨z39, h, hL39, hR39⟩ := iter_split h
        unfold f6_wordName_L39 at h
        refine lv_iload hx hb dX6_wordName_39 (lv_at hl 3 rfl) ?_
        refine lv_aload_n hx hb dX6_wordName_41 rfl (lv_at hl 0 rfl) ?_
        refine va_get (D := D) (ci := 6) (v := .int md.2.2.2.1.2.1) (C := "ConstraintTextModel") (T := TX6) (N := 33) hx hb hts ing6 hown hK hP 0 rfl rfl 23 (by decide) (hts _ tw_873) (fun _ h9 => h9) rfl dX6_wordName_42 ?_
        refine lv_icmp_ge (tgt := 107) hx hb dX6_wordName_45 (by decide) (fun bc => ?_) (fun bc => ?_)
        · have h := ite_t bc h
          obtain rfl := Option.some.inj h
          exact x107w _ ls (eq_some_app (hR39 _ rfl) hc39) (lv_sub hl [1, 2] rfl)
        · have h := ite_f bc h
          refine lv_iload_n hx hb dX6_wordName_48 rfl (lv_at hl 2 rfl) ?_
          refine lv_if_eq (tgt := 107) hx hb dX6_wordName_49 (by decide) (fun bc => ?_) (fun bc => ?_)
          · have h := ite_t bc h
            obtain rfl := Option.some.inj h
            exact x107w _ ls (eq_some_app (hR39 _ rfl) hc39) (lv_sub hl [1, 2] rfl)
          · have h := ite_f bc h
            refine lv_aload_n hx hb dX6_wordName_52 rfl (lv_at hl 0 rfl) ?_
            refine va_get (D := D) (ci := 6) (v := .ref (a_md 4)) (C := "ConstraintTextModel") (T := TX6) (N := 33) hx hb hts ing6 hown hK hP 0 rfl rfl 3 (by decide) (hts _ tw_853) (fun _ h9 => h9) rfl dX6_wordName_53 ?_
            refine lv_iload hx hb dX6_wordName_56 (lv_at hl 3 rfl) ?_
            obtain ⟨g58, h⟩ := grd_some h
            refine va_iald hx hb hK hP 3 0 rfl rfl (inb_in g58) dX6_wordName_58 ?_
            refine lv_bipush (v := 97) hx hb dX6_wordName_59 (by decide) ?_
            obtain ⟨k81, hk81, h⟩ := jn_name h
            have j81 : ∀ (v81 : Int32) (ls : Array Slot), k81 v81 = some z39 → lv_has ls 5 [(0, .ref (a_md 0)), (1, .long s39.1), (4, .int s39.2.2)] → W p l e rm6_wordName s m args below meth c s.heap [] 0 0 Q (F0 m 81 ls [.int v81]) := by
              intro v81 ls h hl
              have h := app_of hk81 h
              refine lv_istore_n (lv' := [(3, .int v81), (0, .ref (a_md 0)), (1, .long s39.1), (4, .int s39.2.2)]) hx hb dX6_wordName_81 rfl hl (by decide) rfl (fun ls hl => ?_)
              refine lv_ldc2 (own := "ConstraintTextModel") (v := 27) hx hb hown (hts _ tw_988) dX6_wordName_82 ?_
              refine lv_lload_n hx hb dX6_wordName_85 rfl (lv_at hl 2 rfl) ?_
              refine lv_lmul hx hb dX6_wordName_86 ?_
              refine lv_aload_n hx hb dX6_wordName_87 rfl (lv_at hl 1 rfl) ?_
              refine va_get (D := D) (ci := 6) (v := .ref (a_md 4)) (C := "ConstraintTextModel") (T := TX6) (N := 33) hx hb hts ing6 hown hK hP 0 rfl rfl 3 (by decide) (hts _ tw_853) (fun _ h9 => h9) rfl dX6_wordName_88 ?_
              refine lv_iload hx hb dX6_wordName_91 (lv_at hl 3 rfl) ?_
              obtain ⟨g93, h⟩ := grd_some h
              refine va_iald hx hb hK hP 3 0 rfl rfl (inb_in g93) dX6_wordName_93 ?_
              refine lv_i2l (v := (md.1.2.2.2.1 s39.2.2.toNatClampNeg).toInt64) hx hb dX6_wordName_94 rfl ?_
              refine lv_ladd hx hb dX6_wordName_95 ?_
              refine lv_ldc2 (own := "ConstraintTextModel") (v := 96) hx hb hown (hts _ tw_989) dX6_wordName_96 ?_
              refine lv_lsub hx hb dX6_wordName_99 ?_
              refine lv_lstore_n (lv' := [(1, .long ((((27 : Int64) * s39.1) + (md.1.2.2.2.1 s39.2.2.toNatClampNeg).toInt64) - (96 : Int64))), (3, .int v81), (0, .ref (a_md 0)), (4, .int s39.2.2)]) hx hb dX6_wordName_100 rfl hl (by decide) rfl (fun ls hl => ?_)
              refine lv_iinc (v := (s39.2.2 + (1 : Int32))) (lv' := [(4, .int (s39.2.2 + (1 : Int32))), (1, .long ((((27 : Int64) * s39.1) + (md.1.2.2.2.1 s39.2.2.toNatClampNeg).toInt64) - (96 : Int64))), (3, .int v81), (0, .ref (a_md 0))]) hx hb dX6_wordName_101 hl (k := 3) rfl rfl (by decide) rfl (fun ls hl => ?_)
              refine lv_goto (tgt := 39) hx hb dX6_wordName_104 (by decide) ?_
              obtain rfl := Option.some.inj h
              exact ih39 _ ls (hL39 _ rfl) (lv_sub hl [3, 1, 2, 0] rfl)
            refine lv_icmp_lt (tgt := 80) hx hb dX6_wordName_61 (by decide) (fun bc => ?_) (fun bc => ?_)
            · have h := ite_t bc h
              refine lv_iconst (v := 0) hx hb dX6_wordName_80 (by decide) ?_
              exact j81 _ ls h (lv_sub hl [0, 1, 3] rfl)
            · have h := ite_f bc h
              refine lv_aload_n hx hb dX6_wordName_64 rfl (lv_at hl 0 rfl) ?_
              refine va_get (D := D) (ci := 6) (v := .ref (a_md 4)) (C := "ConstraintTextModel") (T := TX6) (N := 33) hx hb hts ing6 hown hK hP 0 rfl rfl 3 (by decide) (hts _ tw_853) (fun _ h9 => h9) rfl dX6_wordName_65 ?_
              refine lv_iload hx hb dX6_wordName_68 (lv_at hl 3 rfl) ?_
              obtain ⟨g70, h⟩ := grd_some h
              refine va_iald hx hb hK hP 3 0 rfl rfl (inb_in g70) dX6_wordName_70 ?_
              refine lv_bipush (v := 122) hx hb dX6_wordName_71 (by decide) ?_
              refine lv_icmp_gt (tgt := 80) hx hb dX6_wordName_73 (by decide) (fun bc => ?_) (fun bc => ?_)
              · have h := ite_t bc h
                refine lv_iconst (v := 0) hx hb dX6_wordName_80 (by decide) ?_
                exact j81 _ ls h (lv_sub hl [0, 1, 3] rfl)
              · have h := ite_f bc h
                refine lv_iconst (v := 1) hx hb dX6_wordName_76 (by decide) ?_
                refine lv_goto (tgt := 81) hx hb dX6_wordName_77 (by decide) ?_
                exact j81 _ ls h (lv_sub hl [0, 1, 3] rfl)
    exact lp39 F ((0 : Int64), v32, md.2.2.2.1.1) ls hi39 (lv_sub hl [2, 3, 1, 0] rfl)
  refine lv_icmp_le (tgt := 31) hx hb dX6_wordName_10 (by decide) (fun bc => ?_) (fun bc => ?_)
  · have h := ite_t bc h
    refine lv_iconst (v := 0) hx hb dX6_wordName_31 (by decide) ?_
    exact j32 _ ls h (lv_sub hl [1, 0] rfl)
  · have h := ite_f bc h
    refine lv_aload_n hx hb dX6_wordName_13 rfl (lv_at hl 1 rfl) ?_
    refine va_get (D := D) (ci := 6) (v := .int md.2.2.2.1.2.1) (C := "ConstraintTextModel") (T := TX6) (N := 33) hx hb hts ing6 hown hK hP 0 rfl rfl 23 (by decide) (hts _ tw_873) (fun _ h9 => h9) rfl dX6_wordName_14 ?_
    refine lv_aload_n hx hb dX6_wordName_17 rfl (lv_at hl 1 rfl) ?_
    refine va_get (D := D) (ci := 6) (v := .int md.2.2.2.1.1) (C := "ConstraintTextModel") (T := TX6) (N := 33) hx hb hts ing6 hown hK hP 0 rfl rfl 22 (by decide) (hts _ tw_872) (fun _ h9 => h9) rfl dX6_wordName_18 ?_
    refine lv_isub hx hb dX6_wordName_21 ?_
    refine lv_bipush (v := 8) hx hb dX6_wordName_22 (by decide) ?_
    refine lv_icmp_gt (tgt := 31) hx hb dX6_wordName_24 (by decide) (fun bc => ?_) (fun bc => ?_)
    · have h := ite_t bc h
      refine lv_iconst (v := 0) hx hb dX6_wordName_31 (by decide) ?_
      exact j32 _ ls h (lv_sub hl [1, 0] rfl)
    · have h := ite_f bc h
      refine lv_iconst (v := 1) hx hb dX6_wordName_27 (by decide) ?_
      refine lv_goto (tgt := 32) hx hb dX6_wordName_28 (by decide) ?_
      exact j32 _ ls h (lv_sub hl [1, 0] rfl)
abbrev rm6_whole : Room := { frames := 0, cells := 0, slots := 0, locals := 0 }
set_option maxHeartbeats 4000000 in
set_option maxRecDepth 100000 in
theorem c6_whole (l : Launch) (D : va_G) (kA : Nat → ClassId) (a_md : Nat → Nat) (F : Nat) (md : T6) (res : Int32) (h : f6_whole F md = some res) : Ro l yX6_whole cX6_whole 4 (some .int) rm6_whole D kA [.ref (a_md 0)] [(a_md 0, .inr (6, [.int md.1.1, .ref (a_md 2), .ref (a_md 3), .ref (a_md 4), .int md.1.2.2.2.2, .int md.2.1.1, .ref (a_md 7), .ref (a_md 8), .ref (a_md 9), .ref (a_md 10), .ref (a_md 11), .ref (a_md 12), .ref (a_md 13), .ref (a_md 14), .int md.2.2.1.1, .ref (a_md 16), .ref (a_md 17), .ref (a_md 18), .ref (a_md 19), .ref (a_md 20), .ref (a_md 21), .ref (a_md 22), .int md.2.2.2.1.1, .int md.2.2.2.1.2.1, .int md.2.2.2.1.2.2.1, .int md.2.2.2.1.2.2.2.1, .int md.2.2.2.1.2.2.2.2.1, .ref (a_md 28), .ref (a_md 29), .ref (a_md 30), .int md.2.2.2.2.2.1, .int md.2.2.2.2.2.2.1, .int md.2.2.2.2.2.2.2])), (a_md 2, .inl (kA 0, 640, .inl md.1.2.1)), (a_md 3, .inl (kA 0, 40, .inl md.1.2.2.1)), (a_md 4, .inl (kA 0, 1200, .inl md.1.2.2.2.1)), (a_md 7, .inl (kA 0, 80, .inl md.2.1.2.1)), (a_md 8, .inl (kA 2, 80, .inr (.inl md.2.1.2.2.1))), (a_md 9, .inl (kA 2, 80, .inr (.inl md.2.1.2.2.2.1))), (a_md 10, .inl (kA 0, 80, .inl md.2.1.2.2.2.2.1)), (a_md 11, .inl (kA 0, 80, .inl md.2.1.2.2.2.2.2.1)), (a_md 12, .inl (kA 0, 80, .inl md.2.1.2.2.2.2.2.2.1)), (a_md 13, .inl (kA 0, 3840, .inl md.2.1.2.2.2.2.2.2.2.1)), (a_md 14, .inl (kA 0, 240, .inl md.2.1.2.2.2.2.2.2.2.2)), (a_md 16, .inl (kA 0, 24, .inl md.2.2.1.2.1)), (a_md 17, .inl (kA 0, 24, .inl md.2.2.1.2.2.1)), (a_md 18, .inl (kA 2, 24, .inr (.inl md.2.2.1.2.2.2.1))), (a_md 19, .inl (kA 2, 24, .inr (.inl md.2.2.1.2.2.2.2.1))), (a_md 20, .inl (kA 2, 24, .inr (.inl md.2.2.1.2.2.2.2.2.1))), (a_md 21, .inl (kA 2, 24, .inr (.inl md.2.2.1.2.2.2.2.2.2.1))), (a_md 22, .inl (kA 3, 24, .inl md.2.2.1.2.2.2.2.2.2.2)), (a_md 28, .inl (kA 0, 40, .inl md.2.2.2.1.2.2.2.2.2.1)), (a_md 29, .inl (kA 0, 40, .inl md.2.2.2.1.2.2.2.2.2.2)), (a_md 30, .inl (kA 3, 17, .inl md.2.2.2.2.1))] (.int res) := by
  refine Ro.of (by decide +kernel) (Nat.le_of_ble_eq_true rfl) ?_
  intro p e s m args below meth c hF hP hK ls hl
  generalize hQ : roQ below _ args s = Q
  obtain ⟨hx, hb, hml, hown, hr, hk, hts, hN⟩ := hF
  have hl : lv_has ls 4 [(0, .ref (a_md 0))] := hl
  unfold f6_whole at h
  refine lv_iconst (v := 0) hx hb dX6_whole_0 (by decide) ?_
  refine lv_istore_n (lv' := [(1, .int (0 : Int32)), (0, .ref (a_md 0))]) hx hb dX6_whole_1 rfl hl (by decide) rfl (fun ls hl => ?_)
  refine lv_aload_n hx hb dX6_whole_2 rfl (lv_at hl 1 rfl) ?_
  refine va_get (D := D) (ci := 6) (v := .int md.2.2.2.1.2.1) (C := "ConstraintTextModel") (T := TX6) (N := 33) hx hb hts ing6 hown hK hP 0 rfl rfl 23 (by decide) (hts _ tw_873) (fun _ h9 => h9) rfl dX6_whole_3 ?_
  refine lv_aload_n hx hb dX6_whole_6 rfl (lv_at hl 1 rfl) ?_
  refine va_get (D := D) (ci := 6) (v := .int md.2.2.2.1.1) (C := "ConstraintTextModel") (T := TX6) (N := 33) hx hb hts ing6 hown hK hP 0 rfl rfl 22 (by decide) (hts _ tw_872) (fun _ h9 => h9) rfl dX6_whole_7 ?_
  obtain ⟨k32, hk32, h⟩ := jn_name h
  have j32 : ∀ (v32 : Int32) (ls : Array Slot), k32 v32 = some res → lv_has ls 4 [(0, .ref (a_md 0)), (1, .int (0 : Int32))] → W p l e rm6_whole s m args below meth c s.heap [] 0 0 Q (F0 m 32 ls [.int v32]) := by
    intro v32 ls h hl
    have h := app_of hk32 h
    refine lv_istore_n (lv' := [(2, .int v32), (0, .ref (a_md 0)), (1, .int (0 : Int32))]) hx hb dX6_whole_32 rfl hl (by decide) rfl (fun ls hl => ?_)
    refine lv_aload_n hx hb dX6_whole_33 rfl (lv_at hl 1 rfl) ?_
    refine va_get (D := D) (ci := 6) (v := .int md.2.2.2.1.1) (C := "ConstraintTextModel") (T := TX6) (N := 33) hx hb hts ing6 hown hK hP 0 rfl rfl 22 (by decide) (hts _ tw_872) (fun _ h9 => h9) rfl dX6_whole_34 ?_
    refine lv_istore_n (lv' := [(3, .int md.2.2.2.1.1), (2, .int v32), (0, .ref (a_md 0)), (1, .int (0 : Int32))]) hx hb dX6_whole_37 rfl hl (by decide) rfl (fun ls hl => ?_)
    obtain ⟨k38, e38, hk38, hi38, hc38⟩ := bnd_name h
    have x99w : ∀ (x99 : Int32 × Int32) (ls : Array Slot), k38 x99 = some res → lv_has ls 4 [(1, .int x99.1), (2, .int x99.2)] → W p l e rm6_whole s m args below meth c s.heap [] 0 0 Q (F0 m 99 ls []) := by
      intro x99 ls h hl
      have h := app_of hk38 h
      refine lv_iload_n hx hb dX6_whole_99 rfl (lv_at hl 1 rfl) ?_
      refine lv_if_eq (tgt := 107) hx hb dX6_whole_100 (by decide) (fun bc => ?_) (fun bc => ?_)
      · have h := ite_t bc h
        refine lv_iconst (v := -1) hx hb dX6_whole_107 (by decide) ?_
        obtain rfl := Option.some.inj h
        rw [← hQ]
        exact ro_ireturn hx hb hr hk  dX6_whole_108
      · have h := ite_f bc h
        refine lv_iload_n hx hb dX6_whole_103 rfl (lv_at hl 0 rfl) ?_
        refine lv_goto (tgt := 108) hx hb dX6_whole_104 (by decide) ?_
        obtain rfl := Option.some.inj h
        rw [← hQ]
        exact ro_ireturn hx hb hr hk  dX6_whole_108
    have lp38 : ∀ (n38 : Nat) (s38 : Int32 × Int32 × Int32) (ls : Array Slot), iter (f6_whole_L38 md) n38 s38 = some e38 → lv_has ls 4 [(0, .ref (a_md 0)), (1, .int s38.1), (2, .int s38.2.1), (3, .int s38.2.2)] → W p l e rm6_whole s m args below meth c s.heap [] 0 0 Q (F0 m 38 ls []) := by
      intro n38
      induction n38 with
      | zero =>
        intro s38 ls h hl
        exact (iter_zero h).elim
      | succ n38 ih38 =>
        intro s38 ls h hl
        obtain ⟨z38, h, hL38, hR38⟩ := iter_split h
        unfold f6_whole_L38 at h
        refine lv_iload_n hx hb dX6_whole_38 rfl (lv_at hl 3 rfl) ?_
        refine lv_aload_n hx hb dX6_whole_39 rfl (lv_at hl 0 rfl) ?_
        refine va_get (D := D) (ci := 6) (v := .int md.2.2.2.1.2.1) (C := "ConstraintTextModel") (T := TX6) (N := 33) hx hb hts ing6 hown hK hP 0 rfl rfl 23 (by decide) (hts _ tw_873) (fun _ h9 => h9) rfl dX6_whole_40 ?_
        refine lv_icmp_ge (tgt := 99) hx hb dX6_whole_43 (by decide) (fun bc => ?_) (fun bc => ?_)
        · have h := ite_t bc h
          obtain rfl := Option.some.inj h
          exact x99w _ ls (eq_some_app (hR38 _ rfl) hc38) (lv_sub hl [1, 2] rfl)
        · have h := ite_f bc h
          refine lv_iload_n hx hb dX6_whole_46 rfl (lv_at hl 2 rfl) ?_
          refine lv_if_eq (tgt := 99) hx hb dX6_whole_47 (by decide) (fun bc => ?_) (fun bc => ?_)
          · have h := ite_t bc h
            obtain rfl := Option.some.inj h
            exact x99w _ ls (eq_some_app (hR38 _ rfl) hc38) (lv_sub hl [1, 2] rfl)
          · have h := ite_f bc h
            refine lv_aload_n hx hb dX6_whole_50 rfl (lv_at hl 0 rfl) ?_
            refine va_get (D := D) (ci := 6) (v := .ref (a_md 4)) (C := "ConstraintTextModel") (T := TX6) (N := 33) hx hb hts ing6 hown hK hP 0 rfl rfl 3 (by decide) (hts _ tw_853) (fun _ h9 => h9) rfl dX6_whole_51 ?_
            refine lv_iload_n hx hb dX6_whole_54 rfl (lv_at hl 3 rfl) ?_
            obtain ⟨g55, h⟩ := grd_some h
            refine va_iald hx hb hK hP 3 0 rfl rfl (inb_in g55) dX6_whole_55 ?_
            refine lv_bipush (v := 48) hx hb dX6_whole_56 (by decide) ?_
            obtain ⟨k77, hk77, h⟩ := jn_name h
            have j77 : ∀ (v77 : Int32) (ls : Array Slot), k77 v77 = some z38 → lv_has ls 4 [(0, .ref (a_md 0)), (1, .int s38.1), (3, .int s38.2.2)] → W p l e rm6_whole s m args below meth c s.heap [] 0 0 Q (F0 m 77 ls [.int v77]) := by
              intro v77 ls h hl
              have h := app_of hk77 h
              refine lv_istore_n (lv' := [(2, .int v77), (0, .ref (a_md 0)), (1, .int s38.1), (3, .int s38.2.2)]) hx hb dX6_whole_77 rfl hl (by decide) rfl (fun ls hl => ?_)
              refine lv_bipush (v := 10) hx hb dX6_whole_78 (by decide) ?_
              refine lv_iload_n hx hb dX6_whole_80 rfl (lv_at hl 2 rfl) ?_
              refine lv_imul hx hb dX6_whole_81 ?_
              refine lv_aload_n hx hb dX6_whole_82 rfl (lv_at hl 1 rfl) ?_
              refine va_get (D := D) (ci := 6) (v := .ref (a_md 4)) (C := "ConstraintTextModel") (T := TX6) (N := 33) hx hb hts ing6 hown hK hP 0 rfl rfl 3 (by decide) (hts _ tw_853) (fun _ h9 => h9) rfl dX6_whole_83 ?_
              refine lv_iload_n hx hb dX6_whole_86 rfl (lv_at hl 3 rfl) ?_
              obtain ⟨g87, h⟩ := grd_some h
              refine va_iald hx hb hK hP 3 0 rfl rfl (inb_in g87) dX6_whole_87 ?_
              refine lv_iadd hx hb dX6_whole_88 ?_
              refine lv_bipush (v := 48) hx hb dX6_whole_89 (by decide) ?_
              refine lv_isub hx hb dX6_whole_91 ?_
              refine lv_istore_n (lv' := [(1, .int ((((10 : Int32) * s38.1) + (md.1.2.2.2.1 s38.2.2.toNatClampNeg)) - (48 : Int32))), (2, .int v77), (0, .ref (a_md 0)), (3, .int s38.2.2)]) hx hb dX6_whole_92 rfl hl (by decide) rfl (fun ls hl => ?_)
              refine lv_iinc (v := (s38.2.2 + (1 : Int32))) (lv' := [(3, .int (s38.2.2 + (1 : Int32))), (1, .int ((((10 : Int32) * s38.1) + (md.1.2.2.2.1 s38.2.2.toNatClampNeg)) - (48 : Int32))), (2, .int v77), (0, .ref (a_md 0))]) hx hb dX6_whole_93 hl (k := 3) rfl rfl (by decide) rfl (fun ls hl => ?_)
              refine lv_goto (tgt := 38) hx hb dX6_whole_96 (by decide) ?_
              obtain rfl := Option.some.inj h
              exact ih38 _ ls (hL38 _ rfl) (lv_sub hl [3, 1, 2, 0] rfl)
            refine lv_icmp_lt (tgt := 76) hx hb dX6_whole_58 (by decide) (fun bc => ?_) (fun bc => ?_)
            · have h := ite_t bc h
              refine lv_iconst (v := 0) hx hb dX6_whole_76 (by decide) ?_
              exact j77 _ ls h (lv_sub hl [0, 1, 3] rfl)
            · have h := ite_f bc h
              refine lv_aload_n hx hb dX6_whole_61 rfl (lv_at hl 0 rfl) ?_
              refine va_get (D := D) (ci := 6) (v := .ref (a_md 4)) (C := "ConstraintTextModel") (T := TX6) (N := 33) hx hb hts ing6 hown hK hP 0 rfl rfl 3 (by decide) (hts _ tw_853) (fun _ h9 => h9) rfl dX6_whole_62 ?_
              refine lv_iload_n hx hb dX6_whole_65 rfl (lv_at hl 3 rfl) ?_
              obtain ⟨g66, h⟩ := grd_some h
              refine va_iald hx hb hK hP 3 0 rfl rfl (inb_in g66) dX6_whole_66 ?_
              refine lv_bipush (v := 57) hx hb dX6_whole_67 (by decide) ?_
              refine lv_icmp_gt (tgt := 76) hx hb dX6_whole_69 (by decide) (fun bc => ?_) (fun bc => ?_)
              · have h := ite_t bc h
                refine lv_iconst (v := 0) hx hb dX6_whole_76 (by decide) ?_
                exact j77 _ ls h (lv_sub hl [0, 1, 3] rfl)
              · have h := ite_f bc h
                refine lv_iconst (v := 1) hx hb dX6_whole_72 (by decide) ?_
                refine lv_goto (tgt := 77) hx hb dX6_whole_73 (by decide) ?_
                exact j77 _ ls h (lv_sub hl [0, 1, 3] rfl)
    exact lp38 F ((0 : Int32), v32, md.2.2.2.1.1) ls hi38 (lv_sub hl [2, 3, 1, 0] rfl)
  refine lv_icmp_le (tgt := 31) hx hb dX6_whole_10 (by decide) (fun bc => ?_) (fun bc => ?_)
  · have h := ite_t bc h
    refine lv_iconst (v := 0) hx hb dX6_whole_31 (by decide) ?_
    exact j32 _ ls h (lv_sub hl [1, 0] rfl)
  · have h := ite_f bc h
    refine lv_aload_n hx hb dX6_whole_13 rfl (lv_at hl 1 rfl) ?_
    refine va_get (D := D) (ci := 6) (v := .int md.2.2.2.1.2.1) (C := "ConstraintTextModel") (T := TX6) (N := 33) hx hb hts ing6 hown hK hP 0 rfl rfl 23 (by decide) (hts _ tw_873) (fun _ h9 => h9) rfl dX6_whole_14 ?_
    refine lv_aload_n hx hb dX6_whole_17 rfl (lv_at hl 1 rfl) ?_
    refine va_get (D := D) (ci := 6) (v := .int md.2.2.2.1.1) (C := "ConstraintTextModel") (T := TX6) (N := 33) hx hb hts ing6 hown hK hP 0 rfl rfl 22 (by decide) (hts _ tw_872) (fun _ h9 => h9) rfl dX6_whole_18 ?_
    refine lv_isub hx hb dX6_whole_21 ?_
    refine lv_bipush (v := 6) hx hb dX6_whole_22 (by decide) ?_
    refine lv_icmp_gt (tgt := 31) hx hb dX6_whole_24 (by decide) (fun bc => ?_) (fun bc => ?_)
    · have h := ite_t bc h
      refine lv_iconst (v := 0) hx hb dX6_whole_31 (by decide) ?_
      exact j32 _ ls h (lv_sub hl [1, 0] rfl)
    · have h := ite_f bc h
      refine lv_iconst (v := 1) hx hb dX6_whole_27 (by decide) ?_
      refine lv_goto (tgt := 32) hx hb dX6_whole_28 (by decide) ?_
      exact j32 _ ls h (lv_sub hl [1, 0] rfl)
abbrev rm6_isPattern : Room := { frames := 1, cells := 0, slots := 0, locals := 20 }
set_option maxHeartbeats 4000000 in
set_option maxRecDepth 100000 in
theorem c6_isPattern (l : Launch) (D : va_G) (kA : Nat → ClassId) (a_md : Nat → Nat) (F : Nat) (md : T6) (res : Int32) (h : f6_isPattern F md = some res) : Ro l yX6_isPattern cX6_isPattern 3 (some .boolean) rm6_isPattern D kA [.ref (a_md 0)] [(a_md 0, .inr (6, [.int md.1.1, .ref (a_md 2), .ref (a_md 3), .ref (a_md 4), .int md.1.2.2.2.2, .int md.2.1.1, .ref (a_md 7), .ref (a_md 8), .ref (a_md 9), .ref (a_md 10), .ref (a_md 11), .ref (a_md 12), .ref (a_md 13), .ref (a_md 14), .int md.2.2.1.1, .ref (a_md 16), .ref (a_md 17), .ref (a_md 18), .ref (a_md 19), .ref (a_md 20), .ref (a_md 21), .ref (a_md 22), .int md.2.2.2.1.1, .int md.2.2.2.1.2.1, .int md.2.2.2.1.2.2.1, .int md.2.2.2.1.2.2.2.1, .int md.2.2.2.1.2.2.2.2.1, .ref (a_md 28), .ref (a_md 29), .ref (a_md 30), .int md.2.2.2.2.2.1, .int md.2.2.2.2.2.2.1, .int md.2.2.2.2.2.2.2])), (a_md 2, .inl (kA 0, 640, .inl md.1.2.1)), (a_md 3, .inl (kA 0, 40, .inl md.1.2.2.1)), (a_md 4, .inl (kA 0, 1200, .inl md.1.2.2.2.1)), (a_md 7, .inl (kA 0, 80, .inl md.2.1.2.1)), (a_md 8, .inl (kA 2, 80, .inr (.inl md.2.1.2.2.1))), (a_md 9, .inl (kA 2, 80, .inr (.inl md.2.1.2.2.2.1))), (a_md 10, .inl (kA 0, 80, .inl md.2.1.2.2.2.2.1)), (a_md 11, .inl (kA 0, 80, .inl md.2.1.2.2.2.2.2.1)), (a_md 12, .inl (kA 0, 80, .inl md.2.1.2.2.2.2.2.2.1)), (a_md 13, .inl (kA 0, 3840, .inl md.2.1.2.2.2.2.2.2.2.1)), (a_md 14, .inl (kA 0, 240, .inl md.2.1.2.2.2.2.2.2.2.2)), (a_md 16, .inl (kA 0, 24, .inl md.2.2.1.2.1)), (a_md 17, .inl (kA 0, 24, .inl md.2.2.1.2.2.1)), (a_md 18, .inl (kA 2, 24, .inr (.inl md.2.2.1.2.2.2.1))), (a_md 19, .inl (kA 2, 24, .inr (.inl md.2.2.1.2.2.2.2.1))), (a_md 20, .inl (kA 2, 24, .inr (.inl md.2.2.1.2.2.2.2.2.1))), (a_md 21, .inl (kA 2, 24, .inr (.inl md.2.2.1.2.2.2.2.2.2.1))), (a_md 22, .inl (kA 3, 24, .inl md.2.2.1.2.2.2.2.2.2.2)), (a_md 28, .inl (kA 0, 40, .inl md.2.2.2.1.2.2.2.2.2.1)), (a_md 29, .inl (kA 0, 40, .inl md.2.2.2.1.2.2.2.2.2.2)), (a_md 30, .inl (kA 3, 17, .inl md.2.2.2.2.1))] (.int res) := by
  refine Ro.of (by decide +kernel) (Nat.le_of_ble_eq_true rfl) ?_
  intro p e s m args below meth c hF hP hK ls hl
  generalize hQ : roQ below _ args s = Q
  obtain ⟨hx, hb, hml, hown, hr, hk, hts, hN⟩ := hF
  have hl : lv_has ls 3 [(0, .ref (a_md 0))] := hl
  unfold f6_isPattern at h
  refine lv_aload_n hx hb dX6_isPattern_0 rfl (lv_at hl 0 rfl) ?_
  refine va_get (D := D) (ci := 6) (v := .int md.2.2.2.1.2.1) (C := "ConstraintTextModel") (T := TX6) (N := 33) hx hb hts ing6 hown hK hP 0 rfl rfl 23 (by decide) (hts _ tw_873) (fun _ h9 => h9) rfl dX6_isPattern_1 ?_
  refine lv_aload_n hx hb dX6_isPattern_4 rfl (lv_at hl 0 rfl) ?_
  refine va_get (D := D) (ci := 6) (v := .int md.2.2.2.1.1) (C := "ConstraintTextModel") (T := TX6) (N := 33) hx hb hts ing6 hown hK hP 0 rfl rfl 22 (by decide) (hts _ tw_872) (fun _ h9 => h9) rfl dX6_isPattern_5 ?_
  obtain ⟨k30, hk30, h⟩ := jn_name h
  have j30 : ∀ (v30 : Int32) (ls : Array Slot), k30 v30 = some res → lv_has ls 3 [(0, .ref (a_md 0))] → W p l e rm6_isPattern s m args below meth c s.heap [] 0 0 Q (F0 m 30 ls [.int v30]) := by
    intro v30 ls h hl
    have h := app_of hk30 h
    refine lv_istore_n (lv' := [(1, .int v30), (0, .ref (a_md 0))]) hx hb dX6_isPattern_30 rfl hl (by decide) rfl (fun ls hl => ?_)
    refine lv_aload_n hx hb dX6_isPattern_31 rfl (lv_at hl 1 rfl) ?_
    refine va_get (D := D) (ci := 6) (v := .int md.2.2.2.1.1) (C := "ConstraintTextModel") (T := TX6) (N := 33) hx hb hts ing6 hown hK hP 0 rfl rfl 22 (by decide) (hts _ tw_872) (fun _ h9 => h9) rfl dX6_isPattern_32 ?_
    refine lv_istore_n (lv' := [(2, .int md.2.2.2.1.1), (1, .int v30), (0, .ref (a_md 0))]) hx hb dX6_isPattern_35 rfl hl (by decide) rfl (fun ls hl => ?_)
    obtain ⟨k36, e36, hk36, hi36, hc36⟩ := bnd_name h
    have x94w : ∀ (x94 : Int32) (ls : Array Slot), k36 x94 = some res → lv_has ls 3 [(1, .int x94)] → W p l e rm6_isPattern s m args below meth c s.heap [] 0 0 Q (F0 m 94 ls []) := by
      intro x94 ls h hl
      have h := app_of hk36 h
      refine lv_iload_n hx hb dX6_isPattern_94 rfl (lv_at hl 0 rfl) ?_
      obtain ⟨gr, h⟩ := grd_some h
      obtain rfl := Option.some.inj h
      rw [← hQ]
      exact ro_zreturn hx hb hr hk (isB_n gr) dX6_isPattern_95
    have lp36 : ∀ (n36 : Nat) (s36 : Int32 × Int32) (ls : Array Slot), iter (f6_isPattern_L36 md) n36 s36 = some e36 → lv_has ls 3 [(0, .ref (a_md 0)), (1, .int s36.1), (2, .int s36.2)] → W p l e rm6_isPattern s m args below meth c s.heap [] 0 0 Q (F0 m 36 ls []) := by
      intro n36
      induction n36 with
      | zero =>
        intro s36 ls h hl
        exact (iter_zero h).elim
      | succ n36 ih36 =>
        intro s36 ls h hl
        obtain ⟨z36, h, hL36, hR36⟩ := iter_split h
        unfold f6_isPattern_L36 at h
        refine lv_iload_n hx hb dX6_isPattern_36 rfl (lv_at hl 2 rfl) ?_
        refine lv_aload_n hx hb dX6_isPattern_37 rfl (lv_at hl 0 rfl) ?_
        refine va_get (D := D) (ci := 6) (v := .int md.2.2.2.1.2.1) (C := "ConstraintTextModel") (T := TX6) (N := 33) hx hb hts ing6 hown hK hP 0 rfl rfl 23 (by decide) (hts _ tw_873) (fun _ h9 => h9) rfl dX6_isPattern_38 ?_
        refine lv_icmp_ge (tgt := 94) hx hb dX6_isPattern_41 (by decide) (fun bc => ?_) (fun bc => ?_)
        · have h := ite_t bc h
          obtain rfl := Option.some.inj h
          exact x94w _ ls (eq_some_app (hR36 _ rfl) hc36) (lv_sub hl [1] rfl)
        · have h := ite_f bc h
          refine lv_iload_n hx hb dX6_isPattern_44 rfl (lv_at hl 1 rfl) ?_
          refine lv_if_eq (tgt := 94) hx hb dX6_isPattern_45 (by decide) (fun bc => ?_) (fun bc => ?_)
          · have h := ite_t bc h
            obtain rfl := Option.some.inj h
            exact x94w _ ls (eq_some_app (hR36 _ rfl) hc36) (lv_sub hl [1] rfl)
          · have h := ite_f bc h
            refine lv_aload_n hx hb dX6_isPattern_48 rfl (lv_at hl 0 rfl) ?_
            refine va_get (D := D) (ci := 6) (v := .ref (a_md 4)) (C := "ConstraintTextModel") (T := TX6) (N := 33) hx hb hts ing6 hown hK hP 0 rfl rfl 3 (by decide) (hts _ tw_853) (fun _ h9 => h9) rfl dX6_isPattern_49 ?_
            refine lv_iload_n hx hb dX6_isPattern_52 rfl (lv_at hl 2 rfl) ?_
            obtain ⟨g53, h⟩ := grd_some h
            refine va_iald hx hb hK hP 3 0 rfl rfl (inb_in g53) dX6_isPattern_53 ?_
            obtain ⟨u54, hc_54, h⟩ := bnd_some h
            refine ro_S (n := 1) (As := [.int (md.1.2.2.2.1 s36.2.toNatClampNeg)]) (rest := []) hx hb hml hown hts hN va_S.rf hK hP (c6_isName l D kA (md.1.2.2.2.1 s36.2.toNatClampNeg) u54 hc_54) [] rfl tw_958 tw_959 tw_80 tw_960 rfl rfl (by decide) ⟨Nat.le_of_ble_eq_true rfl, Nat.le_of_ble_eq_true rfl⟩ rfl hl.1 rfl (Nat.le_of_ble_eq_true rfl) dX6_isPattern_54 ⟨Nat.le_of_ble_eq_true rfl, Nat.le_of_ble_eq_true rfl⟩ ?_
            obtain ⟨k87, hk87, h⟩ := jn_name h
            have j87 : ∀ (v87 : Int32) (ls : Array Slot), k87 v87 = some z36 → lv_has ls 3 [(0, .ref (a_md 0)), (2, .int s36.2)] → W p l e rm6_isPattern s m args below meth c s.heap [] 0 0 Q (F0 m 87 ls [.int v87]) := by
              intro v87 ls h hl
              have h := app_of hk87 h
              refine lv_istore_n (lv' := [(1, .int v87), (0, .ref (a_md 0)), (2, .int s36.2)]) hx hb dX6_isPattern_87 rfl hl (by decide) rfl (fun ls hl => ?_)
              refine lv_iinc (v := (s36.2 + (1 : Int32))) (lv' := [(2, .int (s36.2 + (1 : Int32))), (1, .int v87), (0, .ref (a_md 0))]) hx hb dX6_isPattern_88 hl (k := 2) rfl rfl (by decide) rfl (fun ls hl => ?_)
              refine lv_goto (tgt := 36) hx hb dX6_isPattern_91 (by decide) ?_
              obtain rfl := Option.some.inj h
              exact ih36 _ ls (hL36 _ rfl) (lv_sub hl [2, 1, 0] rfl)
            obtain ⟨k82, hk82, h⟩ := jn_name h
            have j82 : ∀ (v82 : Unit) (ls : Array Slot), k82 v82 = some z36 → lv_has ls 3 [(0, .ref (a_md 0)), (2, .int s36.2)] → W p l e rm6_isPattern s m args below meth c s.heap [] 0 0 Q (F0 m 82 ls []) := by
              intro v82 ls h hl
              have h := app_of hk82 h
              refine lv_iconst (v := 1) hx hb dX6_isPattern_82 (by decide) ?_
              refine lv_goto (tgt := 87) hx hb dX6_isPattern_83 (by decide) ?_
              exact j87 _ ls h hl
            refine lv_if_ne (tgt := 82) hx hb dX6_isPattern_57 (by decide) (fun bc => ?_) (fun bc => ?_)
            · have h := ite_f bc h
              exact j82 _ ls h (lv_sub hl [0, 2] rfl)
            · have h := ite_t bc h
              refine lv_aload_n hx hb dX6_isPattern_60 rfl (lv_at hl 0 rfl) ?_
              refine va_get (D := D) (ci := 6) (v := .ref (a_md 4)) (C := "ConstraintTextModel") (T := TX6) (N := 33) hx hb hts ing6 hown hK hP 0 rfl rfl 3 (by decide) (hts _ tw_853) (fun _ h9 => h9) rfl dX6_isPattern_61 ?_
              refine lv_iload_n hx hb dX6_isPattern_64 rfl (lv_at hl 2 rfl) ?_
              obtain ⟨g65, h⟩ := grd_some h
              refine va_iald hx hb hK hP 3 0 rfl rfl (inb_in g65) dX6_isPattern_65 ?_
              refine lv_bipush (v := 42) hx hb dX6_isPattern_66 (by decide) ?_
              refine lv_icmp_eq (tgt := 82) hx hb dX6_isPattern_68 (by decide) (fun bc => ?_) (fun bc => ?_)
              · have h := ite_t bc h
                exact j82 _ ls h (lv_sub hl [0, 2] rfl)
              · have h := ite_f bc h
                refine lv_aload_n hx hb dX6_isPattern_71 rfl (lv_at hl 0 rfl) ?_
                refine va_get (D := D) (ci := 6) (v := .ref (a_md 4)) (C := "ConstraintTextModel") (T := TX6) (N := 33) hx hb hts ing6 hown hK hP 0 rfl rfl 3 (by decide) (hts _ tw_853) (fun _ h9 => h9) rfl dX6_isPattern_72 ?_
                refine lv_iload_n hx hb dX6_isPattern_75 rfl (lv_at hl 2 rfl) ?_
                obtain ⟨g76, h⟩ := grd_some h
                refine va_iald hx hb hK hP 3 0 rfl rfl (inb_in g76) dX6_isPattern_76 ?_
                refine lv_bipush (v := 63) hx hb dX6_isPattern_77 (by decide) ?_
                refine lv_icmp_ne (tgt := 86) hx hb dX6_isPattern_79 (by decide) (fun bc => ?_) (fun bc => ?_)
                · have h := ite_f bc h
                  refine lv_iconst (v := 0) hx hb dX6_isPattern_86 (by decide) ?_
                  exact j87 _ ls h (lv_sub hl [0, 2] rfl)
                · have h := ite_t bc h
                  exact j82 _ ls h (lv_sub hl [0, 2] rfl)
    exact lp36 F (v30, md.2.2.2.1.1) ls hi36 (lv_sub hl [2, 1, 0] rfl)
  refine lv_icmp_le (tgt := 29) hx hb dX6_isPattern_8 (by decide) (fun bc => ?_) (fun bc => ?_)
  · have h := ite_t bc h
    refine lv_iconst (v := 0) hx hb dX6_isPattern_29 (by decide) ?_
    exact j30 _ ls h hl
  · have h := ite_f bc h
    refine lv_aload_n hx hb dX6_isPattern_11 rfl (lv_at hl 0 rfl) ?_
    refine va_get (D := D) (ci := 6) (v := .int md.2.2.2.1.2.1) (C := "ConstraintTextModel") (T := TX6) (N := 33) hx hb hts ing6 hown hK hP 0 rfl rfl 23 (by decide) (hts _ tw_873) (fun _ h9 => h9) rfl dX6_isPattern_12 ?_
    refine lv_aload_n hx hb dX6_isPattern_15 rfl (lv_at hl 0 rfl) ?_
    refine va_get (D := D) (ci := 6) (v := .int md.2.2.2.1.1) (C := "ConstraintTextModel") (T := TX6) (N := 33) hx hb hts ing6 hown hK hP 0 rfl rfl 22 (by decide) (hts _ tw_872) (fun _ h9 => h9) rfl dX6_isPattern_16 ?_
    refine lv_isub hx hb dX6_isPattern_19 ?_
    refine lv_bipush (v := 16) hx hb dX6_isPattern_20 (by decide) ?_
    refine lv_icmp_gt (tgt := 29) hx hb dX6_isPattern_22 (by decide) (fun bc => ?_) (fun bc => ?_)
    · have h := ite_t bc h
      refine lv_iconst (v := 0) hx hb dX6_isPattern_29 (by decide) ?_
      exact j30 _ ls h hl
    · have h := ite_f bc h
      refine lv_iconst (v := 1) hx hb dX6_isPattern_25 (by decide) ?_
      refine lv_goto (tgt := 30) hx hb dX6_isPattern_26 (by decide) ?_
      exact j30 _ ls h hl
abbrev rm6_takeWhole : Room := { frames := 2, cells := 0, slots := 0, locals := 41 }
set_option maxHeartbeats 4000000 in
set_option maxRecDepth 100000 in
theorem c6_takeWhole (l : Launch) (D : va_G) (kA : Nat → ClassId) (a_md : Nat → Nat) (F : Nat) (p1 : Int32) (p2 : Int32) (md : T6) (res : Int32 × T6) (h : f6_takeWhole F p1 p2 md = some res) : Rw l yX6_takeWhole cX6_takeWhole 4 (some .int) rm6_takeWhole D kA [.ref (a_md 0), .int p1, .int p2] [(a_md 0, .inr (6, [.int md.1.1, .ref (a_md 2), .ref (a_md 3), .ref (a_md 4), .int md.1.2.2.2.2, .int md.2.1.1, .ref (a_md 7), .ref (a_md 8), .ref (a_md 9), .ref (a_md 10), .ref (a_md 11), .ref (a_md 12), .ref (a_md 13), .ref (a_md 14), .int md.2.2.1.1, .ref (a_md 16), .ref (a_md 17), .ref (a_md 18), .ref (a_md 19), .ref (a_md 20), .ref (a_md 21), .ref (a_md 22), .int md.2.2.2.1.1, .int md.2.2.2.1.2.1, .int md.2.2.2.1.2.2.1, .int md.2.2.2.1.2.2.2.1, .int md.2.2.2.1.2.2.2.2.1, .ref (a_md 28), .ref (a_md 29), .ref (a_md 30), .int md.2.2.2.2.2.1, .int md.2.2.2.2.2.2.1, .int md.2.2.2.2.2.2.2])), (a_md 2, .inl (kA 0, 640, .inl md.1.2.1)), (a_md 3, .inl (kA 0, 40, .inl md.1.2.2.1)), (a_md 4, .inl (kA 0, 1200, .inl md.1.2.2.2.1)), (a_md 7, .inl (kA 0, 80, .inl md.2.1.2.1)), (a_md 8, .inl (kA 2, 80, .inr (.inl md.2.1.2.2.1))), (a_md 9, .inl (kA 2, 80, .inr (.inl md.2.1.2.2.2.1))), (a_md 10, .inl (kA 0, 80, .inl md.2.1.2.2.2.2.1)), (a_md 11, .inl (kA 0, 80, .inl md.2.1.2.2.2.2.2.1)), (a_md 12, .inl (kA 0, 80, .inl md.2.1.2.2.2.2.2.2.1)), (a_md 13, .inl (kA 0, 3840, .inl md.2.1.2.2.2.2.2.2.2.1)), (a_md 14, .inl (kA 0, 240, .inl md.2.1.2.2.2.2.2.2.2.2)), (a_md 16, .inl (kA 0, 24, .inl md.2.2.1.2.1)), (a_md 17, .inl (kA 0, 24, .inl md.2.2.1.2.2.1)), (a_md 18, .inl (kA 2, 24, .inr (.inl md.2.2.1.2.2.2.1))), (a_md 19, .inl (kA 2, 24, .inr (.inl md.2.2.1.2.2.2.2.1))), (a_md 20, .inl (kA 2, 24, .inr (.inl md.2.2.1.2.2.2.2.2.1))), (a_md 21, .inl (kA 2, 24, .inr (.inl md.2.2.1.2.2.2.2.2.2.1))), (a_md 22, .inl (kA 3, 24, .inl md.2.2.1.2.2.2.2.2.2.2)), (a_md 28, .inl (kA 0, 40, .inl md.2.2.2.1.2.2.2.2.2.1)), (a_md 29, .inl (kA 0, 40, .inl md.2.2.2.1.2.2.2.2.2.2)), (a_md 30, .inl (kA 3, 17, .inl md.2.2.2.2.1))] (some (.int res.1)) [(a_md 0, .inr (6, [.int res.2.1.1, .ref (a_md 2), .ref (a_md 3), .ref (a_md 4), .int res.2.1.2.2.2.2, .int res.2.2.1.1, .ref (a_md 7), .ref (a_md 8), .ref (a_md 9), .ref (a_md 10), .ref (a_md 11), .ref (a_md 12), .ref (a_md 13), .ref (a_md 14), .int res.2.2.2.1.1, .ref (a_md 16), .ref (a_md 17), .ref (a_md 18), .ref (a_md 19), .ref (a_md 20), .ref (a_md 21), .ref (a_md 22), .int res.2.2.2.2.1.1, .int res.2.2.2.2.1.2.1, .int res.2.2.2.2.1.2.2.1, .int res.2.2.2.2.1.2.2.2.1, .int res.2.2.2.2.1.2.2.2.2.1, .ref (a_md 28), .ref (a_md 29), .ref (a_md 30), .int res.2.2.2.2.2.2.1, .int res.2.2.2.2.2.2.2.1, .int res.2.2.2.2.2.2.2.2])), (a_md 2, .inl (kA 0, 640, .inl res.2.1.2.1)), (a_md 3, .inl (kA 0, 40, .inl res.2.1.2.2.1)), (a_md 4, .inl (kA 0, 1200, .inl res.2.1.2.2.2.1)), (a_md 7, .inl (kA 0, 80, .inl res.2.2.1.2.1)), (a_md 8, .inl (kA 2, 80, .inr (.inl res.2.2.1.2.2.1))), (a_md 9, .inl (kA 2, 80, .inr (.inl res.2.2.1.2.2.2.1))), (a_md 10, .inl (kA 0, 80, .inl res.2.2.1.2.2.2.2.1)), (a_md 11, .inl (kA 0, 80, .inl res.2.2.1.2.2.2.2.2.1)), (a_md 12, .inl (kA 0, 80, .inl res.2.2.1.2.2.2.2.2.2.1)), (a_md 13, .inl (kA 0, 3840, .inl res.2.2.1.2.2.2.2.2.2.2.1)), (a_md 14, .inl (kA 0, 240, .inl res.2.2.1.2.2.2.2.2.2.2.2)), (a_md 16, .inl (kA 0, 24, .inl res.2.2.2.1.2.1)), (a_md 17, .inl (kA 0, 24, .inl res.2.2.2.1.2.2.1)), (a_md 18, .inl (kA 2, 24, .inr (.inl res.2.2.2.1.2.2.2.1))), (a_md 19, .inl (kA 2, 24, .inr (.inl res.2.2.2.1.2.2.2.2.1))), (a_md 20, .inl (kA 2, 24, .inr (.inl res.2.2.2.1.2.2.2.2.2.1))), (a_md 21, .inl (kA 2, 24, .inr (.inl res.2.2.2.1.2.2.2.2.2.2.1))), (a_md 22, .inl (kA 3, 24, .inl res.2.2.2.1.2.2.2.2.2.2.2)), (a_md 28, .inl (kA 0, 40, .inl res.2.2.2.2.1.2.2.2.2.2.1)), (a_md 29, .inl (kA 0, 40, .inl res.2.2.2.2.1.2.2.2.2.2.2)), (a_md 30, .inl (kA 3, 17, .inl res.2.2.2.2.2.1))] := by
  refine Rw.of (by decide) (Nat.le_of_ble_eq_true rfl) ?_
  intro p e s m args below meth c A hF hP hD hS hA hK ls hl
  generalize hQ : rwQ below D A _ _ args s = Q
  obtain ⟨hx, hb, hml, hown, hr, hk, hts, hN⟩ := hF
  have hl : lv_has ls 4 [(0, .ref (a_md 0)), (1, .int p1), (2, .int p2)] := hl
  unfold f6_takeWhole at h
  refine lv_aload_n hx hb dX6_takeWhole_0 rfl (lv_at hl 0 rfl) ?_
  obtain ⟨u1, hc_1, h⟩ := bnd_some h
  refine ro_V (n := 0) (As := []) (rest := []) hx hb hml hown hts hN hS hK hP (c6_whole l D kA a_md F md u1 hc_1) [0, 1, 2, 3, 4, 5, 6, 7, 8, 9, 10, 11, 12, 13, 14, 15, 16, 17, 18, 19, 20, 21] rfl 0 6 rfl rfl rfl tw_1021 tw_1023 tw_45 tw_80 tw_1024 rfl rfl (by decide) ⟨Nat.le_of_ble_eq_true rfl, Nat.le_of_ble_eq_true rfl⟩ rfl hl.1 rfl (Nat.le_of_ble_eq_true rfl) dX6_takeWhole_1 ⟨Nat.le_of_ble_eq_true rfl, Nat.le_of_ble_eq_true rfl⟩ ?_
  refine lv_istore_n (lv' := [(3, .int u1), (0, .ref (a_md 0)), (1, .int p1), (2, .int p2)]) hx hb dX6_takeWhole_4 rfl hl (by decide) rfl (fun ls hl => ?_)
  refine lv_aload_n hx hb dX6_takeWhole_5 rfl (lv_at hl 1 rfl) ?_
  refine lv_iload_n hx hb dX6_takeWhole_6 rfl (lv_at hl 0 rfl) ?_
  refine lv_iload_n hx hb dX6_takeWhole_7 rfl (lv_at hl 2 rfl) ?_
  obtain ⟨k21, hk21, h⟩ := jn_name h
  have j21 : ∀ (v21 : Int32) (H : Heap) (locs : List Loc) (ls : Array Slot), k21 v21 = some res → va_P D vwCl [(a_md 0, .inr (6, [.int md.1.1, .ref (a_md 2), .ref (a_md 3), .ref (a_md 4), .int md.1.2.2.2.2, .int md.2.1.1, .ref (a_md 7), .ref (a_md 8), .ref (a_md 9), .ref (a_md 10), .ref (a_md 11), .ref (a_md 12), .ref (a_md 13), .ref (a_md 14), .int md.2.2.1.1, .ref (a_md 16), .ref (a_md 17), .ref (a_md 18), .ref (a_md 19), .ref (a_md 20), .ref (a_md 21), .ref (a_md 22), .int md.2.2.2.1.1, .int md.2.2.2.1.2.1, .int md.2.2.2.1.2.2.1, .int md.2.2.2.1.2.2.2.1, .int md.2.2.2.1.2.2.2.2.1, .ref (a_md 28), .ref (a_md 29), .ref (a_md 30), .int md.2.2.2.2.2.1, .int md.2.2.2.2.2.2.1, .int md.2.2.2.2.2.2.2])), (a_md 2, .inl (kA 0, 640, .inl md.1.2.1)), (a_md 3, .inl (kA 0, 40, .inl md.1.2.2.1)), (a_md 4, .inl (kA 0, 1200, .inl md.1.2.2.2.1)), (a_md 7, .inl (kA 0, 80, .inl md.2.1.2.1)), (a_md 8, .inl (kA 2, 80, .inr (.inl md.2.1.2.2.1))), (a_md 9, .inl (kA 2, 80, .inr (.inl md.2.1.2.2.2.1))), (a_md 10, .inl (kA 0, 80, .inl md.2.1.2.2.2.2.1)), (a_md 11, .inl (kA 0, 80, .inl md.2.1.2.2.2.2.2.1)), (a_md 12, .inl (kA 0, 80, .inl md.2.1.2.2.2.2.2.2.1)), (a_md 13, .inl (kA 0, 3840, .inl md.2.1.2.2.2.2.2.2.2.1)), (a_md 14, .inl (kA 0, 240, .inl md.2.1.2.2.2.2.2.2.2.2)), (a_md 16, .inl (kA 0, 24, .inl md.2.2.1.2.1)), (a_md 17, .inl (kA 0, 24, .inl md.2.2.1.2.2.1)), (a_md 18, .inl (kA 2, 24, .inr (.inl md.2.2.1.2.2.2.1))), (a_md 19, .inl (kA 2, 24, .inr (.inl md.2.2.1.2.2.2.2.1))), (a_md 20, .inl (kA 2, 24, .inr (.inl md.2.2.1.2.2.2.2.2.1))), (a_md 21, .inl (kA 2, 24, .inr (.inl md.2.2.1.2.2.2.2.2.2.1))), (a_md 22, .inl (kA 3, 24, .inl md.2.2.1.2.2.2.2.2.2.2)), (a_md 28, .inl (kA 0, 40, .inl md.2.2.2.1.2.2.2.2.2.1)), (a_md 29, .inl (kA 0, 40, .inl md.2.2.2.1.2.2.2.2.2.2)), (a_md 30, .inl (kA 3, 17, .inl md.2.2.2.2.1))] H → va_D A [(a_md 0, .inr (6, [.int md.1.1, .ref (a_md 2), .ref (a_md 3), .ref (a_md 4), .int md.1.2.2.2.2, .int md.2.1.1, .ref (a_md 7), .ref (a_md 8), .ref (a_md 9), .ref (a_md 10), .ref (a_md 11), .ref (a_md 12), .ref (a_md 13), .ref (a_md 14), .int md.2.2.1.1, .ref (a_md 16), .ref (a_md 17), .ref (a_md 18), .ref (a_md 19), .ref (a_md 20), .ref (a_md 21), .ref (a_md 22), .int md.2.2.2.1.1, .int md.2.2.2.1.2.1, .int md.2.2.2.1.2.2.1, .int md.2.2.2.1.2.2.2.1, .int md.2.2.2.1.2.2.2.2.1, .ref (a_md 28), .ref (a_md 29), .ref (a_md 30), .int md.2.2.2.2.2.1, .int md.2.2.2.2.2.2.1, .int md.2.2.2.2.2.2.2])), (a_md 2, .inl (kA 0, 640, .inl md.1.2.1)), (a_md 3, .inl (kA 0, 40, .inl md.1.2.2.1)), (a_md 4, .inl (kA 0, 1200, .inl md.1.2.2.2.1)), (a_md 7, .inl (kA 0, 80, .inl md.2.1.2.1)), (a_md 8, .inl (kA 2, 80, .inr (.inl md.2.1.2.2.1))), (a_md 9, .inl (kA 2, 80, .inr (.inl md.2.1.2.2.2.1))), (a_md 10, .inl (kA 0, 80, .inl md.2.1.2.2.2.2.1)), (a_md 11, .inl (kA 0, 80, .inl md.2.1.2.2.2.2.2.1)), (a_md 12, .inl (kA 0, 80, .inl md.2.1.2.2.2.2.2.2.1)), (a_md 13, .inl (kA 0, 3840, .inl md.2.1.2.2.2.2.2.2.2.1)), (a_md 14, .inl (kA 0, 240, .inl md.2.1.2.2.2.2.2.2.2.2)), (a_md 16, .inl (kA 0, 24, .inl md.2.2.1.2.1)), (a_md 17, .inl (kA 0, 24, .inl md.2.2.1.2.2.1)), (a_md 18, .inl (kA 2, 24, .inr (.inl md.2.2.1.2.2.2.1))), (a_md 19, .inl (kA 2, 24, .inr (.inl md.2.2.1.2.2.2.2.1))), (a_md 20, .inl (kA 2, 24, .inr (.inl md.2.2.1.2.2.2.2.2.1))), (a_md 21, .inl (kA 2, 24, .inr (.inl md.2.2.1.2.2.2.2.2.2.1))), (a_md 22, .inl (kA 3, 24, .inl md.2.2.1.2.2.2.2.2.2.2)), (a_md 28, .inl (kA 0, 40, .inl md.2.2.2.1.2.2.2.2.2.1)), (a_md 29, .inl (kA 0, 40, .inl md.2.2.2.1.2.2.2.2.2.2)), (a_md 30, .inl (kA 3, 17, .inl md.2.2.2.2.1))] → va_S A s.heap H locs → lv_has ls 4 [(3, .int u1)] → W p l e rm6_takeWhole s m args below meth c H locs 0 0 Q (F0 m 21 ls [.int v21, .ref (a_md 0)]) := by
    intro v21 H locs ls h hP hD hS hl
    have h := app_of hk21 h
    obtain ⟨u21, hc_21, h⟩ := bnd_some h
    refine rw_V (wr := []) (n := 1) (As := [.int v21]) (rest := []) hx hb hml hown hts hN hS hK hP hD hA (c6_take l D kA a_md F v21 md u21 hc_21) [0, 1, 2, 3, 4, 5, 6, 7, 8, 9, 10, 11, 12, 13, 14, 15, 16, 17, 18, 19, 20, 21] [] rfl (by decide) rfl (by decide) (by decide) 0 6 rfl rfl rfl tw_1000 tw_1002 tw_40 tw_80 tw_1003 rfl rfl (by decide) ⟨Nat.le_of_ble_eq_true rfl, Nat.le_of_ble_eq_true rfl⟩ rfl hl.1 rfl (Nat.le_of_ble_eq_true rfl) dX6_takeWhole_21 ⟨Nat.le_of_ble_eq_true rfl, Nat.le_of_ble_eq_true rfl⟩ (fun H locs hP hD hS => ?_)
    have hP : va_P D vwCl [(a_md 0, .inr (6, [.int u21.1.1, .ref (a_md 2), .ref (a_md 3), .ref (a_md 4), .int u21.1.2.2.2.2, .int u21.2.1.1, .ref (a_md 7), .ref (a_md 8), .ref (a_md 9), .ref (a_md 10), .ref (a_md 11), .ref (a_md 12), .ref (a_md 13), .ref (a_md 14), .int u21.2.2.1.1, .ref (a_md 16), .ref (a_md 17), .ref (a_md 18), .ref (a_md 19), .ref (a_md 20), .ref (a_md 21), .ref (a_md 22), .int u21.2.2.2.1.1, .int u21.2.2.2.1.2.1, .int u21.2.2.2.1.2.2.1, .int u21.2.2.2.1.2.2.2.1, .int u21.2.2.2.1.2.2.2.2.1, .ref (a_md 28), .ref (a_md 29), .ref (a_md 30), .int u21.2.2.2.2.2.1, .int u21.2.2.2.2.2.2.1, .int u21.2.2.2.2.2.2.2])), (a_md 2, .inl (kA 0, 640, .inl u21.1.2.1)), (a_md 3, .inl (kA 0, 40, .inl u21.1.2.2.1)), (a_md 4, .inl (kA 0, 1200, .inl u21.1.2.2.2.1)), (a_md 7, .inl (kA 0, 80, .inl u21.2.1.2.1)), (a_md 8, .inl (kA 2, 80, .inr (.inl u21.2.1.2.2.1))), (a_md 9, .inl (kA 2, 80, .inr (.inl u21.2.1.2.2.2.1))), (a_md 10, .inl (kA 0, 80, .inl u21.2.1.2.2.2.2.1)), (a_md 11, .inl (kA 0, 80, .inl u21.2.1.2.2.2.2.2.1)), (a_md 12, .inl (kA 0, 80, .inl u21.2.1.2.2.2.2.2.2.1)), (a_md 13, .inl (kA 0, 3840, .inl u21.2.1.2.2.2.2.2.2.2.1)), (a_md 14, .inl (kA 0, 240, .inl u21.2.1.2.2.2.2.2.2.2.2)), (a_md 16, .inl (kA 0, 24, .inl u21.2.2.1.2.1)), (a_md 17, .inl (kA 0, 24, .inl u21.2.2.1.2.2.1)), (a_md 18, .inl (kA 2, 24, .inr (.inl u21.2.2.1.2.2.2.1))), (a_md 19, .inl (kA 2, 24, .inr (.inl u21.2.2.1.2.2.2.2.1))), (a_md 20, .inl (kA 2, 24, .inr (.inl u21.2.2.1.2.2.2.2.2.1))), (a_md 21, .inl (kA 2, 24, .inr (.inl u21.2.2.1.2.2.2.2.2.2.1))), (a_md 22, .inl (kA 3, 24, .inl u21.2.2.1.2.2.2.2.2.2.2)), (a_md 28, .inl (kA 0, 40, .inl u21.2.2.2.1.2.2.2.2.2.1)), (a_md 29, .inl (kA 0, 40, .inl u21.2.2.2.1.2.2.2.2.2.2)), (a_md 30, .inl (kA 3, 17, .inl u21.2.2.2.2.1))] H := hP
    have hD : va_D A [(a_md 0, .inr (6, [.int u21.1.1, .ref (a_md 2), .ref (a_md 3), .ref (a_md 4), .int u21.1.2.2.2.2, .int u21.2.1.1, .ref (a_md 7), .ref (a_md 8), .ref (a_md 9), .ref (a_md 10), .ref (a_md 11), .ref (a_md 12), .ref (a_md 13), .ref (a_md 14), .int u21.2.2.1.1, .ref (a_md 16), .ref (a_md 17), .ref (a_md 18), .ref (a_md 19), .ref (a_md 20), .ref (a_md 21), .ref (a_md 22), .int u21.2.2.2.1.1, .int u21.2.2.2.1.2.1, .int u21.2.2.2.1.2.2.1, .int u21.2.2.2.1.2.2.2.1, .int u21.2.2.2.1.2.2.2.2.1, .ref (a_md 28), .ref (a_md 29), .ref (a_md 30), .int u21.2.2.2.2.2.1, .int u21.2.2.2.2.2.2.1, .int u21.2.2.2.2.2.2.2])), (a_md 2, .inl (kA 0, 640, .inl u21.1.2.1)), (a_md 3, .inl (kA 0, 40, .inl u21.1.2.2.1)), (a_md 4, .inl (kA 0, 1200, .inl u21.1.2.2.2.1)), (a_md 7, .inl (kA 0, 80, .inl u21.2.1.2.1)), (a_md 8, .inl (kA 2, 80, .inr (.inl u21.2.1.2.2.1))), (a_md 9, .inl (kA 2, 80, .inr (.inl u21.2.1.2.2.2.1))), (a_md 10, .inl (kA 0, 80, .inl u21.2.1.2.2.2.2.1)), (a_md 11, .inl (kA 0, 80, .inl u21.2.1.2.2.2.2.2.1)), (a_md 12, .inl (kA 0, 80, .inl u21.2.1.2.2.2.2.2.2.1)), (a_md 13, .inl (kA 0, 3840, .inl u21.2.1.2.2.2.2.2.2.2.1)), (a_md 14, .inl (kA 0, 240, .inl u21.2.1.2.2.2.2.2.2.2.2)), (a_md 16, .inl (kA 0, 24, .inl u21.2.2.1.2.1)), (a_md 17, .inl (kA 0, 24, .inl u21.2.2.1.2.2.1)), (a_md 18, .inl (kA 2, 24, .inr (.inl u21.2.2.1.2.2.2.1))), (a_md 19, .inl (kA 2, 24, .inr (.inl u21.2.2.1.2.2.2.2.1))), (a_md 20, .inl (kA 2, 24, .inr (.inl u21.2.2.1.2.2.2.2.2.1))), (a_md 21, .inl (kA 2, 24, .inr (.inl u21.2.2.1.2.2.2.2.2.2.1))), (a_md 22, .inl (kA 3, 24, .inl u21.2.2.1.2.2.2.2.2.2.2)), (a_md 28, .inl (kA 0, 40, .inl u21.2.2.2.1.2.2.2.2.2.1)), (a_md 29, .inl (kA 0, 40, .inl u21.2.2.2.1.2.2.2.2.2.2)), (a_md 30, .inl (kA 3, 17, .inl u21.2.2.2.2.1))] := hD
    refine lv_iload_n hx hb dX6_takeWhole_24 rfl (lv_at hl 0 rfl) ?_
    obtain rfl := Option.some.inj h
    rw [← hQ]
    exact rw_ireturn hx hb hr hk  dX6_takeWhole_25  hP hD hS
  refine lv_icmp_lt (tgt := 20) hx hb dX6_takeWhole_8 (by decide) (fun bc => ?_) (fun bc => ?_)
  · have h := ite_t bc h
    refine lv_iconst (v := 0) hx hb dX6_takeWhole_20 (by decide) ?_
    exact j21 _ _ _ ls h hP hD hS (lv_sub hl [0] rfl)
  · have h := ite_f bc h
    refine lv_iload_n hx hb dX6_takeWhole_11 rfl (lv_at hl 0 rfl) ?_
    refine lv_iload_n hx hb dX6_takeWhole_12 rfl (lv_at hl 3 rfl) ?_
    refine lv_icmp_gt (tgt := 20) hx hb dX6_takeWhole_13 (by decide) (fun bc => ?_) (fun bc => ?_)
    · have h := ite_t bc h
      refine lv_iconst (v := 0) hx hb dX6_takeWhole_20 (by decide) ?_
      exact j21 _ _ _ ls h hP hD hS (lv_sub hl [0] rfl)
    · have h := ite_f bc h
      refine lv_iconst (v := 1) hx hb dX6_takeWhole_16 (by decide) ?_
      refine lv_goto (tgt := 21) hx hb dX6_takeWhole_17 (by decide) ?_
      exact j21 _ _ _ ls h hP hD hS (lv_sub hl [0] rfl)
abbrev rm6_takePattern : Room := { frames := 2, cells := 0, slots := 0, locals := 42 }
set_option maxHeartbeats 4000000 in
set_option maxRecDepth 100000 in
theorem c6_takePattern (l : Launch) (D : va_G) (kA : Nat → ClassId) (a_md : Nat → Nat) (F : Nat) (p1 : Int32) (p2 : Int32) (p3 : Int32) (md : T6) (res : T6) (h : f6_takePattern F p1 p2 p3 md = some res) : Rw l yX6_takePattern cX6_takePattern 7 none rm6_takePattern D kA [.ref (a_md 0), .int p1, .int p2, .int p3] [(a_md 0, .inr (6, [.int md.1.1, .ref (a_md 2), .ref (a_md 3), .ref (a_md 4), .int md.1.2.2.2.2, .int md.2.1.1, .ref (a_md 7), .ref (a_md 8), .ref (a_md 9), .ref (a_md 10), .ref (a_md 11), .ref (a_md 12), .ref (a_md 13), .ref (a_md 14), .int md.2.2.1.1, .ref (a_md 16), .ref (a_md 17), .ref (a_md 18), .ref (a_md 19), .ref (a_md 20), .ref (a_md 21), .ref (a_md 22), .int md.2.2.2.1.1, .int md.2.2.2.1.2.1, .int md.2.2.2.1.2.2.1, .int md.2.2.2.1.2.2.2.1, .int md.2.2.2.1.2.2.2.2.1, .ref (a_md 28), .ref (a_md 29), .ref (a_md 30), .int md.2.2.2.2.2.1, .int md.2.2.2.2.2.2.1, .int md.2.2.2.2.2.2.2])), (a_md 2, .inl (kA 0, 640, .inl md.1.2.1)), (a_md 3, .inl (kA 0, 40, .inl md.1.2.2.1)), (a_md 4, .inl (kA 0, 1200, .inl md.1.2.2.2.1)), (a_md 7, .inl (kA 0, 80, .inl md.2.1.2.1)), (a_md 8, .inl (kA 2, 80, .inr (.inl md.2.1.2.2.1))), (a_md 9, .inl (kA 2, 80, .inr (.inl md.2.1.2.2.2.1))), (a_md 10, .inl (kA 0, 80, .inl md.2.1.2.2.2.2.1)), (a_md 11, .inl (kA 0, 80, .inl md.2.1.2.2.2.2.2.1)), (a_md 12, .inl (kA 0, 80, .inl md.2.1.2.2.2.2.2.2.1)), (a_md 13, .inl (kA 0, 3840, .inl md.2.1.2.2.2.2.2.2.2.1)), (a_md 14, .inl (kA 0, 240, .inl md.2.1.2.2.2.2.2.2.2.2)), (a_md 16, .inl (kA 0, 24, .inl md.2.2.1.2.1)), (a_md 17, .inl (kA 0, 24, .inl md.2.2.1.2.2.1)), (a_md 18, .inl (kA 2, 24, .inr (.inl md.2.2.1.2.2.2.1))), (a_md 19, .inl (kA 2, 24, .inr (.inl md.2.2.1.2.2.2.2.1))), (a_md 20, .inl (kA 2, 24, .inr (.inl md.2.2.1.2.2.2.2.2.1))), (a_md 21, .inl (kA 2, 24, .inr (.inl md.2.2.1.2.2.2.2.2.2.1))), (a_md 22, .inl (kA 3, 24, .inl md.2.2.1.2.2.2.2.2.2.2)), (a_md 28, .inl (kA 0, 40, .inl md.2.2.2.1.2.2.2.2.2.1)), (a_md 29, .inl (kA 0, 40, .inl md.2.2.2.1.2.2.2.2.2.2)), (a_md 30, .inl (kA 3, 17, .inl md.2.2.2.2.1))] none [(a_md 0, .inr (6, [.int res.1.1, .ref (a_md 2), .ref (a_md 3), .ref (a_md 4), .int res.1.2.2.2.2, .int res.2.1.1, .ref (a_md 7), .ref (a_md 8), .ref (a_md 9), .ref (a_md 10), .ref (a_md 11), .ref (a_md 12), .ref (a_md 13), .ref (a_md 14), .int res.2.2.1.1, .ref (a_md 16), .ref (a_md 17), .ref (a_md 18), .ref (a_md 19), .ref (a_md 20), .ref (a_md 21), .ref (a_md 22), .int res.2.2.2.1.1, .int res.2.2.2.1.2.1, .int res.2.2.2.1.2.2.1, .int res.2.2.2.1.2.2.2.1, .int res.2.2.2.1.2.2.2.2.1, .ref (a_md 28), .ref (a_md 29), .ref (a_md 30), .int res.2.2.2.2.2.1, .int res.2.2.2.2.2.2.1, .int res.2.2.2.2.2.2.2])), (a_md 2, .inl (kA 0, 640, .inl res.1.2.1)), (a_md 3, .inl (kA 0, 40, .inl res.1.2.2.1)), (a_md 4, .inl (kA 0, 1200, .inl res.1.2.2.2.1)), (a_md 7, .inl (kA 0, 80, .inl res.2.1.2.1)), (a_md 8, .inl (kA 2, 80, .inr (.inl res.2.1.2.2.1))), (a_md 9, .inl (kA 2, 80, .inr (.inl res.2.1.2.2.2.1))), (a_md 10, .inl (kA 0, 80, .inl res.2.1.2.2.2.2.1)), (a_md 11, .inl (kA 0, 80, .inl res.2.1.2.2.2.2.2.1)), (a_md 12, .inl (kA 0, 80, .inl res.2.1.2.2.2.2.2.2.1)), (a_md 13, .inl (kA 0, 3840, .inl res.2.1.2.2.2.2.2.2.2.1)), (a_md 14, .inl (kA 0, 240, .inl res.2.1.2.2.2.2.2.2.2.2)), (a_md 16, .inl (kA 0, 24, .inl res.2.2.1.2.1)), (a_md 17, .inl (kA 0, 24, .inl res.2.2.1.2.2.1)), (a_md 18, .inl (kA 2, 24, .inr (.inl res.2.2.1.2.2.2.1))), (a_md 19, .inl (kA 2, 24, .inr (.inl res.2.2.1.2.2.2.2.1))), (a_md 20, .inl (kA 2, 24, .inr (.inl res.2.2.1.2.2.2.2.2.1))), (a_md 21, .inl (kA 2, 24, .inr (.inl res.2.2.1.2.2.2.2.2.2.1))), (a_md 22, .inl (kA 3, 24, .inl res.2.2.1.2.2.2.2.2.2.2)), (a_md 28, .inl (kA 0, 40, .inl res.2.2.2.1.2.2.2.2.2.1)), (a_md 29, .inl (kA 0, 40, .inl res.2.2.2.1.2.2.2.2.2.2)), (a_md 30, .inl (kA 3, 17, .inl res.2.2.2.2.1))] := by
  refine Rw.of (by decide) (Nat.le_of_ble_eq_true rfl) ?_
  intro p e s m args below meth c A hF hP hD hS hA hK ls hl
  generalize hQ : rwQ below D A _ _ args s = Q
  obtain ⟨hx, hb, hml, hown, hr, hk, hts, hN⟩ := hF
  have hl : lv_has ls 7 [(0, .ref (a_md 0)), (1, .int p1), (2, .int p2), (3, .int p3)] := hl
  unfold f6_takePattern at h
  refine lv_iload_n hx hb dX6_takePattern_0 rfl (lv_at hl 3 rfl) ?_
  obtain ⟨k36, hk36, h⟩ := jn_name h
  have j36 : ∀ (v36 : Int32) (H : Heap) (locs : List Loc) (ls : Array Slot), k36 v36 = some res → va_P D vwCl [(a_md 0, .inr (6, [.int md.1.1, .ref (a_md 2), .ref (a_md 3), .ref (a_md 4), .int md.1.2.2.2.2, .int md.2.1.1, .ref (a_md 7), .ref (a_md 8), .ref (a_md 9), .ref (a_md 10), .ref (a_md 11), .ref (a_md 12), .ref (a_md 13), .ref (a_md 14), .int md.2.2.1.1, .ref (a_md 16), .ref (a_md 17), .ref (a_md 18), .ref (a_md 19), .ref (a_md 20), .ref (a_md 21), .ref (a_md 22), .int md.2.2.2.1.1, .int md.2.2.2.1.2.1, .int md.2.2.2.1.2.2.1, .int md.2.2.2.1.2.2.2.1, .int md.2.2.2.1.2.2.2.2.1, .ref (a_md 28), .ref (a_md 29), .ref (a_md 30), .int md.2.2.2.2.2.1, .int md.2.2.2.2.2.2.1, .int md.2.2.2.2.2.2.2])), (a_md 2, .inl (kA 0, 640, .inl md.1.2.1)), (a_md 3, .inl (kA 0, 40, .inl md.1.2.2.1)), (a_md 4, .inl (kA 0, 1200, .inl md.1.2.2.2.1)), (a_md 7, .inl (kA 0, 80, .inl md.2.1.2.1)), (a_md 8, .inl (kA 2, 80, .inr (.inl md.2.1.2.2.1))), (a_md 9, .inl (kA 2, 80, .inr (.inl md.2.1.2.2.2.1))), (a_md 10, .inl (kA 0, 80, .inl md.2.1.2.2.2.2.1)), (a_md 11, .inl (kA 0, 80, .inl md.2.1.2.2.2.2.2.1)), (a_md 12, .inl (kA 0, 80, .inl md.2.1.2.2.2.2.2.2.1)), (a_md 13, .inl (kA 0, 3840, .inl md.2.1.2.2.2.2.2.2.2.1)), (a_md 14, .inl (kA 0, 240, .inl md.2.1.2.2.2.2.2.2.2.2)), (a_md 16, .inl (kA 0, 24, .inl md.2.2.1.2.1)), (a_md 17, .inl (kA 0, 24, .inl md.2.2.1.2.2.1)), (a_md 18, .inl (kA 2, 24, .inr (.inl md.2.2.1.2.2.2.1))), (a_md 19, .inl (kA 2, 24, .inr (.inl md.2.2.1.2.2.2.2.1))), (a_md 20, .inl (kA 2, 24, .inr (.inl md.2.2.1.2.2.2.2.2.1))), (a_md 21, .inl (kA 2, 24, .inr (.inl md.2.2.1.2.2.2.2.2.2.1))), (a_md 22, .inl (kA 3, 24, .inl md.2.2.1.2.2.2.2.2.2.2)), (a_md 28, .inl (kA 0, 40, .inl md.2.2.2.1.2.2.2.2.2.1)), (a_md 29, .inl (kA 0, 40, .inl md.2.2.2.1.2.2.2.2.2.2)), (a_md 30, .inl (kA 3, 17, .inl md.2.2.2.2.1))] H → va_D A [(a_md 0, .inr (6, [.int md.1.1, .ref (a_md 2), .ref (a_md 3), .ref (a_md 4), .int md.1.2.2.2.2, .int md.2.1.1, .ref (a_md 7), .ref (a_md 8), .ref (a_md 9), .ref (a_md 10), .ref (a_md 11), .ref (a_md 12), .ref (a_md 13), .ref (a_md 14), .int md.2.2.1.1, .ref (a_md 16), .ref (a_md 17), .ref (a_md 18), .ref (a_md 19), .ref (a_md 20), .ref (a_md 21), .ref (a_md 22), .int md.2.2.2.1.1, .int md.2.2.2.1.2.1, .int md.2.2.2.1.2.2.1, .int md.2.2.2.1.2.2.2.1, .int md.2.2.2.1.2.2.2.2.1, .ref (a_md 28), .ref (a_md 29), .ref (a_md 30), .int md.2.2.2.2.2.1, .int md.2.2.2.2.2.2.1, .int md.2.2.2.2.2.2.2])), (a_md 2, .inl (kA 0, 640, .inl md.1.2.1)), (a_md 3, .inl (kA 0, 40, .inl md.1.2.2.1)), (a_md 4, .inl (kA 0, 1200, .inl md.1.2.2.2.1)), (a_md 7, .inl (kA 0, 80, .inl md.2.1.2.1)), (a_md 8, .inl (kA 2, 80, .inr (.inl md.2.1.2.2.1))), (a_md 9, .inl (kA 2, 80, .inr (.inl md.2.1.2.2.2.1))), (a_md 10, .inl (kA 0, 80, .inl md.2.1.2.2.2.2.1)), (a_md 11, .inl (kA 0, 80, .inl md.2.1.2.2.2.2.2.1)), (a_md 12, .inl (kA 0, 80, .inl md.2.1.2.2.2.2.2.2.1)), (a_md 13, .inl (kA 0, 3840, .inl md.2.1.2.2.2.2.2.2.2.1)), (a_md 14, .inl (kA 0, 240, .inl md.2.1.2.2.2.2.2.2.2.2)), (a_md 16, .inl (kA 0, 24, .inl md.2.2.1.2.1)), (a_md 17, .inl (kA 0, 24, .inl md.2.2.1.2.2.1)), (a_md 18, .inl (kA 2, 24, .inr (.inl md.2.2.1.2.2.2.1))), (a_md 19, .inl (kA 2, 24, .inr (.inl md.2.2.1.2.2.2.2.1))), (a_md 20, .inl (kA 2, 24, .inr (.inl md.2.2.1.2.2.2.2.2.1))), (a_md 21, .inl (kA 2, 24, .inr (.inl md.2.2.1.2.2.2.2.2.2.1))), (a_md 22, .inl (kA 3, 24, .inl md.2.2.1.2.2.2.2.2.2.2)), (a_md 28, .inl (kA 0, 40, .inl md.2.2.2.1.2.2.2.2.2.1)), (a_md 29, .inl (kA 0, 40, .inl md.2.2.2.1.2.2.2.2.2.2)), (a_md 30, .inl (kA 3, 17, .inl md.2.2.2.2.1))] → va_S A s.heap H locs → lv_has ls 7 [(0, .ref (a_md 0)), (1, .int p1), (2, .int p2)] → W p l e rm6_takePattern s m args below meth c H locs 0 0 Q (F0 m 36 ls [.int v36]) := by
    intro v36 H locs ls h hP hD hS hl
    have h := app_of hk36 h
    refine lv_istore (lv' := [(4, .int v36), (0, .ref (a_md 0)), (1, .int p1), (2, .int p2)]) hx hb dX6_takePattern_36 hl (by decide) rfl (fun ls hl => ?_)
    refine lv_iconst (v := 3) hx hb dX6_takePattern_38 (by decide) ?_
    refine lv_iload_n hx hb dX6_takePattern_39 rfl (lv_at hl 2 rfl) ?_
    refine lv_imul hx hb dX6_takePattern_40 ?_
    refine lv_iload_n hx hb dX6_takePattern_41 rfl (lv_at hl 3 rfl) ?_
    refine lv_iadd hx hb dX6_takePattern_42 ?_
    refine lv_istore (lv' := [(5, .int (((3 : Int32) * p1) + p2)), (4, .int v36), (0, .ref (a_md 0)), (1, .int p1), (2, .int p2)]) hx hb dX6_takePattern_43 hl (by decide) rfl (fun ls hl => ?_)
    refine lv_aload_n hx hb dX6_takePattern_45 rfl (lv_at hl 2 rfl) ?_
    refine va_get (D := D) (ci := 6) (v := .ref (a_md 14)) (C := "ConstraintTextModel") (T := TX6) (N := 33) hx hb hts ing6 hown hK hP 0 rfl rfl 13 (by decide) (hts _ tw_863) (fun _ h9 => h9) rfl dX6_takePattern_46 ?_
    refine lv_iload hx hb dX6_takePattern_49 (lv_at hl 0 rfl) ?_
    refine lv_iconst (v := 0) hx hb dX6_takePattern_51 (by decide) ?_
    obtain ⟨g52, h⟩ := grd_some h
    refine va_iast hx hb hK hP hD hS 11 0 rfl rfl (inb_in g52) dX6_takePattern_52 (fun H locs hP hD hS => ?_)
    have hP : va_P D vwCl [(a_md 0, .inr (6, [.int md.1.1, .ref (a_md 2), .ref (a_md 3), .ref (a_md 4), .int md.1.2.2.2.2, .int md.2.1.1, .ref (a_md 7), .ref (a_md 8), .ref (a_md 9), .ref (a_md 10), .ref (a_md 11), .ref (a_md 12), .ref (a_md 13), .ref (a_md 14), .int md.2.2.1.1, .ref (a_md 16), .ref (a_md 17), .ref (a_md 18), .ref (a_md 19), .ref (a_md 20), .ref (a_md 21), .ref (a_md 22), .int md.2.2.2.1.1, .int md.2.2.2.1.2.1, .int md.2.2.2.1.2.2.1, .int md.2.2.2.1.2.2.2.1, .int md.2.2.2.1.2.2.2.2.1, .ref (a_md 28), .ref (a_md 29), .ref (a_md 30), .int md.2.2.2.2.2.1, .int md.2.2.2.2.2.2.1, .int md.2.2.2.2.2.2.2])), (a_md 2, .inl (kA 0, 640, .inl md.1.2.1)), (a_md 3, .inl (kA 0, 40, .inl md.1.2.2.1)), (a_md 4, .inl (kA 0, 1200, .inl md.1.2.2.2.1)), (a_md 7, .inl (kA 0, 80, .inl md.2.1.2.1)), (a_md 8, .inl (kA 2, 80, .inr (.inl md.2.1.2.2.1))), (a_md 9, .inl (kA 2, 80, .inr (.inl md.2.1.2.2.2.1))), (a_md 10, .inl (kA 0, 80, .inl md.2.1.2.2.2.2.1)), (a_md 11, .inl (kA 0, 80, .inl md.2.1.2.2.2.2.2.1)), (a_md 12, .inl (kA 0, 80, .inl md.2.1.2.2.2.2.2.2.1)), (a_md 13, .inl (kA 0, 3840, .inl md.2.1.2.2.2.2.2.2.2.1)), (a_md 14, .inl (kA 0, 240, .inl (upd md.2.1.2.2.2.2.2.2.2.2 (((3 : Int32) * p1) + p2).toNatClampNeg (0 : Int32)))), (a_md 16, .inl (kA 0, 24, .inl md.2.2.1.2.1)), (a_md 17, .inl (kA 0, 24, .inl md.2.2.1.2.2.1)), (a_md 18, .inl (kA 2, 24, .inr (.inl md.2.2.1.2.2.2.1))), (a_md 19, .inl (kA 2, 24, .inr (.inl md.2.2.1.2.2.2.2.1))), (a_md 20, .inl (kA 2, 24, .inr (.inl md.2.2.1.2.2.2.2.2.1))), (a_md 21, .inl (kA 2, 24, .inr (.inl md.2.2.1.2.2.2.2.2.2.1))), (a_md 22, .inl (kA 3, 24, .inl md.2.2.1.2.2.2.2.2.2.2)), (a_md 28, .inl (kA 0, 40, .inl md.2.2.2.1.2.2.2.2.2.1)), (a_md 29, .inl (kA 0, 40, .inl md.2.2.2.1.2.2.2.2.2.2)), (a_md 30, .inl (kA 3, 17, .inl md.2.2.2.2.1))] H := hP
    have hD : va_D A [(a_md 0, .inr (6, [.int md.1.1, .ref (a_md 2), .ref (a_md 3), .ref (a_md 4), .int md.1.2.2.2.2, .int md.2.1.1, .ref (a_md 7), .ref (a_md 8), .ref (a_md 9), .ref (a_md 10), .ref (a_md 11), .ref (a_md 12), .ref (a_md 13), .ref (a_md 14), .int md.2.2.1.1, .ref (a_md 16), .ref (a_md 17), .ref (a_md 18), .ref (a_md 19), .ref (a_md 20), .ref (a_md 21), .ref (a_md 22), .int md.2.2.2.1.1, .int md.2.2.2.1.2.1, .int md.2.2.2.1.2.2.1, .int md.2.2.2.1.2.2.2.1, .int md.2.2.2.1.2.2.2.2.1, .ref (a_md 28), .ref (a_md 29), .ref (a_md 30), .int md.2.2.2.2.2.1, .int md.2.2.2.2.2.2.1, .int md.2.2.2.2.2.2.2])), (a_md 2, .inl (kA 0, 640, .inl md.1.2.1)), (a_md 3, .inl (kA 0, 40, .inl md.1.2.2.1)), (a_md 4, .inl (kA 0, 1200, .inl md.1.2.2.2.1)), (a_md 7, .inl (kA 0, 80, .inl md.2.1.2.1)), (a_md 8, .inl (kA 2, 80, .inr (.inl md.2.1.2.2.1))), (a_md 9, .inl (kA 2, 80, .inr (.inl md.2.1.2.2.2.1))), (a_md 10, .inl (kA 0, 80, .inl md.2.1.2.2.2.2.1)), (a_md 11, .inl (kA 0, 80, .inl md.2.1.2.2.2.2.2.1)), (a_md 12, .inl (kA 0, 80, .inl md.2.1.2.2.2.2.2.2.1)), (a_md 13, .inl (kA 0, 3840, .inl md.2.1.2.2.2.2.2.2.2.1)), (a_md 14, .inl (kA 0, 240, .inl (upd md.2.1.2.2.2.2.2.2.2.2 (((3 : Int32) * p1) + p2).toNatClampNeg (0 : Int32)))), (a_md 16, .inl (kA 0, 24, .inl md.2.2.1.2.1)), (a_md 17, .inl (kA 0, 24, .inl md.2.2.1.2.2.1)), (a_md 18, .inl (kA 2, 24, .inr (.inl md.2.2.1.2.2.2.1))), (a_md 19, .inl (kA 2, 24, .inr (.inl md.2.2.1.2.2.2.2.1))), (a_md 20, .inl (kA 2, 24, .inr (.inl md.2.2.1.2.2.2.2.2.1))), (a_md 21, .inl (kA 2, 24, .inr (.inl md.2.2.1.2.2.2.2.2.2.1))), (a_md 22, .inl (kA 3, 24, .inl md.2.2.1.2.2.2.2.2.2.2)), (a_md 28, .inl (kA 0, 40, .inl md.2.2.2.1.2.2.2.2.2.1)), (a_md 29, .inl (kA 0, 40, .inl md.2.2.2.1.2.2.2.2.2.2)), (a_md 30, .inl (kA 3, 17, .inl md.2.2.2.2.1))] := hD
    refine lv_aload_n hx hb dX6_takePattern_53 rfl (lv_at hl 2 rfl) ?_
    refine va_get (D := D) (ci := 6) (v := .int md.2.2.2.1.1) (C := "ConstraintTextModel") (T := TX6) (N := 33) hx hb hts ing6 hown hK hP 0 rfl rfl 22 (by decide) (hts _ tw_872) (fun _ h9 => h9) rfl dX6_takePattern_54 ?_
    refine lv_istore (lv' := [(6, .int md.2.2.2.1.1), (5, .int (((3 : Int32) * p1) + p2)), (4, .int v36), (0, .ref (a_md 0)), (1, .int p1), (2, .int p2)]) hx hb dX6_takePattern_57 hl (by decide) rfl (fun ls hl => ?_)
    obtain ⟨k59, e59, hk59, hi59, hc59⟩ := bnd_name h
    have x122w : ∀ (x122 : T6) (H : Heap) (locs : List Loc) (ls : Array Slot), k59 x122 = some res → va_P D vwCl [(a_md 0, .inr (6, [.int x122.1.1, .ref (a_md 2), .ref (a_md 3), .ref (a_md 4), .int x122.1.2.2.2.2, .int x122.2.1.1, .ref (a_md 7), .ref (a_md 8), .ref (a_md 9), .ref (a_md 10), .ref (a_md 11), .ref (a_md 12), .ref (a_md 13), .ref (a_md 14), .int x122.2.2.1.1, .ref (a_md 16), .ref (a_md 17), .ref (a_md 18), .ref (a_md 19), .ref (a_md 20), .ref (a_md 21), .ref (a_md 22), .int x122.2.2.2.1.1, .int x122.2.2.2.1.2.1, .int x122.2.2.2.1.2.2.1, .int x122.2.2.2.1.2.2.2.1, .int x122.2.2.2.1.2.2.2.2.1, .ref (a_md 28), .ref (a_md 29), .ref (a_md 30), .int x122.2.2.2.2.2.1, .int x122.2.2.2.2.2.2.1, .int x122.2.2.2.2.2.2.2])), (a_md 2, .inl (kA 0, 640, .inl x122.1.2.1)), (a_md 3, .inl (kA 0, 40, .inl x122.1.2.2.1)), (a_md 4, .inl (kA 0, 1200, .inl x122.1.2.2.2.1)), (a_md 7, .inl (kA 0, 80, .inl x122.2.1.2.1)), (a_md 8, .inl (kA 2, 80, .inr (.inl x122.2.1.2.2.1))), (a_md 9, .inl (kA 2, 80, .inr (.inl x122.2.1.2.2.2.1))), (a_md 10, .inl (kA 0, 80, .inl x122.2.1.2.2.2.2.1)), (a_md 11, .inl (kA 0, 80, .inl x122.2.1.2.2.2.2.2.1)), (a_md 12, .inl (kA 0, 80, .inl x122.2.1.2.2.2.2.2.2.1)), (a_md 13, .inl (kA 0, 3840, .inl x122.2.1.2.2.2.2.2.2.2.1)), (a_md 14, .inl (kA 0, 240, .inl x122.2.1.2.2.2.2.2.2.2.2)), (a_md 16, .inl (kA 0, 24, .inl x122.2.2.1.2.1)), (a_md 17, .inl (kA 0, 24, .inl x122.2.2.1.2.2.1)), (a_md 18, .inl (kA 2, 24, .inr (.inl x122.2.2.1.2.2.2.1))), (a_md 19, .inl (kA 2, 24, .inr (.inl x122.2.2.1.2.2.2.2.1))), (a_md 20, .inl (kA 2, 24, .inr (.inl x122.2.2.1.2.2.2.2.2.1))), (a_md 21, .inl (kA 2, 24, .inr (.inl x122.2.2.1.2.2.2.2.2.2.1))), (a_md 22, .inl (kA 3, 24, .inl x122.2.2.1.2.2.2.2.2.2.2)), (a_md 28, .inl (kA 0, 40, .inl x122.2.2.2.1.2.2.2.2.2.1)), (a_md 29, .inl (kA 0, 40, .inl x122.2.2.2.1.2.2.2.2.2.2)), (a_md 30, .inl (kA 3, 17, .inl x122.2.2.2.2.1))] H → va_D A [(a_md 0, .inr (6, [.int x122.1.1, .ref (a_md 2), .ref (a_md 3), .ref (a_md 4), .int x122.1.2.2.2.2, .int x122.2.1.1, .ref (a_md 7), .ref (a_md 8), .ref (a_md 9), .ref (a_md 10), .ref (a_md 11), .ref (a_md 12), .ref (a_md 13), .ref (a_md 14), .int x122.2.2.1.1, .ref (a_md 16), .ref (a_md 17), .ref (a_md 18), .ref (a_md 19), .ref (a_md 20), .ref (a_md 21), .ref (a_md 22), .int x122.2.2.2.1.1, .int x122.2.2.2.1.2.1, .int x122.2.2.2.1.2.2.1, .int x122.2.2.2.1.2.2.2.1, .int x122.2.2.2.1.2.2.2.2.1, .ref (a_md 28), .ref (a_md 29), .ref (a_md 30), .int x122.2.2.2.2.2.1, .int x122.2.2.2.2.2.2.1, .int x122.2.2.2.2.2.2.2])), (a_md 2, .inl (kA 0, 640, .inl x122.1.2.1)), (a_md 3, .inl (kA 0, 40, .inl x122.1.2.2.1)), (a_md 4, .inl (kA 0, 1200, .inl x122.1.2.2.2.1)), (a_md 7, .inl (kA 0, 80, .inl x122.2.1.2.1)), (a_md 8, .inl (kA 2, 80, .inr (.inl x122.2.1.2.2.1))), (a_md 9, .inl (kA 2, 80, .inr (.inl x122.2.1.2.2.2.1))), (a_md 10, .inl (kA 0, 80, .inl x122.2.1.2.2.2.2.1)), (a_md 11, .inl (kA 0, 80, .inl x122.2.1.2.2.2.2.2.1)), (a_md 12, .inl (kA 0, 80, .inl x122.2.1.2.2.2.2.2.2.1)), (a_md 13, .inl (kA 0, 3840, .inl x122.2.1.2.2.2.2.2.2.2.1)), (a_md 14, .inl (kA 0, 240, .inl x122.2.1.2.2.2.2.2.2.2.2)), (a_md 16, .inl (kA 0, 24, .inl x122.2.2.1.2.1)), (a_md 17, .inl (kA 0, 24, .inl x122.2.2.1.2.2.1)), (a_md 18, .inl (kA 2, 24, .inr (.inl x122.2.2.1.2.2.2.1))), (a_md 19, .inl (kA 2, 24, .inr (.inl x122.2.2.1.2.2.2.2.1))), (a_md 20, .inl (kA 2, 24, .inr (.inl x122.2.2.1.2.2.2.2.2.1))), (a_md 21, .inl (kA 2, 24, .inr (.inl x122.2.2.1.2.2.2.2.2.2.1))), (a_md 22, .inl (kA 3, 24, .inl x122.2.2.1.2.2.2.2.2.2.2)), (a_md 28, .inl (kA 0, 40, .inl x122.2.2.2.1.2.2.2.2.2.1)), (a_md 29, .inl (kA 0, 40, .inl x122.2.2.2.1.2.2.2.2.2.2)), (a_md 30, .inl (kA 3, 17, .inl x122.2.2.2.2.1))] → va_S A s.heap H locs → lv_has ls 7 [(0, .ref (a_md 0)), (4, .int v36)] → W p l e rm6_takePattern s m args below meth c H locs 0 0 Q (F0 m 122 ls []) := by
      intro x122 H locs ls h hP hD hS hl
      have h := app_of hk59 h
      refine lv_aload_n hx hb dX6_takePattern_122 rfl (lv_at hl 0 rfl) ?_
      refine lv_iload hx hb dX6_takePattern_123 (lv_at hl 1 rfl) ?_
      obtain ⟨k140, hk140, h⟩ := jn_name h
      have j140 : ∀ (v140 : Int32) (H : Heap) (locs : List Loc) (ls : Array Slot), k140 v140 = some res → va_P D vwCl [(a_md 0, .inr (6, [.int x122.1.1, .ref (a_md 2), .ref (a_md 3), .ref (a_md 4), .int x122.1.2.2.2.2, .int x122.2.1.1, .ref (a_md 7), .ref (a_md 8), .ref (a_md 9), .ref (a_md 10), .ref (a_md 11), .ref (a_md 12), .ref (a_md 13), .ref (a_md 14), .int x122.2.2.1.1, .ref (a_md 16), .ref (a_md 17), .ref (a_md 18), .ref (a_md 19), .ref (a_md 20), .ref (a_md 21), .ref (a_md 22), .int x122.2.2.2.1.1, .int x122.2.2.2.1.2.1, .int x122.2.2.2.1.2.2.1, .int x122.2.2.2.1.2.2.2.1, .int x122.2.2.2.1.2.2.2.2.1, .ref (a_md 28), .ref (a_md 29), .ref (a_md 30), .int x122.2.2.2.2.2.1, .int x122.2.2.2.2.2.2.1, .int x122.2.2.2.2.2.2.2])), (a_md 2, .inl (kA 0, 640, .inl x122.1.2.1)), (a_md 3, .inl (kA 0, 40, .inl x122.1.2.2.1)), (a_md 4, .inl (kA 0, 1200, .inl x122.1.2.2.2.1)), (a_md 7, .inl (kA 0, 80, .inl x122.2.1.2.1)), (a_md 8, .inl (kA 2, 80, .inr (.inl x122.2.1.2.2.1))), (a_md 9, .inl (kA 2, 80, .inr (.inl x122.2.1.2.2.2.1))), (a_md 10, .inl (kA 0, 80, .inl x122.2.1.2.2.2.2.1)), (a_md 11, .inl (kA 0, 80, .inl x122.2.1.2.2.2.2.2.1)), (a_md 12, .inl (kA 0, 80, .inl x122.2.1.2.2.2.2.2.2.1)), (a_md 13, .inl (kA 0, 3840, .inl x122.2.1.2.2.2.2.2.2.2.1)), (a_md 14, .inl (kA 0, 240, .inl x122.2.1.2.2.2.2.2.2.2.2)), (a_md 16, .inl (kA 0, 24, .inl x122.2.2.1.2.1)), (a_md 17, .inl (kA 0, 24, .inl x122.2.2.1.2.2.1)), (a_md 18, .inl (kA 2, 24, .inr (.inl x122.2.2.1.2.2.2.1))), (a_md 19, .inl (kA 2, 24, .inr (.inl x122.2.2.1.2.2.2.2.1))), (a_md 20, .inl (kA 2, 24, .inr (.inl x122.2.2.1.2.2.2.2.2.1))), (a_md 21, .inl (kA 2, 24, .inr (.inl x122.2.2.1.2.2.2.2.2.2.1))), (a_md 22, .inl (kA 3, 24, .inl x122.2.2.1.2.2.2.2.2.2.2)), (a_md 28, .inl (kA 0, 40, .inl x122.2.2.2.1.2.2.2.2.2.1)), (a_md 29, .inl (kA 0, 40, .inl x122.2.2.2.1.2.2.2.2.2.2)), (a_md 30, .inl (kA 3, 17, .inl x122.2.2.2.2.1))] H → va_D A [(a_md 0, .inr (6, [.int x122.1.1, .ref (a_md 2), .ref (a_md 3), .ref (a_md 4), .int x122.1.2.2.2.2, .int x122.2.1.1, .ref (a_md 7), .ref (a_md 8), .ref (a_md 9), .ref (a_md 10), .ref (a_md 11), .ref (a_md 12), .ref (a_md 13), .ref (a_md 14), .int x122.2.2.1.1, .ref (a_md 16), .ref (a_md 17), .ref (a_md 18), .ref (a_md 19), .ref (a_md 20), .ref (a_md 21), .ref (a_md 22), .int x122.2.2.2.1.1, .int x122.2.2.2.1.2.1, .int x122.2.2.2.1.2.2.1, .int x122.2.2.2.1.2.2.2.1, .int x122.2.2.2.1.2.2.2.2.1, .ref (a_md 28), .ref (a_md 29), .ref (a_md 30), .int x122.2.2.2.2.2.1, .int x122.2.2.2.2.2.2.1, .int x122.2.2.2.2.2.2.2])), (a_md 2, .inl (kA 0, 640, .inl x122.1.2.1)), (a_md 3, .inl (kA 0, 40, .inl x122.1.2.2.1)), (a_md 4, .inl (kA 0, 1200, .inl x122.1.2.2.2.1)), (a_md 7, .inl (kA 0, 80, .inl x122.2.1.2.1)), (a_md 8, .inl (kA 2, 80, .inr (.inl x122.2.1.2.2.1))), (a_md 9, .inl (kA 2, 80, .inr (.inl x122.2.1.2.2.2.1))), (a_md 10, .inl (kA 0, 80, .inl x122.2.1.2.2.2.2.1)), (a_md 11, .inl (kA 0, 80, .inl x122.2.1.2.2.2.2.2.1)), (a_md 12, .inl (kA 0, 80, .inl x122.2.1.2.2.2.2.2.2.1)), (a_md 13, .inl (kA 0, 3840, .inl x122.2.1.2.2.2.2.2.2.2.1)), (a_md 14, .inl (kA 0, 240, .inl x122.2.1.2.2.2.2.2.2.2.2)), (a_md 16, .inl (kA 0, 24, .inl x122.2.2.1.2.1)), (a_md 17, .inl (kA 0, 24, .inl x122.2.2.1.2.2.1)), (a_md 18, .inl (kA 2, 24, .inr (.inl x122.2.2.1.2.2.2.1))), (a_md 19, .inl (kA 2, 24, .inr (.inl x122.2.2.1.2.2.2.2.1))), (a_md 20, .inl (kA 2, 24, .inr (.inl x122.2.2.1.2.2.2.2.2.1))), (a_md 21, .inl (kA 2, 24, .inr (.inl x122.2.2.1.2.2.2.2.2.2.1))), (a_md 22, .inl (kA 3, 24, .inl x122.2.2.1.2.2.2.2.2.2.2)), (a_md 28, .inl (kA 0, 40, .inl x122.2.2.2.1.2.2.2.2.2.1)), (a_md 29, .inl (kA 0, 40, .inl x122.2.2.2.1.2.2.2.2.2.2)), (a_md 30, .inl (kA 3, 17, .inl x122.2.2.2.2.1))] → va_S A s.heap H locs → lv_has ls 7 [] → W p l e rm6_takePattern s m args below meth c H locs 0 0 Q (F0 m 140 ls [.int v140, .ref (a_md 0)]) := by
        intro v140 H locs ls h hP hD hS hl
        have h := app_of hk140 h
        obtain ⟨u140, hc_140, h⟩ := bnd_some h
        refine rw_V (wr := []) (n := 1) (As := [.int v140]) (rest := []) hx hb hml hown hts hN hS hK hP hD hA (c6_take l D kA a_md F v140 x122 u140 hc_140) [0, 1, 2, 3, 4, 5, 6, 7, 8, 9, 10, 11, 12, 13, 14, 15, 16, 17, 18, 19, 20, 21] [] rfl (by decide) rfl (by decide) (by decide) 0 6 rfl rfl rfl tw_1000 tw_1002 tw_40 tw_80 tw_1003 rfl rfl (by decide) ⟨Nat.le_of_ble_eq_true rfl, Nat.le_of_ble_eq_true rfl⟩ rfl hl.1 rfl (Nat.le_of_ble_eq_true rfl) dX6_takePattern_140 ⟨Nat.le_of_ble_eq_true rfl, Nat.le_of_ble_eq_true rfl⟩ (fun H locs hP hD hS => ?_)
        have hP : va_P D vwCl [(a_md 0, .inr (6, [.int u140.1.1, .ref (a_md 2), .ref (a_md 3), .ref (a_md 4), .int u140.1.2.2.2.2, .int u140.2.1.1, .ref (a_md 7), .ref (a_md 8), .ref (a_md 9), .ref (a_md 10), .ref (a_md 11), .ref (a_md 12), .ref (a_md 13), .ref (a_md 14), .int u140.2.2.1.1, .ref (a_md 16), .ref (a_md 17), .ref (a_md 18), .ref (a_md 19), .ref (a_md 20), .ref (a_md 21), .ref (a_md 22), .int u140.2.2.2.1.1, .int u140.2.2.2.1.2.1, .int u140.2.2.2.1.2.2.1, .int u140.2.2.2.1.2.2.2.1, .int u140.2.2.2.1.2.2.2.2.1, .ref (a_md 28), .ref (a_md 29), .ref (a_md 30), .int u140.2.2.2.2.2.1, .int u140.2.2.2.2.2.2.1, .int u140.2.2.2.2.2.2.2])), (a_md 2, .inl (kA 0, 640, .inl u140.1.2.1)), (a_md 3, .inl (kA 0, 40, .inl u140.1.2.2.1)), (a_md 4, .inl (kA 0, 1200, .inl u140.1.2.2.2.1)), (a_md 7, .inl (kA 0, 80, .inl u140.2.1.2.1)), (a_md 8, .inl (kA 2, 80, .inr (.inl u140.2.1.2.2.1))), (a_md 9, .inl (kA 2, 80, .inr (.inl u140.2.1.2.2.2.1))), (a_md 10, .inl (kA 0, 80, .inl u140.2.1.2.2.2.2.1)), (a_md 11, .inl (kA 0, 80, .inl u140.2.1.2.2.2.2.2.1)), (a_md 12, .inl (kA 0, 80, .inl u140.2.1.2.2.2.2.2.2.1)), (a_md 13, .inl (kA 0, 3840, .inl u140.2.1.2.2.2.2.2.2.2.1)), (a_md 14, .inl (kA 0, 240, .inl u140.2.1.2.2.2.2.2.2.2.2)), (a_md 16, .inl (kA 0, 24, .inl u140.2.2.1.2.1)), (a_md 17, .inl (kA 0, 24, .inl u140.2.2.1.2.2.1)), (a_md 18, .inl (kA 2, 24, .inr (.inl u140.2.2.1.2.2.2.1))), (a_md 19, .inl (kA 2, 24, .inr (.inl u140.2.2.1.2.2.2.2.1))), (a_md 20, .inl (kA 2, 24, .inr (.inl u140.2.2.1.2.2.2.2.2.1))), (a_md 21, .inl (kA 2, 24, .inr (.inl u140.2.2.1.2.2.2.2.2.2.1))), (a_md 22, .inl (kA 3, 24, .inl u140.2.2.1.2.2.2.2.2.2.2)), (a_md 28, .inl (kA 0, 40, .inl u140.2.2.2.1.2.2.2.2.2.1)), (a_md 29, .inl (kA 0, 40, .inl u140.2.2.2.1.2.2.2.2.2.2)), (a_md 30, .inl (kA 3, 17, .inl u140.2.2.2.2.1))] H := hP
        have hD : va_D A [(a_md 0, .inr (6, [.int u140.1.1, .ref (a_md 2), .ref (a_md 3), .ref (a_md 4), .int u140.1.2.2.2.2, .int u140.2.1.1, .ref (a_md 7), .ref (a_md 8), .ref (a_md 9), .ref (a_md 10), .ref (a_md 11), .ref (a_md 12), .ref (a_md 13), .ref (a_md 14), .int u140.2.2.1.1, .ref (a_md 16), .ref (a_md 17), .ref (a_md 18), .ref (a_md 19), .ref (a_md 20), .ref (a_md 21), .ref (a_md 22), .int u140.2.2.2.1.1, .int u140.2.2.2.1.2.1, .int u140.2.2.2.1.2.2.1, .int u140.2.2.2.1.2.2.2.1, .int u140.2.2.2.1.2.2.2.2.1, .ref (a_md 28), .ref (a_md 29), .ref (a_md 30), .int u140.2.2.2.2.2.1, .int u140.2.2.2.2.2.2.1, .int u140.2.2.2.2.2.2.2])), (a_md 2, .inl (kA 0, 640, .inl u140.1.2.1)), (a_md 3, .inl (kA 0, 40, .inl u140.1.2.2.1)), (a_md 4, .inl (kA 0, 1200, .inl u140.1.2.2.2.1)), (a_md 7, .inl (kA 0, 80, .inl u140.2.1.2.1)), (a_md 8, .inl (kA 2, 80, .inr (.inl u140.2.1.2.2.1))), (a_md 9, .inl (kA 2, 80, .inr (.inl u140.2.1.2.2.2.1))), (a_md 10, .inl (kA 0, 80, .inl u140.2.1.2.2.2.2.1)), (a_md 11, .inl (kA 0, 80, .inl u140.2.1.2.2.2.2.2.1)), (a_md 12, .inl (kA 0, 80, .inl u140.2.1.2.2.2.2.2.2.1)), (a_md 13, .inl (kA 0, 3840, .inl u140.2.1.2.2.2.2.2.2.2.1)), (a_md 14, .inl (kA 0, 240, .inl u140.2.1.2.2.2.2.2.2.2.2)), (a_md 16, .inl (kA 0, 24, .inl u140.2.2.1.2.1)), (a_md 17, .inl (kA 0, 24, .inl u140.2.2.1.2.2.1)), (a_md 18, .inl (kA 2, 24, .inr (.inl u140.2.2.1.2.2.2.1))), (a_md 19, .inl (kA 2, 24, .inr (.inl u140.2.2.1.2.2.2.2.1))), (a_md 20, .inl (kA 2, 24, .inr (.inl u140.2.2.1.2.2.2.2.2.1))), (a_md 21, .inl (kA 2, 24, .inr (.inl u140.2.2.1.2.2.2.2.2.2.1))), (a_md 22, .inl (kA 3, 24, .inl u140.2.2.1.2.2.2.2.2.2.2)), (a_md 28, .inl (kA 0, 40, .inl u140.2.2.2.1.2.2.2.2.2.1)), (a_md 29, .inl (kA 0, 40, .inl u140.2.2.2.1.2.2.2.2.2.2)), (a_md 30, .inl (kA 3, 17, .inl u140.2.2.2.2.1))] := hD
        obtain rfl := Option.some.inj h
        rw [← hQ]
        exact rw_return hx hb hr hk  dX6_takePattern_143  hP hD hS
      obtain ⟨k135, hk135, h⟩ := jn_name h
      have j135 : ∀ (v135 : Unit) (H : Heap) (locs : List Loc) (ls : Array Slot), k135 v135 = some res → va_P D vwCl [(a_md 0, .inr (6, [.int x122.1.1, .ref (a_md 2), .ref (a_md 3), .ref (a_md 4), .int x122.1.2.2.2.2, .int x122.2.1.1, .ref (a_md 7), .ref (a_md 8), .ref (a_md 9), .ref (a_md 10), .ref (a_md 11), .ref (a_md 12), .ref (a_md 13), .ref (a_md 14), .int x122.2.2.1.1, .ref (a_md 16), .ref (a_md 17), .ref (a_md 18), .ref (a_md 19), .ref (a_md 20), .ref (a_md 21), .ref (a_md 22), .int x122.2.2.2.1.1, .int x122.2.2.2.1.2.1, .int x122.2.2.2.1.2.2.1, .int x122.2.2.2.1.2.2.2.1, .int x122.2.2.2.1.2.2.2.2.1, .ref (a_md 28), .ref (a_md 29), .ref (a_md 30), .int x122.2.2.2.2.2.1, .int x122.2.2.2.2.2.2.1, .int x122.2.2.2.2.2.2.2])), (a_md 2, .inl (kA 0, 640, .inl x122.1.2.1)), (a_md 3, .inl (kA 0, 40, .inl x122.1.2.2.1)), (a_md 4, .inl (kA 0, 1200, .inl x122.1.2.2.2.1)), (a_md 7, .inl (kA 0, 80, .inl x122.2.1.2.1)), (a_md 8, .inl (kA 2, 80, .inr (.inl x122.2.1.2.2.1))), (a_md 9, .inl (kA 2, 80, .inr (.inl x122.2.1.2.2.2.1))), (a_md 10, .inl (kA 0, 80, .inl x122.2.1.2.2.2.2.1)), (a_md 11, .inl (kA 0, 80, .inl x122.2.1.2.2.2.2.2.1)), (a_md 12, .inl (kA 0, 80, .inl x122.2.1.2.2.2.2.2.2.1)), (a_md 13, .inl (kA 0, 3840, .inl x122.2.1.2.2.2.2.2.2.2.1)), (a_md 14, .inl (kA 0, 240, .inl x122.2.1.2.2.2.2.2.2.2.2)), (a_md 16, .inl (kA 0, 24, .inl x122.2.2.1.2.1)), (a_md 17, .inl (kA 0, 24, .inl x122.2.2.1.2.2.1)), (a_md 18, .inl (kA 2, 24, .inr (.inl x122.2.2.1.2.2.2.1))), (a_md 19, .inl (kA 2, 24, .inr (.inl x122.2.2.1.2.2.2.2.1))), (a_md 20, .inl (kA 2, 24, .inr (.inl x122.2.2.1.2.2.2.2.2.1))), (a_md 21, .inl (kA 2, 24, .inr (.inl x122.2.2.1.2.2.2.2.2.2.1))), (a_md 22, .inl (kA 3, 24, .inl x122.2.2.1.2.2.2.2.2.2.2)), (a_md 28, .inl (kA 0, 40, .inl x122.2.2.2.1.2.2.2.2.2.1)), (a_md 29, .inl (kA 0, 40, .inl x122.2.2.2.1.2.2.2.2.2.2)), (a_md 30, .inl (kA 3, 17, .inl x122.2.2.2.2.1))] H → va_D A [(a_md 0, .inr (6, [.int x122.1.1, .ref (a_md 2), .ref (a_md 3), .ref (a_md 4), .int x122.1.2.2.2.2, .int x122.2.1.1, .ref (a_md 7), .ref (a_md 8), .ref (a_md 9), .ref (a_md 10), .ref (a_md 11), .ref (a_md 12), .ref (a_md 13), .ref (a_md 14), .int x122.2.2.1.1, .ref (a_md 16), .ref (a_md 17), .ref (a_md 18), .ref (a_md 19), .ref (a_md 20), .ref (a_md 21), .ref (a_md 22), .int x122.2.2.2.1.1, .int x122.2.2.2.1.2.1, .int x122.2.2.2.1.2.2.1, .int x122.2.2.2.1.2.2.2.1, .int x122.2.2.2.1.2.2.2.2.1, .ref (a_md 28), .ref (a_md 29), .ref (a_md 30), .int x122.2.2.2.2.2.1, .int x122.2.2.2.2.2.2.1, .int x122.2.2.2.2.2.2.2])), (a_md 2, .inl (kA 0, 640, .inl x122.1.2.1)), (a_md 3, .inl (kA 0, 40, .inl x122.1.2.2.1)), (a_md 4, .inl (kA 0, 1200, .inl x122.1.2.2.2.1)), (a_md 7, .inl (kA 0, 80, .inl x122.2.1.2.1)), (a_md 8, .inl (kA 2, 80, .inr (.inl x122.2.1.2.2.1))), (a_md 9, .inl (kA 2, 80, .inr (.inl x122.2.1.2.2.2.1))), (a_md 10, .inl (kA 0, 80, .inl x122.2.1.2.2.2.2.1)), (a_md 11, .inl (kA 0, 80, .inl x122.2.1.2.2.2.2.2.1)), (a_md 12, .inl (kA 0, 80, .inl x122.2.1.2.2.2.2.2.2.1)), (a_md 13, .inl (kA 0, 3840, .inl x122.2.1.2.2.2.2.2.2.2.1)), (a_md 14, .inl (kA 0, 240, .inl x122.2.1.2.2.2.2.2.2.2.2)), (a_md 16, .inl (kA 0, 24, .inl x122.2.2.1.2.1)), (a_md 17, .inl (kA 0, 24, .inl x122.2.2.1.2.2.1)), (a_md 18, .inl (kA 2, 24, .inr (.inl x122.2.2.1.2.2.2.1))), (a_md 19, .inl (kA 2, 24, .inr (.inl x122.2.2.1.2.2.2.2.1))), (a_md 20, .inl (kA 2, 24, .inr (.inl x122.2.2.1.2.2.2.2.2.1))), (a_md 21, .inl (kA 2, 24, .inr (.inl x122.2.2.1.2.2.2.2.2.2.1))), (a_md 22, .inl (kA 3, 24, .inl x122.2.2.1.2.2.2.2.2.2.2)), (a_md 28, .inl (kA 0, 40, .inl x122.2.2.2.1.2.2.2.2.2.1)), (a_md 29, .inl (kA 0, 40, .inl x122.2.2.2.1.2.2.2.2.2.2)), (a_md 30, .inl (kA 3, 17, .inl x122.2.2.2.2.1))] → va_S A s.heap H locs → lv_has ls 7 [] → W p l e rm6_takePattern s m args below meth c H locs 0 0 Q (F0 m 135 ls [.ref (a_md 0)]) := by
        intro v135 H locs ls h hP hD hS hl
        have h := app_of hk135 h
        refine lv_iconst (v := 1) hx hb dX6_takePattern_135 (by decide) ?_
        refine lv_goto (tgt := 140) hx hb dX6_takePattern_136 (by decide) ?_
        exact j140 _ _ _ ls h hP hD hS hl
      refine lv_if_ne (tgt := 135) hx hb dX6_takePattern_125 (by decide) (fun bc => ?_) (fun bc => ?_)
      · have h := ite_f bc h
        exact j135 _ _ _ ls h hP hD hS (lv_sub hl [] rfl)
      · have h := ite_t bc h
        refine lv_aload_n hx hb dX6_takePattern_128 rfl (lv_at hl 0 rfl) ?_
        obtain ⟨u129, hc_129, h⟩ := bnd_some h
        refine ro_V (n := 0) (As := []) (rest := [.ref (a_md 0)]) hx hb hml hown hts hN hS hK hP (c6_isPattern l D kA a_md F x122 u129 hc_129) [0, 1, 2, 3, 4, 5, 6, 7, 8, 9, 10, 11, 12, 13, 14, 15, 16, 17, 18, 19, 20, 21] rfl 0 6 rfl rfl rfl tw_1029 tw_1031 tw_47 tw_80 tw_1032 rfl rfl (by decide) ⟨Nat.le_of_ble_eq_true rfl, Nat.le_of_ble_eq_true rfl⟩ rfl hl.1 rfl (Nat.le_of_ble_eq_true rfl) dX6_takePattern_129 ⟨Nat.le_of_ble_eq_true rfl, Nat.le_of_ble_eq_true rfl⟩ ?_
        refine lv_if_eq (tgt := 139) hx hb dX6_takePattern_132 (by decide) (fun bc => ?_) (fun bc => ?_)
        · have h := ite_t bc h
          refine lv_iconst (v := 0) hx hb dX6_takePattern_139 (by decide) ?_
          exact j140 _ _ _ ls h hP hD hS (lv_sub hl [] rfl)
        · have h := ite_f bc h
          exact j135 _ _ _ ls h hP hD hS (lv_sub hl [] rfl)
    have lp59 : ∀ (n59 : Nat) (s59 : Int32 × T6) (H : Heap) (locs : List Loc) (ls : Array Slot), iter (f6_takePattern_L59 F p1 p2 v36) n59 s59 = some e59 → va_P D vwCl [(a_md 0, .inr (6, [.int s59.2.1.1, .ref (a_md 2), .ref (a_md 3), .ref (a_md 4), .int s59.2.1.2.2.2.2, .int s59.2.2.1.1, .ref (a_md 7), .ref (a_md 8), .ref (a_md 9), .ref (a_md 10), .ref (a_md 11), .ref (a_md 12), .ref (a_md 13), .ref (a_md 14), .int s59.2.2.2.1.1, .ref (a_md 16), .ref (a_md 17), .ref (a_md 18), .ref (a_md 19), .ref (a_md 20), .ref (a_md 21), .ref (a_md 22), .int s59.2.2.2.2.1.1, .int s59.2.2.2.2.1.2.1, .int s59.2.2.2.2.1.2.2.1, .int s59.2.2.2.2.1.2.2.2.1, .int s59.2.2.2.2.1.2.2.2.2.1, .ref (a_md 28), .ref (a_md 29), .ref (a_md 30), .int s59.2.2.2.2.2.2.1, .int s59.2.2.2.2.2.2.2.1, .int s59.2.2.2.2.2.2.2.2])), (a_md 2, .inl (kA 0, 640, .inl s59.2.1.2.1)), (a_md 3, .inl (kA 0, 40, .inl s59.2.1.2.2.1)), (a_md 4, .inl (kA 0, 1200, .inl s59.2.1.2.2.2.1)), (a_md 7, .inl (kA 0, 80, .inl s59.2.2.1.2.1)), (a_md 8, .inl (kA 2, 80, .inr (.inl s59.2.2.1.2.2.1))), (a_md 9, .inl (kA 2, 80, .inr (.inl s59.2.2.1.2.2.2.1))), (a_md 10, .inl (kA 0, 80, .inl s59.2.2.1.2.2.2.2.1)), (a_md 11, .inl (kA 0, 80, .inl s59.2.2.1.2.2.2.2.2.1)), (a_md 12, .inl (kA 0, 80, .inl s59.2.2.1.2.2.2.2.2.2.1)), (a_md 13, .inl (kA 0, 3840, .inl s59.2.2.1.2.2.2.2.2.2.2.1)), (a_md 14, .inl (kA 0, 240, .inl s59.2.2.1.2.2.2.2.2.2.2.2)), (a_md 16, .inl (kA 0, 24, .inl s59.2.2.2.1.2.1)), (a_md 17, .inl (kA 0, 24, .inl s59.2.2.2.1.2.2.1)), (a_md 18, .inl (kA 2, 24, .inr (.inl s59.2.2.2.1.2.2.2.1))), (a_md 19, .inl (kA 2, 24, .inr (.inl s59.2.2.2.1.2.2.2.2.1))), (a_md 20, .inl (kA 2, 24, .inr (.inl s59.2.2.2.1.2.2.2.2.2.1))), (a_md 21, .inl (kA 2, 24, .inr (.inl s59.2.2.2.1.2.2.2.2.2.2.1))), (a_md 22, .inl (kA 3, 24, .inl s59.2.2.2.1.2.2.2.2.2.2.2)), (a_md 28, .inl (kA 0, 40, .inl s59.2.2.2.2.1.2.2.2.2.2.1)), (a_md 29, .inl (kA 0, 40, .inl s59.2.2.2.2.1.2.2.2.2.2.2)), (a_md 30, .inl (kA 3, 17, .inl s59.2.2.2.2.2.1))] H → va_D A [(a_md 0, .inr (6, [.int s59.2.1.1, .ref (a_md 2), .ref (a_md 3), .ref (a_md 4), .int s59.2.1.2.2.2.2, .int s59.2.2.1.1, .ref (a_md 7), .ref (a_md 8), .ref (a_md 9), .ref (a_md 10), .ref (a_md 11), .ref (a_md 12), .ref (a_md 13), .ref (a_md 14), .int s59.2.2.2.1.1, .ref (a_md 16), .ref (a_md 17), .ref (a_md 18), .ref (a_md 19), .ref (a_md 20), .ref (a_md 21), .ref (a_md 22), .int s59.2.2.2.2.1.1, .int s59.2.2.2.2.1.2.1, .int s59.2.2.2.2.1.2.2.1, .int s59.2.2.2.2.1.2.2.2.1, .int s59.2.2.2.2.1.2.2.2.2.1, .ref (a_md 28), .ref (a_md 29), .ref (a_md 30), .int s59.2.2.2.2.2.2.1, .int s59.2.2.2.2.2.2.2.1, .int s59.2.2.2.2.2.2.2.2])), (a_md 2, .inl (kA 0, 640, .inl s59.2.1.2.1)), (a_md 3, .inl (kA 0, 40, .inl s59.2.1.2.2.1)), (a_md 4, .inl (kA 0, 1200, .inl s59.2.1.2.2.2.1)), (a_md 7, .inl (kA 0, 80, .inl s59.2.2.1.2.1)), (a_md 8, .inl (kA 2, 80, .inr (.inl s59.2.2.1.2.2.1))), (a_md 9, .inl (kA 2, 80, .inr (.inl s59.2.2.1.2.2.2.1))), (a_md 10, .inl (kA 0, 80, .inl s59.2.2.1.2.2.2.2.1)), (a_md 11, .inl (kA 0, 80, .inl s59.2.2.1.2.2.2.2.2.1)), (a_md 12, .inl (kA 0, 80, .inl s59.2.2.1.2.2.2.2.2.2.1)), (a_md 13, .inl (kA 0, 3840, .inl s59.2.2.1.2.2.2.2.2.2.2.1)), (a_md 14, .inl (kA 0, 240, .inl s59.2.2.1.2.2.2.2.2.2.2.2)), (a_md 16, .inl (kA 0, 24, .inl s59.2.2.2.1.2.1)), (a_md 17, .inl (kA 0, 24, .inl s59.2.2.2.1.2.2.1)), (a_md 18, .inl (kA 2, 24, .inr (.inl s59.2.2.2.1.2.2.2.1))), (a_md 19, .inl (kA 2, 24, .inr (.inl s59.2.2.2.1.2.2.2.2.1))), (a_md 20, .inl (kA 2, 24, .inr (.inl s59.2.2.2.1.2.2.2.2.2.1))), (a_md 21, .inl (kA 2, 24, .inr (.inl s59.2.2.2.1.2.2.2.2.2.2.1))), (a_md 22, .inl (kA 3, 24, .inl s59.2.2.2.1.2.2.2.2.2.2.2)), (a_md 28, .inl (kA 0, 40, .inl s59.2.2.2.2.1.2.2.2.2.2.1)), (a_md 29, .inl (kA 0, 40, .inl s59.2.2.2.2.1.2.2.2.2.2.2)), (a_md 30, .inl (kA 3, 17, .inl s59.2.2.2.2.2.1))] → va_S A s.heap H locs → lv_has ls 7 [(0, .ref (a_md 0)), (4, .int v36), (5, .int (((3 : Int32) * p1) + p2)), (6, .int s59.1)] → W p l e rm6_takePattern s m args below meth c H locs 0 0 Q (F0 m 59 ls []) := by
      intro n59
      induction n59 with
      | zero =>
        intro s59 H locs ls h hP hD hS hl
        exact (iter_zero h).elim
      | succ n59 ih59 =>
        intro s59 H locs ls h hP hD hS hl
        obtain ⟨z59, h, hL59, hR59⟩ := iter_split h
        unfold f6_takePattern_L59 at h
        refine lv_iload hx hb dX6_takePattern_59 (lv_at hl 3 rfl) ?_
        refine lv_aload_n hx hb dX6_takePattern_61 rfl (lv_at hl 0 rfl) ?_
        refine va_get (D := D) (ci := 6) (v := .int s59.2.2.2.2.1.2.1) (C := "ConstraintTextModel") (T := TX6) (N := 33) hx hb hts ing6 hown hK hP 0 rfl rfl 23 (by decide) (hts _ tw_873) (fun _ h9 => h9) rfl dX6_takePattern_62 ?_
        refine lv_icmp_ge (tgt := 122) hx hb dX6_takePattern_65 (by decide) (fun bc => ?_) (fun bc => ?_)
        · have h := ite_t bc h
          obtain rfl := Option.some.inj h
          exact x122w _ _ _ ls (eq_some_app (hR59 _ rfl) hc59) hP hD hS (lv_sub hl [0, 1] rfl)
        · have h := ite_f bc h
          refine lv_iload hx hb dX6_takePattern_68 (lv_at hl 1 rfl) ?_
          refine lv_if_ne (tgt := 122) hx hb dX6_takePattern_70 (by decide) (fun bc => ?_) (fun bc => ?_)
          · have h := ite_f bc h
            obtain rfl := Option.some.inj h
            exact x122w _ _ _ ls (eq_some_app (hR59 _ rfl) hc59) hP hD hS (lv_sub hl [0, 1] rfl)
          · have h := ite_t bc h
            refine lv_aload_n hx hb dX6_takePattern_73 rfl (lv_at hl 0 rfl) ?_
            obtain ⟨u74, hc_74, h⟩ := bnd_some h
            refine ro_V (n := 0) (As := []) (rest := []) hx hb hml hown hts hN hS hK hP (c6_isPattern l D kA a_md F s59.2 u74 hc_74) [0, 1, 2, 3, 4, 5, 6, 7, 8, 9, 10, 11, 12, 13, 14, 15, 16, 17, 18, 19, 20, 21] rfl 0 6 rfl rfl rfl tw_1029 tw_1031 tw_47 tw_80 tw_1032 rfl rfl (by decide) ⟨Nat.le_of_ble_eq_true rfl, Nat.le_of_ble_eq_true rfl⟩ rfl hl.1 rfl (Nat.le_of_ble_eq_true rfl) dX6_takePattern_74 ⟨Nat.le_of_ble_eq_true rfl, Nat.le_of_ble_eq_true rfl⟩ ?_
            refine lv_if_eq (tgt := 122) hx hb dX6_takePattern_77 (by decide) (fun bc => ?_) (fun bc => ?_)
            · have h := ite_t bc h
              obtain rfl := Option.some.inj h
              exact x122w _ _ _ ls (eq_some_app (hR59 _ rfl) hc59) hP hD hS (lv_sub hl [0, 1] rfl)
            · have h := ite_f bc h
              refine lv_aload_n hx hb dX6_takePattern_80 rfl (lv_at hl 0 rfl) ?_
              refine va_get (D := D) (ci := 6) (v := .ref (a_md 13)) (C := "ConstraintTextModel") (T := TX6) (N := 33) hx hb hts ing6 hown hK hP 0 rfl rfl 12 (by decide) (hts _ tw_862) (fun _ h9 => h9) rfl dX6_takePattern_81 ?_
              refine lv_bipush (v := 16) hx hb dX6_takePattern_84 (by decide) ?_
              refine lv_iload hx hb dX6_takePattern_86 (lv_at hl 2 rfl) ?_
              refine lv_imul hx hb dX6_takePattern_88 ?_
              refine lv_aload_n hx hb dX6_takePattern_89 rfl (lv_at hl 0 rfl) ?_
              refine va_get (D := D) (ci := 6) (v := .ref (a_md 14)) (C := "ConstraintTextModel") (T := TX6) (N := 33) hx hb hts ing6 hown hK hP 0 rfl rfl 13 (by decide) (hts _ tw_863) (fun _ h9 => h9) rfl dX6_takePattern_90 ?_
              refine lv_iload hx hb dX6_takePattern_93 (lv_at hl 2 rfl) ?_
              obtain ⟨g95, h⟩ := grd_some h
              refine va_iald hx hb hK hP 11 0 rfl rfl (inb_in g95) dX6_takePattern_95 ?_
              refine lv_iadd hx hb dX6_takePattern_96 ?_
              refine lv_aload_n hx hb dX6_takePattern_97 rfl (lv_at hl 0 rfl) ?_
              refine va_get (D := D) (ci := 6) (v := .ref (a_md 4)) (C := "ConstraintTextModel") (T := TX6) (N := 33) hx hb hts ing6 hown hK hP 0 rfl rfl 3 (by decide) (hts _ tw_853) (fun _ h9 => h9) rfl dX6_takePattern_98 ?_
              refine lv_iload hx hb dX6_takePattern_101 (lv_at hl 3 rfl) ?_
              obtain ⟨g103, h⟩ := grd_some h
              refine va_iald hx hb hK hP 3 0 rfl rfl (inb_in g103) dX6_takePattern_103 ?_
              obtain ⟨g104, h⟩ := grd_some h
              refine va_iast hx hb hK hP hD hS 10 0 rfl rfl (inb_in g104) dX6_takePattern_104 (fun H locs hP hD hS => ?_)
              have hP : va_P D vwCl [(a_md 0, .inr (6, [.int s59.2.1.1, .ref (a_md 2), .ref (a_md 3), .ref (a_md 4), .int s59.2.1.2.2.2.2, .int s59.2.2.1.1, .ref (a_md 7), .ref (a_md 8), .ref (a_md 9), .ref (a_md 10), .ref (a_md 11), .ref (a_md 12), .ref (a_md 13), .ref (a_md 14), .int s59.2.2.2.1.1, .ref (a_md 16), .ref (a_md 17), .ref (a_md 18), .ref (a_md 19), .ref (a_md 20), .ref (a_md 21), .ref (a_md 22), .int s59.2.2.2.2.1.1, .int s59.2.2.2.2.1.2.1, .int s59.2.2.2.2.1.2.2.1, .int s59.2.2.2.2.1.2.2.2.1, .int s59.2.2.2.2.1.2.2.2.2.1, .ref (a_md 28), .ref (a_md 29), .ref (a_md 30), .int s59.2.2.2.2.2.2.1, .int s59.2.2.2.2.2.2.2.1, .int s59.2.2.2.2.2.2.2.2])), (a_md 2, .inl (kA 0, 640, .inl s59.2.1.2.1)), (a_md 3, .inl (kA 0, 40, .inl s59.2.1.2.2.1)), (a_md 4, .inl (kA 0, 1200, .inl s59.2.1.2.2.2.1)), (a_md 7, .inl (kA 0, 80, .inl s59.2.2.1.2.1)), (a_md 8, .inl (kA 2, 80, .inr (.inl s59.2.2.1.2.2.1))), (a_md 9, .inl (kA 2, 80, .inr (.inl s59.2.2.1.2.2.2.1))), (a_md 10, .inl (kA 0, 80, .inl s59.2.2.1.2.2.2.2.1)), (a_md 11, .inl (kA 0, 80, .inl s59.2.2.1.2.2.2.2.2.1)), (a_md 12, .inl (kA 0, 80, .inl s59.2.2.1.2.2.2.2.2.2.1)), (a_md 13, .inl (kA 0, 3840, .inl (upd s59.2.2.1.2.2.2.2.2.2.2.1 (((16 : Int32) * (((3 : Int32) * p1) + p2)) + (s59.2.2.1.2.2.2.2.2.2.2.2 (((3 : Int32) * p1) + p2).toNatClampNeg)).toNatClampNeg (s59.2.1.2.2.2.1 s59.1.toNatClampNeg)))), (a_md 14, .inl (kA 0, 240, .inl s59.2.2.1.2.2.2.2.2.2.2.2)), (a_md 16, .inl (kA 0, 24, .inl s59.2.2.2.1.2.1)), (a_md 17, .inl (kA 0, 24, .inl s59.2.2.2.1.2.2.1)), (a_md 18, .inl (kA 2, 24, .inr (.inl s59.2.2.2.1.2.2.2.1))), (a_md 19, .inl (kA 2, 24, .inr (.inl s59.2.2.2.1.2.2.2.2.1))), (a_md 20, .inl (kA 2, 24, .inr (.inl s59.2.2.2.1.2.2.2.2.2.1))), (a_md 21, .inl (kA 2, 24, .inr (.inl s59.2.2.2.1.2.2.2.2.2.2.1))), (a_md 22, .inl (kA 3, 24, .inl s59.2.2.2.1.2.2.2.2.2.2.2)), (a_md 28, .inl (kA 0, 40, .inl s59.2.2.2.2.1.2.2.2.2.2.1)), (a_md 29, .inl (kA 0, 40, .inl s59.2.2.2.2.1.2.2.2.2.2.2)), (a_md 30, .inl (kA 3, 17, .inl s59.2.2.2.2.2.1))] H := hP
              have hD : va_D A [(a_md 0, .inr (6, [.int s59.2.1.1, .ref (a_md 2), .ref (a_md 3), .ref (a_md 4), .int s59.2.1.2.2.2.2, .int s59.2.2.1.1, .ref (a_md 7), .ref (a_md 8), .ref (a_md 9), .ref (a_md 10), .ref (a_md 11), .ref (a_md 12), .ref (a_md 13), .ref (a_md 14), .int s59.2.2.2.1.1, .ref (a_md 16), .ref (a_md 17), .ref (a_md 18), .ref (a_md 19), .ref (a_md 20), .ref (a_md 21), .ref (a_md 22), .int s59.2.2.2.2.1.1, .int s59.2.2.2.2.1.2.1, .int s59.2.2.2.2.1.2.2.1, .int s59.2.2.2.2.1.2.2.2.1, .int s59.2.2.2.2.1.2.2.2.2.1, .ref (a_md 28), .ref (a_md 29), .ref (a_md 30), .int s59.2.2.2.2.2.2.1, .int s59.2.2.2.2.2.2.2.1, .int s59.2.2.2.2.2.2.2.2])), (a_md 2, .inl (kA 0, 640, .inl s59.2.1.2.1)), (a_md 3, .inl (kA 0, 40, .inl s59.2.1.2.2.1)), (a_md 4, .inl (kA 0, 1200, .inl s59.2.1.2.2.2.1)), (a_md 7, .inl (kA 0, 80, .inl s59.2.2.1.2.1)), (a_md 8, .inl (kA 2, 80, .inr (.inl s59.2.2.1.2.2.1))), (a_md 9, .inl (kA 2, 80, .inr (.inl s59.2.2.1.2.2.2.1))), (a_md 10, .inl (kA 0, 80, .inl s59.2.2.1.2.2.2.2.1)), (a_md 11, .inl (kA 0, 80, .inl s59.2.2.1.2.2.2.2.2.1)), (a_md 12, .inl (kA 0, 80, .inl s59.2.2.1.2.2.2.2.2.2.1)), (a_md 13, .inl (kA 0, 3840, .inl (upd s59.2.2.1.2.2.2.2.2.2.2.1 (((16 : Int32) * (((3 : Int32) * p1) + p2)) + (s59.2.2.1.2.2.2.2.2.2.2.2 (((3 : Int32) * p1) + p2).toNatClampNeg)).toNatClampNeg (s59.2.1.2.2.2.1 s59.1.toNatClampNeg)))), (a_md 14, .inl (kA 0, 240, .inl s59.2.2.1.2.2.2.2.2.2.2.2)), (a_md 16, .inl (kA 0, 24, .inl s59.2.2.2.1.2.1)), (a_md 17, .inl (kA 0, 24, .inl s59.2.2.2.1.2.2.1)), (a_md 18, .inl (kA 2, 24, .inr (.inl s59.2.2.2.1.2.2.2.1))), (a_md 19, .inl (kA 2, 24, .inr (.inl s59.2.2.2.1.2.2.2.2.1))), (a_md 20, .inl (kA 2, 24, .inr (.inl s59.2.2.2.1.2.2.2.2.2.1))), (a_md 21, .inl (kA 2, 24, .inr (.inl s59.2.2.2.1.2.2.2.2.2.2.1))), (a_md 22, .inl (kA 3, 24, .inl s59.2.2.2.1.2.2.2.2.2.2.2)), (a_md 28, .inl (kA 0, 40, .inl s59.2.2.2.2.1.2.2.2.2.2.1)), (a_md 29, .inl (kA 0, 40, .inl s59.2.2.2.2.1.2.2.2.2.2.2)), (a_md 30, .inl (kA 3, 17, .inl s59.2.2.2.2.2.1))] := hD
              refine lv_aload_n hx hb dX6_takePattern_105 rfl (lv_at hl 0 rfl) ?_
              refine va_get (D := D) (ci := 6) (v := .ref (a_md 14)) (C := "ConstraintTextModel") (T := TX6) (N := 33) hx hb hts ing6 hown hK hP 0 rfl rfl 13 (by decide) (hts _ tw_863) (fun _ h9 => h9) rfl dX6_takePattern_106 ?_
              refine lv_iload hx hb dX6_takePattern_109 (lv_at hl 2 rfl) ?_
              refine lv_dup2_11 hx hb dX6_takePattern_111 rfl rfl ?_
              obtain ⟨g112, h⟩ := grd_some h
              refine va_iald hx hb hK hP 11 0 rfl rfl (inb_in g112) dX6_takePattern_112 ?_
              refine lv_iconst (v := 1) hx hb dX6_takePattern_113 (by decide) ?_
              refine lv_iadd hx hb dX6_takePattern_114 ?_
              obtain ⟨g115, h⟩ := grd_some h
              refine va_iast hx hb hK hP hD hS 11 0 rfl rfl (inb_in g115) dX6_takePattern_115 (fun H locs hP hD hS => ?_)
              have hP : va_P D vwCl [(a_md 0, .inr (6, [.int s59.2.1.1, .ref (a_md 2), .ref (a_md 3), .ref (a_md 4), .int s59.2.1.2.2.2.2, .int s59.2.2.1.1, .ref (a_md 7), .ref (a_md 8), .ref (a_md 9), .ref (a_md 10), .ref (a_md 11), .ref (a_md 12), .ref (a_md 13), .ref (a_md 14), .int s59.2.2.2.1.1, .ref (a_md 16), .ref (a_md 17), .ref (a_md 18), .ref (a_md 19), .ref (a_md 20), .ref (a_md 21), .ref (a_md 22), .int s59.2.2.2.2.1.1, .int s59.2.2.2.2.1.2.1, .int s59.2.2.2.2.1.2.2.1, .int s59.2.2.2.2.1.2.2.2.1, .int s59.2.2.2.2.1.2.2.2.2.1, .ref (a_md 28), .ref (a_md 29), .ref (a_md 30), .int s59.2.2.2.2.2.2.1, .int s59.2.2.2.2.2.2.2.1, .int s59.2.2.2.2.2.2.2.2])), (a_md 2, .inl (kA 0, 640, .inl s59.2.1.2.1)), (a_md 3, .inl (kA 0, 40, .inl s59.2.1.2.2.1)), (a_md 4, .inl (kA 0, 1200, .inl s59.2.1.2.2.2.1)), (a_md 7, .inl (kA 0, 80, .inl s59.2.2.1.2.1)), (a_md 8, .inl (kA 2, 80, .inr (.inl s59.2.2.1.2.2.1))), (a_md 9, .inl (kA 2, 80, .inr (.inl s59.2.2.1.2.2.2.1))), (a_md 10, .inl (kA 0, 80, .inl s59.2.2.1.2.2.2.2.1)), (a_md 11, .inl (kA 0, 80, .inl s59.2.2.1.2.2.2.2.2.1)), (a_md 12, .inl (kA 0, 80, .inl s59.2.2.1.2.2.2.2.2.2.1)), (a_md 13, .inl (kA 0, 3840, .inl (upd s59.2.2.1.2.2.2.2.2.2.2.1 (((16 : Int32) * (((3 : Int32) * p1) + p2)) + (s59.2.2.1.2.2.2.2.2.2.2.2 (((3 : Int32) * p1) + p2).toNatClampNeg)).toNatClampNeg (s59.2.1.2.2.2.1 s59.1.toNatClampNeg)))), (a_md 14, .inl (kA 0, 240, .inl (upd s59.2.2.1.2.2.2.2.2.2.2.2 (((3 : Int32) * p1) + p2).toNatClampNeg ((s59.2.2.1.2.2.2.2.2.2.2.2 (((3 : Int32) * p1) + p2).toNatClampNeg) + (1 : Int32))))), (a_md 16, .inl (kA 0, 24, .inl s59.2.2.2.1.2.1)), (a_md 17, .inl (kA 0, 24, .inl s59.2.2.2.1.2.2.1)), (a_md 18, .inl (kA 2, 24, .inr (.inl s59.2.2.2.1.2.2.2.1))), (a_md 19, .inl (kA 2, 24, .inr (.inl s59.2.2.2.1.2.2.2.2.1))), (a_md 20, .inl (kA 2, 24, .inr (.inl s59.2.2.2.1.2.2.2.2.2.1))), (a_md 21, .inl (kA 2, 24, .inr (.inl s59.2.2.2.1.2.2.2.2.2.2.1))), (a_md 22, .inl (kA 3, 24, .inl s59.2.2.2.1.2.2.2.2.2.2.2)), (a_md 28, .inl (kA 0, 40, .inl s59.2.2.2.2.1.2.2.2.2.2.1)), (a_md 29, .inl (kA 0, 40, .inl s59.2.2.2.2.1.2.2.2.2.2.2)), (a_md 30, .inl (kA 3, 17, .inl s59.2.2.2.2.2.1))] H := hP
              have hD : va_D A [(a_md 0, .inr (6, [.int s59.2.1.1, .ref (a_md 2), .ref (a_md 3), .ref (a_md 4), .int s59.2.1.2.2.2.2, .int s59.2.2.1.1, .ref (a_md 7), .ref (a_md 8), .ref (a_md 9), .ref (a_md 10), .ref (a_md 11), .ref (a_md 12), .ref (a_md 13), .ref (a_md 14), .int s59.2.2.2.1.1, .ref (a_md 16), .ref (a_md 17), .ref (a_md 18), .ref (a_md 19), .ref (a_md 20), .ref (a_md 21), .ref (a_md 22), .int s59.2.2.2.2.1.1, .int s59.2.2.2.2.1.2.1, .int s59.2.2.2.2.1.2.2.1, .int s59.2.2.2.2.1.2.2.2.1, .int s59.2.2.2.2.1.2.2.2.2.1, .ref (a_md 28), .ref (a_md 29), .ref (a_md 30), .int s59.2.2.2.2.2.2.1, .int s59.2.2.2.2.2.2.2.1, .int s59.2.2.2.2.2.2.2.2])), (a_md 2, .inl (kA 0, 640, .inl s59.2.1.2.1)), (a_md 3, .inl (kA 0, 40, .inl s59.2.1.2.2.1)), (a_md 4, .inl (kA 0, 1200, .inl s59.2.1.2.2.2.1)), (a_md 7, .inl (kA 0, 80, .inl s59.2.2.1.2.1)), (a_md 8, .inl (kA 2, 80, .inr (.inl s59.2.2.1.2.2.1))), (a_md 9, .inl (kA 2, 80, .inr (.inl s59.2.2.1.2.2.2.1))), (a_md 10, .inl (kA 0, 80, .inl s59.2.2.1.2.2.2.2.1)), (a_md 11, .inl (kA 0, 80, .inl s59.2.2.1.2.2.2.2.2.1)), (a_md 12, .inl (kA 0, 80, .inl s59.2.2.1.2.2.2.2.2.2.1)), (a_md 13, .inl (kA 0, 3840, .inl (upd s59.2.2.1.2.2.2.2.2.2.2.1 (((16 : Int32) * (((3 : Int32) * p1) + p2)) + (s59.2.2.1.2.2.2.2.2.2.2.2 (((3 : Int32) * p1) + p2).toNatClampNeg)).toNatClampNeg (s59.2.1.2.2.2.1 s59.1.toNatClampNeg)))), (a_md 14, .inl (kA 0, 240, .inl (upd s59.2.2.1.2.2.2.2.2.2.2.2 (((3 : Int32) * p1) + p2).toNatClampNeg ((s59.2.2.1.2.2.2.2.2.2.2.2 (((3 : Int32) * p1) + p2).toNatClampNeg) + (1 : Int32))))), (a_md 16, .inl (kA 0, 24, .inl s59.2.2.2.1.2.1)), (a_md 17, .inl (kA 0, 24, .inl s59.2.2.2.1.2.2.1)), (a_md 18, .inl (kA 2, 24, .inr (.inl s59.2.2.2.1.2.2.2.1))), (a_md 19, .inl (kA 2, 24, .inr (.inl s59.2.2.2.1.2.2.2.2.1))), (a_md 20, .inl (kA 2, 24, .inr (.inl s59.2.2.2.1.2.2.2.2.2.1))), (a_md 21, .inl (kA 2, 24, .inr (.inl s59.2.2.2.1.2.2.2.2.2.2.1))), (a_md 22, .inl (kA 3, 24, .inl s59.2.2.2.1.2.2.2.2.2.2.2)), (a_md 28, .inl (kA 0, 40, .inl s59.2.2.2.2.1.2.2.2.2.2.1)), (a_md 29, .inl (kA 0, 40, .inl s59.2.2.2.2.1.2.2.2.2.2.2)), (a_md 30, .inl (kA 3, 17, .inl s59.2.2.2.2.2.1))] := hD
              refine lv_iinc (v := (s59.1 + (1 : Int32))) (lv' := [(6, .int (s59.1 + (1 : Int32))), (0, .ref (a_md 0)), (4, .int v36), (5, .int (((3 : Int32) * p1) + p2))]) hx hb dX6_takePattern_116 hl (k := 3) rfl rfl (by decide) rfl (fun ls hl => ?_)
              refine lv_goto (tgt := 59) hx hb dX6_takePattern_119 (by decide) ?_
              obtain rfl := Option.some.inj h
              exact ih59 _ _ _ ls (hL59 _ rfl) hP hD hS (lv_sub hl [1, 2, 3, 0] rfl)
    exact lp59 F (md.2.2.2.1.1, (md.1, (md.2.1.1, md.2.1.2.1, md.2.1.2.2.1, md.2.1.2.2.2.1, md.2.1.2.2.2.2.1, md.2.1.2.2.2.2.2.1, md.2.1.2.2.2.2.2.2.1, md.2.1.2.2.2.2.2.2.2.1, (upd md.2.1.2.2.2.2.2.2.2.2 (((3 : Int32) * p1) + p2).toNatClampNeg (0 : Int32))), md.2.2.1, md.2.2.2.1, md.2.2.2.2)) _ _ ls hi59 hP hD hS (lv_sub hl [3, 2, 1, 0] rfl)
  refine lv_if_eq (tgt := 35) hx hb dX6_takePattern_1 (by decide) (fun bc => ?_) (fun bc => ?_)
  · have h := ite_t bc h
    refine lv_iconst (v := 0) hx hb dX6_takePattern_35 (by decide) ?_
    exact j36 _ _ _ ls h hP hD hS (lv_sub hl [0, 1, 2] rfl)
  · have h := ite_f bc h
    refine lv_aload_n hx hb dX6_takePattern_4 rfl (lv_at hl 0 rfl) ?_
    refine va_get (D := D) (ci := 6) (v := .int md.2.2.2.1.2.1) (C := "ConstraintTextModel") (T := TX6) (N := 33) hx hb hts ing6 hown hK hP 0 rfl rfl 23 (by decide) (hts _ tw_873) (fun _ h9 => h9) rfl dX6_takePattern_5 ?_
    refine lv_aload_n hx hb dX6_takePattern_8 rfl (lv_at hl 0 rfl) ?_
    refine va_get (D := D) (ci := 6) (v := .int md.2.2.2.1.1) (C := "ConstraintTextModel") (T := TX6) (N := 33) hx hb hts ing6 hown hK hP 0 rfl rfl 22 (by decide) (hts _ tw_872) (fun _ h9 => h9) rfl dX6_takePattern_9 ?_
    refine lv_iconst (v := 1) hx hb dX6_takePattern_12 (by decide) ?_
    refine lv_iadd hx hb dX6_takePattern_13 ?_
    refine lv_icmp_ne (tgt := 35) hx hb dX6_takePattern_14 (by decide) (fun bc => ?_) (fun bc => ?_)
    · have h := ite_f bc h
      refine lv_iconst (v := 0) hx hb dX6_takePattern_35 (by decide) ?_
      exact j36 _ _ _ ls h hP hD hS (lv_sub hl [0, 1, 2] rfl)
    · have h := ite_t bc h
      refine lv_aload_n hx hb dX6_takePattern_17 rfl (lv_at hl 0 rfl) ?_
      refine va_get (D := D) (ci := 6) (v := .ref (a_md 4)) (C := "ConstraintTextModel") (T := TX6) (N := 33) hx hb hts ing6 hown hK hP 0 rfl rfl 3 (by decide) (hts _ tw_853) (fun _ h9 => h9) rfl dX6_takePattern_18 ?_
      refine lv_aload_n hx hb dX6_takePattern_21 rfl (lv_at hl 0 rfl) ?_
      refine va_get (D := D) (ci := 6) (v := .int md.2.2.2.1.1) (C := "ConstraintTextModel") (T := TX6) (N := 33) hx hb hts ing6 hown hK hP 0 rfl rfl 22 (by decide) (hts _ tw_872) (fun _ h9 => h9) rfl dX6_takePattern_22 ?_
      obtain ⟨g25, h⟩ := grd_some h
      refine va_iald hx hb hK hP 3 0 rfl rfl (inb_in g25) dX6_takePattern_25 ?_
      refine lv_bipush (v := 45) hx hb dX6_takePattern_26 (by decide) ?_
      refine lv_icmp_ne (tgt := 35) hx hb dX6_takePattern_28 (by decide) (fun bc => ?_) (fun bc => ?_)
      · have h := ite_f bc h
        refine lv_iconst (v := 0) hx hb dX6_takePattern_35 (by decide) ?_
        exact j36 _ _ _ ls h hP hD hS (lv_sub hl [0, 1, 2] rfl)
      · have h := ite_t bc h
        refine lv_iconst (v := 1) hx hb dX6_takePattern_31 (by decide) ?_
        refine lv_goto (tgt := 36) hx hb dX6_takePattern_32 (by decide) ?_
        exact j36 _ _ _ ls h hP hD hS (lv_sub hl [0, 1, 2] rfl)
abbrev rm6_word : Room := { frames := 0, cells := 0, slots := 0, locals := 0 }
set_option maxHeartbeats 4000000 in
set_option maxRecDepth 100000 in
theorem c6_word (l : Launch) (D : va_G) (kA : Nat → ClassId)  (p1 : Int32) (p2 : Int32) (p3 : Int32) (p4 : Int32) (p5 : Int32) (p6 : Int32) (res : Int64) (h : f6_word p1 p2 p3 p4 p5 p6 = some res) : Ro l yX6_word cX6_word 8 (some .long) rm6_word D kA [.int p1, .int p2, .int p3, .int p4, .int p5, .int p6] [] (.long res) := by
  refine Ro.of (by decide +kernel) (Nat.le_of_ble_eq_true rfl) ?_
  intro p e s m args below meth c hF hP hK ls hl
  generalize hQ : roQ below _ args s = Q
  obtain ⟨hx, hb, hml, hown, hr, hk, hts, hN⟩ := hF
  have hl : lv_has ls 8 [(0, .int p1), (1, .int p2), (2, .int p3), (3, .int p4), (4, .int p5), (5, .int p6)] := hl
  unfold f6_word at h
  refine lv_iload_n hx hb dX6_word_0 rfl (lv_at hl 0 rfl) ?_
  refine lv_i2l (v := p1.toInt64) hx hb dX6_word_1 rfl ?_
  refine lv_ldc2 (own := "ConstraintTextModel") (v := 96) hx hb hown (hts _ tw_989) dX6_word_2 ?_
  refine lv_lsub hx hb dX6_word_5 ?_
  refine lv_lstore (lv' := [(6, .long (p1.toInt64 - (96 : Int64))), (0, .int p1), (1, .int p2), (2, .int p3), (3, .int p4), (4, .int p5), (5, .int p6)]) hx hb dX6_word_6 hl (by decide) rfl (fun ls hl => ?_)
  refine lv_ldc2 (own := "ConstraintTextModel") (v := 27) hx hb hown (hts _ tw_988) dX6_word_8 ?_
  refine lv_lload hx hb dX6_word_11 (lv_at hl 0 rfl) ?_
  refine lv_lmul hx hb dX6_word_13 ?_
  refine lv_iload_n hx hb dX6_word_14 rfl (lv_at hl 2 rfl) ?_
  refine lv_i2l (v := p2.toInt64) hx hb dX6_word_15 rfl ?_
  refine lv_ladd hx hb dX6_word_16 ?_
  refine lv_ldc2 (own := "ConstraintTextModel") (v := 96) hx hb hown (hts _ tw_989) dX6_word_17 ?_
  refine lv_lsub hx hb dX6_word_20 ?_
  refine lv_lstore (lv' := [(6, .long ((((27 : Int64) * (p1.toInt64 - (96 : Int64))) + p2.toInt64) - (96 : Int64))), (0, .int p1), (1, .int p2), (2, .int p3), (3, .int p4), (4, .int p5), (5, .int p6)]) hx hb dX6_word_21 hl (by decide) rfl (fun ls hl => ?_)
  refine lv_ldc2 (own := "ConstraintTextModel") (v := 27) hx hb hown (hts _ tw_988) dX6_word_23 ?_
  refine lv_lload hx hb dX6_word_26 (lv_at hl 0 rfl) ?_
  refine lv_lmul hx hb dX6_word_28 ?_
  refine lv_iload_n hx hb dX6_word_29 rfl (lv_at hl 3 rfl) ?_
  refine lv_i2l (v := p3.toInt64) hx hb dX6_word_30 rfl ?_
  refine lv_ladd hx hb dX6_word_31 ?_
  refine lv_ldc2 (own := "ConstraintTextModel") (v := 96) hx hb hown (hts _ tw_989) dX6_word_32 ?_
  refine lv_lsub hx hb dX6_word_35 ?_
  refine lv_lstore (lv' := [(6, .long ((((27 : Int64) * ((((27 : Int64) * (p1.toInt64 - (96 : Int64))) + p2.toInt64) - (96 : Int64))) + p3.toInt64) - (96 : Int64))), (0, .int p1), (1, .int p2), (2, .int p3), (3, .int p4), (4, .int p5), (5, .int p6)]) hx hb dX6_word_36 hl (by decide) rfl (fun ls hl => ?_)
  refine lv_ldc2 (own := "ConstraintTextModel") (v := 27) hx hb hown (hts _ tw_988) dX6_word_38 ?_
  refine lv_lload hx hb dX6_word_41 (lv_at hl 0 rfl) ?_
  refine lv_lmul hx hb dX6_word_43 ?_
  refine lv_iload_n hx hb dX6_word_44 rfl (lv_at hl 4 rfl) ?_
  refine lv_i2l (v := p4.toInt64) hx hb dX6_word_45 rfl ?_
  refine lv_ladd hx hb dX6_word_46 ?_
  refine lv_ldc2 (own := "ConstraintTextModel") (v := 96) hx hb hown (hts _ tw_989) dX6_word_47 ?_
  refine lv_lsub hx hb dX6_word_50 ?_
  refine lv_lstore (lv' := [(6, .long ((((27 : Int64) * ((((27 : Int64) * ((((27 : Int64) * (p1.toInt64 - (96 : Int64))) + p2.toInt64) - (96 : Int64))) + p3.toInt64) - (96 : Int64))) + p4.toInt64) - (96 : Int64))), (0, .int p1), (1, .int p2), (2, .int p3), (3, .int p4), (4, .int p5), (5, .int p6)]) hx hb dX6_word_51 hl (by decide) rfl (fun ls hl => ?_)
  refine lv_iload hx hb dX6_word_53 (lv_at hl 5 rfl) ?_
  obtain ⟨k77, hk77, h⟩ := jn_name h
  have j77 : ∀ (v77 : Int64) (ls : Array Slot), k77 v77 = some res → lv_has ls 8 [(5, .int p6)] → W p l e rm6_word s m args below meth c s.heap [] 0 0 Q (F0 m 77 ls [.long v77]) := by
    intro v77 ls h hl
    have h := app_of hk77 h
    refine lv_lstore (lv' := [(6, .long v77), (5, .int p6)]) hx hb dX6_word_77 hl (by decide) rfl (fun ls hl => ?_)
    refine lv_iload hx hb dX6_word_79 (lv_at hl 1 rfl) ?_
    refine lv_if_le (tgt := 101) hx hb dX6_word_81 (by decide) (fun bc => ?_) (fun bc => ?_)
    · have h := ite_t bc h
      refine lv_lload hx hb dX6_word_101 (lv_at hl 0 rfl) ?_
      obtain rfl := Option.some.inj h
      rw [← hQ]
      exact ro_lreturn hx hb hr hk  dX6_word_103
    · have h := ite_f bc h
      refine lv_ldc2 (own := "ConstraintTextModel") (v := 27) hx hb hown (hts _ tw_988) dX6_word_84 ?_
      refine lv_lload hx hb dX6_word_87 (lv_at hl 0 rfl) ?_
      refine lv_lmul hx hb dX6_word_89 ?_
      refine lv_iload hx hb dX6_word_90 (lv_at hl 1 rfl) ?_
      refine lv_i2l (v := p6.toInt64) hx hb dX6_word_92 rfl ?_
      refine lv_ladd hx hb dX6_word_93 ?_
      refine lv_ldc2 (own := "ConstraintTextModel") (v := 96) hx hb hown (hts _ tw_989) dX6_word_94 ?_
      refine lv_lsub hx hb dX6_word_97 ?_
      refine lv_goto (tgt := 103) hx hb dX6_word_98 (by decide) ?_
      obtain rfl := Option.some.inj h
      rw [← hQ]
      exact ro_lreturn hx hb hr hk  dX6_word_103
  refine lv_if_le (tgt := 75) hx hb dX6_word_55 (by decide) (fun bc => ?_) (fun bc => ?_)
  · have h := ite_t bc h
    refine lv_lload hx hb dX6_word_75 (lv_at hl 0 rfl) ?_
    exact j77 _ ls h (lv_sub hl [6] rfl)
  · have h := ite_f bc h
    refine lv_ldc2 (own := "ConstraintTextModel") (v := 27) hx hb hown (hts _ tw_988) dX6_word_58 ?_
    refine lv_lload hx hb dX6_word_61 (lv_at hl 0 rfl) ?_
    refine lv_lmul hx hb dX6_word_63 ?_
    refine lv_iload hx hb dX6_word_64 (lv_at hl 5 rfl) ?_
    refine lv_i2l (v := p5.toInt64) hx hb dX6_word_66 rfl ?_
    refine lv_ladd hx hb dX6_word_67 ?_
    refine lv_ldc2 (own := "ConstraintTextModel") (v := 96) hx hb hown (hts _ tw_989) dX6_word_68 ?_
    refine lv_lsub hx hb dX6_word_71 ?_
    refine lv_goto (tgt := 77) hx hb dX6_word_72 (by decide) ?_
    exact j77 _ ls h (lv_sub hl [6] rfl)
abbrev rm6_wordOf : Room := { frames := 1, cells := 0, slots := 0, locals := 27 }
set_option maxHeartbeats 4000000 in
set_option maxRecDepth 100000 in
theorem c6_wordOf (l : Launch) (D : va_G) (kA : Nat → ClassId)  (p1 : Int32) (res : Int64) (h : f6_wordOf p1 = some res) : Ro l yX6_wordOf cX6_wordOf 1 (some .long) rm6_wordOf D kA [.int p1] [] (.long res) := by
  refine Ro.of (by decide +kernel) (Nat.le_of_ble_eq_true rfl) ?_
  intro p e s m args below meth c hF hP hK ls hl
  generalize hQ : roQ below _ args s = Q
  obtain ⟨hx, hb, hml, hown, hr, hk, hts, hN⟩ := hF
  have hl : lv_has ls 1 [(0, .int p1)] := hl
  unfold f6_wordOf at h
  refine lv_iload_n hx hb dX6_wordOf_0 rfl (lv_at hl 0 rfl) ?_
  by_cases sw0 : p1 = (0 : Int32)
  · have h := ite_t sw0 h
    refine lv_tableIn (tgt := 52) hx hb dX6_wordOf_1 (by rw [sw0]; decide) (by rw [sw0]; decide) (by rw [sw0]; rfl) (by decide) ?_
    refine lv_bipush (v := 99) hx hb dX6_wordOf_52 (by decide) ?_
    refine lv_bipush (v := 108) hx hb dX6_wordOf_54 (by decide) ?_
    refine lv_bipush (v := 111) hx hb dX6_wordOf_56 (by decide) ?_
    refine lv_bipush (v := 99) hx hb dX6_wordOf_58 (by decide) ?_
    refine lv_bipush (v := 107) hx hb dX6_wordOf_60 (by decide) ?_
    refine lv_iconst (v := 0) hx hb dX6_wordOf_62 (by decide) ?_
    obtain ⟨u63, hc_63, h⟩ := bnd_some h
    refine ro_S (n := 6) (As := [.int (99 : Int32), .int (108 : Int32), .int (111 : Int32), .int (99 : Int32), .int (107 : Int32), .int (0 : Int32)]) (rest := []) hx hb hml hown hts hN va_S.rf hK hP (c6_word l D kA (99 : Int32) (108 : Int32) (111 : Int32) (99 : Int32) (107 : Int32) (0 : Int32) u63 hc_63) [] rfl tw_997 tw_998 tw_80 tw_999 rfl rfl (by decide) ⟨Nat.le_of_ble_eq_true rfl, Nat.le_of_ble_eq_true rfl⟩ rfl hl.1 rfl (Nat.le_of_ble_eq_true rfl) dX6_wordOf_63 ⟨Nat.le_of_ble_eq_true rfl, Nat.le_of_ble_eq_true rfl⟩ ?_
    obtain rfl := Option.some.inj h
    rw [← hQ]
    exact ro_lreturn hx hb hr hk  dX6_wordOf_66
  · have h := ite_f sw0 h
    by_cases sw1 : p1 = (1 : Int32)
    · have h := ite_t sw1 h
      refine lv_tableIn (tgt := 67) hx hb dX6_wordOf_1 (by rw [sw1]; decide) (by rw [sw1]; decide) (by rw [sw1]; rfl) (by decide) ?_
      refine lv_bipush (v := 100) hx hb dX6_wordOf_67 (by decide) ?_
      refine lv_bipush (v := 101) hx hb dX6_wordOf_69 (by decide) ?_
      refine lv_bipush (v := 114) hx hb dX6_wordOf_71 (by decide) ?_
      refine lv_bipush (v := 105) hx hb dX6_wordOf_73 (by decide) ?_
      refine lv_bipush (v := 118) hx hb dX6_wordOf_75 (by decide) ?_
      refine lv_bipush (v := 101) hx hb dX6_wordOf_77 (by decide) ?_
      obtain ⟨u79, hc_79, h⟩ := bnd_some h
      refine ro_S (n := 6) (As := [.int (100 : Int32), .int (101 : Int32), .int (114 : Int32), .int (105 : Int32), .int (118 : Int32), .int (101 : Int32)]) (rest := []) hx hb hml hown hts hN va_S.rf hK hP (c6_word l D kA (100 : Int32) (101 : Int32) (114 : Int32) (105 : Int32) (118 : Int32) (101 : Int32) u79 hc_79) [] rfl tw_997 tw_998 tw_80 tw_999 rfl rfl (by decide) ⟨Nat.le_of_ble_eq_true rfl, Nat.le_of_ble_eq_true rfl⟩ rfl hl.1 rfl (Nat.le_of_ble_eq_true rfl) dX6_wordOf_79 ⟨Nat.le_of_ble_eq_true rfl, Nat.le_of_ble_eq_true rfl⟩ ?_
      obtain rfl := Option.some.inj h
      rw [← hQ]
      exact ro_lreturn hx hb hr hk  dX6_wordOf_82
    · have h := ite_f sw1 h
      by_cases sw2 : p1 = (2 : Int32)
      · have h := ite_t sw2 h
        refine lv_tableIn (tgt := 83) hx hb dX6_wordOf_1 (by rw [sw2]; decide) (by rw [sw2]; decide) (by rw [sw2]; rfl) (by decide) ?_
        refine lv_bipush (v := 116) hx hb dX6_wordOf_83 (by decide) ?_
        refine lv_bipush (v := 117) hx hb dX6_wordOf_85 (by decide) ?_
        refine lv_bipush (v := 114) hx hb dX6_wordOf_87 (by decide) ?_
        refine lv_bipush (v := 110) hx hb dX6_wordOf_89 (by decide) ?_
        refine lv_bipush (v := 101) hx hb dX6_wordOf_91 (by decide) ?_
        refine lv_bipush (v := 100) hx hb dX6_wordOf_93 (by decide) ?_
        obtain ⟨u95, hc_95, h⟩ := bnd_some h
        refine ro_S (n := 6) (As := [.int (116 : Int32), .int (117 : Int32), .int (114 : Int32), .int (110 : Int32), .int (101 : Int32), .int (100 : Int32)]) (rest := []) hx hb hml hown hts hN va_S.rf hK hP (c6_word l D kA (116 : Int32) (117 : Int32) (114 : Int32) (110 : Int32) (101 : Int32) (100 : Int32) u95 hc_95) [] rfl tw_997 tw_998 tw_80 tw_999 rfl rfl (by decide) ⟨Nat.le_of_ble_eq_true rfl, Nat.le_of_ble_eq_true rfl⟩ rfl hl.1 rfl (Nat.le_of_ble_eq_true rfl) dX6_wordOf_95 ⟨Nat.le_of_ble_eq_true rfl, Nat.le_of_ble_eq_true rfl⟩ ?_
        obtain rfl := Option.some.inj h
        rw [← hQ]
        exact ro_lreturn hx hb hr hk  dX6_wordOf_98
      · have h := ite_f sw2 h
        by_cases sw3 : p1 = (3 : Int32)
        · have h := ite_t sw3 h
          refine lv_tableIn (tgt := 99) hx hb dX6_wordOf_1 (by rw [sw3]; decide) (by rw [sw3]; decide) (by rw [sw3]; rfl) (by decide) ?_
          refine lv_bipush (v := 97) hx hb dX6_wordOf_99 (by decide) ?_
          refine lv_bipush (v := 112) hx hb dX6_wordOf_101 (by decide) ?_
          refine lv_bipush (v := 97) hx hb dX6_wordOf_103 (by decide) ?_
          refine lv_bipush (v := 114) hx hb dX6_wordOf_105 (by decide) ?_
          refine lv_bipush (v := 116) hx hb dX6_wordOf_107 (by decide) ?_
          refine lv_iconst (v := 0) hx hb dX6_wordOf_109 (by decide) ?_
          obtain ⟨u110, hc_110, h⟩ := bnd_some h
          refine ro_S (n := 6) (As := [.int (97 : Int32), .int (112 : Int32), .int (97 : Int32), .int (114 : Int32), .int (116 : Int32), .int (0 : Int32)]) (rest := []) hx hb hml hown hts hN va_S.rf hK hP (c6_word l D kA (97 : Int32) (112 : Int32) (97 : Int32) (114 : Int32) (116 : Int32) (0 : Int32) u110 hc_110) [] rfl tw_997 tw_998 tw_80 tw_999 rfl rfl (by decide) ⟨Nat.le_of_ble_eq_true rfl, Nat.le_of_ble_eq_true rfl⟩ rfl hl.1 rfl (Nat.le_of_ble_eq_true rfl) dX6_wordOf_110 ⟨Nat.le_of_ble_eq_true rfl, Nat.le_of_ble_eq_true rfl⟩ ?_
          obtain rfl := Option.some.inj h
          rw [← hQ]
          exact ro_lreturn hx hb hr hk  dX6_wordOf_113
        · have h := ite_f sw3 h
          by_cases sw4 : p1 = (4 : Int32)
          · have h := ite_t sw4 h
            refine lv_tableIn (tgt := 114) hx hb dX6_wordOf_1 (by rw [sw4]; decide) (by rw [sw4]; decide) (by rw [sw4]; rfl) (by decide) ?_
            refine lv_bipush (v := 102) hx hb dX6_wordOf_114 (by decide) ?_
            refine lv_bipush (v := 97) hx hb dX6_wordOf_116 (by decide) ?_
            refine lv_bipush (v := 108) hx hb dX6_wordOf_118 (by decide) ?_
            refine lv_bipush (v := 115) hx hb dX6_wordOf_120 (by decide) ?_
            refine lv_bipush (v := 101) hx hb dX6_wordOf_122 (by decide) ?_
            refine lv_iconst (v := 0) hx hb dX6_wordOf_124 (by decide) ?_
            obtain ⟨u125, hc_125, h⟩ := bnd_some h
            refine ro_S (n := 6) (As := [.int (102 : Int32), .int (97 : Int32), .int (108 : Int32), .int (115 : Int32), .int (101 : Int32), .int (0 : Int32)]) (rest := []) hx hb hml hown hts hN va_S.rf hK hP (c6_word l D kA (102 : Int32) (97 : Int32) (108 : Int32) (115 : Int32) (101 : Int32) (0 : Int32) u125 hc_125) [] rfl tw_997 tw_998 tw_80 tw_999 rfl rfl (by decide) ⟨Nat.le_of_ble_eq_true rfl, Nat.le_of_ble_eq_true rfl⟩ rfl hl.1 rfl (Nat.le_of_ble_eq_true rfl) dX6_wordOf_125 ⟨Nat.le_of_ble_eq_true rfl, Nat.le_of_ble_eq_true rfl⟩ ?_
            obtain rfl := Option.some.inj h
            rw [← hQ]
            exact ro_lreturn hx hb hr hk  dX6_wordOf_128
          · have h := ite_f sw4 h
            by_cases sw5 : p1 = (5 : Int32)
            · have h := ite_t sw5 h
              refine lv_tableIn (tgt := 129) hx hb dX6_wordOf_1 (by rw [sw5]; decide) (by rw [sw5]; decide) (by rw [sw5]; rfl) (by decide) ?_
              refine lv_bipush (v := 99) hx hb dX6_wordOf_129 (by decide) ?_
              refine lv_bipush (v := 121) hx hb dX6_wordOf_131 (by decide) ?_
              refine lv_bipush (v := 99) hx hb dX6_wordOf_133 (by decide) ?_
              refine lv_bipush (v := 108) hx hb dX6_wordOf_135 (by decide) ?_
              refine lv_bipush (v := 101) hx hb dX6_wordOf_137 (by decide) ?_
              refine lv_bipush (v := 115) hx hb dX6_wordOf_139 (by decide) ?_
              obtain ⟨u141, hc_141, h⟩ := bnd_some h
              refine ro_S (n := 6) (As := [.int (99 : Int32), .int (121 : Int32), .int (99 : Int32), .int (108 : Int32), .int (101 : Int32), .int (115 : Int32)]) (rest := []) hx hb hml hown hts hN va_S.rf hK hP (c6_word l D kA (99 : Int32) (121 : Int32) (99 : Int32) (108 : Int32) (101 : Int32) (115 : Int32) u141 hc_141) [] rfl tw_997 tw_998 tw_80 tw_999 rfl rfl (by decide) ⟨Nat.le_of_ble_eq_true rfl, Nat.le_of_ble_eq_true rfl⟩ rfl hl.1 rfl (Nat.le_of_ble_eq_true rfl) dX6_wordOf_141 ⟨Nat.le_of_ble_eq_true rfl, Nat.le_of_ble_eq_true rfl⟩ ?_
              obtain rfl := Option.some.inj h
              rw [← hQ]
              exact ro_lreturn hx hb hr hk  dX6_wordOf_144
            · have h := ite_f sw5 h
              by_cases sw6 : p1 = (6 : Int32)
              · have h := ite_t sw6 h
                refine lv_tableIn (tgt := 145) hx hb dX6_wordOf_1 (by rw [sw6]; decide) (by rw [sw6]; decide) (by rw [sw6]; rfl) (by decide) ?_
                refine lv_bipush (v := 109) hx hb dX6_wordOf_145 (by decide) ?_
                refine lv_bipush (v := 111) hx hb dX6_wordOf_147 (by decide) ?_
                refine lv_bipush (v := 115) hx hb dX6_wordOf_149 (by decide) ?_
                refine lv_bipush (v := 116) hx hb dX6_wordOf_151 (by decide) ?_
                refine lv_iconst (v := 0) hx hb dX6_wordOf_153 (by decide) ?_
                refine lv_iconst (v := 0) hx hb dX6_wordOf_154 (by decide) ?_
                obtain ⟨u155, hc_155, h⟩ := bnd_some h
                refine ro_S (n := 6) (As := [.int (109 : Int32), .int (111 : Int32), .int (115 : Int32), .int (116 : Int32), .int (0 : Int32), .int (0 : Int32)]) (rest := []) hx hb hml hown hts hN va_S.rf hK hP (c6_word l D kA (109 : Int32) (111 : Int32) (115 : Int32) (116 : Int32) (0 : Int32) (0 : Int32) u155 hc_155) [] rfl tw_997 tw_998 tw_80 tw_999 rfl rfl (by decide) ⟨Nat.le_of_ble_eq_true rfl, Nat.le_of_ble_eq_true rfl⟩ rfl hl.1 rfl (Nat.le_of_ble_eq_true rfl) dX6_wordOf_155 ⟨Nat.le_of_ble_eq_true rfl, Nat.le_of_ble_eq_true rfl⟩ ?_
                obtain rfl := Option.some.inj h
                rw [← hQ]
                exact ro_lreturn hx hb hr hk  dX6_wordOf_158
              · have h := ite_f sw6 h
                by_cases sw7 : p1 = (7 : Int32)
                · have h := ite_t sw7 h
                  refine lv_tableIn (tgt := 159) hx hb dX6_wordOf_1 (by rw [sw7]; decide) (by rw [sw7]; decide) (by rw [sw7]; rfl) (by decide) ?_
                  refine lv_bipush (v := 108) hx hb dX6_wordOf_159 (by decide) ?_
                  refine lv_bipush (v := 101) hx hb dX6_wordOf_161 (by decide) ?_
                  refine lv_bipush (v := 97) hx hb dX6_wordOf_163 (by decide) ?_
                  refine lv_bipush (v := 115) hx hb dX6_wordOf_165 (by decide) ?_
                  refine lv_bipush (v := 116) hx hb dX6_wordOf_167 (by decide) ?_
                  refine lv_iconst (v := 0) hx hb dX6_wordOf_169 (by decide) ?_
                  obtain ⟨u170, hc_170, h⟩ := bnd_some h
                  refine ro_S (n := 6) (As := [.int (108 : Int32), .int (101 : Int32), .int (97 : Int32), .int (115 : Int32), .int (116 : Int32), .int (0 : Int32)]) (rest := []) hx hb hml hown hts hN va_S.rf hK hP (c6_word l D kA (108 : Int32) (101 : Int32) (97 : Int32) (115 : Int32) (116 : Int32) (0 : Int32) u170 hc_170) [] rfl tw_997 tw_998 tw_80 tw_999 rfl rfl (by decide) ⟨Nat.le_of_ble_eq_true rfl, Nat.le_of_ble_eq_true rfl⟩ rfl hl.1 rfl (Nat.le_of_ble_eq_true rfl) dX6_wordOf_170 ⟨Nat.le_of_ble_eq_true rfl, Nat.le_of_ble_eq_true rfl⟩ ?_
                  obtain rfl := Option.some.inj h
                  rw [← hQ]
                  exact ro_lreturn hx hb hr hk  dX6_wordOf_173
                · have h := ite_f sw7 h
                  by_cases sw8 : p1 = (8 : Int32)
                  · have h := ite_t sw8 h
                    refine lv_tableIn (tgt := 174) hx hb dX6_wordOf_1 (by rw [sw8]; decide) (by rw [sw8]; decide) (by rw [sw8]; rfl) (by decide) ?_
                    refine lv_bipush (v := 108) hx hb dX6_wordOf_174 (by decide) ?_
                    refine lv_bipush (v := 111) hx hb dX6_wordOf_176 (by decide) ?_
                    refine lv_bipush (v := 97) hx hb dX6_wordOf_178 (by decide) ?_
                    refine lv_bipush (v := 100) hx hb dX6_wordOf_180 (by decide) ?_
                    refine lv_iconst (v := 0) hx hb dX6_wordOf_182 (by decide) ?_
                    refine lv_iconst (v := 0) hx hb dX6_wordOf_183 (by decide) ?_
                    obtain ⟨u184, hc_184, h⟩ := bnd_some h
                    refine ro_S (n := 6) (As := [.int (108 : Int32), .int (111 : Int32), .int (97 : Int32), .int (100 : Int32), .int (0 : Int32), .int (0 : Int32)]) (rest := []) hx hb hml hown hts hN va_S.rf hK hP (c6_word l D kA (108 : Int32) (111 : Int32) (97 : Int32) (100 : Int32) (0 : Int32) (0 : Int32) u184 hc_184) [] rfl tw_997 tw_998 tw_80 tw_999 rfl rfl (by decide) ⟨Nat.le_of_ble_eq_true rfl, Nat.le_of_ble_eq_true rfl⟩ rfl hl.1 rfl (Nat.le_of_ble_eq_true rfl) dX6_wordOf_184 ⟨Nat.le_of_ble_eq_true rfl, Nat.le_of_ble_eq_true rfl⟩ ?_
                    obtain rfl := Option.some.inj h
                    rw [← hQ]
                    exact ro_lreturn hx hb hr hk  dX6_wordOf_187
                  · have h := ite_f sw8 h
                    refine lv_tableOut (tgt := 188) hx hb dX6_wordOf_1 (by have q0 := lv_neT (a := 0) sw0 (by decide); have q1 := lv_neT (a := 1) sw1 (by decide); have q2 := lv_neT (a := 2) sw2 (by decide); have q3 := lv_neT (a := 3) sw3 (by decide); have q4 := lv_neT (a := 4) sw4 (by decide); have q5 := lv_neT (a := 5) sw5 (by decide); have q6 := lv_neT (a := 6) sw6 (by decide); have q7 := lv_neT (a := 7) sw7 (by decide); have q8 := lv_neT (a := 8) sw8 (by decide); omega) (by decide) ?_
                    refine lv_bipush (v := 115) hx hb dX6_wordOf_188 (by decide) ?_
                    refine lv_bipush (v := 108) hx hb dX6_wordOf_190 (by decide) ?_
                    refine lv_bipush (v := 111) hx hb dX6_wordOf_192 (by decide) ?_
                    refine lv_bipush (v := 112) hx hb dX6_wordOf_194 (by decide) ?_
                    refine lv_bipush (v := 101) hx hb dX6_wordOf_196 (by decide) ?_
                    refine lv_iconst (v := 0) hx hb dX6_wordOf_198 (by decide) ?_
                    obtain ⟨u199, hc_199, h⟩ := bnd_some h
                    refine ro_S (n := 6) (As := [.int (115 : Int32), .int (108 : Int32), .int (111 : Int32), .int (112 : Int32), .int (101 : Int32), .int (0 : Int32)]) (rest := []) hx hb hml hown hts hN va_S.rf hK hP (c6_word l D kA (115 : Int32) (108 : Int32) (111 : Int32) (112 : Int32) (101 : Int32) (0 : Int32) u199 hc_199) [] rfl tw_997 tw_998 tw_80 tw_999 rfl rfl (by decide) ⟨Nat.le_of_ble_eq_true rfl, Nat.le_of_ble_eq_true rfl⟩ rfl hl.1 rfl (Nat.le_of_ble_eq_true rfl) dX6_wordOf_199 ⟨Nat.le_of_ble_eq_true rfl, Nat.le_of_ble_eq_true rfl⟩ ?_
                    obtain rfl := Option.some.inj h
                    rw [← hQ]
                    exact ro_lreturn hx hb hr hk  dX6_wordOf_202
abbrev rm6_sortOf : Room := { frames := 2, cells := 0, slots := 0, locals := 47 }
set_option maxHeartbeats 4000000 in
set_option maxRecDepth 100000 in
theorem c6_sortOf (l : Launch) (D : va_G) (kA : Nat → ClassId) (a_md : Nat → Nat) (F : Nat) (p1 : Int64) (res : Int32) (h : f6_sortOf F p1 = some res) : Ro l yX6_sortOf cX6_sortOf 5 (some .int) rm6_sortOf D kA [.ref (a_md 0), .long p1] [] (.int res) := by
  refine Ro.of (by decide +kernel) (Nat.le_of_ble_eq_true rfl) ?_
  intro p e s m args below meth c hF hP hK ls hl
  generalize hQ : roQ below _ args s = Q
  obtain ⟨hx, hb, hml, hown, hr, hk, hts, hN⟩ := hF
  have hl : lv_has ls 5 [(0, .ref (a_md 0)), (1, .long p1)] := hl
  unfold f6_sortOf at h
  refine lv_iconst (v := -1) hx hb dX6_sortOf_0 (by decide) ?_
  refine lv_istore_n (lv' := [(3, .int (-1 : Int32)), (0, .ref (a_md 0)), (1, .long p1)]) hx hb dX6_sortOf_1 rfl hl (by decide) rfl (fun ls hl => ?_)
  refine lv_iconst (v := 0) hx hb dX6_sortOf_2 (by decide) ?_
  refine lv_istore (lv' := [(4, .int (0 : Int32)), (3, .int (-1 : Int32)), (0, .ref (a_md 0)), (1, .long p1)]) hx hb dX6_sortOf_3 hl (by decide) rfl (fun ls hl => ?_)
  obtain ⟨k5, e5, hk5, hi5, hc5⟩ := bnd_name h
  have x41w : ∀ (x41 : Int32) (ls : Array Slot), k5 x41 = some res → lv_has ls 5 [(3, .int x41)] → W p l e rm6_sortOf s m args below meth c s.heap [] 0 0 Q (F0 m 41 ls []) := by
    intro x41 ls h hl
    have h := app_of hk5 h
    refine lv_iload_n hx hb dX6_sortOf_41 rfl (lv_at hl 0 rfl) ?_
    obtain rfl := Option.some.inj h
    rw [← hQ]
    exact ro_ireturn hx hb hr hk  dX6_sortOf_42
  have lp5 : ∀ (n5 : Nat) (s5 : Int32 × Int32) (ls : Array Slot), iter (f6_sortOf_L5 p1) n5 s5 = some e5 → lv_has ls 5 [(1, .long p1), (3, .int s5.1), (4, .int s5.2)] → W p l e rm6_sortOf s m args below meth c s.heap [] 0 0 Q (F0 m 5 ls []) := by
    intro n5
    induction n5 with
    | zero =>
      intro s5 ls h hl
      exact (iter_zero h).elim
    | succ n5 ih5 =>
      intro s5 ls h hl
      obtain ⟨z5, h, hL5, hR5⟩ := iter_split h
      unfold f6_sortOf_L5 at h
      refine lv_iload hx hb dX6_sortOf_5 (lv_at hl 2 rfl) ?_
      refine lv_bipush (v := 9) hx hb dX6_sortOf_7 (by decide) ?_
      refine lv_icmp_gt (tgt := 41) hx hb dX6_sortOf_9 (by decide) (fun bc => ?_) (fun bc => ?_)
      · have h := ite_t bc h
        obtain rfl := Option.some.inj h
        exact x41w _ ls (eq_some_app (hR5 _ rfl) hc5) (lv_sub hl [1] rfl)
      · have h := ite_f bc h
        refine lv_lload_n hx hb dX6_sortOf_12 rfl (lv_at hl 0 rfl) ?_
        refine lv_lconst (v := 0) hx hb dX6_sortOf_13 (by decide) ?_
        refine W.lcmp hx hb dX6_sortOf_14 ?_
        obtain ⟨k34, hk34, h⟩ := jn_name h
        have j34 : ∀ (v34 : Int32) (ls : Array Slot), k34 v34 = some z5 → lv_has ls 5 [(1, .long p1), (4, .int s5.2)] → W p l e rm6_sortOf s m args below meth c s.heap [] 0 0 Q (F0 m 34 ls [.int v34]) := by
          intro v34 ls h hl
          have h := app_of hk34 h
          refine lv_istore_n (lv' := [(3, .int v34), (1, .long p1), (4, .int s5.2)]) hx hb dX6_sortOf_34 rfl hl (by decide) rfl (fun ls hl => ?_)
          refine lv_iinc (v := (s5.2 + (1 : Int32))) (lv' := [(4, .int (s5.2 + (1 : Int32))), (3, .int v34), (1, .long p1)]) hx hb dX6_sortOf_35 hl (k := 2) rfl rfl (by decide) rfl (fun ls hl => ?_)
          refine lv_goto (tgt := 5) hx hb dX6_sortOf_38 (by decide) ?_
          obtain rfl := Option.some.inj h
          exact ih5 _ ls (hL5 _ rfl) (lv_sub hl [2, 1, 0] rfl)
        refine lv_if_le (tgt := 33) hx hb dX6_sortOf_15 (by decide) (fun bc => ?_) (fun bc => ?_)
        · have h := ite_t bc h
          refine lv_iload_n hx hb dX6_sortOf_33 rfl (lv_at hl 1 rfl) ?_
          exact j34 _ ls h (lv_sub hl [0, 2] rfl)
        · have h := ite_f bc h
          refine lv_iload hx hb dX6_sortOf_18 (lv_at hl 2 rfl) ?_
          obtain ⟨u20, hc_20, h⟩ := bnd_some h
          refine ro_S (n := 1) (As := [.int s5.2]) (rest := []) hx hb hml hown hts hN va_S.rf hK hP (c6_wordOf l D kA s5.2 u20 hc_20) [] rfl tw_994 tw_995 tw_80 tw_996 rfl rfl (by decide) ⟨Nat.le_of_ble_eq_true rfl, Nat.le_of_ble_eq_true rfl⟩ rfl hl.1 rfl (Nat.le_of_ble_eq_true rfl) dX6_sortOf_20 ⟨Nat.le_of_ble_eq_true rfl, Nat.le_of_ble_eq_true rfl⟩ ?_
          refine lv_lload_n hx hb dX6_sortOf_23 rfl (lv_at hl 0 rfl) ?_
          refine W.lcmp hx hb dX6_sortOf_24 ?_
          refine lv_if_ne (tgt := 33) hx hb dX6_sortOf_25 (by decide) (fun bc => ?_) (fun bc => ?_)
          · have h := ite_f bc h
            refine lv_iload_n hx hb dX6_sortOf_33 rfl (lv_at hl 1 rfl) ?_
            exact j34 _ ls h (lv_sub hl [0, 2] rfl)
          · have h := ite_t bc h
            refine lv_iload hx hb dX6_sortOf_28 (lv_at hl 2 rfl) ?_
            refine lv_goto (tgt := 34) hx hb dX6_sortOf_30 (by decide) ?_
            exact j34 _ ls h (lv_sub hl [0, 2] rfl)
  exact lp5 F ((-1 : Int32), (0 : Int32)) ls hi5 (lv_sub hl [3, 1, 0] rfl)
abbrev rm6_clockOf : Room := { frames := 0, cells := 0, slots := 0, locals := 0 }
set_option maxHeartbeats 4000000 in
set_option maxRecDepth 100000 in
theorem c6_clockOf (l : Launch) (D : va_G) (kA : Nat → ClassId) (a_md : Nat → Nat) (F : Nat) (p1 : Int64) (md : T6) (res : Int32) (h : f6_clockOf F p1 md = some res) : Ro l yX6_clockOf cX6_clockOf 5 (some .int) rm6_clockOf D kA [.ref (a_md 0), .long p1] [(a_md 0, .inr (6, [.int md.1.1, .ref (a_md 2), .ref (a_md 3), .ref (a_md 4), .int md.1.2.2.2.2, .int md.2.1.1, .ref (a_md 7), .ref (a_md 8), .ref (a_md 9), .ref (a_md 10), .ref (a_md 11), .ref (a_md 12), .ref (a_md 13), .ref (a_md 14), .int md.2.2.1.1, .ref (a_md 16), .ref (a_md 17), .ref (a_md 18), .ref (a_md 19), .ref (a_md 20), .ref (a_md 21), .ref (a_md 22), .int md.2.2.2.1.1, .int md.2.2.2.1.2.1, .int md.2.2.2.1.2.2.1, .int md.2.2.2.1.2.2.2.1, .int md.2.2.2.1.2.2.2.2.1, .ref (a_md 28), .ref (a_md 29), .ref (a_md 30), .int md.2.2.2.2.2.1, .int md.2.2.2.2.2.2.1, .int md.2.2.2.2.2.2.2])), (a_md 2, .inl (kA 0, 640, .inl md.1.2.1)), (a_md 3, .inl (kA 0, 40, .inl md.1.2.2.1)), (a_md 4, .inl (kA 0, 1200, .inl md.1.2.2.2.1)), (a_md 7, .inl (kA 0, 80, .inl md.2.1.2.1)), (a_md 8, .inl (kA 2, 80, .inr (.inl md.2.1.2.2.1))), (a_md 9, .inl (kA 2, 80, .inr (.inl md.2.1.2.2.2.1))), (a_md 10, .inl (kA 0, 80, .inl md.2.1.2.2.2.2.1)), (a_md 11, .inl (kA 0, 80, .inl md.2.1.2.2.2.2.2.1)), (a_md 12, .inl (kA 0, 80, .inl md.2.1.2.2.2.2.2.2.1)), (a_md 13, .inl (kA 0, 3840, .inl md.2.1.2.2.2.2.2.2.2.1)), (a_md 14, .inl (kA 0, 240, .inl md.2.1.2.2.2.2.2.2.2.2)), (a_md 16, .inl (kA 0, 24, .inl md.2.2.1.2.1)), (a_md 17, .inl (kA 0, 24, .inl md.2.2.1.2.2.1)), (a_md 18, .inl (kA 2, 24, .inr (.inl md.2.2.1.2.2.2.1))), (a_md 19, .inl (kA 2, 24, .inr (.inl md.2.2.1.2.2.2.2.1))), (a_md 20, .inl (kA 2, 24, .inr (.inl md.2.2.1.2.2.2.2.2.1))), (a_md 21, .inl (kA 2, 24, .inr (.inl md.2.2.1.2.2.2.2.2.2.1))), (a_md 22, .inl (kA 3, 24, .inl md.2.2.1.2.2.2.2.2.2.2)), (a_md 28, .inl (kA 0, 40, .inl md.2.2.2.1.2.2.2.2.2.1)), (a_md 29, .inl (kA 0, 40, .inl md.2.2.2.1.2.2.2.2.2.2)), (a_md 30, .inl (kA 3, 17, .inl md.2.2.2.2.1))] (.int res) := by
  refine Ro.of (by decide +kernel) (Nat.le_of_ble_eq_true rfl) ?_
  intro p e s m args below meth c hF hP hK ls hl
  generalize hQ : roQ below _ args s = Q
  obtain ⟨hx, hb, hml, hown, hr, hk, hts, hN⟩ := hF
  have hl : lv_has ls 5 [(0, .ref (a_md 0)), (1, .long p1)] := hl
  unfold f6_clockOf at h
  refine lv_iconst (v := -1) hx hb dX6_clockOf_0 (by decide) ?_
  refine lv_istore_n (lv' := [(3, .int (-1 : Int32)), (0, .ref (a_md 0)), (1, .long p1)]) hx hb dX6_clockOf_1 rfl hl (by decide) rfl (fun ls hl => ?_)
  refine lv_iconst (v := 0) hx hb dX6_clockOf_2 (by decide) ?_
  refine lv_istore (lv' := [(4, .int (0 : Int32)), (3, .int (-1 : Int32)), (0, .ref (a_md 0)), (1, .long p1)]) hx hb dX6_clockOf_3 hl (by decide) rfl (fun ls hl => ?_)
  obtain ⟨k5, e5, hk5, hi5, hc5⟩ := bnd_name h
  have x50w : ∀ (x50 : Int32) (ls : Array Slot), k5 x50 = some res → lv_has ls 5 [(3, .int x50)] → W p l e rm6_clockOf s m args below meth c s.heap [] 0 0 Q (F0 m 50 ls []) := by
    intro x50 ls h hl
    have h := app_of hk5 h
    refine lv_iload_n hx hb dX6_clockOf_50 rfl (lv_at hl 0 rfl) ?_
    obtain rfl := Option.some.inj h
    rw [← hQ]
    exact ro_ireturn hx hb hr hk  dX6_clockOf_51
  have lp5 : ∀ (n5 : Nat) (s5 : Int32 × Int32) (ls : Array Slot), iter (f6_clockOf_L5 p1 md) n5 s5 = some e5 → lv_has ls 5 [(0, .ref (a_md 0)), (1, .long p1), (3, .int s5.1), (4, .int s5.2)] → W p l e rm6_clockOf s m args below meth c s.heap [] 0 0 Q (F0 m 5 ls []) := by
    intro n5
    induction n5 with
    | zero =>
      intro s5 ls h hl
      exact (iter_zero h).elim
    | succ n5 ih5 =>
      intro s5 ls h hl
      obtain ⟨z5, h, hL5, hR5⟩ := iter_split h
      unfold f6_clockOf_L5 at h
      refine lv_iload hx hb dX6_clockOf_5 (lv_at hl 3 rfl) ?_
      refine lv_aload_n hx hb dX6_clockOf_7 rfl (lv_at hl 0 rfl) ?_
      refine va_get (D := D) (ci := 6) (v := .int md.2.2.2.1.2.2.2.2.1) (C := "ConstraintTextModel") (T := TX6) (N := 33) hx hb hts ing6 hown hK hP 0 rfl rfl 26 (by decide) (hts _ tw_876) (fun _ h9 => h9) rfl dX6_clockOf_8 ?_
      refine lv_icmp_ge (tgt := 50) hx hb dX6_clockOf_11 (by decide) (fun bc => ?_) (fun bc => ?_)
      · have h := ite_t bc h
        obtain rfl := Option.some.inj h
        exact x50w _ ls (eq_some_app (hR5 _ rfl) hc5) (lv_sub hl [2] rfl)
      · have h := ite_f bc h
        refine lv_aload_n hx hb dX6_clockOf_14 rfl (lv_at hl 0 rfl) ?_
        refine va_get (D := D) (ci := 6) (v := .ref (a_md 8)) (C := "ConstraintTextModel") (T := TX6) (N := 33) hx hb hts ing6 hown hK hP 0 rfl rfl 7 (by decide) (hts _ tw_857) (fun _ h9 => h9) rfl dX6_clockOf_15 ?_
        refine lv_bipush (v := 40) hx hb dX6_clockOf_18 (by decide) ?_
        refine lv_aload_n hx hb dX6_clockOf_20 rfl (lv_at hl 0 rfl) ?_
        refine va_get (D := D) (ci := 6) (v := .ref (a_md 16)) (C := "ConstraintTextModel") (T := TX6) (N := 33) hx hb hts ing6 hown hK hP 0 rfl rfl 15 (by decide) (hts _ tw_865) (fun _ h9 => h9) rfl dX6_clockOf_21 ?_
        refine lv_bipush (v := 12) hx hb dX6_clockOf_24 (by decide) ?_
        refine lv_iload hx hb dX6_clockOf_26 (lv_at hl 3 rfl) ?_
        refine lv_iadd hx hb dX6_clockOf_28 ?_
        obtain ⟨g29, h⟩ := grd_some h
        refine va_iald hx hb hK hP 12 0 rfl rfl (inb_in g29) dX6_clockOf_29 ?_
        refine lv_iadd hx hb dX6_clockOf_30 ?_
        obtain ⟨g31, h⟩ := grd_some h
        refine va_lald hx hb hK hP 5 2 rfl rfl (inb_in g31) dX6_clockOf_31 ?_
        refine lv_lload_n hx hb dX6_clockOf_32 rfl (lv_at hl 1 rfl) ?_
        refine W.lcmp hx hb dX6_clockOf_33 ?_
        obtain ⟨k43, hk43, h⟩ := jn_name h
        have j43 : ∀ (v43 : Int32) (ls : Array Slot), k43 v43 = some z5 → lv_has ls 5 [(0, .ref (a_md 0)), (1, .long p1), (4, .int s5.2)] → W p l e rm6_clockOf s m args below meth c s.heap [] 0 0 Q (F0 m 43 ls [.int v43]) := by
          intro v43 ls h hl
          have h := app_of hk43 h
          refine lv_istore_n (lv' := [(3, .int v43), (0, .ref (a_md 0)), (1, .long p1), (4, .int s5.2)]) hx hb dX6_clockOf_43 rfl hl (by decide) rfl (fun ls hl => ?_)
          refine lv_iinc (v := (s5.2 + (1 : Int32))) (lv' := [(4, .int (s5.2 + (1 : Int32))), (3, .int v43), (0, .ref (a_md 0)), (1, .long p1)]) hx hb dX6_clockOf_44 hl (k := 3) rfl rfl (by decide) rfl (fun ls hl => ?_)
          refine lv_goto (tgt := 5) hx hb dX6_clockOf_47 (by decide) ?_
          obtain rfl := Option.some.inj h
          exact ih5 _ ls (hL5 _ rfl) (lv_sub hl [2, 3, 1, 0] rfl)
        refine lv_if_ne (tgt := 42) hx hb dX6_clockOf_34 (by decide) (fun bc => ?_) (fun bc => ?_)
        · have h := ite_f bc h
          refine lv_iload_n hx hb dX6_clockOf_42 rfl (lv_at hl 2 rfl) ?_
          exact j43 _ ls h (lv_sub hl [0, 1, 3] rfl)
        · have h := ite_t bc h
          refine lv_iload hx hb dX6_clockOf_37 (lv_at hl 3 rfl) ?_
          refine lv_goto (tgt := 43) hx hb dX6_clockOf_39 (by decide) ?_
          exact j43 _ ls h (lv_sub hl [0, 1, 3] rfl)
  exact lp5 F ((-1 : Int32), (0 : Int32)) ls hi5 (lv_sub hl [2, 3, 1, 0] rfl)
abbrev rm6_takeNew : Room := { frames := 2, cells := 0, slots := 0, locals := 41 }
set_option maxHeartbeats 4000000 in
set_option maxRecDepth 100000 in
theorem c6_takeNew (l : Launch) (D : va_G) (kA : Nat → ClassId) (a_md : Nat → Nat) (F : Nat) (p1 : Int32) (md : T6) (res : T6) (h : f6_takeNew F p1 md = some res) : Rw l yX6_takeNew cX6_takeNew 4 none rm6_takeNew D kA [.ref (a_md 0), .int p1] [(a_md 0, .inr (6, [.int md.1.1, .ref (a_md 2), .ref (a_md 3), .ref (a_md 4), .int md.1.2.2.2.2, .int md.2.1.1, .ref (a_md 7), .ref (a_md 8), .ref (a_md 9), .ref (a_md 10), .ref (a_md 11), .ref (a_md 12), .ref (a_md 13), .ref (a_md 14), .int md.2.2.1.1, .ref (a_md 16), .ref (a_md 17), .ref (a_md 18), .ref (a_md 19), .ref (a_md 20), .ref (a_md 21), .ref (a_md 22), .int md.2.2.2.1.1, .int md.2.2.2.1.2.1, .int md.2.2.2.1.2.2.1, .int md.2.2.2.1.2.2.2.1, .int md.2.2.2.1.2.2.2.2.1, .ref (a_md 28), .ref (a_md 29), .ref (a_md 30), .int md.2.2.2.2.2.1, .int md.2.2.2.2.2.2.1, .int md.2.2.2.2.2.2.2])), (a_md 2, .inl (kA 0, 640, .inl md.1.2.1)), (a_md 3, .inl (kA 0, 40, .inl md.1.2.2.1)), (a_md 4, .inl (kA 0, 1200, .inl md.1.2.2.2.1)), (a_md 7, .inl (kA 0, 80, .inl md.2.1.2.1)), (a_md 8, .inl (kA 2, 80, .inr (.inl md.2.1.2.2.1))), (a_md 9, .inl (kA 2, 80, .inr (.inl md.2.1.2.2.2.1))), (a_md 10, .inl (kA 0, 80, .inl md.2.1.2.2.2.2.1)), (a_md 11, .inl (kA 0, 80, .inl md.2.1.2.2.2.2.2.1)), (a_md 12, .inl (kA 0, 80, .inl md.2.1.2.2.2.2.2.2.1)), (a_md 13, .inl (kA 0, 3840, .inl md.2.1.2.2.2.2.2.2.2.1)), (a_md 14, .inl (kA 0, 240, .inl md.2.1.2.2.2.2.2.2.2.2)), (a_md 16, .inl (kA 0, 24, .inl md.2.2.1.2.1)), (a_md 17, .inl (kA 0, 24, .inl md.2.2.1.2.2.1)), (a_md 18, .inl (kA 2, 24, .inr (.inl md.2.2.1.2.2.2.1))), (a_md 19, .inl (kA 2, 24, .inr (.inl md.2.2.1.2.2.2.2.1))), (a_md 20, .inl (kA 2, 24, .inr (.inl md.2.2.1.2.2.2.2.2.1))), (a_md 21, .inl (kA 2, 24, .inr (.inl md.2.2.1.2.2.2.2.2.2.1))), (a_md 22, .inl (kA 3, 24, .inl md.2.2.1.2.2.2.2.2.2.2)), (a_md 28, .inl (kA 0, 40, .inl md.2.2.2.1.2.2.2.2.2.1)), (a_md 29, .inl (kA 0, 40, .inl md.2.2.2.1.2.2.2.2.2.2)), (a_md 30, .inl (kA 3, 17, .inl md.2.2.2.2.1))] none [(a_md 0, .inr (6, [.int res.1.1, .ref (a_md 2), .ref (a_md 3), .ref (a_md 4), .int res.1.2.2.2.2, .int res.2.1.1, .ref (a_md 7), .ref (a_md 8), .ref (a_md 9), .ref (a_md 10), .ref (a_md 11), .ref (a_md 12), .ref (a_md 13), .ref (a_md 14), .int res.2.2.1.1, .ref (a_md 16), .ref (a_md 17), .ref (a_md 18), .ref (a_md 19), .ref (a_md 20), .ref (a_md 21), .ref (a_md 22), .int res.2.2.2.1.1, .int res.2.2.2.1.2.1, .int res.2.2.2.1.2.2.1, .int res.2.2.2.1.2.2.2.1, .int res.2.2.2.1.2.2.2.2.1, .ref (a_md 28), .ref (a_md 29), .ref (a_md 30), .int res.2.2.2.2.2.1, .int res.2.2.2.2.2.2.1, .int res.2.2.2.2.2.2.2])), (a_md 2, .inl (kA 0, 640, .inl res.1.2.1)), (a_md 3, .inl (kA 0, 40, .inl res.1.2.2.1)), (a_md 4, .inl (kA 0, 1200, .inl res.1.2.2.2.1)), (a_md 7, .inl (kA 0, 80, .inl res.2.1.2.1)), (a_md 8, .inl (kA 2, 80, .inr (.inl res.2.1.2.2.1))), (a_md 9, .inl (kA 2, 80, .inr (.inl res.2.1.2.2.2.1))), (a_md 10, .inl (kA 0, 80, .inl res.2.1.2.2.2.2.1)), (a_md 11, .inl (kA 0, 80, .inl res.2.1.2.2.2.2.2.1)), (a_md 12, .inl (kA 0, 80, .inl res.2.1.2.2.2.2.2.2.1)), (a_md 13, .inl (kA 0, 3840, .inl res.2.1.2.2.2.2.2.2.2.1)), (a_md 14, .inl (kA 0, 240, .inl res.2.1.2.2.2.2.2.2.2.2)), (a_md 16, .inl (kA 0, 24, .inl res.2.2.1.2.1)), (a_md 17, .inl (kA 0, 24, .inl res.2.2.1.2.2.1)), (a_md 18, .inl (kA 2, 24, .inr (.inl res.2.2.1.2.2.2.1))), (a_md 19, .inl (kA 2, 24, .inr (.inl res.2.2.1.2.2.2.2.1))), (a_md 20, .inl (kA 2, 24, .inr (.inl res.2.2.1.2.2.2.2.2.1))), (a_md 21, .inl (kA 2, 24, .inr (.inl res.2.2.1.2.2.2.2.2.2.1))), (a_md 22, .inl (kA 3, 24, .inl res.2.2.1.2.2.2.2.2.2.2)), (a_md 28, .inl (kA 0, 40, .inl res.2.2.2.1.2.2.2.2.2.1)), (a_md 29, .inl (kA 0, 40, .inl res.2.2.2.1.2.2.2.2.2.2)), (a_md 30, .inl (kA 3, 17, .inl res.2.2.2.2.1))] := by
  refine Rw.of (by decide) (Nat.le_of_ble_eq_true rfl) ?_
  intro p e s m args below meth c A hF hP hD hS hA hK ls hl
  generalize hQ : rwQ below D A _ _ args s = Q
  obtain ⟨hx, hb, hml, hown, hr, hk, hts, hN⟩ := hF
  have hl : lv_has ls 4 [(0, .ref (a_md 0)), (1, .int p1)] := hl
  unfold f6_takeNew at h
  refine lv_aload_n hx hb dX6_takeNew_0 rfl (lv_at hl 0 rfl) ?_
  obtain ⟨u1, hc_1, h⟩ := bnd_some h
  refine ro_V (n := 0) (As := []) (rest := []) hx hb hml hown hts hN hS hK hP (c6_wordName l D kA a_md F md u1 hc_1) [0, 1, 2, 3, 4, 5, 6, 7, 8, 9, 10, 11, 12, 13, 14, 15, 16, 17, 18, 19, 20, 21] rfl 0 6 rfl rfl rfl tw_984 tw_986 tw_38 tw_80 tw_987 rfl rfl (by decide) ⟨Nat.le_of_ble_eq_true rfl, Nat.le_of_ble_eq_true rfl⟩ rfl hl.1 rfl (Nat.le_of_ble_eq_true rfl) dX6_takeNew_1 ⟨Nat.le_of_ble_eq_true rfl, Nat.le_of_ble_eq_true rfl⟩ ?_
  refine lv_lstore_n (lv' := [(2, .long u1), (0, .ref (a_md 0)), (1, .int p1)]) hx hb dX6_takeNew_4 rfl hl (by decide) rfl (fun ls hl => ?_)
  refine lv_aload_n hx hb dX6_takeNew_5 rfl (lv_at hl 1 rfl) ?_
  refine va_get (D := D) (ci := 6) (v := .ref (a_md 28)) (C := "ConstraintTextModel") (T := TX6) (N := 33) hx hb hts ing6 hown hK hP 0 rfl rfl 27 (by decide) (hts _ tw_877) (fun _ h9 => h9) rfl dX6_takeNew_6 ?_
  refine lv_aload_n hx hb dX6_takeNew_9 rfl (lv_at hl 1 rfl) ?_
  refine va_get (D := D) (ci := 6) (v := .int md.2.2.2.1.2.2.2.1) (C := "ConstraintTextModel") (T := TX6) (N := 33) hx hb hts ing6 hown hK hP 0 rfl rfl 25 (by decide) (hts _ tw_875) (fun _ h9 => h9) rfl dX6_takeNew_10 ?_
  refine lv_aload_n hx hb dX6_takeNew_13 rfl (lv_at hl 1 rfl) ?_
  refine va_get (D := D) (ci := 6) (v := .int md.2.2.2.1.1) (C := "ConstraintTextModel") (T := TX6) (N := 33) hx hb hts ing6 hown hK hP 0 rfl rfl 22 (by decide) (hts _ tw_872) (fun _ h9 => h9) rfl dX6_takeNew_14 ?_
  obtain ⟨g17, h⟩ := grd_some h
  refine va_iast hx hb hK hP hD hS 19 0 rfl rfl (inb_in g17) dX6_takeNew_17 (fun H locs hP hD hS => ?_)
  have hP : va_P D vwCl [(a_md 0, .inr (6, [.int md.1.1, .ref (a_md 2), .ref (a_md 3), .ref (a_md 4), .int md.1.2.2.2.2, .int md.2.1.1, .ref (a_md 7), .ref (a_md 8), .ref (a_md 9), .ref (a_md 10), .ref (a_md 11), .ref (a_md 12), .ref (a_md 13), .ref (a_md 14), .int md.2.2.1.1, .ref (a_md 16), .ref (a_md 17), .ref (a_md 18), .ref (a_md 19), .ref (a_md 20), .ref (a_md 21), .ref (a_md 22), .int md.2.2.2.1.1, .int md.2.2.2.1.2.1, .int md.2.2.2.1.2.2.1, .int md.2.2.2.1.2.2.2.1, .int md.2.2.2.1.2.2.2.2.1, .ref (a_md 28), .ref (a_md 29), .ref (a_md 30), .int md.2.2.2.2.2.1, .int md.2.2.2.2.2.2.1, .int md.2.2.2.2.2.2.2])), (a_md 2, .inl (kA 0, 640, .inl md.1.2.1)), (a_md 3, .inl (kA 0, 40, .inl md.1.2.2.1)), (a_md 4, .inl (kA 0, 1200, .inl md.1.2.2.2.1)), (a_md 7, .inl (kA 0, 80, .inl md.2.1.2.1)), (a_md 8, .inl (kA 2, 80, .inr (.inl md.2.1.2.2.1))), (a_md 9, .inl (kA 2, 80, .inr (.inl md.2.1.2.2.2.1))), (a_md 10, .inl (kA 0, 80, .inl md.2.1.2.2.2.2.1)), (a_md 11, .inl (kA 0, 80, .inl md.2.1.2.2.2.2.2.1)), (a_md 12, .inl (kA 0, 80, .inl md.2.1.2.2.2.2.2.2.1)), (a_md 13, .inl (kA 0, 3840, .inl md.2.1.2.2.2.2.2.2.2.1)), (a_md 14, .inl (kA 0, 240, .inl md.2.1.2.2.2.2.2.2.2.2)), (a_md 16, .inl (kA 0, 24, .inl md.2.2.1.2.1)), (a_md 17, .inl (kA 0, 24, .inl md.2.2.1.2.2.1)), (a_md 18, .inl (kA 2, 24, .inr (.inl md.2.2.1.2.2.2.1))), (a_md 19, .inl (kA 2, 24, .inr (.inl md.2.2.1.2.2.2.2.1))), (a_md 20, .inl (kA 2, 24, .inr (.inl md.2.2.1.2.2.2.2.2.1))), (a_md 21, .inl (kA 2, 24, .inr (.inl md.2.2.1.2.2.2.2.2.2.1))), (a_md 22, .inl (kA 3, 24, .inl md.2.2.1.2.2.2.2.2.2.2)), (a_md 28, .inl (kA 0, 40, .inl (upd md.2.2.2.1.2.2.2.2.2.1 md.2.2.2.1.2.2.2.1.toNatClampNeg md.2.2.2.1.1))), (a_md 29, .inl (kA 0, 40, .inl md.2.2.2.1.2.2.2.2.2.2)), (a_md 30, .inl (kA 3, 17, .inl md.2.2.2.2.1))] H := hP
  have hD : va_D A [(a_md 0, .inr (6, [.int md.1.1, .ref (a_md 2), .ref (a_md 3), .ref (a_md 4), .int md.1.2.2.2.2, .int md.2.1.1, .ref (a_md 7), .ref (a_md 8), .ref (a_md 9), .ref (a_md 10), .ref (a_md 11), .ref (a_md 12), .ref (a_md 13), .ref (a_md 14), .int md.2.2.1.1, .ref (a_md 16), .ref (a_md 17), .ref (a_md 18), .ref (a_md 19), .ref (a_md 20), .ref (a_md 21), .ref (a_md 22), .int md.2.2.2.1.1, .int md.2.2.2.1.2.1, .int md.2.2.2.1.2.2.1, .int md.2.2.2.1.2.2.2.1, .int md.2.2.2.1.2.2.2.2.1, .ref (a_md 28), .ref (a_md 29), .ref (a_md 30), .int md.2.2.2.2.2.1, .int md.2.2.2.2.2.2.1, .int md.2.2.2.2.2.2.2])), (a_md 2, .inl (kA 0, 640, .inl md.1.2.1)), (a_md 3, .inl (kA 0, 40, .inl md.1.2.2.1)), (a_md 4, .inl (kA 0, 1200, .inl md.1.2.2.2.1)), (a_md 7, .inl (kA 0, 80, .inl md.2.1.2.1)), (a_md 8, .inl (kA 2, 80, .inr (.inl md.2.1.2.2.1))), (a_md 9, .inl (kA 2, 80, .inr (.inl md.2.1.2.2.2.1))), (a_md 10, .inl (kA 0, 80, .inl md.2.1.2.2.2.2.1)), (a_md 11, .inl (kA 0, 80, .inl md.2.1.2.2.2.2.2.1)), (a_md 12, .inl (kA 0, 80, .inl md.2.1.2.2.2.2.2.2.1)), (a_md 13, .inl (kA 0, 3840, .inl md.2.1.2.2.2.2.2.2.2.1)), (a_md 14, .inl (kA 0, 240, .inl md.2.1.2.2.2.2.2.2.2.2)), (a_md 16, .inl (kA 0, 24, .inl md.2.2.1.2.1)), (a_md 17, .inl (kA 0, 24, .inl md.2.2.1.2.2.1)), (a_md 18, .inl (kA 2, 24, .inr (.inl md.2.2.1.2.2.2.1))), (a_md 19, .inl (kA 2, 24, .inr (.inl md.2.2.1.2.2.2.2.1))), (a_md 20, .inl (kA 2, 24, .inr (.inl md.2.2.1.2.2.2.2.2.1))), (a_md 21, .inl (kA 2, 24, .inr (.inl md.2.2.1.2.2.2.2.2.2.1))), (a_md 22, .inl (kA 3, 24, .inl md.2.2.1.2.2.2.2.2.2.2)), (a_md 28, .inl (kA 0, 40, .inl (upd md.2.2.2.1.2.2.2.2.2.1 md.2.2.2.1.2.2.2.1.toNatClampNeg md.2.2.2.1.1))), (a_md 29, .inl (kA 0, 40, .inl md.2.2.2.1.2.2.2.2.2.2)), (a_md 30, .inl (kA 3, 17, .inl md.2.2.2.2.1))] := hD
  refine lv_aload_n hx hb dX6_takeNew_18 rfl (lv_at hl 1 rfl) ?_
  refine lv_lload_n hx hb dX6_takeNew_19 rfl (lv_at hl 0 rfl) ?_
  refine lv_lconst (v := 0) hx hb dX6_takeNew_20 (by decide) ?_
  refine W.lcmp hx hb dX6_takeNew_21 ?_
  obtain ⟨k48, hk48, h⟩ := jn_name h
  have j48 : ∀ (v48 : Int32) (H : Heap) (locs : List Loc) (ls : Array Slot), k48 v48 = some res → va_P D vwCl [(a_md 0, .inr (6, [.int md.1.1, .ref (a_md 2), .ref (a_md 3), .ref (a_md 4), .int md.1.2.2.2.2, .int md.2.1.1, .ref (a_md 7), .ref (a_md 8), .ref (a_md 9), .ref (a_md 10), .ref (a_md 11), .ref (a_md 12), .ref (a_md 13), .ref (a_md 14), .int md.2.2.1.1, .ref (a_md 16), .ref (a_md 17), .ref (a_md 18), .ref (a_md 19), .ref (a_md 20), .ref (a_md 21), .ref (a_md 22), .int md.2.2.2.1.1, .int md.2.2.2.1.2.1, .int md.2.2.2.1.2.2.1, .int md.2.2.2.1.2.2.2.1, .int md.2.2.2.1.2.2.2.2.1, .ref (a_md 28), .ref (a_md 29), .ref (a_md 30), .int md.2.2.2.2.2.1, .int md.2.2.2.2.2.2.1, .int md.2.2.2.2.2.2.2])), (a_md 2, .inl (kA 0, 640, .inl md.1.2.1)), (a_md 3, .inl (kA 0, 40, .inl md.1.2.2.1)), (a_md 4, .inl (kA 0, 1200, .inl md.1.2.2.2.1)), (a_md 7, .inl (kA 0, 80, .inl md.2.1.2.1)), (a_md 8, .inl (kA 2, 80, .inr (.inl md.2.1.2.2.1))), (a_md 9, .inl (kA 2, 80, .inr (.inl md.2.1.2.2.2.1))), (a_md 10, .inl (kA 0, 80, .inl md.2.1.2.2.2.2.1)), (a_md 11, .inl (kA 0, 80, .inl md.2.1.2.2.2.2.2.1)), (a_md 12, .inl (kA 0, 80, .inl md.2.1.2.2.2.2.2.2.1)), (a_md 13, .inl (kA 0, 3840, .inl md.2.1.2.2.2.2.2.2.2.1)), (a_md 14, .inl (kA 0, 240, .inl md.2.1.2.2.2.2.2.2.2.2)), (a_md 16, .inl (kA 0, 24, .inl md.2.2.1.2.1)), (a_md 17, .inl (kA 0, 24, .inl md.2.2.1.2.2.1)), (a_md 18, .inl (kA 2, 24, .inr (.inl md.2.2.1.2.2.2.1))), (a_md 19, .inl (kA 2, 24, .inr (.inl md.2.2.1.2.2.2.2.1))), (a_md 20, .inl (kA 2, 24, .inr (.inl md.2.2.1.2.2.2.2.2.1))), (a_md 21, .inl (kA 2, 24, .inr (.inl md.2.2.1.2.2.2.2.2.2.1))), (a_md 22, .inl (kA 3, 24, .inl md.2.2.1.2.2.2.2.2.2.2)), (a_md 28, .inl (kA 0, 40, .inl (upd md.2.2.2.1.2.2.2.2.2.1 md.2.2.2.1.2.2.2.1.toNatClampNeg md.2.2.2.1.1))), (a_md 29, .inl (kA 0, 40, .inl md.2.2.2.1.2.2.2.2.2.2)), (a_md 30, .inl (kA 3, 17, .inl md.2.2.2.2.1))] H → va_D A [(a_md 0, .inr (6, [.int md.1.1, .ref (a_md 2), .ref (a_md 3), .ref (a_md 4), .int md.1.2.2.2.2, .int md.2.1.1, .ref (a_md 7), .ref (a_md 8), .ref (a_md 9), .ref (a_md 10), .ref (a_md 11), .ref (a_md 12), .ref (a_md 13), .ref (a_md 14), .int md.2.2.1.1, .ref (a_md 16), .ref (a_md 17), .ref (a_md 18), .ref (a_md 19), .ref (a_md 20), .ref (a_md 21), .ref (a_md 22), .int md.2.2.2.1.1, .int md.2.2.2.1.2.1, .int md.2.2.2.1.2.2.1, .int md.2.2.2.1.2.2.2.1, .int md.2.2.2.1.2.2.2.2.1, .ref (a_md 28), .ref (a_md 29), .ref (a_md 30), .int md.2.2.2.2.2.1, .int md.2.2.2.2.2.2.1, .int md.2.2.2.2.2.2.2])), (a_md 2, .inl (kA 0, 640, .inl md.1.2.1)), (a_md 3, .inl (kA 0, 40, .inl md.1.2.2.1)), (a_md 4, .inl (kA 0, 1200, .inl md.1.2.2.2.1)), (a_md 7, .inl (kA 0, 80, .inl md.2.1.2.1)), (a_md 8, .inl (kA 2, 80, .inr (.inl md.2.1.2.2.1))), (a_md 9, .inl (kA 2, 80, .inr (.inl md.2.1.2.2.2.1))), (a_md 10, .inl (kA 0, 80, .inl md.2.1.2.2.2.2.1)), (a_md 11, .inl (kA 0, 80, .inl md.2.1.2.2.2.2.2.1)), (a_md 12, .inl (kA 0, 80, .inl md.2.1.2.2.2.2.2.2.1)), (a_md 13, .inl (kA 0, 3840, .inl md.2.1.2.2.2.2.2.2.2.1)), (a_md 14, .inl (kA 0, 240, .inl md.2.1.2.2.2.2.2.2.2.2)), (a_md 16, .inl (kA 0, 24, .inl md.2.2.1.2.1)), (a_md 17, .inl (kA 0, 24, .inl md.2.2.1.2.2.1)), (a_md 18, .inl (kA 2, 24, .inr (.inl md.2.2.1.2.2.2.1))), (a_md 19, .inl (kA 2, 24, .inr (.inl md.2.2.1.2.2.2.2.1))), (a_md 20, .inl (kA 2, 24, .inr (.inl md.2.2.1.2.2.2.2.2.1))), (a_md 21, .inl (kA 2, 24, .inr (.inl md.2.2.1.2.2.2.2.2.2.1))), (a_md 22, .inl (kA 3, 24, .inl md.2.2.1.2.2.2.2.2.2.2)), (a_md 28, .inl (kA 0, 40, .inl (upd md.2.2.2.1.2.2.2.2.2.1 md.2.2.2.1.2.2.2.1.toNatClampNeg md.2.2.2.1.1))), (a_md 29, .inl (kA 0, 40, .inl md.2.2.2.1.2.2.2.2.2.2)), (a_md 30, .inl (kA 3, 17, .inl md.2.2.2.2.1))] → va_S A s.heap H locs → lv_has ls 4 [(0, .ref (a_md 0)), (1, .int p1), (2, .long u1)] → W p l e rm6_takeNew s m args below meth c H locs 0 0 Q (F0 m 48 ls [.int v48, .ref (a_md 0)]) := by
    intro v48 H locs ls h hP hD hS hl
    have h := app_of hk48 h
    obtain ⟨u48, hc_48, h⟩ := bnd_some h
    refine rw_V (wr := []) (n := 1) (As := [.int v48]) (rest := []) hx hb hml hown hts hN hS hK hP hD hA (c6_take l D kA a_md F v48 (md.1, md.2.1, md.2.2.1, (md.2.2.2.1.1, md.2.2.2.1.2.1, md.2.2.2.1.2.2.1, md.2.2.2.1.2.2.2.1, md.2.2.2.1.2.2.2.2.1, (upd md.2.2.2.1.2.2.2.2.2.1 md.2.2.2.1.2.2.2.1.toNatClampNeg md.2.2.2.1.1), md.2.2.2.1.2.2.2.2.2.2), md.2.2.2.2) u48 hc_48) [0, 1, 2, 3, 4, 5, 6, 7, 8, 9, 10, 11, 12, 13, 14, 15, 16, 17, 18, 19, 20, 21] [] rfl (by decide) rfl (by decide) (by decide) 0 6 rfl rfl rfl tw_1000 tw_1002 tw_40 tw_80 tw_1003 rfl rfl (by decide) ⟨Nat.le_of_ble_eq_true rfl, Nat.le_of_ble_eq_true rfl⟩ rfl hl.1 rfl (Nat.le_of_ble_eq_true rfl) dX6_takeNew_48 ⟨Nat.le_of_ble_eq_true rfl, Nat.le_of_ble_eq_true rfl⟩ (fun H locs hP hD hS => ?_)
    have hP : va_P D vwCl [(a_md 0, .inr (6, [.int u48.1.1, .ref (a_md 2), .ref (a_md 3), .ref (a_md 4), .int u48.1.2.2.2.2, .int u48.2.1.1, .ref (a_md 7), .ref (a_md 8), .ref (a_md 9), .ref (a_md 10), .ref (a_md 11), .ref (a_md 12), .ref (a_md 13), .ref (a_md 14), .int u48.2.2.1.1, .ref (a_md 16), .ref (a_md 17), .ref (a_md 18), .ref (a_md 19), .ref (a_md 20), .ref (a_md 21), .ref (a_md 22), .int u48.2.2.2.1.1, .int u48.2.2.2.1.2.1, .int u48.2.2.2.1.2.2.1, .int u48.2.2.2.1.2.2.2.1, .int u48.2.2.2.1.2.2.2.2.1, .ref (a_md 28), .ref (a_md 29), .ref (a_md 30), .int u48.2.2.2.2.2.1, .int u48.2.2.2.2.2.2.1, .int u48.2.2.2.2.2.2.2])), (a_md 2, .inl (kA 0, 640, .inl u48.1.2.1)), (a_md 3, .inl (kA 0, 40, .inl u48.1.2.2.1)), (a_md 4, .inl (kA 0, 1200, .inl u48.1.2.2.2.1)), (a_md 7, .inl (kA 0, 80, .inl u48.2.1.2.1)), (a_md 8, .inl (kA 2, 80, .inr (.inl u48.2.1.2.2.1))), (a_md 9, .inl (kA 2, 80, .inr (.inl u48.2.1.2.2.2.1))), (a_md 10, .inl (kA 0, 80, .inl u48.2.1.2.2.2.2.1)), (a_md 11, .inl (kA 0, 80, .inl u48.2.1.2.2.2.2.2.1)), (a_md 12, .inl (kA 0, 80, .inl u48.2.1.2.2.2.2.2.2.1)), (a_md 13, .inl (kA 0, 3840, .inl u48.2.1.2.2.2.2.2.2.2.1)), (a_md 14, .inl (kA 0, 240, .inl u48.2.1.2.2.2.2.2.2.2.2)), (a_md 16, .inl (kA 0, 24, .inl u48.2.2.1.2.1)), (a_md 17, .inl (kA 0, 24, .inl u48.2.2.1.2.2.1)), (a_md 18, .inl (kA 2, 24, .inr (.inl u48.2.2.1.2.2.2.1))), (a_md 19, .inl (kA 2, 24, .inr (.inl u48.2.2.1.2.2.2.2.1))), (a_md 20, .inl (kA 2, 24, .inr (.inl u48.2.2.1.2.2.2.2.2.1))), (a_md 21, .inl (kA 2, 24, .inr (.inl u48.2.2.1.2.2.2.2.2.2.1))), (a_md 22, .inl (kA 3, 24, .inl u48.2.2.1.2.2.2.2.2.2.2)), (a_md 28, .inl (kA 0, 40, .inl u48.2.2.2.1.2.2.2.2.2.1)), (a_md 29, .inl (kA 0, 40, .inl u48.2.2.2.1.2.2.2.2.2.2)), (a_md 30, .inl (kA 3, 17, .inl u48.2.2.2.2.1))] H := hP
    have hD : va_D A [(a_md 0, .inr (6, [.int u48.1.1, .ref (a_md 2), .ref (a_md 3), .ref (a_md 4), .int u48.1.2.2.2.2, .int u48.2.1.1, .ref (a_md 7), .ref (a_md 8), .ref (a_md 9), .ref (a_md 10), .ref (a_md 11), .ref (a_md 12), .ref (a_md 13), .ref (a_md 14), .int u48.2.2.1.1, .ref (a_md 16), .ref (a_md 17), .ref (a_md 18), .ref (a_md 19), .ref (a_md 20), .ref (a_md 21), .ref (a_md 22), .int u48.2.2.2.1.1, .int u48.2.2.2.1.2.1, .int u48.2.2.2.1.2.2.1, .int u48.2.2.2.1.2.2.2.1, .int u48.2.2.2.1.2.2.2.2.1, .ref (a_md 28), .ref (a_md 29), .ref (a_md 30), .int u48.2.2.2.2.2.1, .int u48.2.2.2.2.2.2.1, .int u48.2.2.2.2.2.2.2])), (a_md 2, .inl (kA 0, 640, .inl u48.1.2.1)), (a_md 3, .inl (kA 0, 40, .inl u48.1.2.2.1)), (a_md 4, .inl (kA 0, 1200, .inl u48.1.2.2.2.1)), (a_md 7, .inl (kA 0, 80, .inl u48.2.1.2.1)), (a_md 8, .inl (kA 2, 80, .inr (.inl u48.2.1.2.2.1))), (a_md 9, .inl (kA 2, 80, .inr (.inl u48.2.1.2.2.2.1))), (a_md 10, .inl (kA 0, 80, .inl u48.2.1.2.2.2.2.1)), (a_md 11, .inl (kA 0, 80, .inl u48.2.1.2.2.2.2.2.1)), (a_md 12, .inl (kA 0, 80, .inl u48.2.1.2.2.2.2.2.2.1)), (a_md 13, .inl (kA 0, 3840, .inl u48.2.1.2.2.2.2.2.2.2.1)), (a_md 14, .inl (kA 0, 240, .inl u48.2.1.2.2.2.2.2.2.2.2)), (a_md 16, .inl (kA 0, 24, .inl u48.2.2.1.2.1)), (a_md 17, .inl (kA 0, 24, .inl u48.2.2.1.2.2.1)), (a_md 18, .inl (kA 2, 24, .inr (.inl u48.2.2.1.2.2.2.1))), (a_md 19, .inl (kA 2, 24, .inr (.inl u48.2.2.1.2.2.2.2.1))), (a_md 20, .inl (kA 2, 24, .inr (.inl u48.2.2.1.2.2.2.2.2.1))), (a_md 21, .inl (kA 2, 24, .inr (.inl u48.2.2.1.2.2.2.2.2.2.1))), (a_md 22, .inl (kA 3, 24, .inl u48.2.2.1.2.2.2.2.2.2.2)), (a_md 28, .inl (kA 0, 40, .inl u48.2.2.2.1.2.2.2.2.2.1)), (a_md 29, .inl (kA 0, 40, .inl u48.2.2.2.1.2.2.2.2.2.2)), (a_md 30, .inl (kA 3, 17, .inl u48.2.2.2.2.1))] := hD
    refine lv_aload_n hx hb dX6_takeNew_51 rfl (lv_at hl 0 rfl) ?_
    refine va_get (D := D) (ci := 6) (v := .ref (a_md 8)) (C := "ConstraintTextModel") (T := TX6) (N := 33) hx hb hts ing6 hown hK hP 0 rfl rfl 7 (by decide) (hts _ tw_857) (fun _ h9 => h9) rfl dX6_takeNew_52 ?_
    refine lv_iload_n hx hb dX6_takeNew_55 rfl (lv_at hl 1 rfl) ?_
    refine lv_lload_n hx hb dX6_takeNew_56 rfl (lv_at hl 2 rfl) ?_
    obtain ⟨g57, h⟩ := grd_some h
    refine va_last hx hb hK hP hD hS 5 2 rfl rfl (inb_in g57) dX6_takeNew_57 (fun H locs hP hD hS => ?_)
    have hP : va_P D vwCl [(a_md 0, .inr (6, [.int u48.1.1, .ref (a_md 2), .ref (a_md 3), .ref (a_md 4), .int u48.1.2.2.2.2, .int u48.2.1.1, .ref (a_md 7), .ref (a_md 8), .ref (a_md 9), .ref (a_md 10), .ref (a_md 11), .ref (a_md 12), .ref (a_md 13), .ref (a_md 14), .int u48.2.2.1.1, .ref (a_md 16), .ref (a_md 17), .ref (a_md 18), .ref (a_md 19), .ref (a_md 20), .ref (a_md 21), .ref (a_md 22), .int u48.2.2.2.1.1, .int u48.2.2.2.1.2.1, .int u48.2.2.2.1.2.2.1, .int u48.2.2.2.1.2.2.2.1, .int u48.2.2.2.1.2.2.2.2.1, .ref (a_md 28), .ref (a_md 29), .ref (a_md 30), .int u48.2.2.2.2.2.1, .int u48.2.2.2.2.2.2.1, .int u48.2.2.2.2.2.2.2])), (a_md 2, .inl (kA 0, 640, .inl u48.1.2.1)), (a_md 3, .inl (kA 0, 40, .inl u48.1.2.2.1)), (a_md 4, .inl (kA 0, 1200, .inl u48.1.2.2.2.1)), (a_md 7, .inl (kA 0, 80, .inl u48.2.1.2.1)), (a_md 8, .inl (kA 2, 80, .inr (.inl (vp_updL u48.2.1.2.2.1 p1.toNatClampNeg u1)))), (a_md 9, .inl (kA 2, 80, .inr (.inl u48.2.1.2.2.2.1))), (a_md 10, .inl (kA 0, 80, .inl u48.2.1.2.2.2.2.1)), (a_md 11, .inl (kA 0, 80, .inl u48.2.1.2.2.2.2.2.1)), (a_md 12, .inl (kA 0, 80, .inl u48.2.1.2.2.2.2.2.2.1)), (a_md 13, .inl (kA 0, 3840, .inl u48.2.1.2.2.2.2.2.2.2.1)), (a_md 14, .inl (kA 0, 240, .inl u48.2.1.2.2.2.2.2.2.2.2)), (a_md 16, .inl (kA 0, 24, .inl u48.2.2.1.2.1)), (a_md 17, .inl (kA 0, 24, .inl u48.2.2.1.2.2.1)), (a_md 18, .inl (kA 2, 24, .inr (.inl u48.2.2.1.2.2.2.1))), (a_md 19, .inl (kA 2, 24, .inr (.inl u48.2.2.1.2.2.2.2.1))), (a_md 20, .inl (kA 2, 24, .inr (.inl u48.2.2.1.2.2.2.2.2.1))), (a_md 21, .inl (kA 2, 24, .inr (.inl u48.2.2.1.2.2.2.2.2.2.1))), (a_md 22, .inl (kA 3, 24, .inl u48.2.2.1.2.2.2.2.2.2.2)), (a_md 28, .inl (kA 0, 40, .inl u48.2.2.2.1.2.2.2.2.2.1)), (a_md 29, .inl (kA 0, 40, .inl u48.2.2.2.1.2.2.2.2.2.2)), (a_md 30, .inl (kA 3, 17, .inl u48.2.2.2.2.1))] H := hP
    have hD : va_D A [(a_md 0, .inr (6, [.int u48.1.1, .ref (a_md 2), .ref (a_md 3), .ref (a_md 4), .int u48.1.2.2.2.2, .int u48.2.1.1, .ref (a_md 7), .ref (a_md 8), .ref (a_md 9), .ref (a_md 10), .ref (a_md 11), .ref (a_md 12), .ref (a_md 13), .ref (a_md 14), .int u48.2.2.1.1, .ref (a_md 16), .ref (a_md 17), .ref (a_md 18), .ref (a_md 19), .ref (a_md 20), .ref (a_md 21), .ref (a_md 22), .int u48.2.2.2.1.1, .int u48.2.2.2.1.2.1, .int u48.2.2.2.1.2.2.1, .int u48.2.2.2.1.2.2.2.1, .int u48.2.2.2.1.2.2.2.2.1, .ref (a_md 28), .ref (a_md 29), .ref (a_md 30), .int u48.2.2.2.2.2.1, .int u48.2.2.2.2.2.2.1, .int u48.2.2.2.2.2.2.2])), (a_md 2, .inl (kA 0, 640, .inl u48.1.2.1)), (a_md 3, .inl (kA 0, 40, .inl u48.1.2.2.1)), (a_md 4, .inl (kA 0, 1200, .inl u48.1.2.2.2.1)), (a_md 7, .inl (kA 0, 80, .inl u48.2.1.2.1)), (a_md 8, .inl (kA 2, 80, .inr (.inl (vp_updL u48.2.1.2.2.1 p1.toNatClampNeg u1)))), (a_md 9, .inl (kA 2, 80, .inr (.inl u48.2.1.2.2.2.1))), (a_md 10, .inl (kA 0, 80, .inl u48.2.1.2.2.2.2.1)), (a_md 11, .inl (kA 0, 80, .inl u48.2.1.2.2.2.2.2.1)), (a_md 12, .inl (kA 0, 80, .inl u48.2.1.2.2.2.2.2.2.1)), (a_md 13, .inl (kA 0, 3840, .inl u48.2.1.2.2.2.2.2.2.2.1)), (a_md 14, .inl (kA 0, 240, .inl u48.2.1.2.2.2.2.2.2.2.2)), (a_md 16, .inl (kA 0, 24, .inl u48.2.2.1.2.1)), (a_md 17, .inl (kA 0, 24, .inl u48.2.2.1.2.2.1)), (a_md 18, .inl (kA 2, 24, .inr (.inl u48.2.2.1.2.2.2.1))), (a_md 19, .inl (kA 2, 24, .inr (.inl u48.2.2.1.2.2.2.2.1))), (a_md 20, .inl (kA 2, 24, .inr (.inl u48.2.2.1.2.2.2.2.2.1))), (a_md 21, .inl (kA 2, 24, .inr (.inl u48.2.2.1.2.2.2.2.2.2.1))), (a_md 22, .inl (kA 3, 24, .inl u48.2.2.1.2.2.2.2.2.2.2)), (a_md 28, .inl (kA 0, 40, .inl u48.2.2.2.1.2.2.2.2.2.1)), (a_md 29, .inl (kA 0, 40, .inl u48.2.2.2.1.2.2.2.2.2.2)), (a_md 30, .inl (kA 3, 17, .inl u48.2.2.2.2.1))] := hD
    obtain rfl := Option.some.inj h
    rw [← hQ]
    exact rw_return hx hb hr hk  dX6_takeNew_58  hP hD hS
  refine lv_if_le (tgt := 47) hx hb dX6_takeNew_22 (by decide) (fun bc => ?_) (fun bc => ?_)
  · have h := ite_t bc h
    refine lv_iconst (v := 0) hx hb dX6_takeNew_47 (by decide) ?_
    exact j48 _ _ _ ls h hP hD hS (lv_sub hl [1, 2, 0] rfl)
  · have h := ite_f bc h
    refine lv_aload_n hx hb dX6_takeNew_25 rfl (lv_at hl 1 rfl) ?_
    refine va_get (D := D) (ci := 6) (v := .int md.2.2.2.1.2.2.2.2.1) (C := "ConstraintTextModel") (T := TX6) (N := 33) hx hb hts ing6 hown hK hP 0 rfl rfl 26 (by decide) (hts _ tw_876) (fun _ h9 => h9) rfl dX6_takeNew_26 ?_
    refine lv_bipush (v := 12) hx hb dX6_takeNew_29 (by decide) ?_
    refine lv_icmp_ge (tgt := 47) hx hb dX6_takeNew_31 (by decide) (fun bc => ?_) (fun bc => ?_)
    · have h := ite_t bc h
      refine lv_iconst (v := 0) hx hb dX6_takeNew_47 (by decide) ?_
      exact j48 _ _ _ ls h hP hD hS (lv_sub hl [1, 2, 0] rfl)
    · have h := ite_f bc h
      refine lv_aload_n hx hb dX6_takeNew_34 rfl (lv_at hl 1 rfl) ?_
      refine lv_lload_n hx hb dX6_takeNew_35 rfl (lv_at hl 0 rfl) ?_
      obtain ⟨u36, hc_36, h⟩ := bnd_some h
      refine ro_V (n := 1) (As := [.long u1]) (rest := [.ref (a_md 0)]) hx hb hml hown hts hN hS hK hP (c6_clockOf l D kA a_md F u1 (md.1, md.2.1, md.2.2.1, (md.2.2.2.1.1, md.2.2.2.1.2.1, md.2.2.2.1.2.2.1, md.2.2.2.1.2.2.2.1, md.2.2.2.1.2.2.2.2.1, (upd md.2.2.2.1.2.2.2.2.2.1 md.2.2.2.1.2.2.2.1.toNatClampNeg md.2.2.2.1.1), md.2.2.2.1.2.2.2.2.2.2), md.2.2.2.2) u36 hc_36) [0, 1, 2, 3, 4, 5, 6, 7, 8, 9, 10, 11, 12, 13, 14, 15, 16, 17, 18, 19, 20, 21] rfl 0 6 rfl rfl rfl tw_1012 tw_1014 tw_43 tw_80 tw_1015 rfl rfl (by decide) ⟨Nat.le_of_ble_eq_true rfl, Nat.le_of_ble_eq_true rfl⟩ rfl hl.1 rfl (Nat.le_of_ble_eq_true rfl) dX6_takeNew_36 ⟨Nat.le_of_ble_eq_true rfl, Nat.le_of_ble_eq_true rfl⟩ ?_
      refine lv_iconst (v := -1) hx hb dX6_takeNew_39 (by decide) ?_
      refine lv_icmp_ne (tgt := 47) hx hb dX6_takeNew_40 (by decide) (fun bc => ?_) (fun bc => ?_)
      · have h := ite_f bc h
        refine lv_iconst (v := 0) hx hb dX6_takeNew_47 (by decide) ?_
        exact j48 _ _ _ ls h hP hD hS (lv_sub hl [1, 2, 0] rfl)
      · have h := ite_t bc h
        refine lv_iconst (v := 1) hx hb dX6_takeNew_43 (by decide) ?_
        refine lv_goto (tgt := 48) hx hb dX6_takeNew_44 (by decide) ?_
        exact j48 _ _ _ ls h hP hD hS (lv_sub hl [1, 2, 0] rfl)
abbrev rm6_takeOld : Room := { frames := 2, cells := 0, slots := 0, locals := 41 }
set_option maxHeartbeats 4000000 in
set_option maxRecDepth 100000 in
theorem c6_takeOld (l : Launch) (D : va_G) (kA : Nat → ClassId) (a_md : Nat → Nat) (F : Nat) (p1 : Int32) (p2 : Int32) (md : T6) (res : T6) (h : f6_takeOld F p1 p2 md = some res) : Rw l yX6_takeOld cX6_takeOld 5 none rm6_takeOld D kA [.ref (a_md 0), .int p1, .int p2] [(a_md 0, .inr (6, [.int md.1.1, .ref (a_md 2), .ref (a_md 3), .ref (a_md 4), .int md.1.2.2.2.2, .int md.2.1.1, .ref (a_md 7), .ref (a_md 8), .ref (a_md 9), .ref (a_md 10), .ref (a_md 11), .ref (a_md 12), .ref (a_md 13), .ref (a_md 14), .int md.2.2.1.1, .ref (a_md 16), .ref (a_md 17), .ref (a_md 18), .ref (a_md 19), .ref (a_md 20), .ref (a_md 21), .ref (a_md 22), .int md.2.2.2.1.1, .int md.2.2.2.1.2.1, .int md.2.2.2.1.2.2.1, .int md.2.2.2.1.2.2.2.1, .int md.2.2.2.1.2.2.2.2.1, .ref (a_md 28), .ref (a_md 29), .ref (a_md 30), .int md.2.2.2.2.2.1, .int md.2.2.2.2.2.2.1, .int md.2.2.2.2.2.2.2])), (a_md 2, .inl (kA 0, 640, .inl md.1.2.1)), (a_md 3, .inl (kA 0, 40, .inl md.1.2.2.1)), (a_md 4, .inl (kA 0, 1200, .inl md.1.2.2.2.1)), (a_md 7, .inl (kA 0, 80, .inl md.2.1.2.1)), (a_md 8, .inl (kA 2, 80, .inr (.inl md.2.1.2.2.1))), (a_md 9, .inl (kA 2, 80, .inr (.inl md.2.1.2.2.2.1))), (a_md 10, .inl (kA 0, 80, .inl md.2.1.2.2.2.2.1)), (a_md 11, .inl (kA 0, 80, .inl md.2.1.2.2.2.2.2.1)), (a_md 12, .inl (kA 0, 80, .inl md.2.1.2.2.2.2.2.2.1)), (a_md 13, .inl (kA 0, 3840, .inl md.2.1.2.2.2.2.2.2.2.1)), (a_md 14, .inl (kA 0, 240, .inl md.2.1.2.2.2.2.2.2.2.2)), (a_md 16, .inl (kA 0, 24, .inl md.2.2.1.2.1)), (a_md 17, .inl (kA 0, 24, .inl md.2.2.1.2.2.1)), (a_md 18, .inl (kA 2, 24, .inr (.inl md.2.2.1.2.2.2.1))), (a_md 19, .inl (kA 2, 24, .inr (.inl md.2.2.1.2.2.2.2.1))), (a_md 20, .inl (kA 2, 24, .inr (.inl md.2.2.1.2.2.2.2.2.1))), (a_md 21, .inl (kA 2, 24, .inr (.inl md.2.2.1.2.2.2.2.2.2.1))), (a_md 22, .inl (kA 3, 24, .inl md.2.2.1.2.2.2.2.2.2.2)), (a_md 28, .inl (kA 0, 40, .inl md.2.2.2.1.2.2.2.2.2.1)), (a_md 29, .inl (kA 0, 40, .inl md.2.2.2.1.2.2.2.2.2.2)), (a_md 30, .inl (kA 3, 17, .inl md.2.2.2.2.1))] none [(a_md 0, .inr (6, [.int res.1.1, .ref (a_md 2), .ref (a_md 3), .ref (a_md 4), .int res.1.2.2.2.2, .int res.2.1.1, .ref (a_md 7), .ref (a_md 8), .ref (a_md 9), .ref (a_md 10), .ref (a_md 11), .ref (a_md 12), .ref (a_md 13), .ref (a_md 14), .int res.2.2.1.1, .ref (a_md 16), .ref (a_md 17), .ref (a_md 18), .ref (a_md 19), .ref (a_md 20), .ref (a_md 21), .ref (a_md 22), .int res.2.2.2.1.1, .int res.2.2.2.1.2.1, .int res.2.2.2.1.2.2.1, .int res.2.2.2.1.2.2.2.1, .int res.2.2.2.1.2.2.2.2.1, .ref (a_md 28), .ref (a_md 29), .ref (a_md 30), .int res.2.2.2.2.2.1, .int res.2.2.2.2.2.2.1, .int res.2.2.2.2.2.2.2])), (a_md 2, .inl (kA 0, 640, .inl res.1.2.1)), (a_md 3, .inl (kA 0, 40, .inl res.1.2.2.1)), (a_md 4, .inl (kA 0, 1200, .inl res.1.2.2.2.1)), (a_md 7, .inl (kA 0, 80, .inl res.2.1.2.1)), (a_md 8, .inl (kA 2, 80, .inr (.inl res.2.1.2.2.1))), (a_md 9, .inl (kA 2, 80, .inr (.inl res.2.1.2.2.2.1))), (a_md 10, .inl (kA 0, 80, .inl res.2.1.2.2.2.2.1)), (a_md 11, .inl (kA 0, 80, .inl res.2.1.2.2.2.2.2.1)), (a_md 12, .inl (kA 0, 80, .inl res.2.1.2.2.2.2.2.2.1)), (a_md 13, .inl (kA 0, 3840, .inl res.2.1.2.2.2.2.2.2.2.1)), (a_md 14, .inl (kA 0, 240, .inl res.2.1.2.2.2.2.2.2.2.2)), (a_md 16, .inl (kA 0, 24, .inl res.2.2.1.2.1)), (a_md 17, .inl (kA 0, 24, .inl res.2.2.1.2.2.1)), (a_md 18, .inl (kA 2, 24, .inr (.inl res.2.2.1.2.2.2.1))), (a_md 19, .inl (kA 2, 24, .inr (.inl res.2.2.1.2.2.2.2.1))), (a_md 20, .inl (kA 2, 24, .inr (.inl res.2.2.1.2.2.2.2.2.1))), (a_md 21, .inl (kA 2, 24, .inr (.inl res.2.2.1.2.2.2.2.2.2.1))), (a_md 22, .inl (kA 3, 24, .inl res.2.2.1.2.2.2.2.2.2.2)), (a_md 28, .inl (kA 0, 40, .inl res.2.2.2.1.2.2.2.2.2.1)), (a_md 29, .inl (kA 0, 40, .inl res.2.2.2.1.2.2.2.2.2.2)), (a_md 30, .inl (kA 3, 17, .inl res.2.2.2.2.1))] := by
  refine Rw.of (by decide) (Nat.le_of_ble_eq_true rfl) ?_
  intro p e s m args below meth c A hF hP hD hS hA hK ls hl
  generalize hQ : rwQ below D A _ _ args s = Q
  obtain ⟨hx, hb, hml, hown, hr, hk, hts, hN⟩ := hF
  have hl : lv_has ls 5 [(0, .ref (a_md 0)), (1, .int p1), (2, .int p2)] := hl
  unfold f6_takeOld at h
  refine lv_aload_n hx hb dX6_takeOld_0 rfl (lv_at hl 0 rfl) ?_
  obtain ⟨u1, hc_1, h⟩ := bnd_some h
  refine ro_V (n := 0) (As := []) (rest := []) hx hb hml hown hts hN hS hK hP (c6_wordName l D kA a_md F md u1 hc_1) [0, 1, 2, 3, 4, 5, 6, 7, 8, 9, 10, 11, 12, 13, 14, 15, 16, 17, 18, 19, 20, 21] rfl 0 6 rfl rfl rfl tw_984 tw_986 tw_38 tw_80 tw_987 rfl rfl (by decide) ⟨Nat.le_of_ble_eq_true rfl, Nat.le_of_ble_eq_true rfl⟩ rfl hl.1 rfl (Nat.le_of_ble_eq_true rfl) dX6_takeOld_1 ⟨Nat.le_of_ble_eq_true rfl, Nat.le_of_ble_eq_true rfl⟩ ?_
  refine lv_lstore_n (lv' := [(3, .long u1), (0, .ref (a_md 0)), (1, .int p1), (2, .int p2)]) hx hb dX6_takeOld_4 rfl hl (by decide) rfl (fun ls hl => ?_)
  refine lv_iload_n hx hb dX6_takeOld_5 rfl (lv_at hl 3 rfl) ?_
  obtain ⟨k52, hk52, h⟩ := jn_name h
  have j52 : ∀ (v52 : T6) (H : Heap) (locs : List Loc) (ls : Array Slot), k52 v52 = some res → va_P D vwCl [(a_md 0, .inr (6, [.int v52.1.1, .ref (a_md 2), .ref (a_md 3), .ref (a_md 4), .int v52.1.2.2.2.2, .int v52.2.1.1, .ref (a_md 7), .ref (a_md 8), .ref (a_md 9), .ref (a_md 10), .ref (a_md 11), .ref (a_md 12), .ref (a_md 13), .ref (a_md 14), .int v52.2.2.1.1, .ref (a_md 16), .ref (a_md 17), .ref (a_md 18), .ref (a_md 19), .ref (a_md 20), .ref (a_md 21), .ref (a_md 22), .int v52.2.2.2.1.1, .int v52.2.2.2.1.2.1, .int v52.2.2.2.1.2.2.1, .int v52.2.2.2.1.2.2.2.1, .int v52.2.2.2.1.2.2.2.2.1, .ref (a_md 28), .ref (a_md 29), .ref (a_md 30), .int v52.2.2.2.2.2.1, .int v52.2.2.2.2.2.2.1, .int v52.2.2.2.2.2.2.2])), (a_md 2, .inl (kA 0, 640, .inl v52.1.2.1)), (a_md 3, .inl (kA 0, 40, .inl v52.1.2.2.1)), (a_md 4, .inl (kA 0, 1200, .inl v52.1.2.2.2.1)), (a_md 7, .inl (kA 0, 80, .inl v52.2.1.2.1)), (a_md 8, .inl (kA 2, 80, .inr (.inl v52.2.1.2.2.1))), (a_md 9, .inl (kA 2, 80, .inr (.inl v52.2.1.2.2.2.1))), (a_md 10, .inl (kA 0, 80, .inl v52.2.1.2.2.2.2.1)), (a_md 11, .inl (kA 0, 80, .inl v52.2.1.2.2.2.2.2.1)), (a_md 12, .inl (kA 0, 80, .inl v52.2.1.2.2.2.2.2.2.1)), (a_md 13, .inl (kA 0, 3840, .inl v52.2.1.2.2.2.2.2.2.2.1)), (a_md 14, .inl (kA 0, 240, .inl v52.2.1.2.2.2.2.2.2.2.2)), (a_md 16, .inl (kA 0, 24, .inl v52.2.2.1.2.1)), (a_md 17, .inl (kA 0, 24, .inl v52.2.2.1.2.2.1)), (a_md 18, .inl (kA 2, 24, .inr (.inl v52.2.2.1.2.2.2.1))), (a_md 19, .inl (kA 2, 24, .inr (.inl v52.2.2.1.2.2.2.2.1))), (a_md 20, .inl (kA 2, 24, .inr (.inl v52.2.2.1.2.2.2.2.2.1))), (a_md 21, .inl (kA 2, 24, .inr (.inl v52.2.2.1.2.2.2.2.2.2.1))), (a_md 22, .inl (kA 3, 24, .inl v52.2.2.1.2.2.2.2.2.2.2)), (a_md 28, .inl (kA 0, 40, .inl v52.2.2.2.1.2.2.2.2.2.1)), (a_md 29, .inl (kA 0, 40, .inl v52.2.2.2.1.2.2.2.2.2.2)), (a_md 30, .inl (kA 3, 17, .inl v52.2.2.2.2.1))] H → va_D A [(a_md 0, .inr (6, [.int v52.1.1, .ref (a_md 2), .ref (a_md 3), .ref (a_md 4), .int v52.1.2.2.2.2, .int v52.2.1.1, .ref (a_md 7), .ref (a_md 8), .ref (a_md 9), .ref (a_md 10), .ref (a_md 11), .ref (a_md 12), .ref (a_md 13), .ref (a_md 14), .int v52.2.2.1.1, .ref (a_md 16), .ref (a_md 17), .ref (a_md 18), .ref (a_md 19), .ref (a_md 20), .ref (a_md 21), .ref (a_md 22), .int v52.2.2.2.1.1, .int v52.2.2.2.1.2.1, .int v52.2.2.2.1.2.2.1, .int v52.2.2.2.1.2.2.2.1, .int v52.2.2.2.1.2.2.2.2.1, .ref (a_md 28), .ref (a_md 29), .ref (a_md 30), .int v52.2.2.2.2.2.1, .int v52.2.2.2.2.2.2.1, .int v52.2.2.2.2.2.2.2])), (a_md 2, .inl (kA 0, 640, .inl v52.1.2.1)), (a_md 3, .inl (kA 0, 40, .inl v52.1.2.2.1)), (a_md 4, .inl (kA 0, 1200, .inl v52.1.2.2.2.1)), (a_md 7, .inl (kA 0, 80, .inl v52.2.1.2.1)), (a_md 8, .inl (kA 2, 80, .inr (.inl v52.2.1.2.2.1))), (a_md 9, .inl (kA 2, 80, .inr (.inl v52.2.1.2.2.2.1))), (a_md 10, .inl (kA 0, 80, .inl v52.2.1.2.2.2.2.1)), (a_md 11, .inl (kA 0, 80, .inl v52.2.1.2.2.2.2.2.1)), (a_md 12, .inl (kA 0, 80, .inl v52.2.1.2.2.2.2.2.2.1)), (a_md 13, .inl (kA 0, 3840, .inl v52.2.1.2.2.2.2.2.2.2.1)), (a_md 14, .inl (kA 0, 240, .inl v52.2.1.2.2.2.2.2.2.2.2)), (a_md 16, .inl (kA 0, 24, .inl v52.2.2.1.2.1)), (a_md 17, .inl (kA 0, 24, .inl v52.2.2.1.2.2.1)), (a_md 18, .inl (kA 2, 24, .inr (.inl v52.2.2.1.2.2.2.1))), (a_md 19, .inl (kA 2, 24, .inr (.inl v52.2.2.1.2.2.2.2.1))), (a_md 20, .inl (kA 2, 24, .inr (.inl v52.2.2.1.2.2.2.2.2.1))), (a_md 21, .inl (kA 2, 24, .inr (.inl v52.2.2.1.2.2.2.2.2.2.1))), (a_md 22, .inl (kA 3, 24, .inl v52.2.2.1.2.2.2.2.2.2.2)), (a_md 28, .inl (kA 0, 40, .inl v52.2.2.2.1.2.2.2.2.2.1)), (a_md 29, .inl (kA 0, 40, .inl v52.2.2.2.1.2.2.2.2.2.2)), (a_md 30, .inl (kA 3, 17, .inl v52.2.2.2.2.1))] → va_S A s.heap H locs → lv_has ls 5 [(0, .ref (a_md 0)), (3, .long u1)] → W p l e rm6_takeOld s m args below meth c H locs 0 0 Q (F0 m 52 ls []) := by
    intro v52 H locs ls h hP hD hS hl
    have h := app_of hk52 h
    refine lv_aload_n hx hb dX6_takeOld_52 rfl (lv_at hl 0 rfl) ?_
    refine lv_lload_n hx hb dX6_takeOld_53 rfl (lv_at hl 1 rfl) ?_
    refine lv_lconst (v := 0) hx hb dX6_takeOld_54 (by decide) ?_
    refine W.lcmp hx hb dX6_takeOld_55 ?_
    obtain ⟨k64, hk64, h⟩ := jn_name h
    have j64 : ∀ (v64 : Int32) (H : Heap) (locs : List Loc) (ls : Array Slot), k64 v64 = some res → va_P D vwCl [(a_md 0, .inr (6, [.int v52.1.1, .ref (a_md 2), .ref (a_md 3), .ref (a_md 4), .int v52.1.2.2.2.2, .int v52.2.1.1, .ref (a_md 7), .ref (a_md 8), .ref (a_md 9), .ref (a_md 10), .ref (a_md 11), .ref (a_md 12), .ref (a_md 13), .ref (a_md 14), .int v52.2.2.1.1, .ref (a_md 16), .ref (a_md 17), .ref (a_md 18), .ref (a_md 19), .ref (a_md 20), .ref (a_md 21), .ref (a_md 22), .int v52.2.2.2.1.1, .int v52.2.2.2.1.2.1, .int v52.2.2.2.1.2.2.1, .int v52.2.2.2.1.2.2.2.1, .int v52.2.2.2.1.2.2.2.2.1, .ref (a_md 28), .ref (a_md 29), .ref (a_md 30), .int v52.2.2.2.2.2.1, .int v52.2.2.2.2.2.2.1, .int v52.2.2.2.2.2.2.2])), (a_md 2, .inl (kA 0, 640, .inl v52.1.2.1)), (a_md 3, .inl (kA 0, 40, .inl v52.1.2.2.1)), (a_md 4, .inl (kA 0, 1200, .inl v52.1.2.2.2.1)), (a_md 7, .inl (kA 0, 80, .inl v52.2.1.2.1)), (a_md 8, .inl (kA 2, 80, .inr (.inl v52.2.1.2.2.1))), (a_md 9, .inl (kA 2, 80, .inr (.inl v52.2.1.2.2.2.1))), (a_md 10, .inl (kA 0, 80, .inl v52.2.1.2.2.2.2.1)), (a_md 11, .inl (kA 0, 80, .inl v52.2.1.2.2.2.2.2.1)), (a_md 12, .inl (kA 0, 80, .inl v52.2.1.2.2.2.2.2.2.1)), (a_md 13, .inl (kA 0, 3840, .inl v52.2.1.2.2.2.2.2.2.2.1)), (a_md 14, .inl (kA 0, 240, .inl v52.2.1.2.2.2.2.2.2.2.2)), (a_md 16, .inl (kA 0, 24, .inl v52.2.2.1.2.1)), (a_md 17, .inl (kA 0, 24, .inl v52.2.2.1.2.2.1)), (a_md 18, .inl (kA 2, 24, .inr (.inl v52.2.2.1.2.2.2.1))), (a_md 19, .inl (kA 2, 24, .inr (.inl v52.2.2.1.2.2.2.2.1))), (a_md 20, .inl (kA 2, 24, .inr (.inl v52.2.2.1.2.2.2.2.2.1))), (a_md 21, .inl (kA 2, 24, .inr (.inl v52.2.2.1.2.2.2.2.2.2.1))), (a_md 22, .inl (kA 3, 24, .inl v52.2.2.1.2.2.2.2.2.2.2)), (a_md 28, .inl (kA 0, 40, .inl v52.2.2.2.1.2.2.2.2.2.1)), (a_md 29, .inl (kA 0, 40, .inl v52.2.2.2.1.2.2.2.2.2.2)), (a_md 30, .inl (kA 3, 17, .inl v52.2.2.2.2.1))] H → va_D A [(a_md 0, .inr (6, [.int v52.1.1, .ref (a_md 2), .ref (a_md 3), .ref (a_md 4), .int v52.1.2.2.2.2, .int v52.2.1.1, .ref (a_md 7), .ref (a_md 8), .ref (a_md 9), .ref (a_md 10), .ref (a_md 11), .ref (a_md 12), .ref (a_md 13), .ref (a_md 14), .int v52.2.2.1.1, .ref (a_md 16), .ref (a_md 17), .ref (a_md 18), .ref (a_md 19), .ref (a_md 20), .ref (a_md 21), .ref (a_md 22), .int v52.2.2.2.1.1, .int v52.2.2.2.1.2.1, .int v52.2.2.2.1.2.2.1, .int v52.2.2.2.1.2.2.2.1, .int v52.2.2.2.1.2.2.2.2.1, .ref (a_md 28), .ref (a_md 29), .ref (a_md 30), .int v52.2.2.2.2.2.1, .int v52.2.2.2.2.2.2.1, .int v52.2.2.2.2.2.2.2])), (a_md 2, .inl (kA 0, 640, .inl v52.1.2.1)), (a_md 3, .inl (kA 0, 40, .inl v52.1.2.2.1)), (a_md 4, .inl (kA 0, 1200, .inl v52.1.2.2.2.1)), (a_md 7, .inl (kA 0, 80, .inl v52.2.1.2.1)), (a_md 8, .inl (kA 2, 80, .inr (.inl v52.2.1.2.2.1))), (a_md 9, .inl (kA 2, 80, .inr (.inl v52.2.1.2.2.2.1))), (a_md 10, .inl (kA 0, 80, .inl v52.2.1.2.2.2.2.1)), (a_md 11, .inl (kA 0, 80, .inl v52.2.1.2.2.2.2.2.1)), (a_md 12, .inl (kA 0, 80, .inl v52.2.1.2.2.2.2.2.2.1)), (a_md 13, .inl (kA 0, 3840, .inl v52.2.1.2.2.2.2.2.2.2.1)), (a_md 14, .inl (kA 0, 240, .inl v52.2.1.2.2.2.2.2.2.2.2)), (a_md 16, .inl (kA 0, 24, .inl v52.2.2.1.2.1)), (a_md 17, .inl (kA 0, 24, .inl v52.2.2.1.2.2.1)), (a_md 18, .inl (kA 2, 24, .inr (.inl v52.2.2.1.2.2.2.1))), (a_md 19, .inl (kA 2, 24, .inr (.inl v52.2.2.1.2.2.2.2.1))), (a_md 20, .inl (kA 2, 24, .inr (.inl v52.2.2.1.2.2.2.2.2.1))), (a_md 21, .inl (kA 2, 24, .inr (.inl v52.2.2.1.2.2.2.2.2.2.1))), (a_md 22, .inl (kA 3, 24, .inl v52.2.2.1.2.2.2.2.2.2.2)), (a_md 28, .inl (kA 0, 40, .inl v52.2.2.2.1.2.2.2.2.2.1)), (a_md 29, .inl (kA 0, 40, .inl v52.2.2.2.1.2.2.2.2.2.2)), (a_md 30, .inl (kA 3, 17, .inl v52.2.2.2.2.1))] → va_S A s.heap H locs → lv_has ls 5 [] → W p l e rm6_takeOld s m args below meth c H locs 0 0 Q (F0 m 64 ls [.int v64, .ref (a_md 0)]) := by
      intro v64 H locs ls h hP hD hS hl
      have h := app_of hk64 h
      obtain ⟨u64, hc_64, h⟩ := bnd_some h
      refine rw_V (wr := []) (n := 1) (As := [.int v64]) (rest := []) hx hb hml hown hts hN hS hK hP hD hA (c6_take l D kA a_md F v64 v52 u64 hc_64) [0, 1, 2, 3, 4, 5, 6, 7, 8, 9, 10, 11, 12, 13, 14, 15, 16, 17, 18, 19, 20, 21] [] rfl (by decide) rfl (by decide) (by decide) 0 6 rfl rfl rfl tw_1000 tw_1002 tw_40 tw_80 tw_1003 rfl rfl (by decide) ⟨Nat.le_of_ble_eq_true rfl, Nat.le_of_ble_eq_true rfl⟩ rfl hl.1 rfl (Nat.le_of_ble_eq_true rfl) dX6_takeOld_64 ⟨Nat.le_of_ble_eq_true rfl, Nat.le_of_ble_eq_true rfl⟩ (fun H locs hP hD hS => ?_)
      have hP : va_P D vwCl [(a_md 0, .inr (6, [.int u64.1.1, .ref (a_md 2), .ref (a_md 3), .ref (a_md 4), .int u64.1.2.2.2.2, .int u64.2.1.1, .ref (a_md 7), .ref (a_md 8), .ref (a_md 9), .ref (a_md 10), .ref (a_md 11), .ref (a_md 12), .ref (a_md 13), .ref (a_md 14), .int u64.2.2.1.1, .ref (a_md 16), .ref (a_md 17), .ref (a_md 18), .ref (a_md 19), .ref (a_md 20), .ref (a_md 21), .ref (a_md 22), .int u64.2.2.2.1.1, .int u64.2.2.2.1.2.1, .int u64.2.2.2.1.2.2.1, .int u64.2.2.2.1.2.2.2.1, .int u64.2.2.2.1.2.2.2.2.1, .ref (a_md 28), .ref (a_md 29), .ref (a_md 30), .int u64.2.2.2.2.2.1, .int u64.2.2.2.2.2.2.1, .int u64.2.2.2.2.2.2.2])), (a_md 2, .inl (kA 0, 640, .inl u64.1.2.1)), (a_md 3, .inl (kA 0, 40, .inl u64.1.2.2.1)), (a_md 4, .inl (kA 0, 1200, .inl u64.1.2.2.2.1)), (a_md 7, .inl (kA 0, 80, .inl u64.2.1.2.1)), (a_md 8, .inl (kA 2, 80, .inr (.inl u64.2.1.2.2.1))), (a_md 9, .inl (kA 2, 80, .inr (.inl u64.2.1.2.2.2.1))), (a_md 10, .inl (kA 0, 80, .inl u64.2.1.2.2.2.2.1)), (a_md 11, .inl (kA 0, 80, .inl u64.2.1.2.2.2.2.2.1)), (a_md 12, .inl (kA 0, 80, .inl u64.2.1.2.2.2.2.2.2.1)), (a_md 13, .inl (kA 0, 3840, .inl u64.2.1.2.2.2.2.2.2.2.1)), (a_md 14, .inl (kA 0, 240, .inl u64.2.1.2.2.2.2.2.2.2.2)), (a_md 16, .inl (kA 0, 24, .inl u64.2.2.1.2.1)), (a_md 17, .inl (kA 0, 24, .inl u64.2.2.1.2.2.1)), (a_md 18, .inl (kA 2, 24, .inr (.inl u64.2.2.1.2.2.2.1))), (a_md 19, .inl (kA 2, 24, .inr (.inl u64.2.2.1.2.2.2.2.1))), (a_md 20, .inl (kA 2, 24, .inr (.inl u64.2.2.1.2.2.2.2.2.1))), (a_md 21, .inl (kA 2, 24, .inr (.inl u64.2.2.1.2.2.2.2.2.2.1))), (a_md 22, .inl (kA 3, 24, .inl u64.2.2.1.2.2.2.2.2.2.2)), (a_md 28, .inl (kA 0, 40, .inl u64.2.2.2.1.2.2.2.2.2.1)), (a_md 29, .inl (kA 0, 40, .inl u64.2.2.2.1.2.2.2.2.2.2)), (a_md 30, .inl (kA 3, 17, .inl u64.2.2.2.2.1))] H := hP
      have hD : va_D A [(a_md 0, .inr (6, [.int u64.1.1, .ref (a_md 2), .ref (a_md 3), .ref (a_md 4), .int u64.1.2.2.2.2, .int u64.2.1.1, .ref (a_md 7), .ref (a_md 8), .ref (a_md 9), .ref (a_md 10), .ref (a_md 11), .ref (a_md 12), .ref (a_md 13), .ref (a_md 14), .int u64.2.2.1.1, .ref (a_md 16), .ref (a_md 17), .ref (a_md 18), .ref (a_md 19), .ref (a_md 20), .ref (a_md 21), .ref (a_md 22), .int u64.2.2.2.1.1, .int u64.2.2.2.1.2.1, .int u64.2.2.2.1.2.2.1, .int u64.2.2.2.1.2.2.2.1, .int u64.2.2.2.1.2.2.2.2.1, .ref (a_md 28), .ref (a_md 29), .ref (a_md 30), .int u64.2.2.2.2.2.1, .int u64.2.2.2.2.2.2.1, .int u64.2.2.2.2.2.2.2])), (a_md 2, .inl (kA 0, 640, .inl u64.1.2.1)), (a_md 3, .inl (kA 0, 40, .inl u64.1.2.2.1)), (a_md 4, .inl (kA 0, 1200, .inl u64.1.2.2.2.1)), (a_md 7, .inl (kA 0, 80, .inl u64.2.1.2.1)), (a_md 8, .inl (kA 2, 80, .inr (.inl u64.2.1.2.2.1))), (a_md 9, .inl (kA 2, 80, .inr (.inl u64.2.1.2.2.2.1))), (a_md 10, .inl (kA 0, 80, .inl u64.2.1.2.2.2.2.1)), (a_md 11, .inl (kA 0, 80, .inl u64.2.1.2.2.2.2.2.1)), (a_md 12, .inl (kA 0, 80, .inl u64.2.1.2.2.2.2.2.2.1)), (a_md 13, .inl (kA 0, 3840, .inl u64.2.1.2.2.2.2.2.2.2.1)), (a_md 14, .inl (kA 0, 240, .inl u64.2.1.2.2.2.2.2.2.2.2)), (a_md 16, .inl (kA 0, 24, .inl u64.2.2.1.2.1)), (a_md 17, .inl (kA 0, 24, .inl u64.2.2.1.2.2.1)), (a_md 18, .inl (kA 2, 24, .inr (.inl u64.2.2.1.2.2.2.1))), (a_md 19, .inl (kA 2, 24, .inr (.inl u64.2.2.1.2.2.2.2.1))), (a_md 20, .inl (kA 2, 24, .inr (.inl u64.2.2.1.2.2.2.2.2.1))), (a_md 21, .inl (kA 2, 24, .inr (.inl u64.2.2.1.2.2.2.2.2.2.1))), (a_md 22, .inl (kA 3, 24, .inl u64.2.2.1.2.2.2.2.2.2.2)), (a_md 28, .inl (kA 0, 40, .inl u64.2.2.2.1.2.2.2.2.2.1)), (a_md 29, .inl (kA 0, 40, .inl u64.2.2.2.1.2.2.2.2.2.2)), (a_md 30, .inl (kA 3, 17, .inl u64.2.2.2.2.1))] := hD
      obtain rfl := Option.some.inj h
      rw [← hQ]
      exact rw_return hx hb hr hk  dX6_takeOld_67  hP hD hS
    refine lv_if_le (tgt := 63) hx hb dX6_takeOld_56 (by decide) (fun bc => ?_) (fun bc => ?_)
    · have h := ite_t bc h
      refine lv_iconst (v := 0) hx hb dX6_takeOld_63 (by decide) ?_
      exact j64 _ _ _ ls h hP hD hS (lv_sub hl [] rfl)
    · have h := ite_f bc h
      refine lv_iconst (v := 1) hx hb dX6_takeOld_59 (by decide) ?_
      refine lv_goto (tgt := 64) hx hb dX6_takeOld_60 (by decide) ?_
      exact j64 _ _ _ ls h hP hD hS (lv_sub hl [] rfl)
  refine lv_if_eq (tgt := 32) hx hb dX6_takeOld_6 (by decide) (fun bc => ?_) (fun bc => ?_)
  · have h := ite_t bc h
    refine lv_aload_n hx hb dX6_takeOld_32 rfl (lv_at hl 1 rfl) ?_
    refine va_get (D := D) (ci := 6) (v := .ref (a_md 29)) (C := "ConstraintTextModel") (T := TX6) (N := 33) hx hb hts ing6 hown hK hP 0 rfl rfl 28 (by decide) (hts _ tw_878) (fun _ h9 => h9) rfl dX6_takeOld_33 ?_
    refine lv_aload_n hx hb dX6_takeOld_36 rfl (lv_at hl 1 rfl) ?_
    refine va_get (D := D) (ci := 6) (v := .int md.2.2.2.1.2.2.2.1) (C := "ConstraintTextModel") (T := TX6) (N := 33) hx hb hts ing6 hown hK hP 0 rfl rfl 25 (by decide) (hts _ tw_875) (fun _ h9 => h9) rfl dX6_takeOld_37 ?_
    refine lv_aload_n hx hb dX6_takeOld_40 rfl (lv_at hl 1 rfl) ?_
    refine va_get (D := D) (ci := 6) (v := .int md.2.2.2.1.1) (C := "ConstraintTextModel") (T := TX6) (N := 33) hx hb hts ing6 hown hK hP 0 rfl rfl 22 (by decide) (hts _ tw_872) (fun _ h9 => h9) rfl dX6_takeOld_41 ?_
    obtain ⟨g44, h⟩ := grd_some h
    refine va_iast hx hb hK hP hD hS 20 0 rfl rfl (inb_in g44) dX6_takeOld_44 (fun H locs hP hD hS => ?_)
    have hP : va_P D vwCl [(a_md 0, .inr (6, [.int md.1.1, .ref (a_md 2), .ref (a_md 3), .ref (a_md 4), .int md.1.2.2.2.2, .int md.2.1.1, .ref (a_md 7), .ref (a_md 8), .ref (a_md 9), .ref (a_md 10), .ref (a_md 11), .ref (a_md 12), .ref (a_md 13), .ref (a_md 14), .int md.2.2.1.1, .ref (a_md 16), .ref (a_md 17), .ref (a_md 18), .ref (a_md 19), .ref (a_md 20), .ref (a_md 21), .ref (a_md 22), .int md.2.2.2.1.1, .int md.2.2.2.1.2.1, .int md.2.2.2.1.2.2.1, .int md.2.2.2.1.2.2.2.1, .int md.2.2.2.1.2.2.2.2.1, .ref (a_md 28), .ref (a_md 29), .ref (a_md 30), .int md.2.2.2.2.2.1, .int md.2.2.2.2.2.2.1, .int md.2.2.2.2.2.2.2])), (a_md 2, .inl (kA 0, 640, .inl md.1.2.1)), (a_md 3, .inl (kA 0, 40, .inl md.1.2.2.1)), (a_md 4, .inl (kA 0, 1200, .inl md.1.2.2.2.1)), (a_md 7, .inl (kA 0, 80, .inl md.2.1.2.1)), (a_md 8, .inl (kA 2, 80, .inr (.inl md.2.1.2.2.1))), (a_md 9, .inl (kA 2, 80, .inr (.inl md.2.1.2.2.2.1))), (a_md 10, .inl (kA 0, 80, .inl md.2.1.2.2.2.2.1)), (a_md 11, .inl (kA 0, 80, .inl md.2.1.2.2.2.2.2.1)), (a_md 12, .inl (kA 0, 80, .inl md.2.1.2.2.2.2.2.2.1)), (a_md 13, .inl (kA 0, 3840, .inl md.2.1.2.2.2.2.2.2.2.1)), (a_md 14, .inl (kA 0, 240, .inl md.2.1.2.2.2.2.2.2.2.2)), (a_md 16, .inl (kA 0, 24, .inl md.2.2.1.2.1)), (a_md 17, .inl (kA 0, 24, .inl md.2.2.1.2.2.1)), (a_md 18, .inl (kA 2, 24, .inr (.inl md.2.2.1.2.2.2.1))), (a_md 19, .inl (kA 2, 24, .inr (.inl md.2.2.1.2.2.2.2.1))), (a_md 20, .inl (kA 2, 24, .inr (.inl md.2.2.1.2.2.2.2.2.1))), (a_md 21, .inl (kA 2, 24, .inr (.inl md.2.2.1.2.2.2.2.2.2.1))), (a_md 22, .inl (kA 3, 24, .inl md.2.2.1.2.2.2.2.2.2.2)), (a_md 28, .inl (kA 0, 40, .inl md.2.2.2.1.2.2.2.2.2.1)), (a_md 29, .inl (kA 0, 40, .inl (upd md.2.2.2.1.2.2.2.2.2.2 md.2.2.2.1.2.2.2.1.toNatClampNeg md.2.2.2.1.1))), (a_md 30, .inl (kA 3, 17, .inl md.2.2.2.2.1))] H := hP
    have hD : va_D A [(a_md 0, .inr (6, [.int md.1.1, .ref (a_md 2), .ref (a_md 3), .ref (a_md 4), .int md.1.2.2.2.2, .int md.2.1.1, .ref (a_md 7), .ref (a_md 8), .ref (a_md 9), .ref (a_md 10), .ref (a_md 11), .ref (a_md 12), .ref (a_md 13), .ref (a_md 14), .int md.2.2.1.1, .ref (a_md 16), .ref (a_md 17), .ref (a_md 18), .ref (a_md 19), .ref (a_md 20), .ref (a_md 21), .ref (a_md 22), .int md.2.2.2.1.1, .int md.2.2.2.1.2.1, .int md.2.2.2.1.2.2.1, .int md.2.2.2.1.2.2.2.1, .int md.2.2.2.1.2.2.2.2.1, .ref (a_md 28), .ref (a_md 29), .ref (a_md 30), .int md.2.2.2.2.2.1, .int md.2.2.2.2.2.2.1, .int md.2.2.2.2.2.2.2])), (a_md 2, .inl (kA 0, 640, .inl md.1.2.1)), (a_md 3, .inl (kA 0, 40, .inl md.1.2.2.1)), (a_md 4, .inl (kA 0, 1200, .inl md.1.2.2.2.1)), (a_md 7, .inl (kA 0, 80, .inl md.2.1.2.1)), (a_md 8, .inl (kA 2, 80, .inr (.inl md.2.1.2.2.1))), (a_md 9, .inl (kA 2, 80, .inr (.inl md.2.1.2.2.2.1))), (a_md 10, .inl (kA 0, 80, .inl md.2.1.2.2.2.2.1)), (a_md 11, .inl (kA 0, 80, .inl md.2.1.2.2.2.2.2.1)), (a_md 12, .inl (kA 0, 80, .inl md.2.1.2.2.2.2.2.2.1)), (a_md 13, .inl (kA 0, 3840, .inl md.2.1.2.2.2.2.2.2.2.1)), (a_md 14, .inl (kA 0, 240, .inl md.2.1.2.2.2.2.2.2.2.2)), (a_md 16, .inl (kA 0, 24, .inl md.2.2.1.2.1)), (a_md 17, .inl (kA 0, 24, .inl md.2.2.1.2.2.1)), (a_md 18, .inl (kA 2, 24, .inr (.inl md.2.2.1.2.2.2.1))), (a_md 19, .inl (kA 2, 24, .inr (.inl md.2.2.1.2.2.2.2.1))), (a_md 20, .inl (kA 2, 24, .inr (.inl md.2.2.1.2.2.2.2.2.1))), (a_md 21, .inl (kA 2, 24, .inr (.inl md.2.2.1.2.2.2.2.2.2.1))), (a_md 22, .inl (kA 3, 24, .inl md.2.2.1.2.2.2.2.2.2.2)), (a_md 28, .inl (kA 0, 40, .inl md.2.2.2.1.2.2.2.2.2.1)), (a_md 29, .inl (kA 0, 40, .inl (upd md.2.2.2.1.2.2.2.2.2.2 md.2.2.2.1.2.2.2.1.toNatClampNeg md.2.2.2.1.1))), (a_md 30, .inl (kA 3, 17, .inl md.2.2.2.2.1))] := hD
    refine lv_aload_n hx hb dX6_takeOld_45 rfl (lv_at hl 1 rfl) ?_
    refine va_get (D := D) (ci := 6) (v := .ref (a_md 9)) (C := "ConstraintTextModel") (T := TX6) (N := 33) hx hb hts ing6 hown hK hP 0 rfl rfl 8 (by decide) (hts _ tw_858) (fun _ h9 => h9) rfl dX6_takeOld_46 ?_
    refine lv_iload_n hx hb dX6_takeOld_49 rfl (lv_at hl 2 rfl) ?_
    refine lv_lload_n hx hb dX6_takeOld_50 rfl (lv_at hl 0 rfl) ?_
    obtain ⟨g51, h⟩ := grd_some h
    refine va_last hx hb hK hP hD hS 6 2 rfl rfl (inb_in g51) dX6_takeOld_51 (fun H locs hP hD hS => ?_)
    have hP : va_P D vwCl [(a_md 0, .inr (6, [.int md.1.1, .ref (a_md 2), .ref (a_md 3), .ref (a_md 4), .int md.1.2.2.2.2, .int md.2.1.1, .ref (a_md 7), .ref (a_md 8), .ref (a_md 9), .ref (a_md 10), .ref (a_md 11), .ref (a_md 12), .ref (a_md 13), .ref (a_md 14), .int md.2.2.1.1, .ref (a_md 16), .ref (a_md 17), .ref (a_md 18), .ref (a_md 19), .ref (a_md 20), .ref (a_md 21), .ref (a_md 22), .int md.2.2.2.1.1, .int md.2.2.2.1.2.1, .int md.2.2.2.1.2.2.1, .int md.2.2.2.1.2.2.2.1, .int md.2.2.2.1.2.2.2.2.1, .ref (a_md 28), .ref (a_md 29), .ref (a_md 30), .int md.2.2.2.2.2.1, .int md.2.2.2.2.2.2.1, .int md.2.2.2.2.2.2.2])), (a_md 2, .inl (kA 0, 640, .inl md.1.2.1)), (a_md 3, .inl (kA 0, 40, .inl md.1.2.2.1)), (a_md 4, .inl (kA 0, 1200, .inl md.1.2.2.2.1)), (a_md 7, .inl (kA 0, 80, .inl md.2.1.2.1)), (a_md 8, .inl (kA 2, 80, .inr (.inl md.2.1.2.2.1))), (a_md 9, .inl (kA 2, 80, .inr (.inl (vp_updL md.2.1.2.2.2.1 p1.toNatClampNeg u1)))), (a_md 10, .inl (kA 0, 80, .inl md.2.1.2.2.2.2.1)), (a_md 11, .inl (kA 0, 80, .inl md.2.1.2.2.2.2.2.1)), (a_md 12, .inl (kA 0, 80, .inl md.2.1.2.2.2.2.2.2.1)), (a_md 13, .inl (kA 0, 3840, .inl md.2.1.2.2.2.2.2.2.2.1)), (a_md 14, .inl (kA 0, 240, .inl md.2.1.2.2.2.2.2.2.2.2)), (a_md 16, .inl (kA 0, 24, .inl md.2.2.1.2.1)), (a_md 17, .inl (kA 0, 24, .inl md.2.2.1.2.2.1)), (a_md 18, .inl (kA 2, 24, .inr (.inl md.2.2.1.2.2.2.1))), (a_md 19, .inl (kA 2, 24, .inr (.inl md.2.2.1.2.2.2.2.1))), (a_md 20, .inl (kA 2, 24, .inr (.inl md.2.2.1.2.2.2.2.2.1))), (a_md 21, .inl (kA 2, 24, .inr (.inl md.2.2.1.2.2.2.2.2.2.1))), (a_md 22, .inl (kA 3, 24, .inl md.2.2.1.2.2.2.2.2.2.2)), (a_md 28, .inl (kA 0, 40, .inl md.2.2.2.1.2.2.2.2.2.1)), (a_md 29, .inl (kA 0, 40, .inl (upd md.2.2.2.1.2.2.2.2.2.2 md.2.2.2.1.2.2.2.1.toNatClampNeg md.2.2.2.1.1))), (a_md 30, .inl (kA 3, 17, .inl md.2.2.2.2.1))] H := hP
    have hD : va_D A [(a_md 0, .inr (6, [.int md.1.1, .ref (a_md 2), .ref (a_md 3), .ref (a_md 4), .int md.1.2.2.2.2, .int md.2.1.1, .ref (a_md 7), .ref (a_md 8), .ref (a_md 9), .ref (a_md 10), .ref (a_md 11), .ref (a_md 12), .ref (a_md 13), .ref (a_md 14), .int md.2.2.1.1, .ref (a_md 16), .ref (a_md 17), .ref (a_md 18), .ref (a_md 19), .ref (a_md 20), .ref (a_md 21), .ref (a_md 22), .int md.2.2.2.1.1, .int md.2.2.2.1.2.1, .int md.2.2.2.1.2.2.1, .int md.2.2.2.1.2.2.2.1, .int md.2.2.2.1.2.2.2.2.1, .ref (a_md 28), .ref (a_md 29), .ref (a_md 30), .int md.2.2.2.2.2.1, .int md.2.2.2.2.2.2.1, .int md.2.2.2.2.2.2.2])), (a_md 2, .inl (kA 0, 640, .inl md.1.2.1)), (a_md 3, .inl (kA 0, 40, .inl md.1.2.2.1)), (a_md 4, .inl (kA 0, 1200, .inl md.1.2.2.2.1)), (a_md 7, .inl (kA 0, 80, .inl md.2.1.2.1)), (a_md 8, .inl (kA 2, 80, .inr (.inl md.2.1.2.2.1))), (a_md 9, .inl (kA 2, 80, .inr (.inl (vp_updL md.2.1.2.2.2.1 p1.toNatClampNeg u1)))), (a_md 10, .inl (kA 0, 80, .inl md.2.1.2.2.2.2.1)), (a_md 11, .inl (kA 0, 80, .inl md.2.1.2.2.2.2.2.1)), (a_md 12, .inl (kA 0, 80, .inl md.2.1.2.2.2.2.2.2.1)), (a_md 13, .inl (kA 0, 3840, .inl md.2.1.2.2.2.2.2.2.2.1)), (a_md 14, .inl (kA 0, 240, .inl md.2.1.2.2.2.2.2.2.2.2)), (a_md 16, .inl (kA 0, 24, .inl md.2.2.1.2.1)), (a_md 17, .inl (kA 0, 24, .inl md.2.2.1.2.2.1)), (a_md 18, .inl (kA 2, 24, .inr (.inl md.2.2.1.2.2.2.1))), (a_md 19, .inl (kA 2, 24, .inr (.inl md.2.2.1.2.2.2.2.1))), (a_md 20, .inl (kA 2, 24, .inr (.inl md.2.2.1.2.2.2.2.2.1))), (a_md 21, .inl (kA 2, 24, .inr (.inl md.2.2.1.2.2.2.2.2.2.1))), (a_md 22, .inl (kA 3, 24, .inl md.2.2.1.2.2.2.2.2.2.2)), (a_md 28, .inl (kA 0, 40, .inl md.2.2.2.1.2.2.2.2.2.1)), (a_md 29, .inl (kA 0, 40, .inl (upd md.2.2.2.1.2.2.2.2.2.2 md.2.2.2.1.2.2.2.1.toNatClampNeg md.2.2.2.1.1))), (a_md 30, .inl (kA 3, 17, .inl md.2.2.2.2.1))] := hD
    exact j52 _ _ _ ls h hP hD hS (lv_sub hl [1, 0] rfl)
  · have h := ite_f bc h
    refine lv_aload_n hx hb dX6_takeOld_9 rfl (lv_at hl 1 rfl) ?_
    refine va_get (D := D) (ci := 6) (v := .ref (a_md 28)) (C := "ConstraintTextModel") (T := TX6) (N := 33) hx hb hts ing6 hown hK hP 0 rfl rfl 27 (by decide) (hts _ tw_877) (fun _ h9 => h9) rfl dX6_takeOld_10 ?_
    refine lv_aload_n hx hb dX6_takeOld_13 rfl (lv_at hl 1 rfl) ?_
    refine va_get (D := D) (ci := 6) (v := .int md.2.2.2.1.2.2.2.1) (C := "ConstraintTextModel") (T := TX6) (N := 33) hx hb hts ing6 hown hK hP 0 rfl rfl 25 (by decide) (hts _ tw_875) (fun _ h9 => h9) rfl dX6_takeOld_14 ?_
    refine lv_aload_n hx hb dX6_takeOld_17 rfl (lv_at hl 1 rfl) ?_
    refine va_get (D := D) (ci := 6) (v := .int md.2.2.2.1.1) (C := "ConstraintTextModel") (T := TX6) (N := 33) hx hb hts ing6 hown hK hP 0 rfl rfl 22 (by decide) (hts _ tw_872) (fun _ h9 => h9) rfl dX6_takeOld_18 ?_
    obtain ⟨g21, h⟩ := grd_some h
    refine va_iast hx hb hK hP hD hS 19 0 rfl rfl (inb_in g21) dX6_takeOld_21 (fun H locs hP hD hS => ?_)
    have hP : va_P D vwCl [(a_md 0, .inr (6, [.int md.1.1, .ref (a_md 2), .ref (a_md 3), .ref (a_md 4), .int md.1.2.2.2.2, .int md.2.1.1, .ref (a_md 7), .ref (a_md 8), .ref (a_md 9), .ref (a_md 10), .ref (a_md 11), .ref (a_md 12), .ref (a_md 13), .ref (a_md 14), .int md.2.2.1.1, .ref (a_md 16), .ref (a_md 17), .ref (a_md 18), .ref (a_md 19), .ref (a_md 20), .ref (a_md 21), .ref (a_md 22), .int md.2.2.2.1.1, .int md.2.2.2.1.2.1, .int md.2.2.2.1.2.2.1, .int md.2.2.2.1.2.2.2.1, .int md.2.2.2.1.2.2.2.2.1, .ref (a_md 28), .ref (a_md 29), .ref (a_md 30), .int md.2.2.2.2.2.1, .int md.2.2.2.2.2.2.1, .int md.2.2.2.2.2.2.2])), (a_md 2, .inl (kA 0, 640, .inl md.1.2.1)), (a_md 3, .inl (kA 0, 40, .inl md.1.2.2.1)), (a_md 4, .inl (kA 0, 1200, .inl md.1.2.2.2.1)), (a_md 7, .inl (kA 0, 80, .inl md.2.1.2.1)), (a_md 8, .inl (kA 2, 80, .inr (.inl md.2.1.2.2.1))), (a_md 9, .inl (kA 2, 80, .inr (.inl md.2.1.2.2.2.1))), (a_md 10, .inl (kA 0, 80, .inl md.2.1.2.2.2.2.1)), (a_md 11, .inl (kA 0, 80, .inl md.2.1.2.2.2.2.2.1)), (a_md 12, .inl (kA 0, 80, .inl md.2.1.2.2.2.2.2.2.1)), (a_md 13, .inl (kA 0, 3840, .inl md.2.1.2.2.2.2.2.2.2.1)), (a_md 14, .inl (kA 0, 240, .inl md.2.1.2.2.2.2.2.2.2.2)), (a_md 16, .inl (kA 0, 24, .inl md.2.2.1.2.1)), (a_md 17, .inl (kA 0, 24, .inl md.2.2.1.2.2.1)), (a_md 18, .inl (kA 2, 24, .inr (.inl md.2.2.1.2.2.2.1))), (a_md 19, .inl (kA 2, 24, .inr (.inl md.2.2.1.2.2.2.2.1))), (a_md 20, .inl (kA 2, 24, .inr (.inl md.2.2.1.2.2.2.2.2.1))), (a_md 21, .inl (kA 2, 24, .inr (.inl md.2.2.1.2.2.2.2.2.2.1))), (a_md 22, .inl (kA 3, 24, .inl md.2.2.1.2.2.2.2.2.2.2)), (a_md 28, .inl (kA 0, 40, .inl (upd md.2.2.2.1.2.2.2.2.2.1 md.2.2.2.1.2.2.2.1.toNatClampNeg md.2.2.2.1.1))), (a_md 29, .inl (kA 0, 40, .inl md.2.2.2.1.2.2.2.2.2.2)), (a_md 30, .inl (kA 3, 17, .inl md.2.2.2.2.1))] H := hP
    have hD : va_D A [(a_md 0, .inr (6, [.int md.1.1, .ref (a_md 2), .ref (a_md 3), .ref (a_md 4), .int md.1.2.2.2.2, .int md.2.1.1, .ref (a_md 7), .ref (a_md 8), .ref (a_md 9), .ref (a_md 10), .ref (a_md 11), .ref (a_md 12), .ref (a_md 13), .ref (a_md 14), .int md.2.2.1.1, .ref (a_md 16), .ref (a_md 17), .ref (a_md 18), .ref (a_md 19), .ref (a_md 20), .ref (a_md 21), .ref (a_md 22), .int md.2.2.2.1.1, .int md.2.2.2.1.2.1, .int md.2.2.2.1.2.2.1, .int md.2.2.2.1.2.2.2.1, .int md.2.2.2.1.2.2.2.2.1, .ref (a_md 28), .ref (a_md 29), .ref (a_md 30), .int md.2.2.2.2.2.1, .int md.2.2.2.2.2.2.1, .int md.2.2.2.2.2.2.2])), (a_md 2, .inl (kA 0, 640, .inl md.1.2.1)), (a_md 3, .inl (kA 0, 40, .inl md.1.2.2.1)), (a_md 4, .inl (kA 0, 1200, .inl md.1.2.2.2.1)), (a_md 7, .inl (kA 0, 80, .inl md.2.1.2.1)), (a_md 8, .inl (kA 2, 80, .inr (.inl md.2.1.2.2.1))), (a_md 9, .inl (kA 2, 80, .inr (.inl md.2.1.2.2.2.1))), (a_md 10, .inl (kA 0, 80, .inl md.2.1.2.2.2.2.1)), (a_md 11, .inl (kA 0, 80, .inl md.2.1.2.2.2.2.2.1)), (a_md 12, .inl (kA 0, 80, .inl md.2.1.2.2.2.2.2.2.1)), (a_md 13, .inl (kA 0, 3840, .inl md.2.1.2.2.2.2.2.2.2.1)), (a_md 14, .inl (kA 0, 240, .inl md.2.1.2.2.2.2.2.2.2.2)), (a_md 16, .inl (kA 0, 24, .inl md.2.2.1.2.1)), (a_md 17, .inl (kA 0, 24, .inl md.2.2.1.2.2.1)), (a_md 18, .inl (kA 2, 24, .inr (.inl md.2.2.1.2.2.2.1))), (a_md 19, .inl (kA 2, 24, .inr (.inl md.2.2.1.2.2.2.2.1))), (a_md 20, .inl (kA 2, 24, .inr (.inl md.2.2.1.2.2.2.2.2.1))), (a_md 21, .inl (kA 2, 24, .inr (.inl md.2.2.1.2.2.2.2.2.2.1))), (a_md 22, .inl (kA 3, 24, .inl md.2.2.1.2.2.2.2.2.2.2)), (a_md 28, .inl (kA 0, 40, .inl (upd md.2.2.2.1.2.2.2.2.2.1 md.2.2.2.1.2.2.2.1.toNatClampNeg md.2.2.2.1.1))), (a_md 29, .inl (kA 0, 40, .inl md.2.2.2.1.2.2.2.2.2.2)), (a_md 30, .inl (kA 3, 17, .inl md.2.2.2.2.1))] := hD
    refine lv_aload_n hx hb dX6_takeOld_22 rfl (lv_at hl 1 rfl) ?_
    refine va_get (D := D) (ci := 6) (v := .ref (a_md 8)) (C := "ConstraintTextModel") (T := TX6) (N := 33) hx hb hts ing6 hown hK hP 0 rfl rfl 7 (by decide) (hts _ tw_857) (fun _ h9 => h9) rfl dX6_takeOld_23 ?_
    refine lv_iload_n hx hb dX6_takeOld_26 rfl (lv_at hl 2 rfl) ?_
    refine lv_lload_n hx hb dX6_takeOld_27 rfl (lv_at hl 0 rfl) ?_
    obtain ⟨g28, h⟩ := grd_some h
    refine va_last hx hb hK hP hD hS 5 2 rfl rfl (inb_in g28) dX6_takeOld_28 (fun H locs hP hD hS => ?_)
    have hP : va_P D vwCl [(a_md 0, .inr (6, [.int md.1.1, .ref (a_md 2), .ref (a_md 3), .ref (a_md 4), .int md.1.2.2.2.2, .int md.2.1.1, .ref (a_md 7), .ref (a_md 8), .ref (a_md 9), .ref (a_md 10), .ref (a_md 11), .ref (a_md 12), .ref (a_md 13), .ref (a_md 14), .int md.2.2.1.1, .ref (a_md 16), .ref (a_md 17), .ref (a_md 18), .ref (a_md 19), .ref (a_md 20), .ref (a_md 21), .ref (a_md 22), .int md.2.2.2.1.1, .int md.2.2.2.1.2.1, .int md.2.2.2.1.2.2.1, .int md.2.2.2.1.2.2.2.1, .int md.2.2.2.1.2.2.2.2.1, .ref (a_md 28), .ref (a_md 29), .ref (a_md 30), .int md.2.2.2.2.2.1, .int md.2.2.2.2.2.2.1, .int md.2.2.2.2.2.2.2])), (a_md 2, .inl (kA 0, 640, .inl md.1.2.1)), (a_md 3, .inl (kA 0, 40, .inl md.1.2.2.1)), (a_md 4, .inl (kA 0, 1200, .inl md.1.2.2.2.1)), (a_md 7, .inl (kA 0, 80, .inl md.2.1.2.1)), (a_md 8, .inl (kA 2, 80, .inr (.inl (vp_updL md.2.1.2.2.1 p1.toNatClampNeg u1)))), (a_md 9, .inl (kA 2, 80, .inr (.inl md.2.1.2.2.2.1))), (a_md 10, .inl (kA 0, 80, .inl md.2.1.2.2.2.2.1)), (a_md 11, .inl (kA 0, 80, .inl md.2.1.2.2.2.2.2.1)), (a_md 12, .inl (kA 0, 80, .inl md.2.1.2.2.2.2.2.2.1)), (a_md 13, .inl (kA 0, 3840, .inl md.2.1.2.2.2.2.2.2.2.1)), (a_md 14, .inl (kA 0, 240, .inl md.2.1.2.2.2.2.2.2.2.2)), (a_md 16, .inl (kA 0, 24, .inl md.2.2.1.2.1)), (a_md 17, .inl (kA 0, 24, .inl md.2.2.1.2.2.1)), (a_md 18, .inl (kA 2, 24, .inr (.inl md.2.2.1.2.2.2.1))), (a_md 19, .inl (kA 2, 24, .inr (.inl md.2.2.1.2.2.2.2.1))), (a_md 20, .inl (kA 2, 24, .inr (.inl md.2.2.1.2.2.2.2.2.1))), (a_md 21, .inl (kA 2, 24, .inr (.inl md.2.2.1.2.2.2.2.2.2.1))), (a_md 22, .inl (kA 3, 24, .inl md.2.2.1.2.2.2.2.2.2.2)), (a_md 28, .inl (kA 0, 40, .inl (upd md.2.2.2.1.2.2.2.2.2.1 md.2.2.2.1.2.2.2.1.toNatClampNeg md.2.2.2.1.1))), (a_md 29, .inl (kA 0, 40, .inl md.2.2.2.1.2.2.2.2.2.2)), (a_md 30, .inl (kA 3, 17, .inl md.2.2.2.2.1))] H := hP
    have hD : va_D A [(a_md 0, .inr (6, [.int md.1.1, .ref (a_md 2), .ref (a_md 3), .ref (a_md 4), .int md.1.2.2.2.2, .int md.2.1.1, .ref (a_md 7), .ref (a_md 8), .ref (a_md 9), .ref (a_md 10), .ref (a_md 11), .ref (a_md 12), .ref (a_md 13), .ref (a_md 14), .int md.2.2.1.1, .ref (a_md 16), .ref (a_md 17), .ref (a_md 18), .ref (a_md 19), .ref (a_md 20), .ref (a_md 21), .ref (a_md 22), .int md.2.2.2.1.1, .int md.2.2.2.1.2.1, .int md.2.2.2.1.2.2.1, .int md.2.2.2.1.2.2.2.1, .int md.2.2.2.1.2.2.2.2.1, .ref (a_md 28), .ref (a_md 29), .ref (a_md 30), .int md.2.2.2.2.2.1, .int md.2.2.2.2.2.2.1, .int md.2.2.2.2.2.2.2])), (a_md 2, .inl (kA 0, 640, .inl md.1.2.1)), (a_md 3, .inl (kA 0, 40, .inl md.1.2.2.1)), (a_md 4, .inl (kA 0, 1200, .inl md.1.2.2.2.1)), (a_md 7, .inl (kA 0, 80, .inl md.2.1.2.1)), (a_md 8, .inl (kA 2, 80, .inr (.inl (vp_updL md.2.1.2.2.1 p1.toNatClampNeg u1)))), (a_md 9, .inl (kA 2, 80, .inr (.inl md.2.1.2.2.2.1))), (a_md 10, .inl (kA 0, 80, .inl md.2.1.2.2.2.2.1)), (a_md 11, .inl (kA 0, 80, .inl md.2.1.2.2.2.2.2.1)), (a_md 12, .inl (kA 0, 80, .inl md.2.1.2.2.2.2.2.2.1)), (a_md 13, .inl (kA 0, 3840, .inl md.2.1.2.2.2.2.2.2.2.1)), (a_md 14, .inl (kA 0, 240, .inl md.2.1.2.2.2.2.2.2.2.2)), (a_md 16, .inl (kA 0, 24, .inl md.2.2.1.2.1)), (a_md 17, .inl (kA 0, 24, .inl md.2.2.1.2.2.1)), (a_md 18, .inl (kA 2, 24, .inr (.inl md.2.2.1.2.2.2.1))), (a_md 19, .inl (kA 2, 24, .inr (.inl md.2.2.1.2.2.2.2.1))), (a_md 20, .inl (kA 2, 24, .inr (.inl md.2.2.1.2.2.2.2.2.1))), (a_md 21, .inl (kA 2, 24, .inr (.inl md.2.2.1.2.2.2.2.2.2.1))), (a_md 22, .inl (kA 3, 24, .inl md.2.2.1.2.2.2.2.2.2.2)), (a_md 28, .inl (kA 0, 40, .inl (upd md.2.2.2.1.2.2.2.2.2.1 md.2.2.2.1.2.2.2.1.toNatClampNeg md.2.2.2.1.1))), (a_md 29, .inl (kA 0, 40, .inl md.2.2.2.1.2.2.2.2.2.2)), (a_md 30, .inl (kA 3, 17, .inl md.2.2.2.2.1))] := hD
    refine lv_goto (tgt := 52) hx hb dX6_takeOld_29 (by decide) ?_
    exact j52 _ _ _ ls h hP hD hS (lv_sub hl [1, 0] rfl)
abbrev rm6_readClock : Room := { frames := 3, cells := 0, slots := 0, locals := 68 }
set_option maxHeartbeats 4000000 in
set_option maxRecDepth 100000 in
theorem c6_readClock (l : Launch) (D : va_G) (kA : Nat → ClassId) (a_md : Nat → Nat) (F : Nat) (p1 : Int32) (md : T6) (res : T6) (h : f6_readClock F p1 md = some res) : Rw l yX6_readClock cX6_readClock 3 none rm6_readClock D kA [.ref (a_md 0), .int p1] [(a_md 0, .inr (6, [.int md.1.1, .ref (a_md 2), .ref (a_md 3), .ref (a_md 4), .int md.1.2.2.2.2, .int md.2.1.1, .ref (a_md 7), .ref (a_md 8), .ref (a_md 9), .ref (a_md 10), .ref (a_md 11), .ref (a_md 12), .ref (a_md 13), .ref (a_md 14), .int md.2.2.1.1, .ref (a_md 16), .ref (a_md 17), .ref (a_md 18), .ref (a_md 19), .ref (a_md 20), .ref (a_md 21), .ref (a_md 22), .int md.2.2.2.1.1, .int md.2.2.2.1.2.1, .int md.2.2.2.1.2.2.1, .int md.2.2.2.1.2.2.2.1, .int md.2.2.2.1.2.2.2.2.1, .ref (a_md 28), .ref (a_md 29), .ref (a_md 30), .int md.2.2.2.2.2.1, .int md.2.2.2.2.2.2.1, .int md.2.2.2.2.2.2.2])), (a_md 2, .inl (kA 0, 640, .inl md.1.2.1)), (a_md 3, .inl (kA 0, 40, .inl md.1.2.2.1)), (a_md 4, .inl (kA 0, 1200, .inl md.1.2.2.2.1)), (a_md 7, .inl (kA 0, 80, .inl md.2.1.2.1)), (a_md 8, .inl (kA 2, 80, .inr (.inl md.2.1.2.2.1))), (a_md 9, .inl (kA 2, 80, .inr (.inl md.2.1.2.2.2.1))), (a_md 10, .inl (kA 0, 80, .inl md.2.1.2.2.2.2.1)), (a_md 11, .inl (kA 0, 80, .inl md.2.1.2.2.2.2.2.1)), (a_md 12, .inl (kA 0, 80, .inl md.2.1.2.2.2.2.2.2.1)), (a_md 13, .inl (kA 0, 3840, .inl md.2.1.2.2.2.2.2.2.2.1)), (a_md 14, .inl (kA 0, 240, .inl md.2.1.2.2.2.2.2.2.2.2)), (a_md 16, .inl (kA 0, 24, .inl md.2.2.1.2.1)), (a_md 17, .inl (kA 0, 24, .inl md.2.2.1.2.2.1)), (a_md 18, .inl (kA 2, 24, .inr (.inl md.2.2.1.2.2.2.1))), (a_md 19, .inl (kA 2, 24, .inr (.inl md.2.2.1.2.2.2.2.1))), (a_md 20, .inl (kA 2, 24, .inr (.inl md.2.2.1.2.2.2.2.2.1))), (a_md 21, .inl (kA 2, 24, .inr (.inl md.2.2.1.2.2.2.2.2.2.1))), (a_md 22, .inl (kA 3, 24, .inl md.2.2.1.2.2.2.2.2.2.2)), (a_md 28, .inl (kA 0, 40, .inl md.2.2.2.1.2.2.2.2.2.1)), (a_md 29, .inl (kA 0, 40, .inl md.2.2.2.1.2.2.2.2.2.2)), (a_md 30, .inl (kA 3, 17, .inl md.2.2.2.2.1))] none [(a_md 0, .inr (6, [.int res.1.1, .ref (a_md 2), .ref (a_md 3), .ref (a_md 4), .int res.1.2.2.2.2, .int res.2.1.1, .ref (a_md 7), .ref (a_md 8), .ref (a_md 9), .ref (a_md 10), .ref (a_md 11), .ref (a_md 12), .ref (a_md 13), .ref (a_md 14), .int res.2.2.1.1, .ref (a_md 16), .ref (a_md 17), .ref (a_md 18), .ref (a_md 19), .ref (a_md 20), .ref (a_md 21), .ref (a_md 22), .int res.2.2.2.1.1, .int res.2.2.2.1.2.1, .int res.2.2.2.1.2.2.1, .int res.2.2.2.1.2.2.2.1, .int res.2.2.2.1.2.2.2.2.1, .ref (a_md 28), .ref (a_md 29), .ref (a_md 30), .int res.2.2.2.2.2.1, .int res.2.2.2.2.2.2.1, .int res.2.2.2.2.2.2.2])), (a_md 2, .inl (kA 0, 640, .inl res.1.2.1)), (a_md 3, .inl (kA 0, 40, .inl res.1.2.2.1)), (a_md 4, .inl (kA 0, 1200, .inl res.1.2.2.2.1)), (a_md 7, .inl (kA 0, 80, .inl res.2.1.2.1)), (a_md 8, .inl (kA 2, 80, .inr (.inl res.2.1.2.2.1))), (a_md 9, .inl (kA 2, 80, .inr (.inl res.2.1.2.2.2.1))), (a_md 10, .inl (kA 0, 80, .inl res.2.1.2.2.2.2.1)), (a_md 11, .inl (kA 0, 80, .inl res.2.1.2.2.2.2.2.1)), (a_md 12, .inl (kA 0, 80, .inl res.2.1.2.2.2.2.2.2.1)), (a_md 13, .inl (kA 0, 3840, .inl res.2.1.2.2.2.2.2.2.2.1)), (a_md 14, .inl (kA 0, 240, .inl res.2.1.2.2.2.2.2.2.2.2)), (a_md 16, .inl (kA 0, 24, .inl res.2.2.1.2.1)), (a_md 17, .inl (kA 0, 24, .inl res.2.2.1.2.2.1)), (a_md 18, .inl (kA 2, 24, .inr (.inl res.2.2.1.2.2.2.1))), (a_md 19, .inl (kA 2, 24, .inr (.inl res.2.2.1.2.2.2.2.1))), (a_md 20, .inl (kA 2, 24, .inr (.inl res.2.2.1.2.2.2.2.2.1))), (a_md 21, .inl (kA 2, 24, .inr (.inl res.2.2.1.2.2.2.2.2.2.1))), (a_md 22, .inl (kA 3, 24, .inl res.2.2.1.2.2.2.2.2.2.2)), (a_md 28, .inl (kA 0, 40, .inl res.2.2.2.1.2.2.2.2.2.1)), (a_md 29, .inl (kA 0, 40, .inl res.2.2.2.1.2.2.2.2.2.2)), (a_md 30, .inl (kA 3, 17, .inl res.2.2.2.2.1))] := by
  refine Rw.of (by decide) (Nat.le_of_ble_eq_true rfl) ?_
  intro p e s m args below meth c A hF hP hD hS hA hK ls hl
  generalize hQ : rwQ below D A _ _ args s = Q
  obtain ⟨hx, hb, hml, hown, hr, hk, hts, hN⟩ := hF
  have hl : lv_has ls 3 [(0, .ref (a_md 0)), (1, .int p1)] := hl
  unfold f6_readClock at h
  refine lv_aload_n hx hb dX6_readClock_0 rfl (lv_at hl 0 rfl) ?_
  refine lv_iload_n hx hb dX6_readClock_1 rfl (lv_at hl 1 rfl) ?_
  obtain ⟨u2, hc_2, h⟩ := bnd_some h
  refine rw_V (wr := []) (n := 1) (As := [.int p1]) (rest := []) hx hb hml hown hts hN hS hK hP hD hA (c6_takeNew l D kA a_md F p1 md u2 hc_2) [0, 1, 2, 3, 4, 5, 6, 7, 8, 9, 10, 11, 12, 13, 14, 15, 16, 17, 18, 19, 20, 21] [] rfl (by decide) rfl (by decide) (by decide) 0 6 rfl rfl rfl tw_1008 tw_1010 tw_42 tw_80 tw_1011 rfl rfl (by decide) ⟨Nat.le_of_ble_eq_true rfl, Nat.le_of_ble_eq_true rfl⟩ rfl hl.1 rfl (Nat.le_of_ble_eq_true rfl) dX6_readClock_2 ⟨Nat.le_of_ble_eq_true rfl, Nat.le_of_ble_eq_true rfl⟩ (fun H locs hP hD hS => ?_)
  have hP : va_P D vwCl [(a_md 0, .inr (6, [.int u2.1.1, .ref (a_md 2), .ref (a_md 3), .ref (a_md 4), .int u2.1.2.2.2.2, .int u2.2.1.1, .ref (a_md 7), .ref (a_md 8), .ref (a_md 9), .ref (a_md 10), .ref (a_md 11), .ref (a_md 12), .ref (a_md 13), .ref (a_md 14), .int u2.2.2.1.1, .ref (a_md 16), .ref (a_md 17), .ref (a_md 18), .ref (a_md 19), .ref (a_md 20), .ref (a_md 21), .ref (a_md 22), .int u2.2.2.2.1.1, .int u2.2.2.2.1.2.1, .int u2.2.2.2.1.2.2.1, .int u2.2.2.2.1.2.2.2.1, .int u2.2.2.2.1.2.2.2.2.1, .ref (a_md 28), .ref (a_md 29), .ref (a_md 30), .int u2.2.2.2.2.2.1, .int u2.2.2.2.2.2.2.1, .int u2.2.2.2.2.2.2.2])), (a_md 2, .inl (kA 0, 640, .inl u2.1.2.1)), (a_md 3, .inl (kA 0, 40, .inl u2.1.2.2.1)), (a_md 4, .inl (kA 0, 1200, .inl u2.1.2.2.2.1)), (a_md 7, .inl (kA 0, 80, .inl u2.2.1.2.1)), (a_md 8, .inl (kA 2, 80, .inr (.inl u2.2.1.2.2.1))), (a_md 9, .inl (kA 2, 80, .inr (.inl u2.2.1.2.2.2.1))), (a_md 10, .inl (kA 0, 80, .inl u2.2.1.2.2.2.2.1)), (a_md 11, .inl (kA 0, 80, .inl u2.2.1.2.2.2.2.2.1)), (a_md 12, .inl (kA 0, 80, .inl u2.2.1.2.2.2.2.2.2.1)), (a_md 13, .inl (kA 0, 3840, .inl u2.2.1.2.2.2.2.2.2.2.1)), (a_md 14, .inl (kA 0, 240, .inl u2.2.1.2.2.2.2.2.2.2.2)), (a_md 16, .inl (kA 0, 24, .inl u2.2.2.1.2.1)), (a_md 17, .inl (kA 0, 24, .inl u2.2.2.1.2.2.1)), (a_md 18, .inl (kA 2, 24, .inr (.inl u2.2.2.1.2.2.2.1))), (a_md 19, .inl (kA 2, 24, .inr (.inl u2.2.2.1.2.2.2.2.1))), (a_md 20, .inl (kA 2, 24, .inr (.inl u2.2.2.1.2.2.2.2.2.1))), (a_md 21, .inl (kA 2, 24, .inr (.inl u2.2.2.1.2.2.2.2.2.2.1))), (a_md 22, .inl (kA 3, 24, .inl u2.2.2.1.2.2.2.2.2.2.2)), (a_md 28, .inl (kA 0, 40, .inl u2.2.2.2.1.2.2.2.2.2.1)), (a_md 29, .inl (kA 0, 40, .inl u2.2.2.2.1.2.2.2.2.2.2)), (a_md 30, .inl (kA 3, 17, .inl u2.2.2.2.2.1))] H := hP
  have hD : va_D A [(a_md 0, .inr (6, [.int u2.1.1, .ref (a_md 2), .ref (a_md 3), .ref (a_md 4), .int u2.1.2.2.2.2, .int u2.2.1.1, .ref (a_md 7), .ref (a_md 8), .ref (a_md 9), .ref (a_md 10), .ref (a_md 11), .ref (a_md 12), .ref (a_md 13), .ref (a_md 14), .int u2.2.2.1.1, .ref (a_md 16), .ref (a_md 17), .ref (a_md 18), .ref (a_md 19), .ref (a_md 20), .ref (a_md 21), .ref (a_md 22), .int u2.2.2.2.1.1, .int u2.2.2.2.1.2.1, .int u2.2.2.2.1.2.2.1, .int u2.2.2.2.1.2.2.2.1, .int u2.2.2.2.1.2.2.2.2.1, .ref (a_md 28), .ref (a_md 29), .ref (a_md 30), .int u2.2.2.2.2.2.1, .int u2.2.2.2.2.2.2.1, .int u2.2.2.2.2.2.2.2])), (a_md 2, .inl (kA 0, 640, .inl u2.1.2.1)), (a_md 3, .inl (kA 0, 40, .inl u2.1.2.2.1)), (a_md 4, .inl (kA 0, 1200, .inl u2.1.2.2.2.1)), (a_md 7, .inl (kA 0, 80, .inl u2.2.1.2.1)), (a_md 8, .inl (kA 2, 80, .inr (.inl u2.2.1.2.2.1))), (a_md 9, .inl (kA 2, 80, .inr (.inl u2.2.1.2.2.2.1))), (a_md 10, .inl (kA 0, 80, .inl u2.2.1.2.2.2.2.1)), (a_md 11, .inl (kA 0, 80, .inl u2.2.1.2.2.2.2.2.1)), (a_md 12, .inl (kA 0, 80, .inl u2.2.1.2.2.2.2.2.2.1)), (a_md 13, .inl (kA 0, 3840, .inl u2.2.1.2.2.2.2.2.2.2.1)), (a_md 14, .inl (kA 0, 240, .inl u2.2.1.2.2.2.2.2.2.2.2)), (a_md 16, .inl (kA 0, 24, .inl u2.2.2.1.2.1)), (a_md 17, .inl (kA 0, 24, .inl u2.2.2.1.2.2.1)), (a_md 18, .inl (kA 2, 24, .inr (.inl u2.2.2.1.2.2.2.1))), (a_md 19, .inl (kA 2, 24, .inr (.inl u2.2.2.1.2.2.2.2.1))), (a_md 20, .inl (kA 2, 24, .inr (.inl u2.2.2.1.2.2.2.2.2.1))), (a_md 21, .inl (kA 2, 24, .inr (.inl u2.2.2.1.2.2.2.2.2.2.1))), (a_md 22, .inl (kA 3, 24, .inl u2.2.2.1.2.2.2.2.2.2.2)), (a_md 28, .inl (kA 0, 40, .inl u2.2.2.2.1.2.2.2.2.2.1)), (a_md 29, .inl (kA 0, 40, .inl u2.2.2.2.1.2.2.2.2.2.2)), (a_md 30, .inl (kA 3, 17, .inl u2.2.2.2.2.1))] := hD
  refine lv_aload_n hx hb dX6_readClock_5 rfl (lv_at hl 0 rfl) ?_
  refine va_get (D := D) (ci := 6) (v := .ref (a_md 10)) (C := "ConstraintTextModel") (T := TX6) (N := 33) hx hb hts ing6 hown hK hP 0 rfl rfl 9 (by decide) (hts _ tw_859) (fun _ h9 => h9) rfl dX6_readClock_6 ?_
  refine lv_iload_n hx hb dX6_readClock_9 rfl (lv_at hl 1 rfl) ?_
  refine lv_aload_n hx hb dX6_readClock_10 rfl (lv_at hl 0 rfl) ?_
  refine va_get (D := D) (ci := 6) (v := .int u2.2.2.2.1.2.2.1) (C := "ConstraintTextModel") (T := TX6) (N := 33) hx hb hts ing6 hown hK hP 0 rfl rfl 24 (by decide) (hts _ tw_874) (fun _ h9 => h9) rfl dX6_readClock_11 ?_
  obtain ⟨k28, hk28, h⟩ := jn_name h
  have j28 : ∀ (v28 : Int32 × T6) (H : Heap) (locs : List Loc) (ls : Array Slot), k28 v28 = some res → va_P D vwCl [(a_md 0, .inr (6, [.int v28.2.1.1, .ref (a_md 2), .ref (a_md 3), .ref (a_md 4), .int v28.2.1.2.2.2.2, .int v28.2.2.1.1, .ref (a_md 7), .ref (a_md 8), .ref (a_md 9), .ref (a_md 10), .ref (a_md 11), .ref (a_md 12), .ref (a_md 13), .ref (a_md 14), .int v28.2.2.2.1.1, .ref (a_md 16), .ref (a_md 17), .ref (a_md 18), .ref (a_md 19), .ref (a_md 20), .ref (a_md 21), .ref (a_md 22), .int v28.2.2.2.2.1.1, .int v28.2.2.2.2.1.2.1, .int v28.2.2.2.2.1.2.2.1, .int v28.2.2.2.2.1.2.2.2.1, .int v28.2.2.2.2.1.2.2.2.2.1, .ref (a_md 28), .ref (a_md 29), .ref (a_md 30), .int v28.2.2.2.2.2.2.1, .int v28.2.2.2.2.2.2.2.1, .int v28.2.2.2.2.2.2.2.2])), (a_md 2, .inl (kA 0, 640, .inl v28.2.1.2.1)), (a_md 3, .inl (kA 0, 40, .inl v28.2.1.2.2.1)), (a_md 4, .inl (kA 0, 1200, .inl v28.2.1.2.2.2.1)), (a_md 7, .inl (kA 0, 80, .inl v28.2.2.1.2.1)), (a_md 8, .inl (kA 2, 80, .inr (.inl v28.2.2.1.2.2.1))), (a_md 9, .inl (kA 2, 80, .inr (.inl v28.2.2.1.2.2.2.1))), (a_md 10, .inl (kA 0, 80, .inl v28.2.2.1.2.2.2.2.1)), (a_md 11, .inl (kA 0, 80, .inl v28.2.2.1.2.2.2.2.2.1)), (a_md 12, .inl (kA 0, 80, .inl v28.2.2.1.2.2.2.2.2.2.1)), (a_md 13, .inl (kA 0, 3840, .inl v28.2.2.1.2.2.2.2.2.2.2.1)), (a_md 14, .inl (kA 0, 240, .inl v28.2.2.1.2.2.2.2.2.2.2.2)), (a_md 16, .inl (kA 0, 24, .inl v28.2.2.2.1.2.1)), (a_md 17, .inl (kA 0, 24, .inl v28.2.2.2.1.2.2.1)), (a_md 18, .inl (kA 2, 24, .inr (.inl v28.2.2.2.1.2.2.2.1))), (a_md 19, .inl (kA 2, 24, .inr (.inl v28.2.2.2.1.2.2.2.2.1))), (a_md 20, .inl (kA 2, 24, .inr (.inl v28.2.2.2.1.2.2.2.2.2.1))), (a_md 21, .inl (kA 2, 24, .inr (.inl v28.2.2.2.1.2.2.2.2.2.2.1))), (a_md 22, .inl (kA 3, 24, .inl v28.2.2.2.1.2.2.2.2.2.2.2)), (a_md 28, .inl (kA 0, 40, .inl v28.2.2.2.2.1.2.2.2.2.2.1)), (a_md 29, .inl (kA 0, 40, .inl v28.2.2.2.2.1.2.2.2.2.2.2)), (a_md 30, .inl (kA 3, 17, .inl v28.2.2.2.2.2.1))] H → va_D A [(a_md 0, .inr (6, [.int v28.2.1.1, .ref (a_md 2), .ref (a_md 3), .ref (a_md 4), .int v28.2.1.2.2.2.2, .int v28.2.2.1.1, .ref (a_md 7), .ref (a_md 8), .ref (a_md 9), .ref (a_md 10), .ref (a_md 11), .ref (a_md 12), .ref (a_md 13), .ref (a_md 14), .int v28.2.2.2.1.1, .ref (a_md 16), .ref (a_md 17), .ref (a_md 18), .ref (a_md 19), .ref (a_md 20), .ref (a_md 21), .ref (a_md 22), .int v28.2.2.2.2.1.1, .int v28.2.2.2.2.1.2.1, .int v28.2.2.2.2.1.2.2.1, .int v28.2.2.2.2.1.2.2.2.1, .int v28.2.2.2.2.1.2.2.2.2.1, .ref (a_md 28), .ref (a_md 29), .ref (a_md 30), .int v28.2.2.2.2.2.2.1, .int v28.2.2.2.2.2.2.2.1, .int v28.2.2.2.2.2.2.2.2])), (a_md 2, .inl (kA 0, 640, .inl v28.2.1.2.1)), (a_md 3, .inl (kA 0, 40, .inl v28.2.1.2.2.1)), (a_md 4, .inl (kA 0, 1200, .inl v28.2.1.2.2.2.1)), (a_md 7, .inl (kA 0, 80, .inl v28.2.2.1.2.1)), (a_md 8, .inl (kA 2, 80, .inr (.inl v28.2.2.1.2.2.1))), (a_md 9, .inl (kA 2, 80, .inr (.inl v28.2.2.1.2.2.2.1))), (a_md 10, .inl (kA 0, 80, .inl v28.2.2.1.2.2.2.2.1)), (a_md 11, .inl (kA 0, 80, .inl v28.2.2.1.2.2.2.2.2.1)), (a_md 12, .inl (kA 0, 80, .inl v28.2.2.1.2.2.2.2.2.2.1)), (a_md 13, .inl (kA 0, 3840, .inl v28.2.2.1.2.2.2.2.2.2.2.1)), (a_md 14, .inl (kA 0, 240, .inl v28.2.2.1.2.2.2.2.2.2.2.2)), (a_md 16, .inl (kA 0, 24, .inl v28.2.2.2.1.2.1)), (a_md 17, .inl (kA 0, 24, .inl v28.2.2.2.1.2.2.1)), (a_md 18, .inl (kA 2, 24, .inr (.inl v28.2.2.2.1.2.2.2.1))), (a_md 19, .inl (kA 2, 24, .inr (.inl v28.2.2.2.1.2.2.2.2.1))), (a_md 20, .inl (kA 2, 24, .inr (.inl v28.2.2.2.1.2.2.2.2.2.1))), (a_md 21, .inl (kA 2, 24, .inr (.inl v28.2.2.2.1.2.2.2.2.2.2.1))), (a_md 22, .inl (kA 3, 24, .inl v28.2.2.2.1.2.2.2.2.2.2.2)), (a_md 28, .inl (kA 0, 40, .inl v28.2.2.2.2.1.2.2.2.2.2.1)), (a_md 29, .inl (kA 0, 40, .inl v28.2.2.2.2.1.2.2.2.2.2.2)), (a_md 30, .inl (kA 3, 17, .inl v28.2.2.2.2.2.1))] → va_S A s.heap H locs → lv_has ls 3 [(0, .ref (a_md 0)), (1, .int p1)] → W p l e rm6_readClock s m args below meth c H locs 0 0 Q (F0 m 28 ls [.int v28.1, .int p1, .ref (a_md 10)]) := by
    intro v28 H locs ls h hP hD hS hl
    have h := app_of hk28 h
    obtain ⟨g28, h⟩ := grd_some h
    refine va_iast hx hb hK hP hD hS 7 0 rfl rfl (inb_in g28) dX6_readClock_28 (fun H locs hP hD hS => ?_)
    have hP : va_P D vwCl [(a_md 0, .inr (6, [.int v28.2.1.1, .ref (a_md 2), .ref (a_md 3), .ref (a_md 4), .int v28.2.1.2.2.2.2, .int v28.2.2.1.1, .ref (a_md 7), .ref (a_md 8), .ref (a_md 9), .ref (a_md 10), .ref (a_md 11), .ref (a_md 12), .ref (a_md 13), .ref (a_md 14), .int v28.2.2.2.1.1, .ref (a_md 16), .ref (a_md 17), .ref (a_md 18), .ref (a_md 19), .ref (a_md 20), .ref (a_md 21), .ref (a_md 22), .int v28.2.2.2.2.1.1, .int v28.2.2.2.2.1.2.1, .int v28.2.2.2.2.1.2.2.1, .int v28.2.2.2.2.1.2.2.2.1, .int v28.2.2.2.2.1.2.2.2.2.1, .ref (a_md 28), .ref (a_md 29), .ref (a_md 30), .int v28.2.2.2.2.2.2.1, .int v28.2.2.2.2.2.2.2.1, .int v28.2.2.2.2.2.2.2.2])), (a_md 2, .inl (kA 0, 640, .inl v28.2.1.2.1)), (a_md 3, .inl (kA 0, 40, .inl v28.2.1.2.2.1)), (a_md 4, .inl (kA 0, 1200, .inl v28.2.1.2.2.2.1)), (a_md 7, .inl (kA 0, 80, .inl v28.2.2.1.2.1)), (a_md 8, .inl (kA 2, 80, .inr (.inl v28.2.2.1.2.2.1))), (a_md 9, .inl (kA 2, 80, .inr (.inl v28.2.2.1.2.2.2.1))), (a_md 10, .inl (kA 0, 80, .inl (upd v28.2.2.1.2.2.2.2.1 p1.toNatClampNeg v28.1))), (a_md 11, .inl (kA 0, 80, .inl v28.2.2.1.2.2.2.2.2.1)), (a_md 12, .inl (kA 0, 80, .inl v28.2.2.1.2.2.2.2.2.2.1)), (a_md 13, .inl (kA 0, 3840, .inl v28.2.2.1.2.2.2.2.2.2.2.1)), (a_md 14, .inl (kA 0, 240, .inl v28.2.2.1.2.2.2.2.2.2.2.2)), (a_md 16, .inl (kA 0, 24, .inl v28.2.2.2.1.2.1)), (a_md 17, .inl (kA 0, 24, .inl v28.2.2.2.1.2.2.1)), (a_md 18, .inl (kA 2, 24, .inr (.inl v28.2.2.2.1.2.2.2.1))), (a_md 19, .inl (kA 2, 24, .inr (.inl v28.2.2.2.1.2.2.2.2.1))), (a_md 20, .inl (kA 2, 24, .inr (.inl v28.2.2.2.1.2.2.2.2.2.1))), (a_md 21, .inl (kA 2, 24, .inr (.inl v28.2.2.2.1.2.2.2.2.2.2.1))), (a_md 22, .inl (kA 3, 24, .inl v28.2.2.2.1.2.2.2.2.2.2.2)), (a_md 28, .inl (kA 0, 40, .inl v28.2.2.2.2.1.2.2.2.2.2.1)), (a_md 29, .inl (kA 0, 40, .inl v28.2.2.2.2.1.2.2.2.2.2.2)), (a_md 30, .inl (kA 3, 17, .inl v28.2.2.2.2.2.1))] H := hP
    have hD : va_D A [(a_md 0, .inr (6, [.int v28.2.1.1, .ref (a_md 2), .ref (a_md 3), .ref (a_md 4), .int v28.2.1.2.2.2.2, .int v28.2.2.1.1, .ref (a_md 7), .ref (a_md 8), .ref (a_md 9), .ref (a_md 10), .ref (a_md 11), .ref (a_md 12), .ref (a_md 13), .ref (a_md 14), .int v28.2.2.2.1.1, .ref (a_md 16), .ref (a_md 17), .ref (a_md 18), .ref (a_md 19), .ref (a_md 20), .ref (a_md 21), .ref (a_md 22), .int v28.2.2.2.2.1.1, .int v28.2.2.2.2.1.2.1, .int v28.2.2.2.2.1.2.2.1, .int v28.2.2.2.2.1.2.2.2.1, .int v28.2.2.2.2.1.2.2.2.2.1, .ref (a_md 28), .ref (a_md 29), .ref (a_md 30), .int v28.2.2.2.2.2.2.1, .int v28.2.2.2.2.2.2.2.1, .int v28.2.2.2.2.2.2.2.2])), (a_md 2, .inl (kA 0, 640, .inl v28.2.1.2.1)), (a_md 3, .inl (kA 0, 40, .inl v28.2.1.2.2.1)), (a_md 4, .inl (kA 0, 1200, .inl v28.2.1.2.2.2.1)), (a_md 7, .inl (kA 0, 80, .inl v28.2.2.1.2.1)), (a_md 8, .inl (kA 2, 80, .inr (.inl v28.2.2.1.2.2.1))), (a_md 9, .inl (kA 2, 80, .inr (.inl v28.2.2.1.2.2.2.1))), (a_md 10, .inl (kA 0, 80, .inl (upd v28.2.2.1.2.2.2.2.1 p1.toNatClampNeg v28.1))), (a_md 11, .inl (kA 0, 80, .inl v28.2.2.1.2.2.2.2.2.1)), (a_md 12, .inl (kA 0, 80, .inl v28.2.2.1.2.2.2.2.2.2.1)), (a_md 13, .inl (kA 0, 3840, .inl v28.2.2.1.2.2.2.2.2.2.2.1)), (a_md 14, .inl (kA 0, 240, .inl v28.2.2.1.2.2.2.2.2.2.2.2)), (a_md 16, .inl (kA 0, 24, .inl v28.2.2.2.1.2.1)), (a_md 17, .inl (kA 0, 24, .inl v28.2.2.2.1.2.2.1)), (a_md 18, .inl (kA 2, 24, .inr (.inl v28.2.2.2.1.2.2.2.1))), (a_md 19, .inl (kA 2, 24, .inr (.inl v28.2.2.2.1.2.2.2.2.1))), (a_md 20, .inl (kA 2, 24, .inr (.inl v28.2.2.2.1.2.2.2.2.2.1))), (a_md 21, .inl (kA 2, 24, .inr (.inl v28.2.2.2.1.2.2.2.2.2.2.1))), (a_md 22, .inl (kA 3, 24, .inl v28.2.2.2.1.2.2.2.2.2.2.2)), (a_md 28, .inl (kA 0, 40, .inl v28.2.2.2.2.1.2.2.2.2.2.1)), (a_md 29, .inl (kA 0, 40, .inl v28.2.2.2.2.1.2.2.2.2.2.2)), (a_md 30, .inl (kA 3, 17, .inl v28.2.2.2.2.2.1))] := hD
    refine lv_aload_n hx hb dX6_readClock_29 rfl (lv_at hl 0 rfl) ?_
    refine va_get (D := D) (ci := 6) (v := .ref (a_md 11)) (C := "ConstraintTextModel") (T := TX6) (N := 33) hx hb hts ing6 hown hK hP 0 rfl rfl 10 (by decide) (hts _ tw_860) (fun _ h9 => h9) rfl dX6_readClock_30 ?_
    refine lv_iload_n hx hb dX6_readClock_33 rfl (lv_at hl 1 rfl) ?_
    refine lv_aload_n hx hb dX6_readClock_34 rfl (lv_at hl 0 rfl) ?_
    refine va_get (D := D) (ci := 6) (v := .int v28.2.2.2.2.1.2.2.1) (C := "ConstraintTextModel") (T := TX6) (N := 33) hx hb hts ing6 hown hK hP 0 rfl rfl 24 (by decide) (hts _ tw_874) (fun _ h9 => h9) rfl dX6_readClock_35 ?_
    obtain ⟨k58, hk58, h⟩ := jn_name h
    have j58 : ∀ (v58 : Int32 × T6) (H : Heap) (locs : List Loc) (ls : Array Slot), k58 v58 = some res → va_P D vwCl [(a_md 0, .inr (6, [.int v58.2.1.1, .ref (a_md 2), .ref (a_md 3), .ref (a_md 4), .int v58.2.1.2.2.2.2, .int v58.2.2.1.1, .ref (a_md 7), .ref (a_md 8), .ref (a_md 9), .ref (a_md 10), .ref (a_md 11), .ref (a_md 12), .ref (a_md 13), .ref (a_md 14), .int v58.2.2.2.1.1, .ref (a_md 16), .ref (a_md 17), .ref (a_md 18), .ref (a_md 19), .ref (a_md 20), .ref (a_md 21), .ref (a_md 22), .int v58.2.2.2.2.1.1, .int v58.2.2.2.2.1.2.1, .int v58.2.2.2.2.1.2.2.1, .int v58.2.2.2.2.1.2.2.2.1, .int v58.2.2.2.2.1.2.2.2.2.1, .ref (a_md 28), .ref (a_md 29), .ref (a_md 30), .int v58.2.2.2.2.2.2.1, .int v58.2.2.2.2.2.2.2.1, .int v58.2.2.2.2.2.2.2.2])), (a_md 2, .inl (kA 0, 640, .inl v58.2.1.2.1)), (a_md 3, .inl (kA 0, 40, .inl v58.2.1.2.2.1)), (a_md 4, .inl (kA 0, 1200, .inl v58.2.1.2.2.2.1)), (a_md 7, .inl (kA 0, 80, .inl v58.2.2.1.2.1)), (a_md 8, .inl (kA 2, 80, .inr (.inl v58.2.2.1.2.2.1))), (a_md 9, .inl (kA 2, 80, .inr (.inl v58.2.2.1.2.2.2.1))), (a_md 10, .inl (kA 0, 80, .inl v58.2.2.1.2.2.2.2.1)), (a_md 11, .inl (kA 0, 80, .inl v58.2.2.1.2.2.2.2.2.1)), (a_md 12, .inl (kA 0, 80, .inl v58.2.2.1.2.2.2.2.2.2.1)), (a_md 13, .inl (kA 0, 3840, .inl v58.2.2.1.2.2.2.2.2.2.2.1)), (a_md 14, .inl (kA 0, 240, .inl v58.2.2.1.2.2.2.2.2.2.2.2)), (a_md 16, .inl (kA 0, 24, .inl v58.2.2.2.1.2.1)), (a_md 17, .inl (kA 0, 24, .inl v58.2.2.2.1.2.2.1)), (a_md 18, .inl (kA 2, 24, .inr (.inl v58.2.2.2.1.2.2.2.1))), (a_md 19, .inl (kA 2, 24, .inr (.inl v58.2.2.2.1.2.2.2.2.1))), (a_md 20, .inl (kA 2, 24, .inr (.inl v58.2.2.2.1.2.2.2.2.2.1))), (a_md 21, .inl (kA 2, 24, .inr (.inl v58.2.2.2.1.2.2.2.2.2.2.1))), (a_md 22, .inl (kA 3, 24, .inl v58.2.2.2.1.2.2.2.2.2.2.2)), (a_md 28, .inl (kA 0, 40, .inl v58.2.2.2.2.1.2.2.2.2.2.1)), (a_md 29, .inl (kA 0, 40, .inl v58.2.2.2.2.1.2.2.2.2.2.2)), (a_md 30, .inl (kA 3, 17, .inl v58.2.2.2.2.2.1))] H → va_D A [(a_md 0, .inr (6, [.int v58.2.1.1, .ref (a_md 2), .ref (a_md 3), .ref (a_md 4), .int v58.2.1.2.2.2.2, .int v58.2.2.1.1, .ref (a_md 7), .ref (a_md 8), .ref (a_md 9), .ref (a_md 10), .ref (a_md 11), .ref (a_md 12), .ref (a_md 13), .ref (a_md 14), .int v58.2.2.2.1.1, .ref (a_md 16), .ref (a_md 17), .ref (a_md 18), .ref (a_md 19), .ref (a_md 20), .ref (a_md 21), .ref (a_md 22), .int v58.2.2.2.2.1.1, .int v58.2.2.2.2.1.2.1, .int v58.2.2.2.2.1.2.2.1, .int v58.2.2.2.2.1.2.2.2.1, .int v58.2.2.2.2.1.2.2.2.2.1, .ref (a_md 28), .ref (a_md 29), .ref (a_md 30), .int v58.2.2.2.2.2.2.1, .int v58.2.2.2.2.2.2.2.1, .int v58.2.2.2.2.2.2.2.2])), (a_md 2, .inl (kA 0, 640, .inl v58.2.1.2.1)), (a_md 3, .inl (kA 0, 40, .inl v58.2.1.2.2.1)), (a_md 4, .inl (kA 0, 1200, .inl v58.2.1.2.2.2.1)), (a_md 7, .inl (kA 0, 80, .inl v58.2.2.1.2.1)), (a_md 8, .inl (kA 2, 80, .inr (.inl v58.2.2.1.2.2.1))), (a_md 9, .inl (kA 2, 80, .inr (.inl v58.2.2.1.2.2.2.1))), (a_md 10, .inl (kA 0, 80, .inl v58.2.2.1.2.2.2.2.1)), (a_md 11, .inl (kA 0, 80, .inl v58.2.2.1.2.2.2.2.2.1)), (a_md 12, .inl (kA 0, 80, .inl v58.2.2.1.2.2.2.2.2.2.1)), (a_md 13, .inl (kA 0, 3840, .inl v58.2.2.1.2.2.2.2.2.2.2.1)), (a_md 14, .inl (kA 0, 240, .inl v58.2.2.1.2.2.2.2.2.2.2.2)), (a_md 16, .inl (kA 0, 24, .inl v58.2.2.2.1.2.1)), (a_md 17, .inl (kA 0, 24, .inl v58.2.2.2.1.2.2.1)), (a_md 18, .inl (kA 2, 24, .inr (.inl v58.2.2.2.1.2.2.2.1))), (a_md 19, .inl (kA 2, 24, .inr (.inl v58.2.2.2.1.2.2.2.2.1))), (a_md 20, .inl (kA 2, 24, .inr (.inl v58.2.2.2.1.2.2.2.2.2.1))), (a_md 21, .inl (kA 2, 24, .inr (.inl v58.2.2.2.1.2.2.2.2.2.2.1))), (a_md 22, .inl (kA 3, 24, .inl v58.2.2.2.1.2.2.2.2.2.2.2)), (a_md 28, .inl (kA 0, 40, .inl v58.2.2.2.2.1.2.2.2.2.2.1)), (a_md 29, .inl (kA 0, 40, .inl v58.2.2.2.2.1.2.2.2.2.2.2)), (a_md 30, .inl (kA 3, 17, .inl v58.2.2.2.2.2.1))] → va_S A s.heap H locs → lv_has ls 3 [(0, .ref (a_md 0)), (1, .int p1)] → W p l e rm6_readClock s m args below meth c H locs 0 0 Q (F0 m 58 ls [.int v58.1, .int p1, .ref (a_md 11)]) := by
      intro v58 H locs ls h hP hD hS hl
      have h := app_of hk58 h
      obtain ⟨g58, h⟩ := grd_some h
      refine va_iast hx hb hK hP hD hS 8 0 rfl rfl (inb_in g58) dX6_readClock_58 (fun H locs hP hD hS => ?_)
      have hP : va_P D vwCl [(a_md 0, .inr (6, [.int v58.2.1.1, .ref (a_md 2), .ref (a_md 3), .ref (a_md 4), .int v58.2.1.2.2.2.2, .int v58.2.2.1.1, .ref (a_md 7), .ref (a_md 8), .ref (a_md 9), .ref (a_md 10), .ref (a_md 11), .ref (a_md 12), .ref (a_md 13), .ref (a_md 14), .int v58.2.2.2.1.1, .ref (a_md 16), .ref (a_md 17), .ref (a_md 18), .ref (a_md 19), .ref (a_md 20), .ref (a_md 21), .ref (a_md 22), .int v58.2.2.2.2.1.1, .int v58.2.2.2.2.1.2.1, .int v58.2.2.2.2.1.2.2.1, .int v58.2.2.2.2.1.2.2.2.1, .int v58.2.2.2.2.1.2.2.2.2.1, .ref (a_md 28), .ref (a_md 29), .ref (a_md 30), .int v58.2.2.2.2.2.2.1, .int v58.2.2.2.2.2.2.2.1, .int v58.2.2.2.2.2.2.2.2])), (a_md 2, .inl (kA 0, 640, .inl v58.2.1.2.1)), (a_md 3, .inl (kA 0, 40, .inl v58.2.1.2.2.1)), (a_md 4, .inl (kA 0, 1200, .inl v58.2.1.2.2.2.1)), (a_md 7, .inl (kA 0, 80, .inl v58.2.2.1.2.1)), (a_md 8, .inl (kA 2, 80, .inr (.inl v58.2.2.1.2.2.1))), (a_md 9, .inl (kA 2, 80, .inr (.inl v58.2.2.1.2.2.2.1))), (a_md 10, .inl (kA 0, 80, .inl v58.2.2.1.2.2.2.2.1)), (a_md 11, .inl (kA 0, 80, .inl (upd v58.2.2.1.2.2.2.2.2.1 p1.toNatClampNeg v58.1))), (a_md 12, .inl (kA 0, 80, .inl v58.2.2.1.2.2.2.2.2.2.1)), (a_md 13, .inl (kA 0, 3840, .inl v58.2.2.1.2.2.2.2.2.2.2.1)), (a_md 14, .inl (kA 0, 240, .inl v58.2.2.1.2.2.2.2.2.2.2.2)), (a_md 16, .inl (kA 0, 24, .inl v58.2.2.2.1.2.1)), (a_md 17, .inl (kA 0, 24, .inl v58.2.2.2.1.2.2.1)), (a_md 18, .inl (kA 2, 24, .inr (.inl v58.2.2.2.1.2.2.2.1))), (a_md 19, .inl (kA 2, 24, .inr (.inl v58.2.2.2.1.2.2.2.2.1))), (a_md 20, .inl (kA 2, 24, .inr (.inl v58.2.2.2.1.2.2.2.2.2.1))), (a_md 21, .inl (kA 2, 24, .inr (.inl v58.2.2.2.1.2.2.2.2.2.2.1))), (a_md 22, .inl (kA 3, 24, .inl v58.2.2.2.1.2.2.2.2.2.2.2)), (a_md 28, .inl (kA 0, 40, .inl v58.2.2.2.2.1.2.2.2.2.2.1)), (a_md 29, .inl (kA 0, 40, .inl v58.2.2.2.2.1.2.2.2.2.2.2)), (a_md 30, .inl (kA 3, 17, .inl v58.2.2.2.2.2.1))] H := hP
      have hD : va_D A [(a_md 0, .inr (6, [.int v58.2.1.1, .ref (a_md 2), .ref (a_md 3), .ref (a_md 4), .int v58.2.1.2.2.2.2, .int v58.2.2.1.1, .ref (a_md 7), .ref (a_md 8), .ref (a_md 9), .ref (a_md 10), .ref (a_md 11), .ref (a_md 12), .ref (a_md 13), .ref (a_md 14), .int v58.2.2.2.1.1, .ref (a_md 16), .ref (a_md 17), .ref (a_md 18), .ref (a_md 19), .ref (a_md 20), .ref (a_md 21), .ref (a_md 22), .int v58.2.2.2.2.1.1, .int v58.2.2.2.2.1.2.1, .int v58.2.2.2.2.1.2.2.1, .int v58.2.2.2.2.1.2.2.2.1, .int v58.2.2.2.2.1.2.2.2.2.1, .ref (a_md 28), .ref (a_md 29), .ref (a_md 30), .int v58.2.2.2.2.2.2.1, .int v58.2.2.2.2.2.2.2.1, .int v58.2.2.2.2.2.2.2.2])), (a_md 2, .inl (kA 0, 640, .inl v58.2.1.2.1)), (a_md 3, .inl (kA 0, 40, .inl v58.2.1.2.2.1)), (a_md 4, .inl (kA 0, 1200, .inl v58.2.1.2.2.2.1)), (a_md 7, .inl (kA 0, 80, .inl v58.2.2.1.2.1)), (a_md 8, .inl (kA 2, 80, .inr (.inl v58.2.2.1.2.2.1))), (a_md 9, .inl (kA 2, 80, .inr (.inl v58.2.2.1.2.2.2.1))), (a_md 10, .inl (kA 0, 80, .inl v58.2.2.1.2.2.2.2.1)), (a_md 11, .inl (kA 0, 80, .inl (upd v58.2.2.1.2.2.2.2.2.1 p1.toNatClampNeg v58.1))), (a_md 12, .inl (kA 0, 80, .inl v58.2.2.1.2.2.2.2.2.2.1)), (a_md 13, .inl (kA 0, 3840, .inl v58.2.2.1.2.2.2.2.2.2.2.1)), (a_md 14, .inl (kA 0, 240, .inl v58.2.2.1.2.2.2.2.2.2.2.2)), (a_md 16, .inl (kA 0, 24, .inl v58.2.2.2.1.2.1)), (a_md 17, .inl (kA 0, 24, .inl v58.2.2.2.1.2.2.1)), (a_md 18, .inl (kA 2, 24, .inr (.inl v58.2.2.2.1.2.2.2.1))), (a_md 19, .inl (kA 2, 24, .inr (.inl v58.2.2.2.1.2.2.2.2.1))), (a_md 20, .inl (kA 2, 24, .inr (.inl v58.2.2.2.1.2.2.2.2.2.1))), (a_md 21, .inl (kA 2, 24, .inr (.inl v58.2.2.2.1.2.2.2.2.2.2.1))), (a_md 22, .inl (kA 3, 24, .inl v58.2.2.2.1.2.2.2.2.2.2.2)), (a_md 28, .inl (kA 0, 40, .inl v58.2.2.2.2.1.2.2.2.2.2.1)), (a_md 29, .inl (kA 0, 40, .inl v58.2.2.2.2.1.2.2.2.2.2.2)), (a_md 30, .inl (kA 3, 17, .inl v58.2.2.2.2.2.1))] := hD
      refine lv_aload_n hx hb dX6_readClock_59 rfl (lv_at hl 0 rfl) ?_
      refine va_get (D := D) (ci := 6) (v := .int v58.2.2.2.2.1.2.2.1) (C := "ConstraintTextModel") (T := TX6) (N := 33) hx hb hts ing6 hown hK hP 0 rfl rfl 24 (by decide) (hts _ tw_874) (fun _ h9 => h9) rfl dX6_readClock_60 ?_
      obtain ⟨k74, hk74, h⟩ := jn_name h
      have j74 : ∀ (v74 : Int32) (H : Heap) (locs : List Loc) (ls : Array Slot), k74 v74 = some res → va_P D vwCl [(a_md 0, .inr (6, [.int v58.2.1.1, .ref (a_md 2), .ref (a_md 3), .ref (a_md 4), .int v58.2.1.2.2.2.2, .int v58.2.2.1.1, .ref (a_md 7), .ref (a_md 8), .ref (a_md 9), .ref (a_md 10), .ref (a_md 11), .ref (a_md 12), .ref (a_md 13), .ref (a_md 14), .int v58.2.2.2.1.1, .ref (a_md 16), .ref (a_md 17), .ref (a_md 18), .ref (a_md 19), .ref (a_md 20), .ref (a_md 21), .ref (a_md 22), .int v58.2.2.2.2.1.1, .int v58.2.2.2.2.1.2.1, .int v58.2.2.2.2.1.2.2.1, .int v58.2.2.2.2.1.2.2.2.1, .int v58.2.2.2.2.1.2.2.2.2.1, .ref (a_md 28), .ref (a_md 29), .ref (a_md 30), .int v58.2.2.2.2.2.2.1, .int v58.2.2.2.2.2.2.2.1, .int v58.2.2.2.2.2.2.2.2])), (a_md 2, .inl (kA 0, 640, .inl v58.2.1.2.1)), (a_md 3, .inl (kA 0, 40, .inl v58.2.1.2.2.1)), (a_md 4, .inl (kA 0, 1200, .inl v58.2.1.2.2.2.1)), (a_md 7, .inl (kA 0, 80, .inl v58.2.2.1.2.1)), (a_md 8, .inl (kA 2, 80, .inr (.inl v58.2.2.1.2.2.1))), (a_md 9, .inl (kA 2, 80, .inr (.inl v58.2.2.1.2.2.2.1))), (a_md 10, .inl (kA 0, 80, .inl v58.2.2.1.2.2.2.2.1)), (a_md 11, .inl (kA 0, 80, .inl (upd v58.2.2.1.2.2.2.2.2.1 p1.toNatClampNeg v58.1))), (a_md 12, .inl (kA 0, 80, .inl v58.2.2.1.2.2.2.2.2.2.1)), (a_md 13, .inl (kA 0, 3840, .inl v58.2.2.1.2.2.2.2.2.2.2.1)), (a_md 14, .inl (kA 0, 240, .inl v58.2.2.1.2.2.2.2.2.2.2.2)), (a_md 16, .inl (kA 0, 24, .inl v58.2.2.2.1.2.1)), (a_md 17, .inl (kA 0, 24, .inl v58.2.2.2.1.2.2.1)), (a_md 18, .inl (kA 2, 24, .inr (.inl v58.2.2.2.1.2.2.2.1))), (a_md 19, .inl (kA 2, 24, .inr (.inl v58.2.2.2.1.2.2.2.2.1))), (a_md 20, .inl (kA 2, 24, .inr (.inl v58.2.2.2.1.2.2.2.2.2.1))), (a_md 21, .inl (kA 2, 24, .inr (.inl v58.2.2.2.1.2.2.2.2.2.2.1))), (a_md 22, .inl (kA 3, 24, .inl v58.2.2.2.1.2.2.2.2.2.2.2)), (a_md 28, .inl (kA 0, 40, .inl v58.2.2.2.2.1.2.2.2.2.2.1)), (a_md 29, .inl (kA 0, 40, .inl v58.2.2.2.2.1.2.2.2.2.2.2)), (a_md 30, .inl (kA 3, 17, .inl v58.2.2.2.2.2.1))] H → va_D A [(a_md 0, .inr (6, [.int v58.2.1.1, .ref (a_md 2), .ref (a_md 3), .ref (a_md 4), .int v58.2.1.2.2.2.2, .int v58.2.2.1.1, .ref (a_md 7), .ref (a_md 8), .ref (a_md 9), .ref (a_md 10), .ref (a_md 11), .ref (a_md 12), .ref (a_md 13), .ref (a_md 14), .int v58.2.2.2.1.1, .ref (a_md 16), .ref (a_md 17), .ref (a_md 18), .ref (a_md 19), .ref (a_md 20), .ref (a_md 21), .ref (a_md 22), .int v58.2.2.2.2.1.1, .int v58.2.2.2.2.1.2.1, .int v58.2.2.2.2.1.2.2.1, .int v58.2.2.2.2.1.2.2.2.1, .int v58.2.2.2.2.1.2.2.2.2.1, .ref (a_md 28), .ref (a_md 29), .ref (a_md 30), .int v58.2.2.2.2.2.2.1, .int v58.2.2.2.2.2.2.2.1, .int v58.2.2.2.2.2.2.2.2])), (a_md 2, .inl (kA 0, 640, .inl v58.2.1.2.1)), (a_md 3, .inl (kA 0, 40, .inl v58.2.1.2.2.1)), (a_md 4, .inl (kA 0, 1200, .inl v58.2.1.2.2.2.1)), (a_md 7, .inl (kA 0, 80, .inl v58.2.2.1.2.1)), (a_md 8, .inl (kA 2, 80, .inr (.inl v58.2.2.1.2.2.1))), (a_md 9, .inl (kA 2, 80, .inr (.inl v58.2.2.1.2.2.2.1))), (a_md 10, .inl (kA 0, 80, .inl v58.2.2.1.2.2.2.2.1)), (a_md 11, .inl (kA 0, 80, .inl (upd v58.2.2.1.2.2.2.2.2.1 p1.toNatClampNeg v58.1))), (a_md 12, .inl (kA 0, 80, .inl v58.2.2.1.2.2.2.2.2.2.1)), (a_md 13, .inl (kA 0, 3840, .inl v58.2.2.1.2.2.2.2.2.2.2.1)), (a_md 14, .inl (kA 0, 240, .inl v58.2.2.1.2.2.2.2.2.2.2.2)), (a_md 16, .inl (kA 0, 24, .inl v58.2.2.2.1.2.1)), (a_md 17, .inl (kA 0, 24, .inl v58.2.2.2.1.2.2.1)), (a_md 18, .inl (kA 2, 24, .inr (.inl v58.2.2.2.1.2.2.2.1))), (a_md 19, .inl (kA 2, 24, .inr (.inl v58.2.2.2.1.2.2.2.2.1))), (a_md 20, .inl (kA 2, 24, .inr (.inl v58.2.2.2.1.2.2.2.2.2.1))), (a_md 21, .inl (kA 2, 24, .inr (.inl v58.2.2.2.1.2.2.2.2.2.2.1))), (a_md 22, .inl (kA 3, 24, .inl v58.2.2.2.1.2.2.2.2.2.2.2)), (a_md 28, .inl (kA 0, 40, .inl v58.2.2.2.2.1.2.2.2.2.2.1)), (a_md 29, .inl (kA 0, 40, .inl v58.2.2.2.2.1.2.2.2.2.2.2)), (a_md 30, .inl (kA 3, 17, .inl v58.2.2.2.2.2.1))] → va_S A s.heap H locs → lv_has ls 3 [(0, .ref (a_md 0)), (1, .int p1)] → W p l e rm6_readClock s m args below meth c H locs 0 0 Q (F0 m 74 ls [.int v74]) := by
        intro v74 H locs ls h hP hD hS hl
        have h := app_of hk74 h
        refine lv_istore_n (lv' := [(2, .int v74), (0, .ref (a_md 0)), (1, .int p1)]) hx hb dX6_readClock_74 rfl hl (by decide) rfl (fun ls hl => ?_)
        refine lv_aload_n hx hb dX6_readClock_75 rfl (lv_at hl 1 rfl) ?_
        refine lv_iload_n hx hb dX6_readClock_76 rfl (lv_at hl 0 rfl) ?_
        obtain ⟨k105, hk105, h⟩ := jn_name h
        have j105 : ∀ (v105 : Int32) (H : Heap) (locs : List Loc) (ls : Array Slot), k105 v105 = some res → va_P D vwCl [(a_md 0, .inr (6, [.int v58.2.1.1, .ref (a_md 2), .ref (a_md 3), .ref (a_md 4), .int v58.2.1.2.2.2.2, .int v58.2.2.1.1, .ref (a_md 7), .ref (a_md 8), .ref (a_md 9), .ref (a_md 10), .ref (a_md 11), .ref (a_md 12), .ref (a_md 13), .ref (a_md 14), .int v58.2.2.2.1.1, .ref (a_md 16), .ref (a_md 17), .ref (a_md 18), .ref (a_md 19), .ref (a_md 20), .ref (a_md 21), .ref (a_md 22), .int v58.2.2.2.2.1.1, .int v58.2.2.2.2.1.2.1, .int v58.2.2.2.2.1.2.2.1, .int v58.2.2.2.2.1.2.2.2.1, .int v58.2.2.2.2.1.2.2.2.2.1, .ref (a_md 28), .ref (a_md 29), .ref (a_md 30), .int v58.2.2.2.2.2.2.1, .int v58.2.2.2.2.2.2.2.1, .int v58.2.2.2.2.2.2.2.2])), (a_md 2, .inl (kA 0, 640, .inl v58.2.1.2.1)), (a_md 3, .inl (kA 0, 40, .inl v58.2.1.2.2.1)), (a_md 4, .inl (kA 0, 1200, .inl v58.2.1.2.2.2.1)), (a_md 7, .inl (kA 0, 80, .inl v58.2.2.1.2.1)), (a_md 8, .inl (kA 2, 80, .inr (.inl v58.2.2.1.2.2.1))), (a_md 9, .inl (kA 2, 80, .inr (.inl v58.2.2.1.2.2.2.1))), (a_md 10, .inl (kA 0, 80, .inl v58.2.2.1.2.2.2.2.1)), (a_md 11, .inl (kA 0, 80, .inl (upd v58.2.2.1.2.2.2.2.2.1 p1.toNatClampNeg v58.1))), (a_md 12, .inl (kA 0, 80, .inl v58.2.2.1.2.2.2.2.2.2.1)), (a_md 13, .inl (kA 0, 3840, .inl v58.2.2.1.2.2.2.2.2.2.2.1)), (a_md 14, .inl (kA 0, 240, .inl v58.2.2.1.2.2.2.2.2.2.2.2)), (a_md 16, .inl (kA 0, 24, .inl v58.2.2.2.1.2.1)), (a_md 17, .inl (kA 0, 24, .inl v58.2.2.2.1.2.2.1)), (a_md 18, .inl (kA 2, 24, .inr (.inl v58.2.2.2.1.2.2.2.1))), (a_md 19, .inl (kA 2, 24, .inr (.inl v58.2.2.2.1.2.2.2.2.1))), (a_md 20, .inl (kA 2, 24, .inr (.inl v58.2.2.2.1.2.2.2.2.2.1))), (a_md 21, .inl (kA 2, 24, .inr (.inl v58.2.2.2.1.2.2.2.2.2.2.1))), (a_md 22, .inl (kA 3, 24, .inl v58.2.2.2.1.2.2.2.2.2.2.2)), (a_md 28, .inl (kA 0, 40, .inl v58.2.2.2.2.1.2.2.2.2.2.1)), (a_md 29, .inl (kA 0, 40, .inl v58.2.2.2.2.1.2.2.2.2.2.2)), (a_md 30, .inl (kA 3, 17, .inl v58.2.2.2.2.2.1))] H → va_D A [(a_md 0, .inr (6, [.int v58.2.1.1, .ref (a_md 2), .ref (a_md 3), .ref (a_md 4), .int v58.2.1.2.2.2.2, .int v58.2.2.1.1, .ref (a_md 7), .ref (a_md 8), .ref (a_md 9), .ref (a_md 10), .ref (a_md 11), .ref (a_md 12), .ref (a_md 13), .ref (a_md 14), .int v58.2.2.2.1.1, .ref (a_md 16), .ref (a_md 17), .ref (a_md 18), .ref (a_md 19), .ref (a_md 20), .ref (a_md 21), .ref (a_md 22), .int v58.2.2.2.2.1.1, .int v58.2.2.2.2.1.2.1, .int v58.2.2.2.2.1.2.2.1, .int v58.2.2.2.2.1.2.2.2.1, .int v58.2.2.2.2.1.2.2.2.2.1, .ref (a_md 28), .ref (a_md 29), .ref (a_md 30), .int v58.2.2.2.2.2.2.1, .int v58.2.2.2.2.2.2.2.1, .int v58.2.2.2.2.2.2.2.2])), (a_md 2, .inl (kA 0, 640, .inl v58.2.1.2.1)), (a_md 3, .inl (kA 0, 40, .inl v58.2.1.2.2.1)), (a_md 4, .inl (kA 0, 1200, .inl v58.2.1.2.2.2.1)), (a_md 7, .inl (kA 0, 80, .inl v58.2.2.1.2.1)), (a_md 8, .inl (kA 2, 80, .inr (.inl v58.2.2.1.2.2.1))), (a_md 9, .inl (kA 2, 80, .inr (.inl v58.2.2.1.2.2.2.1))), (a_md 10, .inl (kA 0, 80, .inl v58.2.2.1.2.2.2.2.1)), (a_md 11, .inl (kA 0, 80, .inl (upd v58.2.2.1.2.2.2.2.2.1 p1.toNatClampNeg v58.1))), (a_md 12, .inl (kA 0, 80, .inl v58.2.2.1.2.2.2.2.2.2.1)), (a_md 13, .inl (kA 0, 3840, .inl v58.2.2.1.2.2.2.2.2.2.2.1)), (a_md 14, .inl (kA 0, 240, .inl v58.2.2.1.2.2.2.2.2.2.2.2)), (a_md 16, .inl (kA 0, 24, .inl v58.2.2.2.1.2.1)), (a_md 17, .inl (kA 0, 24, .inl v58.2.2.2.1.2.2.1)), (a_md 18, .inl (kA 2, 24, .inr (.inl v58.2.2.2.1.2.2.2.1))), (a_md 19, .inl (kA 2, 24, .inr (.inl v58.2.2.2.1.2.2.2.2.1))), (a_md 20, .inl (kA 2, 24, .inr (.inl v58.2.2.2.1.2.2.2.2.2.1))), (a_md 21, .inl (kA 2, 24, .inr (.inl v58.2.2.2.1.2.2.2.2.2.2.1))), (a_md 22, .inl (kA 3, 24, .inl v58.2.2.2.1.2.2.2.2.2.2.2)), (a_md 28, .inl (kA 0, 40, .inl v58.2.2.2.2.1.2.2.2.2.2.1)), (a_md 29, .inl (kA 0, 40, .inl v58.2.2.2.2.1.2.2.2.2.2.2)), (a_md 30, .inl (kA 3, 17, .inl v58.2.2.2.2.2.1))] → va_S A s.heap H locs → lv_has ls 3 [(0, .ref (a_md 0)), (1, .int p1), (2, .int v74)] → W p l e rm6_readClock s m args below meth c H locs 0 0 Q (F0 m 105 ls [.int v105, .ref (a_md 0)]) := by
          intro v105 H locs ls h hP hD hS hl
          have h := app_of hk105 h
          obtain ⟨u105, hc_105, h⟩ := bnd_some h
          refine rw_V (wr := []) (n := 1) (As := [.int v105]) (rest := []) hx hb hml hown hts hN hS hK hP hD hA (c6_take l D kA a_md F v105 (v58.2.1, (v58.2.2.1.1, v58.2.2.1.2.1, v58.2.2.1.2.2.1, v58.2.2.1.2.2.2.1, v58.2.2.1.2.2.2.2.1, (upd v58.2.2.1.2.2.2.2.2.1 p1.toNatClampNeg v58.1), v58.2.2.1.2.2.2.2.2.2.1, v58.2.2.1.2.2.2.2.2.2.2.1, v58.2.2.1.2.2.2.2.2.2.2.2), v58.2.2.2.1, v58.2.2.2.2.1, v58.2.2.2.2.2) u105 hc_105) [0, 1, 2, 3, 4, 5, 6, 7, 8, 9, 10, 11, 12, 13, 14, 15, 16, 17, 18, 19, 20, 21] [] rfl (by decide) rfl (by decide) (by decide) 0 6 rfl rfl rfl tw_1000 tw_1002 tw_40 tw_80 tw_1003 rfl rfl (by decide) ⟨Nat.le_of_ble_eq_true rfl, Nat.le_of_ble_eq_true rfl⟩ rfl hl.1 rfl (Nat.le_of_ble_eq_true rfl) dX6_readClock_105 ⟨Nat.le_of_ble_eq_true rfl, Nat.le_of_ble_eq_true rfl⟩ (fun H locs hP hD hS => ?_)
          have hP : va_P D vwCl [(a_md 0, .inr (6, [.int u105.1.1, .ref (a_md 2), .ref (a_md 3), .ref (a_md 4), .int u105.1.2.2.2.2, .int u105.2.1.1, .ref (a_md 7), .ref (a_md 8), .ref (a_md 9), .ref (a_md 10), .ref (a_md 11), .ref (a_md 12), .ref (a_md 13), .ref (a_md 14), .int u105.2.2.1.1, .ref (a_md 16), .ref (a_md 17), .ref (a_md 18), .ref (a_md 19), .ref (a_md 20), .ref (a_md 21), .ref (a_md 22), .int u105.2.2.2.1.1, .int u105.2.2.2.1.2.1, .int u105.2.2.2.1.2.2.1, .int u105.2.2.2.1.2.2.2.1, .int u105.2.2.2.1.2.2.2.2.1, .ref (a_md 28), .ref (a_md 29), .ref (a_md 30), .int u105.2.2.2.2.2.1, .int u105.2.2.2.2.2.2.1, .int u105.2.2.2.2.2.2.2])), (a_md 2, .inl (kA 0, 640, .inl u105.1.2.1)), (a_md 3, .inl (kA 0, 40, .inl u105.1.2.2.1)), (a_md 4, .inl (kA 0, 1200, .inl u105.1.2.2.2.1)), (a_md 7, .inl (kA 0, 80, .inl u105.2.1.2.1)), (a_md 8, .inl (kA 2, 80, .inr (.inl u105.2.1.2.2.1))), (a_md 9, .inl (kA 2, 80, .inr (.inl u105.2.1.2.2.2.1))), (a_md 10, .inl (kA 0, 80, .inl u105.2.1.2.2.2.2.1)), (a_md 11, .inl (kA 0, 80, .inl u105.2.1.2.2.2.2.2.1)), (a_md 12, .inl (kA 0, 80, .inl u105.2.1.2.2.2.2.2.2.1)), (a_md 13, .inl (kA 0, 3840, .inl u105.2.1.2.2.2.2.2.2.2.1)), (a_md 14, .inl (kA 0, 240, .inl u105.2.1.2.2.2.2.2.2.2.2)), (a_md 16, .inl (kA 0, 24, .inl u105.2.2.1.2.1)), (a_md 17, .inl (kA 0, 24, .inl u105.2.2.1.2.2.1)), (a_md 18, .inl (kA 2, 24, .inr (.inl u105.2.2.1.2.2.2.1))), (a_md 19, .inl (kA 2, 24, .inr (.inl u105.2.2.1.2.2.2.2.1))), (a_md 20, .inl (kA 2, 24, .inr (.inl u105.2.2.1.2.2.2.2.2.1))), (a_md 21, .inl (kA 2, 24, .inr (.inl u105.2.2.1.2.2.2.2.2.2.1))), (a_md 22, .inl (kA 3, 24, .inl u105.2.2.1.2.2.2.2.2.2.2)), (a_md 28, .inl (kA 0, 40, .inl u105.2.2.2.1.2.2.2.2.2.1)), (a_md 29, .inl (kA 0, 40, .inl u105.2.2.2.1.2.2.2.2.2.2)), (a_md 30, .inl (kA 3, 17, .inl u105.2.2.2.2.1))] H := hP
          have hD : va_D A [(a_md 0, .inr (6, [.int u105.1.1, .ref (a_md 2), .ref (a_md 3), .ref (a_md 4), .int u105.1.2.2.2.2, .int u105.2.1.1, .ref (a_md 7), .ref (a_md 8), .ref (a_md 9), .ref (a_md 10), .ref (a_md 11), .ref (a_md 12), .ref (a_md 13), .ref (a_md 14), .int u105.2.2.1.1, .ref (a_md 16), .ref (a_md 17), .ref (a_md 18), .ref (a_md 19), .ref (a_md 20), .ref (a_md 21), .ref (a_md 22), .int u105.2.2.2.1.1, .int u105.2.2.2.1.2.1, .int u105.2.2.2.1.2.2.1, .int u105.2.2.2.1.2.2.2.1, .int u105.2.2.2.1.2.2.2.2.1, .ref (a_md 28), .ref (a_md 29), .ref (a_md 30), .int u105.2.2.2.2.2.1, .int u105.2.2.2.2.2.2.1, .int u105.2.2.2.2.2.2.2])), (a_md 2, .inl (kA 0, 640, .inl u105.1.2.1)), (a_md 3, .inl (kA 0, 40, .inl u105.1.2.2.1)), (a_md 4, .inl (kA 0, 1200, .inl u105.1.2.2.2.1)), (a_md 7, .inl (kA 0, 80, .inl u105.2.1.2.1)), (a_md 8, .inl (kA 2, 80, .inr (.inl u105.2.1.2.2.1))), (a_md 9, .inl (kA 2, 80, .inr (.inl u105.2.1.2.2.2.1))), (a_md 10, .inl (kA 0, 80, .inl u105.2.1.2.2.2.2.1)), (a_md 11, .inl (kA 0, 80, .inl u105.2.1.2.2.2.2.2.1)), (a_md 12, .inl (kA 0, 80, .inl u105.2.1.2.2.2.2.2.2.1)), (a_md 13, .inl (kA 0, 3840, .inl u105.2.1.2.2.2.2.2.2.2.1)), (a_md 14, .inl (kA 0, 240, .inl u105.2.1.2.2.2.2.2.2.2.2)), (a_md 16, .inl (kA 0, 24, .inl u105.2.2.1.2.1)), (a_md 17, .inl (kA 0, 24, .inl u105.2.2.1.2.2.1)), (a_md 18, .inl (kA 2, 24, .inr (.inl u105.2.2.1.2.2.2.1))), (a_md 19, .inl (kA 2, 24, .inr (.inl u105.2.2.1.2.2.2.2.1))), (a_md 20, .inl (kA 2, 24, .inr (.inl u105.2.2.1.2.2.2.2.2.1))), (a_md 21, .inl (kA 2, 24, .inr (.inl u105.2.2.1.2.2.2.2.2.2.1))), (a_md 22, .inl (kA 3, 24, .inl u105.2.2.1.2.2.2.2.2.2.2)), (a_md 28, .inl (kA 0, 40, .inl u105.2.2.2.1.2.2.2.2.2.1)), (a_md 29, .inl (kA 0, 40, .inl u105.2.2.2.1.2.2.2.2.2.2)), (a_md 30, .inl (kA 3, 17, .inl u105.2.2.2.2.1))] := hD
          refine lv_aload_n hx hb dX6_readClock_108 rfl (lv_at hl 0 rfl) ?_
          refine va_get (D := D) (ci := 6) (v := .ref (a_md 12)) (C := "ConstraintTextModel") (T := TX6) (N := 33) hx hb hts ing6 hown hK hP 0 rfl rfl 11 (by decide) (hts _ tw_861) (fun _ h9 => h9) rfl dX6_readClock_109 ?_
          refine lv_iload_n hx hb dX6_readClock_112 rfl (lv_at hl 1 rfl) ?_
          refine lv_iload_n hx hb dX6_readClock_113 rfl (lv_at hl 2 rfl) ?_
          obtain ⟨g114, h⟩ := grd_some h
          refine va_iast hx hb hK hP hD hS 9 0 rfl rfl (inb_in g114) dX6_readClock_114 (fun H locs hP hD hS => ?_)
          have hP : va_P D vwCl [(a_md 0, .inr (6, [.int u105.1.1, .ref (a_md 2), .ref (a_md 3), .ref (a_md 4), .int u105.1.2.2.2.2, .int u105.2.1.1, .ref (a_md 7), .ref (a_md 8), .ref (a_md 9), .ref (a_md 10), .ref (a_md 11), .ref (a_md 12), .ref (a_md 13), .ref (a_md 14), .int u105.2.2.1.1, .ref (a_md 16), .ref (a_md 17), .ref (a_md 18), .ref (a_md 19), .ref (a_md 20), .ref (a_md 21), .ref (a_md 22), .int u105.2.2.2.1.1, .int u105.2.2.2.1.2.1, .int u105.2.2.2.1.2.2.1, .int u105.2.2.2.1.2.2.2.1, .int u105.2.2.2.1.2.2.2.2.1, .ref (a_md 28), .ref (a_md 29), .ref (a_md 30), .int u105.2.2.2.2.2.1, .int u105.2.2.2.2.2.2.1, .int u105.2.2.2.2.2.2.2])), (a_md 2, .inl (kA 0, 640, .inl u105.1.2.1)), (a_md 3, .inl (kA 0, 40, .inl u105.1.2.2.1)), (a_md 4, .inl (kA 0, 1200, .inl u105.1.2.2.2.1)), (a_md 7, .inl (kA 0, 80, .inl u105.2.1.2.1)), (a_md 8, .inl (kA 2, 80, .inr (.inl u105.2.1.2.2.1))), (a_md 9, .inl (kA 2, 80, .inr (.inl u105.2.1.2.2.2.1))), (a_md 10, .inl (kA 0, 80, .inl u105.2.1.2.2.2.2.1)), (a_md 11, .inl (kA 0, 80, .inl u105.2.1.2.2.2.2.2.1)), (a_md 12, .inl (kA 0, 80, .inl (upd u105.2.1.2.2.2.2.2.2.1 p1.toNatClampNeg v74))), (a_md 13, .inl (kA 0, 3840, .inl u105.2.1.2.2.2.2.2.2.2.1)), (a_md 14, .inl (kA 0, 240, .inl u105.2.1.2.2.2.2.2.2.2.2)), (a_md 16, .inl (kA 0, 24, .inl u105.2.2.1.2.1)), (a_md 17, .inl (kA 0, 24, .inl u105.2.2.1.2.2.1)), (a_md 18, .inl (kA 2, 24, .inr (.inl u105.2.2.1.2.2.2.1))), (a_md 19, .inl (kA 2, 24, .inr (.inl u105.2.2.1.2.2.2.2.1))), (a_md 20, .inl (kA 2, 24, .inr (.inl u105.2.2.1.2.2.2.2.2.1))), (a_md 21, .inl (kA 2, 24, .inr (.inl u105.2.2.1.2.2.2.2.2.2.1))), (a_md 22, .inl (kA 3, 24, .inl u105.2.2.1.2.2.2.2.2.2.2)), (a_md 28, .inl (kA 0, 40, .inl u105.2.2.2.1.2.2.2.2.2.1)), (a_md 29, .inl (kA 0, 40, .inl u105.2.2.2.1.2.2.2.2.2.2)), (a_md 30, .inl (kA 3, 17, .inl u105.2.2.2.2.1))] H := hP
          have hD : va_D A [(a_md 0, .inr (6, [.int u105.1.1, .ref (a_md 2), .ref (a_md 3), .ref (a_md 4), .int u105.1.2.2.2.2, .int u105.2.1.1, .ref (a_md 7), .ref (a_md 8), .ref (a_md 9), .ref (a_md 10), .ref (a_md 11), .ref (a_md 12), .ref (a_md 13), .ref (a_md 14), .int u105.2.2.1.1, .ref (a_md 16), .ref (a_md 17), .ref (a_md 18), .ref (a_md 19), .ref (a_md 20), .ref (a_md 21), .ref (a_md 22), .int u105.2.2.2.1.1, .int u105.2.2.2.1.2.1, .int u105.2.2.2.1.2.2.1, .int u105.2.2.2.1.2.2.2.1, .int u105.2.2.2.1.2.2.2.2.1, .ref (a_md 28), .ref (a_md 29), .ref (a_md 30), .int u105.2.2.2.2.2.1, .int u105.2.2.2.2.2.2.1, .int u105.2.2.2.2.2.2.2])), (a_md 2, .inl (kA 0, 640, .inl u105.1.2.1)), (a_md 3, .inl (kA 0, 40, .inl u105.1.2.2.1)), (a_md 4, .inl (kA 0, 1200, .inl u105.1.2.2.2.1)), (a_md 7, .inl (kA 0, 80, .inl u105.2.1.2.1)), (a_md 8, .inl (kA 2, 80, .inr (.inl u105.2.1.2.2.1))), (a_md 9, .inl (kA 2, 80, .inr (.inl u105.2.1.2.2.2.1))), (a_md 10, .inl (kA 0, 80, .inl u105.2.1.2.2.2.2.1)), (a_md 11, .inl (kA 0, 80, .inl u105.2.1.2.2.2.2.2.1)), (a_md 12, .inl (kA 0, 80, .inl (upd u105.2.1.2.2.2.2.2.2.1 p1.toNatClampNeg v74))), (a_md 13, .inl (kA 0, 3840, .inl u105.2.1.2.2.2.2.2.2.2.1)), (a_md 14, .inl (kA 0, 240, .inl u105.2.1.2.2.2.2.2.2.2.2)), (a_md 16, .inl (kA 0, 24, .inl u105.2.2.1.2.1)), (a_md 17, .inl (kA 0, 24, .inl u105.2.2.1.2.2.1)), (a_md 18, .inl (kA 2, 24, .inr (.inl u105.2.2.1.2.2.2.1))), (a_md 19, .inl (kA 2, 24, .inr (.inl u105.2.2.1.2.2.2.2.1))), (a_md 20, .inl (kA 2, 24, .inr (.inl u105.2.2.1.2.2.2.2.2.1))), (a_md 21, .inl (kA 2, 24, .inr (.inl u105.2.2.1.2.2.2.2.2.2.1))), (a_md 22, .inl (kA 3, 24, .inl u105.2.2.1.2.2.2.2.2.2.2)), (a_md 28, .inl (kA 0, 40, .inl u105.2.2.2.1.2.2.2.2.2.1)), (a_md 29, .inl (kA 0, 40, .inl u105.2.2.2.1.2.2.2.2.2.2)), (a_md 30, .inl (kA 3, 17, .inl u105.2.2.2.2.1))] := hD
          refine lv_aload_n hx hb dX6_readClock_115 rfl (lv_at hl 0 rfl) ?_
          refine va_get (D := D) (ci := 6) (v := .int u105.2.2.2.1.2.2.1) (C := "ConstraintTextModel") (T := TX6) (N := 33) hx hb hts ing6 hown hK hP 0 rfl rfl 24 (by decide) (hts _ tw_874) (fun _ h9 => h9) rfl dX6_readClock_116 ?_
          refine lv_if_eq (tgt := 129) hx hb dX6_readClock_119 (by decide) (fun bc => ?_) (fun bc => ?_)
          · have h := ite_t bc h
            obtain rfl := Option.some.inj h
            rw [← hQ]
            exact rw_return hx hb hr hk  dX6_readClock_129  hP hD hS
          · have h := ite_f bc h
            refine lv_aload_n hx hb dX6_readClock_122 rfl (lv_at hl 0 rfl) ?_
            refine lv_iload_n hx hb dX6_readClock_123 rfl (lv_at hl 1 rfl) ?_
            refine lv_iconst (v := 0) hx hb dX6_readClock_124 (by decide) ?_
            refine lv_iconst (v := 0) hx hb dX6_readClock_125 (by decide) ?_
            obtain ⟨u126, hc_126, h⟩ := bnd_some h
            refine rw_V (wr := []) (n := 3) (As := [.int p1, .int (0 : Int32), .int (0 : Int32)]) (rest := []) hx hb hml hown hts hN hS hK hP hD hA (c6_takePattern l D kA a_md F p1 (0 : Int32) (0 : Int32) (u105.1, (u105.2.1.1, u105.2.1.2.1, u105.2.1.2.2.1, u105.2.1.2.2.2.1, u105.2.1.2.2.2.2.1, u105.2.1.2.2.2.2.2.1, (upd u105.2.1.2.2.2.2.2.2.1 p1.toNatClampNeg v74), u105.2.1.2.2.2.2.2.2.2.1, u105.2.1.2.2.2.2.2.2.2.2), u105.2.2.1, u105.2.2.2.1, u105.2.2.2.2) u126 hc_126) [0, 1, 2, 3, 4, 5, 6, 7, 8, 9, 10, 11, 12, 13, 14, 15, 16, 17, 18, 19, 20, 21] [] rfl (by decide) rfl (by decide) (by decide) 0 6 rfl rfl rfl tw_1025 tw_1027 tw_46 tw_80 tw_1028 rfl rfl (by decide) ⟨Nat.le_of_ble_eq_true rfl, Nat.le_of_ble_eq_true rfl⟩ rfl hl.1 rfl (Nat.le_of_ble_eq_true rfl) dX6_readClock_126 ⟨Nat.le_of_ble_eq_true rfl, Nat.le_of_ble_eq_true rfl⟩ (fun H locs hP hD hS => ?_)
            have hP : va_P D vwCl [(a_md 0, .inr (6, [.int u126.1.1, .ref (a_md 2), .ref (a_md 3), .ref (a_md 4), .int u126.1.2.2.2.2, .int u126.2.1.1, .ref (a_md 7), .ref (a_md 8), .ref (a_md 9), .ref (a_md 10), .ref (a_md 11), .ref (a_md 12), .ref (a_md 13), .ref (a_md 14), .int u126.2.2.1.1, .ref (a_md 16), .ref (a_md 17), .ref (a_md 18), .ref (a_md 19), .ref (a_md 20), .ref (a_md 21), .ref (a_md 22), .int u126.2.2.2.1.1, .int u126.2.2.2.1.2.1, .int u126.2.2.2.1.2.2.1, .int u126.2.2.2.1.2.2.2.1, .int u126.2.2.2.1.2.2.2.2.1, .ref (a_md 28), .ref (a_md 29), .ref (a_md 30), .int u126.2.2.2.2.2.1, .int u126.2.2.2.2.2.2.1, .int u126.2.2.2.2.2.2.2])), (a_md 2, .inl (kA 0, 640, .inl u126.1.2.1)), (a_md 3, .inl (kA 0, 40, .inl u126.1.2.2.1)), (a_md 4, .inl (kA 0, 1200, .inl u126.1.2.2.2.1)), (a_md 7, .inl (kA 0, 80, .inl u126.2.1.2.1)), (a_md 8, .inl (kA 2, 80, .inr (.inl u126.2.1.2.2.1))), (a_md 9, .inl (kA 2, 80, .inr (.inl u126.2.1.2.2.2.1))), (a_md 10, .inl (kA 0, 80, .inl u126.2.1.2.2.2.2.1)), (a_md 11, .inl (kA 0, 80, .inl u126.2.1.2.2.2.2.2.1)), (a_md 12, .inl (kA 0, 80, .inl u126.2.1.2.2.2.2.2.2.1)), (a_md 13, .inl (kA 0, 3840, .inl u126.2.1.2.2.2.2.2.2.2.1)), (a_md 14, .inl (kA 0, 240, .inl u126.2.1.2.2.2.2.2.2.2.2)), (a_md 16, .inl (kA 0, 24, .inl u126.2.2.1.2.1)), (a_md 17, .inl (kA 0, 24, .inl u126.2.2.1.2.2.1)), (a_md 18, .inl (kA 2, 24, .inr (.inl u126.2.2.1.2.2.2.1))), (a_md 19, .inl (kA 2, 24, .inr (.inl u126.2.2.1.2.2.2.2.1))), (a_md 20, .inl (kA 2, 24, .inr (.inl u126.2.2.1.2.2.2.2.2.1))), (a_md 21, .inl (kA 2, 24, .inr (.inl u126.2.2.1.2.2.2.2.2.2.1))), (a_md 22, .inl (kA 3, 24, .inl u126.2.2.1.2.2.2.2.2.2.2)), (a_md 28, .inl (kA 0, 40, .inl u126.2.2.2.1.2.2.2.2.2.1)), (a_md 29, .inl (kA 0, 40, .inl u126.2.2.2.1.2.2.2.2.2.2)), (a_md 30, .inl (kA 3, 17, .inl u126.2.2.2.2.1))] H := hP
            have hD : va_D A [(a_md 0, .inr (6, [.int u126.1.1, .ref (a_md 2), .ref (a_md 3), .ref (a_md 4), .int u126.1.2.2.2.2, .int u126.2.1.1, .ref (a_md 7), .ref (a_md 8), .ref (a_md 9), .ref (a_md 10), .ref (a_md 11), .ref (a_md 12), .ref (a_md 13), .ref (a_md 14), .int u126.2.2.1.1, .ref (a_md 16), .ref (a_md 17), .ref (a_md 18), .ref (a_md 19), .ref (a_md 20), .ref (a_md 21), .ref (a_md 22), .int u126.2.2.2.1.1, .int u126.2.2.2.1.2.1, .int u126.2.2.2.1.2.2.1, .int u126.2.2.2.1.2.2.2.1, .int u126.2.2.2.1.2.2.2.2.1, .ref (a_md 28), .ref (a_md 29), .ref (a_md 30), .int u126.2.2.2.2.2.1, .int u126.2.2.2.2.2.2.1, .int u126.2.2.2.2.2.2.2])), (a_md 2, .inl (kA 0, 640, .inl u126.1.2.1)), (a_md 3, .inl (kA 0, 40, .inl u126.1.2.2.1)), (a_md 4, .inl (kA 0, 1200, .inl u126.1.2.2.2.1)), (a_md 7, .inl (kA 0, 80, .inl u126.2.1.2.1)), (a_md 8, .inl (kA 2, 80, .inr (.inl u126.2.1.2.2.1))), (a_md 9, .inl (kA 2, 80, .inr (.inl u126.2.1.2.2.2.1))), (a_md 10, .inl (kA 0, 80, .inl u126.2.1.2.2.2.2.1)), (a_md 11, .inl (kA 0, 80, .inl u126.2.1.2.2.2.2.2.1)), (a_md 12, .inl (kA 0, 80, .inl u126.2.1.2.2.2.2.2.2.1)), (a_md 13, .inl (kA 0, 3840, .inl u126.2.1.2.2.2.2.2.2.2.1)), (a_md 14, .inl (kA 0, 240, .inl u126.2.1.2.2.2.2.2.2.2.2)), (a_md 16, .inl (kA 0, 24, .inl u126.2.2.1.2.1)), (a_md 17, .inl (kA 0, 24, .inl u126.2.2.1.2.2.1)), (a_md 18, .inl (kA 2, 24, .inr (.inl u126.2.2.1.2.2.2.1))), (a_md 19, .inl (kA 2, 24, .inr (.inl u126.2.2.1.2.2.2.2.1))), (a_md 20, .inl (kA 2, 24, .inr (.inl u126.2.2.1.2.2.2.2.2.1))), (a_md 21, .inl (kA 2, 24, .inr (.inl u126.2.2.1.2.2.2.2.2.2.1))), (a_md 22, .inl (kA 3, 24, .inl u126.2.2.1.2.2.2.2.2.2.2)), (a_md 28, .inl (kA 0, 40, .inl u126.2.2.2.1.2.2.2.2.2.1)), (a_md 29, .inl (kA 0, 40, .inl u126.2.2.2.1.2.2.2.2.2.2)), (a_md 30, .inl (kA 3, 17, .inl u126.2.2.2.2.1))] := hD
            obtain rfl := Option.some.inj h
            rw [← hQ]
            exact rw_return hx hb hr hk  dX6_readClock_129  hP hD hS
        refine lv_if_lt (tgt := 104) hx hb dX6_readClock_77 (by decide) (fun bc => ?_) (fun bc => ?_)
        · have h := ite_t bc h
          refine lv_iconst (v := 0) hx hb dX6_readClock_104 (by decide) ?_
          exact j105 _ _ _ ls h hP hD hS (lv_sub hl [1, 2, 0] rfl)
        · have h := ite_f bc h
          refine lv_iload_n hx hb dX6_readClock_80 rfl (lv_at hl 0 rfl) ?_
          refine lv_aload_n hx hb dX6_readClock_81 rfl (lv_at hl 1 rfl) ?_
          refine va_get (D := D) (ci := 6) (v := .ref (a_md 10)) (C := "ConstraintTextModel") (T := TX6) (N := 33) hx hb hts ing6 hown hK hP 0 rfl rfl 9 (by decide) (hts _ tw_859) (fun _ h9 => h9) rfl dX6_readClock_82 ?_
          refine lv_iload_n hx hb dX6_readClock_85 rfl (lv_at hl 2 rfl) ?_
          obtain ⟨g86, h⟩ := grd_some h
          refine va_iald hx hb hK hP 7 0 rfl rfl (inb_in g86) dX6_readClock_86 ?_
          refine lv_icmp_ge (tgt := 104) hx hb dX6_readClock_87 (by decide) (fun bc => ?_) (fun bc => ?_)
          · have h := ite_t bc h
            refine lv_iconst (v := 0) hx hb dX6_readClock_104 (by decide) ?_
            exact j105 _ _ _ ls h hP hD hS (lv_sub hl [1, 2, 0] rfl)
          · have h := ite_f bc h
            refine lv_iload_n hx hb dX6_readClock_90 rfl (lv_at hl 0 rfl) ?_
            refine lv_aload_n hx hb dX6_readClock_91 rfl (lv_at hl 1 rfl) ?_
            refine va_get (D := D) (ci := 6) (v := .ref (a_md 11)) (C := "ConstraintTextModel") (T := TX6) (N := 33) hx hb hts ing6 hown hK hP 0 rfl rfl 10 (by decide) (hts _ tw_860) (fun _ h9 => h9) rfl dX6_readClock_92 ?_
            refine lv_iload_n hx hb dX6_readClock_95 rfl (lv_at hl 2 rfl) ?_
            obtain ⟨g96, h⟩ := grd_some h
            refine va_iald hx hb hK hP 8 0 rfl rfl (inb_in g96) dX6_readClock_96 ?_
            refine lv_icmp_eq (tgt := 104) hx hb dX6_readClock_97 (by decide) (fun bc => ?_) (fun bc => ?_)
            · have h := ite_t bc h
              refine lv_iconst (v := 0) hx hb dX6_readClock_104 (by decide) ?_
              exact j105 _ _ _ ls h hP hD hS (lv_sub hl [1, 2, 0] rfl)
            · have h := ite_f bc h
              refine lv_iconst (v := 1) hx hb dX6_readClock_100 (by decide) ?_
              refine lv_goto (tgt := 105) hx hb dX6_readClock_101 (by decide) ?_
              exact j105 _ _ _ ls h hP hD hS (lv_sub hl [1, 2, 0] rfl)
      refine lv_if_eq (tgt := 73) hx hb dX6_readClock_63 (by decide) (fun bc => ?_) (fun bc => ?_)
      · have h := ite_t bc h
        refine lv_iconst (v := -1) hx hb dX6_readClock_73 (by decide) ?_
        exact j74 _ _ _ ls h hP hD hS hl
      · have h := ite_f bc h
        refine lv_aload_n hx hb dX6_readClock_66 rfl (lv_at hl 0 rfl) ?_
        obtain ⟨u67, hc_67, h⟩ := bnd_some h
        refine ro_V (n := 0) (As := []) (rest := []) hx hb hml hown hts hN hS hK hP (c6_whole l D kA a_md F (v58.2.1, (v58.2.2.1.1, v58.2.2.1.2.1, v58.2.2.1.2.2.1, v58.2.2.1.2.2.2.1, v58.2.2.1.2.2.2.2.1, (upd v58.2.2.1.2.2.2.2.2.1 p1.toNatClampNeg v58.1), v58.2.2.1.2.2.2.2.2.2.1, v58.2.2.1.2.2.2.2.2.2.2.1, v58.2.2.1.2.2.2.2.2.2.2.2), v58.2.2.2.1, v58.2.2.2.2.1, v58.2.2.2.2.2) u67 hc_67) [0, 1, 2, 3, 4, 5, 6, 7, 8, 9, 10, 11, 12, 13, 14, 15, 16, 17, 18, 19, 20, 21] rfl 0 6 rfl rfl rfl tw_1021 tw_1023 tw_45 tw_80 tw_1024 rfl rfl (by decide) ⟨Nat.le_of_ble_eq_true rfl, Nat.le_of_ble_eq_true rfl⟩ rfl hl.1 rfl (Nat.le_of_ble_eq_true rfl) dX6_readClock_67 ⟨Nat.le_of_ble_eq_true rfl, Nat.le_of_ble_eq_true rfl⟩ ?_
        refine lv_goto (tgt := 74) hx hb dX6_readClock_70 (by decide) ?_
        exact j74 _ _ _ ls h hP hD hS hl
    refine lv_if_eq (tgt := 57) hx hb dX6_readClock_38 (by decide) (fun bc => ?_) (fun bc => ?_)
    · have h := ite_t bc h
      refine lv_iconst (v := 0) hx hb dX6_readClock_57 (by decide) ?_
      exact j58 _ _ _ ls h hP hD hS hl
    · have h := ite_f bc h
      refine lv_aload_n hx hb dX6_readClock_41 rfl (lv_at hl 0 rfl) ?_
      refine lv_iconst (v := 0) hx hb dX6_readClock_42 (by decide) ?_
      refine lv_aload_n hx hb dX6_readClock_43 rfl (lv_at hl 0 rfl) ?_
      refine va_get (D := D) (ci := 6) (v := .ref (a_md 10)) (C := "ConstraintTextModel") (T := TX6) (N := 33) hx hb hts ing6 hown hK hP 0 rfl rfl 9 (by decide) (hts _ tw_859) (fun _ h9 => h9) rfl dX6_readClock_44 ?_
      refine lv_iload_n hx hb dX6_readClock_47 rfl (lv_at hl 1 rfl) ?_
      obtain ⟨g48, h⟩ := grd_some h
      refine va_iald hx hb hK hP 7 0 rfl rfl (inb_in g48) dX6_readClock_48 ?_
      refine lv_iconst (v := 1) hx hb dX6_readClock_49 (by decide) ?_
      refine lv_isub hx hb dX6_readClock_50 ?_
      obtain ⟨u51, hc_51, h⟩ := bnd_some h
      refine rw_V (wr := []) (n := 2) (As := [.int (0 : Int32), .int (((upd v28.2.2.1.2.2.2.2.1 p1.toNatClampNeg v28.1) p1.toNatClampNeg) - (1 : Int32))]) (rest := [.int p1, .ref (a_md 11)]) hx hb hml hown hts hN hS hK hP hD hA (c6_takeWhole l D kA a_md F (0 : Int32) (((upd v28.2.2.1.2.2.2.2.1 p1.toNatClampNeg v28.1) p1.toNatClampNeg) - (1 : Int32)) (v28.2.1, (v28.2.2.1.1, v28.2.2.1.2.1, v28.2.2.1.2.2.1, v28.2.2.1.2.2.2.1, (upd v28.2.2.1.2.2.2.2.1 p1.toNatClampNeg v28.1), v28.2.2.1.2.2.2.2.2.1, v28.2.2.1.2.2.2.2.2.2.1, v28.2.2.1.2.2.2.2.2.2.2.1, v28.2.2.1.2.2.2.2.2.2.2.2), v28.2.2.2.1, v28.2.2.2.2.1, v28.2.2.2.2.2) u51 hc_51) [0, 1, 2, 3, 4, 5, 6, 7, 8, 9, 10, 11, 12, 13, 14, 15, 16, 17, 18, 19, 20, 21] [] rfl (by decide) rfl (by decide) (by decide) 0 6 rfl rfl rfl tw_1017 tw_1019 tw_44 tw_80 tw_1020 rfl rfl (by decide) ⟨Nat.le_of_ble_eq_true rfl, Nat.le_of_ble_eq_true rfl⟩ rfl hl.1 rfl (Nat.le_of_ble_eq_true rfl) dX6_readClock_51 ⟨Nat.le_of_ble_eq_true rfl, Nat.le_of_ble_eq_true rfl⟩ (fun H locs hP hD hS => ?_)
      have hP : va_P D vwCl [(a_md 0, .inr (6, [.int u51.2.1.1, .ref (a_md 2), .ref (a_md 3), .ref (a_md 4), .int u51.2.1.2.2.2.2, .int u51.2.2.1.1, .ref (a_md 7), .ref (a_md 8), .ref (a_md 9), .ref (a_md 10), .ref (a_md 11), .ref (a_md 12), .ref (a_md 13), .ref (a_md 14), .int u51.2.2.2.1.1, .ref (a_md 16), .ref (a_md 17), .ref (a_md 18), .ref (a_md 19), .ref (a_md 20), .ref (a_md 21), .ref (a_md 22), .int u51.2.2.2.2.1.1, .int u51.2.2.2.2.1.2.1, .int u51.2.2.2.2.1.2.2.1, .int u51.2.2.2.2.1.2.2.2.1, .int u51.2.2.2.2.1.2.2.2.2.1, .ref (a_md 28), .ref (a_md 29), .ref (a_md 30), .int u51.2.2.2.2.2.2.1, .int u51.2.2.2.2.2.2.2.1, .int u51.2.2.2.2.2.2.2.2])), (a_md 2, .inl (kA 0, 640, .inl u51.2.1.2.1)), (a_md 3, .inl (kA 0, 40, .inl u51.2.1.2.2.1)), (a_md 4, .inl (kA 0, 1200, .inl u51.2.1.2.2.2.1)), (a_md 7, .inl (kA 0, 80, .inl u51.2.2.1.2.1)), (a_md 8, .inl (kA 2, 80, .inr (.inl u51.2.2.1.2.2.1))), (a_md 9, .inl (kA 2, 80, .inr (.inl u51.2.2.1.2.2.2.1))), (a_md 10, .inl (kA 0, 80, .inl u51.2.2.1.2.2.2.2.1)), (a_md 11, .inl (kA 0, 80, .inl u51.2.2.1.2.2.2.2.2.1)), (a_md 12, .inl (kA 0, 80, .inl u51.2.2.1.2.2.2.2.2.2.1)), (a_md 13, .inl (kA 0, 3840, .inl u51.2.2.1.2.2.2.2.2.2.2.1)), (a_md 14, .inl (kA 0, 240, .inl u51.2.2.1.2.2.2.2.2.2.2.2)), (a_md 16, .inl (kA 0, 24, .inl u51.2.2.2.1.2.1)), (a_md 17, .inl (kA 0, 24, .inl u51.2.2.2.1.2.2.1)), (a_md 18, .inl (kA 2, 24, .inr (.inl u51.2.2.2.1.2.2.2.1))), (a_md 19, .inl (kA 2, 24, .inr (.inl u51.2.2.2.1.2.2.2.2.1))), (a_md 20, .inl (kA 2, 24, .inr (.inl u51.2.2.2.1.2.2.2.2.2.1))), (a_md 21, .inl (kA 2, 24, .inr (.inl u51.2.2.2.1.2.2.2.2.2.2.1))), (a_md 22, .inl (kA 3, 24, .inl u51.2.2.2.1.2.2.2.2.2.2.2)), (a_md 28, .inl (kA 0, 40, .inl u51.2.2.2.2.1.2.2.2.2.2.1)), (a_md 29, .inl (kA 0, 40, .inl u51.2.2.2.2.1.2.2.2.2.2.2)), (a_md 30, .inl (kA 3, 17, .inl u51.2.2.2.2.2.1))] H := hP
      have hD : va_D A [(a_md 0, .inr (6, [.int u51.2.1.1, .ref (a_md 2), .ref (a_md 3), .ref (a_md 4), .int u51.2.1.2.2.2.2, .int u51.2.2.1.1, .ref (a_md 7), .ref (a_md 8), .ref (a_md 9), .ref (a_md 10), .ref (a_md 11), .ref (a_md 12), .ref (a_md 13), .ref (a_md 14), .int u51.2.2.2.1.1, .ref (a_md 16), .ref (a_md 17), .ref (a_md 18), .ref (a_md 19), .ref (a_md 20), .ref (a_md 21), .ref (a_md 22), .int u51.2.2.2.2.1.1, .int u51.2.2.2.2.1.2.1, .int u51.2.2.2.2.1.2.2.1, .int u51.2.2.2.2.1.2.2.2.1, .int u51.2.2.2.2.1.2.2.2.2.1, .ref (a_md 28), .ref (a_md 29), .ref (a_md 30), .int u51.2.2.2.2.2.2.1, .int u51.2.2.2.2.2.2.2.1, .int u51.2.2.2.2.2.2.2.2])), (a_md 2, .inl (kA 0, 640, .inl u51.2.1.2.1)), (a_md 3, .inl (kA 0, 40, .inl u51.2.1.2.2.1)), (a_md 4, .inl (kA 0, 1200, .inl u51.2.1.2.2.2.1)), (a_md 7, .inl (kA 0, 80, .inl u51.2.2.1.2.1)), (a_md 8, .inl (kA 2, 80, .inr (.inl u51.2.2.1.2.2.1))), (a_md 9, .inl (kA 2, 80, .inr (.inl u51.2.2.1.2.2.2.1))), (a_md 10, .inl (kA 0, 80, .inl u51.2.2.1.2.2.2.2.1)), (a_md 11, .inl (kA 0, 80, .inl u51.2.2.1.2.2.2.2.2.1)), (a_md 12, .inl (kA 0, 80, .inl u51.2.2.1.2.2.2.2.2.2.1)), (a_md 13, .inl (kA 0, 3840, .inl u51.2.2.1.2.2.2.2.2.2.2.1)), (a_md 14, .inl (kA 0, 240, .inl u51.2.2.1.2.2.2.2.2.2.2.2)), (a_md 16, .inl (kA 0, 24, .inl u51.2.2.2.1.2.1)), (a_md 17, .inl (kA 0, 24, .inl u51.2.2.2.1.2.2.1)), (a_md 18, .inl (kA 2, 24, .inr (.inl u51.2.2.2.1.2.2.2.1))), (a_md 19, .inl (kA 2, 24, .inr (.inl u51.2.2.2.1.2.2.2.2.1))), (a_md 20, .inl (kA 2, 24, .inr (.inl u51.2.2.2.1.2.2.2.2.2.1))), (a_md 21, .inl (kA 2, 24, .inr (.inl u51.2.2.2.1.2.2.2.2.2.2.1))), (a_md 22, .inl (kA 3, 24, .inl u51.2.2.2.1.2.2.2.2.2.2.2)), (a_md 28, .inl (kA 0, 40, .inl u51.2.2.2.2.1.2.2.2.2.2.1)), (a_md 29, .inl (kA 0, 40, .inl u51.2.2.2.2.1.2.2.2.2.2.2)), (a_md 30, .inl (kA 3, 17, .inl u51.2.2.2.2.2.1))] := hD
      refine lv_goto (tgt := 58) hx hb dX6_readClock_54 (by decide) ?_
      exact j58 _ _ _ ls h hP hD hS hl
  refine lv_if_eq (tgt := 27) hx hb dX6_readClock_14 (by decide) (fun bc => ?_) (fun bc => ?_)
  · have h := ite_t bc h
    refine lv_iconst (v := 0) hx hb dX6_readClock_27 (by decide) ?_
    exact j28 _ _ _ ls h hP hD hS hl
  · have h := ite_f bc h
    refine lv_aload_n hx hb dX6_readClock_17 rfl (lv_at hl 0 rfl) ?_
    refine lv_iconst (v := 1) hx hb dX6_readClock_18 (by decide) ?_
    refine lv_ldc (own := "ConstraintTextModel") (v := 999999) hx hb hown (hts _ tw_1016) dX6_readClock_19 ?_
    obtain ⟨u21, hc_21, h⟩ := bnd_some h
    refine rw_V (wr := []) (n := 2) (As := [.int (1 : Int32), .int (999999 : Int32)]) (rest := [.int p1, .ref (a_md 10)]) hx hb hml hown hts hN hS hK hP hD hA (c6_takeWhole l D kA a_md F (1 : Int32) (999999 : Int32) u2 u21 hc_21) [0, 1, 2, 3, 4, 5, 6, 7, 8, 9, 10, 11, 12, 13, 14, 15, 16, 17, 18, 19, 20, 21] [] rfl (by decide) rfl (by decide) (by decide) 0 6 rfl rfl rfl tw_1017 tw_1019 tw_44 tw_80 tw_1020 rfl rfl (by decide) ⟨Nat.le_of_ble_eq_true rfl, Nat.le_of_ble_eq_true rfl⟩ rfl hl.1 rfl (Nat.le_of_ble_eq_true rfl) dX6_readClock_21 ⟨Nat.le_of_ble_eq_true rfl, Nat.le_of_ble_eq_true rfl⟩ (fun H locs hP hD hS => ?_)
    have hP : va_P D vwCl [(a_md 0, .inr (6, [.int u21.2.1.1, .ref (a_md 2), .ref (a_md 3), .ref (a_md 4), .int u21.2.1.2.2.2.2, .int u21.2.2.1.1, .ref (a_md 7), .ref (a_md 8), .ref (a_md 9), .ref (a_md 10), .ref (a_md 11), .ref (a_md 12), .ref (a_md 13), .ref (a_md 14), .int u21.2.2.2.1.1, .ref (a_md 16), .ref (a_md 17), .ref (a_md 18), .ref (a_md 19), .ref (a_md 20), .ref (a_md 21), .ref (a_md 22), .int u21.2.2.2.2.1.1, .int u21.2.2.2.2.1.2.1, .int u21.2.2.2.2.1.2.2.1, .int u21.2.2.2.2.1.2.2.2.1, .int u21.2.2.2.2.1.2.2.2.2.1, .ref (a_md 28), .ref (a_md 29), .ref (a_md 30), .int u21.2.2.2.2.2.2.1, .int u21.2.2.2.2.2.2.2.1, .int u21.2.2.2.2.2.2.2.2])), (a_md 2, .inl (kA 0, 640, .inl u21.2.1.2.1)), (a_md 3, .inl (kA 0, 40, .inl u21.2.1.2.2.1)), (a_md 4, .inl (kA 0, 1200, .inl u21.2.1.2.2.2.1)), (a_md 7, .inl (kA 0, 80, .inl u21.2.2.1.2.1)), (a_md 8, .inl (kA 2, 80, .inr (.inl u21.2.2.1.2.2.1))), (a_md 9, .inl (kA 2, 80, .inr (.inl u21.2.2.1.2.2.2.1))), (a_md 10, .inl (kA 0, 80, .inl u21.2.2.1.2.2.2.2.1)), (a_md 11, .inl (kA 0, 80, .inl u21.2.2.1.2.2.2.2.2.1)), (a_md 12, .inl (kA 0, 80, .inl u21.2.2.1.2.2.2.2.2.2.1)), (a_md 13, .inl (kA 0, 3840, .inl u21.2.2.1.2.2.2.2.2.2.2.1)), (a_md 14, .inl (kA 0, 240, .inl u21.2.2.1.2.2.2.2.2.2.2.2)), (a_md 16, .inl (kA 0, 24, .inl u21.2.2.2.1.2.1)), (a_md 17, .inl (kA 0, 24, .inl u21.2.2.2.1.2.2.1)), (a_md 18, .inl (kA 2, 24, .inr (.inl u21.2.2.2.1.2.2.2.1))), (a_md 19, .inl (kA 2, 24, .inr (.inl u21.2.2.2.1.2.2.2.2.1))), (a_md 20, .inl (kA 2, 24, .inr (.inl u21.2.2.2.1.2.2.2.2.2.1))), (a_md 21, .inl (kA 2, 24, .inr (.inl u21.2.2.2.1.2.2.2.2.2.2.1))), (a_md 22, .inl (kA 3, 24, .inl u21.2.2.2.1.2.2.2.2.2.2.2)), (a_md 28, .inl (kA 0, 40, .inl u21.2.2.2.2.1.2.2.2.2.2.1)), (a_md 29, .inl (kA 0, 40, .inl u21.2.2.2.2.1.2.2.2.2.2.2)), (a_md 30, .inl (kA 3, 17, .inl u21.2.2.2.2.2.1))] H := hP
    have hD : va_D A [(a_md 0, .inr (6, [.int u21.2.1.1, .ref (a_md 2), .ref (a_md 3), .ref (a_md 4), .int u21.2.1.2.2.2.2, .int u21.2.2.1.1, .ref (a_md 7), .ref (a_md 8), .ref (a_md 9), .ref (a_md 10), .ref (a_md 11), .ref (a_md 12), .ref (a_md 13), .ref (a_md 14), .int u21.2.2.2.1.1, .ref (a_md 16), .ref (a_md 17), .ref (a_md 18), .ref (a_md 19), .ref (a_md 20), .ref (a_md 21), .ref (a_md 22), .int u21.2.2.2.2.1.1, .int u21.2.2.2.2.1.2.1, .int u21.2.2.2.2.1.2.2.1, .int u21.2.2.2.2.1.2.2.2.1, .int u21.2.2.2.2.1.2.2.2.2.1, .ref (a_md 28), .ref (a_md 29), .ref (a_md 30), .int u21.2.2.2.2.2.2.1, .int u21.2.2.2.2.2.2.2.1, .int u21.2.2.2.2.2.2.2.2])), (a_md 2, .inl (kA 0, 640, .inl u21.2.1.2.1)), (a_md 3, .inl (kA 0, 40, .inl u21.2.1.2.2.1)), (a_md 4, .inl (kA 0, 1200, .inl u21.2.1.2.2.2.1)), (a_md 7, .inl (kA 0, 80, .inl u21.2.2.1.2.1)), (a_md 8, .inl (kA 2, 80, .inr (.inl u21.2.2.1.2.2.1))), (a_md 9, .inl (kA 2, 80, .inr (.inl u21.2.2.1.2.2.2.1))), (a_md 10, .inl (kA 0, 80, .inl u21.2.2.1.2.2.2.2.1)), (a_md 11, .inl (kA 0, 80, .inl u21.2.2.1.2.2.2.2.2.1)), (a_md 12, .inl (kA 0, 80, .inl u21.2.2.1.2.2.2.2.2.2.1)), (a_md 13, .inl (kA 0, 3840, .inl u21.2.2.1.2.2.2.2.2.2.2.1)), (a_md 14, .inl (kA 0, 240, .inl u21.2.2.1.2.2.2.2.2.2.2.2)), (a_md 16, .inl (kA 0, 24, .inl u21.2.2.2.1.2.1)), (a_md 17, .inl (kA 0, 24, .inl u21.2.2.2.1.2.2.1)), (a_md 18, .inl (kA 2, 24, .inr (.inl u21.2.2.2.1.2.2.2.1))), (a_md 19, .inl (kA 2, 24, .inr (.inl u21.2.2.2.1.2.2.2.2.1))), (a_md 20, .inl (kA 2, 24, .inr (.inl u21.2.2.2.1.2.2.2.2.2.1))), (a_md 21, .inl (kA 2, 24, .inr (.inl u21.2.2.2.1.2.2.2.2.2.2.1))), (a_md 22, .inl (kA 3, 24, .inl u21.2.2.2.1.2.2.2.2.2.2.2)), (a_md 28, .inl (kA 0, 40, .inl u21.2.2.2.2.1.2.2.2.2.2.1)), (a_md 29, .inl (kA 0, 40, .inl u21.2.2.2.2.1.2.2.2.2.2.2)), (a_md 30, .inl (kA 3, 17, .inl u21.2.2.2.2.2.1))] := hD
    refine lv_goto (tgt := 28) hx hb dX6_readClock_24 (by decide) ?_
    exact j28 _ _ _ ls h hP hD hS hl
