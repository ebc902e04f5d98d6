abbrev rm5_isBlank : Room := { frames := 0, cells := 0, slots := 0, locals := 0 }
set_option maxHeartbeats 4000000 in
set_option maxRecDepth 100000 in
theorem c5_isBlank (l : Launch) (D : va_G) (kA : Nat → ClassId)  (p1 : Int32) (res : Int32) (h : f5_isBlank p1 = some res) : Ro l yX5_isBlank cX5_isBlank 1 (some .boolean) rm5_isBlank D kA [.int p1] [] (.int res) := by
  refine Ro.of (by decide +kernel) (Nat.le_of_ble_eq_true rfl) ?_
  intro p e s m args below meth c hF hP hK ls hl
  generalize hQ : roQ below _ args s = Q
  obtain ⟨hx, hb, hml, hown, hr, hk, hts, hN⟩ := hF
  have hl : lv_has ls 1 [(0, .int p1)] := hl
  unfold f5_isBlank at h
  refine lv_iload_n hx hb dX5_isBlank_0 rfl (lv_at hl 0 rfl) ?_
  refine lv_bipush (v := 32) hx hb dX5_isBlank_1 (by decide) ?_
  refine lv_icmp_eq (tgt := 12) hx hb dX5_isBlank_3 (by decide) (fun bc => ?_) (fun bc => ?_)
  · have h := ite_t bc h
    refine lv_iconst (v := 1) hx hb dX5_isBlank_12 (by decide) ?_
    refine lv_goto (tgt := 17) hx hb dX5_isBlank_13 (by decide) ?_
    obtain rfl := Option.some.inj h
    rw [← hQ]
    exact ro_zreturn hx hb hr hk nz_Z1 dX5_isBlank_17
  · have h := ite_f bc h
    refine lv_iload_n hx hb dX5_isBlank_6 rfl (lv_at hl 0 rfl) ?_
    refine lv_bipush (v := 10) hx hb dX5_isBlank_7 (by decide) ?_
    refine lv_icmp_ne (tgt := 16) hx hb dX5_isBlank_9 (by decide) (fun bc => ?_) (fun bc => ?_)
    · have h := ite_f bc h
      refine lv_iconst (v := 0) hx hb dX5_isBlank_16 (by decide) ?_
      obtain rfl := Option.some.inj h
      rw [← hQ]
      exact ro_zreturn hx hb hr hk nz_Z0 dX5_isBlank_17
    · have h := ite_t bc h
      refine lv_iconst (v := 1) hx hb dX5_isBlank_12 (by decide) ?_
      refine lv_goto (tgt := 17) hx hb dX5_isBlank_13 (by decide) ?_
      obtain rfl := Option.some.inj h
      rw [← hQ]
      exact ro_zreturn hx hb hr hk nz_Z1 dX5_isBlank_17
abbrev rm2_takeWord : Room := { frames := 1, cells := 0, slots := 0, locals := 21 }
set_option maxHeartbeats 4000000 in
set_option maxRecDepth 100000 in
theorem c2_takeWord (l : Launch) (D : va_G) (kA : Nat → ClassId) (a_rd : Nat → Nat) (a_tp : Nat → Nat) (a_sh : Nat → Nat) (F : Nat) (rd : T2) (tp : T4) (res : T2) (h : f2_takeWord F rd tp = some res) : Rw l yX2_takeWord cX2_takeWord 3 none rm2_takeWord D kA [.ref (a_rd 0)] [(a_rd 0, .inr (2, [.ref (a_tp 0), .ref (a_rd 2), .ref (a_rd 3), .ref (a_rd 4), .ref (a_rd 5), .ref (a_sh 0), .int rd.2.2.2.2.1, .int rd.2.2.2.2.2])), (a_rd 2, .inl (kA 0, 12, .inl rd.1)), (a_rd 3, .inl (kA 0, 12, .inl rd.2.1)), (a_rd 4, .inl (kA 0, 80, .inl rd.2.2.1)), (a_rd 5, .inl (kA 0, 80, .inl rd.2.2.2.1)), (a_tp 0, .inr (4, [.ref (a_tp 1), .int tp.2])), (a_tp 1, .inl (kA 1, 1200, .inl tp.1))] none [(a_rd 0, .inr (2, [.ref (a_tp 0), .ref (a_rd 2), .ref (a_rd 3), .ref (a_rd 4), .ref (a_rd 5), .ref (a_sh 0), .int res.2.2.2.2.1, .int res.2.2.2.2.2])), (a_rd 2, .inl (kA 0, 12, .inl res.1)), (a_rd 3, .inl (kA 0, 12, .inl res.2.1)), (a_rd 4, .inl (kA 0, 80, .inl res.2.2.1)), (a_rd 5, .inl (kA 0, 80, .inl res.2.2.2.1)), (a_tp 0, .inr (4, [.ref (a_tp 1), .int tp.2])), (a_tp 1, .inl (kA 1, 1200, .inl tp.1))] := by
  refine Rw.of (by decide) (Nat.le_of_ble_eq_true rfl) ?_
  intro p e s m args below meth c A hF hP hD hS hA hK ls hl
  generalize hQ : rwQ below D A _ _ args s = Q
  obtain ⟨hx, hb, hml, hown, hr, hk, hts, hN⟩ := hF
  have hl : lv_has ls 3 [(0, .ref (a_rd 0))] := hl
  unfold f2_takeWord at h
  refine lv_aload_n hx hb dX2_takeWord_0 rfl (lv_at hl 0 rfl) ?_
  refine va_get (D := D) (ci := 2) (v := .int rd.2.2.2.2.2) (C := "ConstraintText$Reader") (T := TX2) (N := 8) hx hb hts ing2 hown hK hP 0 rfl rfl 7 (by decide) (hts _ tw_227) (fun _ h9 => h9) rfl dX2_takeWord_1 ?_
  refine lv_istore_n (lv' := [(1, .int rd.2.2.2.2.2), (0, .ref (a_rd 0))]) hx hb dX2_takeWord_4 rfl hl (by decide) rfl (fun ls hl => ?_)
  obtain ⟨k5, e5, hk5, hi5, hc5⟩ := bnd_name h
  have x36w : ∀ (x36 : Int32) (H : Heap) (locs : List Loc) (ls : Array Slot), k5 x36 = some res → va_P D vwCl [(a_rd 0, .inr (2, [.ref (a_tp 0), .ref (a_rd 2), .ref (a_rd 3), .ref (a_rd 4), .ref (a_rd 5), .ref (a_sh 0), .int rd.2.2.2.2.1, .int rd.2.2.2.2.2])), (a_rd 2, .inl (kA 0, 12, .inl rd.1)), (a_rd 3, .inl (kA 0, 12, .inl rd.2.1)), (a_rd 4, .inl (kA 0, 80, .inl rd.2.2.1)), (a_rd 5, .inl (kA 0, 80, .inl rd.2.2.2.1)), (a_tp 0, .inr (4, [.ref (a_tp 1), .int tp.2])), (a_tp 1, .inl (kA 1, 1200, .inl tp.1))] H → va_D A [(a_rd 0, .inr (2, [.ref (a_tp 0), .ref (a_rd 2), .ref (a_rd 3), .ref (a_rd 4), .ref (a_rd 5), .ref (a_sh 0), .int rd.2.2.2.2.1, .int rd.2.2.2.2.2])), (a_rd 2, .inl (kA 0, 12, .inl rd.1)), (a_rd 3, .inl (kA 0, 12, .inl rd.2.1)), (a_rd 4, .inl (kA 0, 80, .inl rd.2.2.1)), (a_rd 5, .inl (kA 0, 80, .inl rd.2.2.2.1)), (a_tp 0, .inr (4, [.ref (a_tp 1), .int tp.2])), (a_tp 1, .inl (kA 1, 1200, .inl tp.1))] → va_S A s.heap H locs → lv_has ls 3 [(0, .ref (a_rd 0)), (1, .int x36)] → W p l e rm2_takeWord s m args below meth c H locs 0 0 Q (F0 m 36 ls []) := by
    intro x36 H locs ls h hP hD hS hl
    have h := app_of hk5 h
    refine lv_iload_n hx hb dX2_takeWord_36 rfl (lv_at hl 1 rfl) ?_
    refine lv_istore_n (lv' := [(2, .int x36), (0, .ref (a_rd 0)), (1, .int x36)]) hx hb dX2_takeWord_37 rfl hl (by decide) rfl (fun ls hl => ?_)
    obtain ⟨k38, e38, hk38, hi38, hc38⟩ := bnd_name h
    have x82w : ∀ (x82 : Int32) (H : Heap) (locs : List Loc) (ls : Array Slot), k38 x82 = some res → va_P D vwCl [(a_rd 0, .inr (2, [.ref (a_tp 0), .ref (a_rd 2), .ref (a_rd 3), .ref (a_rd 4), .ref (a_rd 5), .ref (a_sh 0), .int rd.2.2.2.2.1, .int rd.2.2.2.2.2])), (a_rd 2, .inl (kA 0, 12, .inl rd.1)), (a_rd 3, .inl (kA 0, 12, .inl rd.2.1)), (a_rd 4, .inl (kA 0, 80, .inl rd.2.2.1)), (a_rd 5, .inl (kA 0, 80, .inl rd.2.2.2.1)), (a_tp 0, .inr (4, [.ref (a_tp 1), .int tp.2])), (a_tp 1, .inl (kA 1, 1200, .inl tp.1))] H → va_D A [(a_rd 0, .inr (2, [.ref (a_tp 0), .ref (a_rd 2), .ref (a_rd 3), .ref (a_rd 4), .ref (a_rd 5), .ref (a_sh 0), .int rd.2.2.2.2.1, .int rd.2.2.2.2.2])), (a_rd 2, .inl (kA 0, 12, .inl rd.1)), (a_rd 3, .inl (kA 0, 12, .inl rd.2.1)), (a_rd 4, .inl (kA 0, 80, .inl rd.2.2.1)), (a_rd 5, .inl (kA 0, 80, .inl rd.2.2.2.1)), (a_tp 0, .inr (4, [.ref (a_tp 1), .int tp.2])), (a_tp 1, .inl (kA 1, 1200, .inl tp.1))] → va_S A s.heap H locs → lv_has ls 3 [(0, .ref (a_rd 0)), (1, .int x36), (2, .int x82)] → W p l e rm2_takeWord s m args below meth c H locs 0 0 Q (F0 m 82 ls []) := by
      intro x82 H locs ls h hP hD hS hl
      have h := app_of hk38 h
      refine lv_iload_n hx hb dX2_takeWord_82 rfl (lv_at hl 2 rfl) ?_
      refine lv_iload_n hx hb dX2_takeWord_83 rfl (lv_at hl 1 rfl) ?_
      obtain ⟨k103, hk103, h⟩ := jn_name h
      have j103 : ∀ (v103 : Int32) (H : Heap) (locs : List Loc) (ls : Array Slot), k103 v103 = some res → va_P D vwCl [(a_rd 0, .inr (2, [.ref (a_tp 0), .ref (a_rd 2), .ref (a_rd 3), .ref (a_rd 4), .ref (a_rd 5), .ref (a_sh 0), .int rd.2.2.2.2.1, .int rd.2.2.2.2.2])), (a_rd 2, .inl (kA 0, 12, .inl rd.1)), (a_rd 3, .inl (kA 0, 12, .inl rd.2.1)), (a_rd 4, .inl (kA 0, 80, .inl rd.2.2.1)), (a_rd 5, .inl (kA 0, 80, .inl rd.2.2.2.1)), (a_tp 0, .inr (4, [.ref (a_tp 1), .int tp.2])), (a_tp 1, .inl (kA 1, 1200, .inl tp.1))] H → va_D A [(a_rd 0, .inr (2, [.ref (a_tp 0), .ref (a_rd 2), .ref (a_rd 3), .ref (a_rd 4), .ref (a_rd 5), .ref (a_sh 0), .int rd.2.2.2.2.1, .int rd.2.2.2.2.2])), (a_rd 2, .inl (kA 0, 12, .inl rd.1)), (a_rd 3, .inl (kA 0, 12, .inl rd.2.1)), (a_rd 4, .inl (kA 0, 80, .inl rd.2.2.1)), (a_rd 5, .inl (kA 0, 80, .inl rd.2.2.2.1)), (a_tp 0, .inr (4, [.ref (a_tp 1), .int tp.2])), (a_tp 1, .inl (kA 1, 1200, .inl tp.1))] → va_S A s.heap H locs → lv_has ls 3 [(0, .ref (a_rd 0)), (1, .int x36), (2, .int v103)] → W p l e rm2_takeWord s m args below meth c H locs 0 0 Q (F0 m 103 ls []) := by
        intro v103 H locs ls h hP hD hS hl
        have h := app_of hk103 h
        refine lv_aload_n hx hb dX2_takeWord_103 rfl (lv_at hl 0 rfl) ?_
        refine lv_iload_n hx hb dX2_takeWord_104 rfl (lv_at hl 1 rfl) ?_
        refine va_put (D := D) (ci := 2) (v := .int x36) (ty := .int) (C := "ConstraintText$Reader") (T := TX2) (N := 8) hx hb hts ing2 tyX2 tyX2_ok nmX2 hown hK hP hD hS 0 rfl rfl 6 (by decide) (hts _ tw_226) (fun _ h9 => h9) rfl (tyX2_ok 6 (by decide)) rfl rfl (Nat.le_of_ble_eq_true rfl) dX2_takeWord_105 (fun H locs hP hD hS => ?_)
        have hP : va_P D vwCl [(a_rd 0, .inr (2, [.ref (a_tp 0), .ref (a_rd 2), .ref (a_rd 3), .ref (a_rd 4), .ref (a_rd 5), .ref (a_sh 0), .int x36, .int rd.2.2.2.2.2])), (a_rd 2, .inl (kA 0, 12, .inl rd.1)), (a_rd 3, .inl (kA 0, 12, .inl rd.2.1)), (a_rd 4, .inl (kA 0, 80, .inl rd.2.2.1)), (a_rd 5, .inl (kA 0, 80, .inl rd.2.2.2.1)), (a_tp 0, .inr (4, [.ref (a_tp 1), .int tp.2])), (a_tp 1, .inl (kA 1, 1200, .inl tp.1))] H := hP
        have hD : va_D A [(a_rd 0, .inr (2, [.ref (a_tp 0), .ref (a_rd 2), .ref (a_rd 3), .ref (a_rd 4), .ref (a_rd 5), .ref (a_sh 0), .int x36, .int rd.2.2.2.2.2])), (a_rd 2, .inl (kA 0, 12, .inl rd.1)), (a_rd 3, .inl (kA 0, 12, .inl rd.2.1)), (a_rd 4, .inl (kA 0, 80, .inl rd.2.2.1)), (a_rd 5, .inl (kA 0, 80, .inl rd.2.2.2.1)), (a_tp 0, .inr (4, [.ref (a_tp 1), .int tp.2])), (a_tp 1, .inl (kA 1, 1200, .inl tp.1))] := hD
        refine lv_aload_n hx hb dX2_takeWord_108 rfl (lv_at hl 0 rfl) ?_
        refine lv_iload_n hx hb dX2_takeWord_109 rfl (lv_at hl 2 rfl) ?_
        refine va_put (D := D) (ci := 2) (v := .int v103) (ty := .int) (C := "ConstraintText$Reader") (T := TX2) (N := 8) hx hb hts ing2 tyX2 tyX2_ok nmX2 hown hK hP hD hS 0 rfl rfl 7 (by decide) (hts _ tw_227) (fun _ h9 => h9) rfl (tyX2_ok 7 (by decide)) rfl rfl (Nat.le_of_ble_eq_true rfl) dX2_takeWord_110 (fun H locs hP hD hS => ?_)
        have hP : va_P D vwCl [(a_rd 0, .inr (2, [.ref (a_tp 0), .ref (a_rd 2), .ref (a_rd 3), .ref (a_rd 4), .ref (a_rd 5), .ref (a_sh 0), .int x36, .int v103])), (a_rd 2, .inl (kA 0, 12, .inl rd.1)), (a_rd 3, .inl (kA 0, 12, .inl rd.2.1)), (a_rd 4, .inl (kA 0, 80, .inl rd.2.2.1)), (a_rd 5, .inl (kA 0, 80, .inl rd.2.2.2.1)), (a_tp 0, .inr (4, [.ref (a_tp 1), .int tp.2])), (a_tp 1, .inl (kA 1, 1200, .inl tp.1))] H := hP
        have hD : va_D A [(a_rd 0, .inr (2, [.ref (a_tp 0), .ref (a_rd 2), .ref (a_rd 3), .ref (a_rd 4), .ref (a_rd 5), .ref (a_sh 0), .int x36, .int v103])), (a_rd 2, .inl (kA 0, 12, .inl rd.1)), (a_rd 3, .inl (kA 0, 12, .inl rd.2.1)), (a_rd 4, .inl (kA 0, 80, .inl rd.2.2.1)), (a_rd 5, .inl (kA 0, 80, .inl rd.2.2.2.1)), (a_tp 0, .inr (4, [.ref (a_tp 1), .int tp.2])), (a_tp 1, .inl (kA 1, 1200, .inl tp.1))] := hD
        obtain rfl := Option.some.inj h
        rw [← hQ]
        exact rw_return hx hb hr hk  dX2_takeWord_113  hP hD hS
      refine lv_icmp_ne (tgt := 103) hx hb dX2_takeWord_84 (by decide) (fun bc => ?_) (fun bc => ?_)
      · have h := ite_f bc h
        exact j103 _ _ _ ls h hP hD hS hl
      · have h := ite_t bc h
        refine lv_aload_n hx hb dX2_takeWord_87 rfl (lv_at hl 0 rfl) ?_
        refine va_get (D := D) (ci := 2) (v := .ref (a_tp 0)) (C := "ConstraintText$Reader") (T := TX2) (N := 8) hx hb hts ing2 hown hK hP 0 rfl rfl 0 (by decide) (hts _ tw_219) (fun _ h9 => h9) rfl dX2_takeWord_88 ?_
        refine lv_iload_n hx hb dX2_takeWord_91 rfl (lv_at hl 2 rfl) ?_
        obtain ⟨u92, hc_92, h⟩ := bnd_some h
        refine ro_V (n := 1) (As := [.int x82]) (rest := []) hx hb hml hown hts hN hS hK hP (c4_at l D kA a_tp x82 tp u92 hc_92) [5, 6] rfl 5 4 rfl rfl rfl tw_315 tw_316 tw_317 tw_76 tw_318 rfl rfl (by decide) ⟨Nat.le_of_ble_eq_true rfl, Nat.le_of_ble_eq_true rfl⟩ rfl hl.1 rfl (Nat.le_of_ble_eq_true rfl) dX2_takeWord_92 ⟨Nat.le_of_ble_eq_true rfl, Nat.le_of_ble_eq_true rfl⟩ ?_
        refine lv_bipush (v := 59) hx hb dX2_takeWord_95 (by decide) ?_
        refine lv_icmp_ne (tgt := 103) hx hb dX2_takeWord_97 (by decide) (fun bc => ?_) (fun bc => ?_)
        · have h := ite_f bc h
          exact j103 _ _ _ ls h hP hD hS hl
        · have h := ite_t bc h
          refine lv_iinc (v := (x82 + (1 : Int32))) (lv' := [(2, .int (x82 + (1 : Int32))), (0, .ref (a_rd 0)), (1, .int x36)]) hx hb dX2_takeWord_100 hl (k := 2) rfl rfl (by decide) rfl (fun ls hl => ?_)
          exact j103 _ _ _ ls h hP hD hS (lv_sub hl [1, 2, 0] rfl)
    have lp38 : ∀ (n38 : Nat) (s38 : Int32) (H : Heap) (locs : List Loc) (ls : Array Slot), iter (f2_takeWord_L38 tp) n38 s38 = some e38 → va_P D vwCl [(a_rd 0, .inr (2, [.ref (a_tp 0), .ref (a_rd 2), .ref (a_rd 3), .ref (a_rd 4), .ref (a_rd 5), .ref (a_sh 0), .int rd.2.2.2.2.1, .int rd.2.2.2.2.2])), (a_rd 2, .inl (kA 0, 12, .inl rd.1)), (a_rd 3, .inl (kA 0, 12, .inl rd.2.1)), (a_rd 4, .inl (kA 0, 80, .inl rd.2.2.1)), (a_rd 5, .inl (kA 0, 80, .inl rd.2.2.2.1)), (a_tp 0, .inr (4, [.ref (a_tp 1), .int tp.2])), (a_tp 1, .inl (kA 1, 1200, .inl tp.1))] H → va_D A [(a_rd 0, .inr (2, [.ref (a_tp 0), .ref (a_rd 2), .ref (a_rd 3), .ref (a_rd 4), .ref (a_rd 5), .ref (a_sh 0), .int rd.2.2.2.2.1, .int rd.2.2.2.2.2])), (a_rd 2, .inl (kA 0, 12, .inl rd.1)), (a_rd 3, .inl (kA 0, 12, .inl rd.2.1)), (a_rd 4, .inl (kA 0, 80, .inl rd.2.2.1)), (a_rd 5, .inl (kA 0, 80, .inl rd.2.2.2.1)), (a_tp 0, .inr (4, [.ref (a_tp 1), .int tp.2])), (a_tp 1, .inl (kA 1, 1200, .inl tp.1))] → va_S A s.heap H locs → lv_has ls 3 [(0, .ref (a_rd 0)), (1, .int x36), (2, .int s38)] → W p l e rm2_takeWord s m args below meth c H locs 0 0 Q (F0 m 38 ls []) := by
      intro n38
      induction n38 with
      | zero =>
        intro s38 H locs ls h hP hD hS hl
        exact (iter_zero h).elim
      | succ n38 ih38 =>
        intro s38 H locs ls h hP hD hS hl
        obtain ⟨z38, h, hL38, hR38⟩ := iter_split h
        unfold f2_takeWord_L38 at h
        refine lv_iload_n hx hb dX2_takeWord_38 rfl (lv_at hl 2 rfl) ?_
        refine lv_aload_n hx hb dX2_takeWord_39 rfl (lv_at hl 0 rfl) ?_
        refine va_get (D := D) (ci := 2) (v := .ref (a_tp 0)) (C := "ConstraintText$Reader") (T := TX2) (N := 8) hx hb hts ing2 hown hK hP 0 rfl rfl 0 (by decide) (hts _ tw_219) (fun _ h9 => h9) rfl dX2_takeWord_40 ?_
        refine va_getN (D := D) (ci := 4) (v := .int tp.2) (C := "ConstraintText$Tape") (T := TX4) (N := 2) hx hb hts ing4 hown hK hP 5 rfl rfl 1 (by decide) (va_Nw.use rfl (hN.1 _ nw_114)) (fun _ h9 => h9) rfl dX2_takeWord_43 ?_
        refine lv_icmp_ge (tgt := 82) hx hb dX2_takeWord_46 (by decide) (fun bc => ?_) (fun bc => ?_)
        · have h := ite_t bc h
          obtain rfl := Option.some.inj h
          exact x82w _ _ _ ls (eq_some_app (hR38 _ rfl) hc38) hP hD hS hl
        · have h := ite_f bc h
          refine lv_aload_n hx hb dX2_takeWord_49 rfl (lv_at hl 0 rfl) ?_
          refine va_get (D := D) (ci := 2) (v := .ref (a_tp 0)) (C := "ConstraintText$Reader") (T := TX2) (N := 8) hx hb hts ing2 hown hK hP 0 rfl rfl 0 (by decide) (hts _ tw_219) (fun _ h9 => h9) rfl dX2_takeWord_50 ?_
          refine lv_iload_n hx hb dX2_takeWord_53 rfl (lv_at hl 2 rfl) ?_
          obtain ⟨u54, hc_54, h⟩ := bnd_some h
          refine ro_V (n := 1) (As := [.int s38]) (rest := []) hx hb hml hown hts hN hS hK hP (c4_at l D kA a_tp s38 tp u54 hc_54) [5, 6] rfl 5 4 rfl rfl rfl tw_315 tw_316 tw_317 tw_76 tw_318 rfl rfl (by decide) ⟨Nat.le_of_ble_eq_true rfl, Nat.le_of_ble_eq_true rfl⟩ rfl hl.1 rfl (Nat.le_of_ble_eq_true rfl) dX2_takeWord_54 ⟨Nat.le_of_ble_eq_true rfl, Nat.le_of_ble_eq_true rfl⟩ ?_
          obtain ⟨u57, hc_57, h⟩ := bnd_some h
          refine ro_SN (n := 1) (As := [.int u54]) (rest := []) hx hb hml hown hts hN hS hK hP (c5_isBlank l D kA u54 u57 hc_57) [] rfl nw_319 tw_320 tw_74 tw_321 rfl rfl (by decide) ⟨Nat.le_of_ble_eq_true rfl, Nat.le_of_ble_eq_true rfl⟩ rfl hl.1 rfl (Nat.le_of_ble_eq_true rfl) dX2_takeWord_57 ⟨Nat.le_of_ble_eq_true rfl, Nat.le_of_ble_eq_true rfl⟩ ?_
          refine lv_if_ne (tgt := 82) hx hb dX2_takeWord_60 (by decide) (fun bc => ?_) (fun bc => ?_)
          · have h := ite_f bc h
            obtain rfl := Option.some.inj h
            exact x82w _ _ _ ls (eq_some_app (hR38 _ rfl) hc38) hP hD hS hl
          · have h := ite_t bc h
            refine lv_aload_n hx hb dX2_takeWord_63 rfl (lv_at hl 0 rfl) ?_
            refine va_get (D := D) (ci := 2) (v := .ref (a_tp 0)) (C := "ConstraintText$Reader") (T := TX2) (N := 8) hx hb hts ing2 hown hK hP 0 rfl rfl 0 (by decide) (hts _ tw_219) (fun _ h9 => h9) rfl dX2_takeWord_64 ?_
            refine lv_iload_n hx hb dX2_takeWord_67 rfl (lv_at hl 2 rfl) ?_
            obtain ⟨u68, hc_68, h⟩ := bnd_some h
            refine ro_V (n := 1) (As := [.int s38]) (rest := []) hx hb hml hown hts hN hS hK hP (c4_at l D kA a_tp s38 tp u68 hc_68) [5, 6] rfl 5 4 rfl rfl rfl tw_315 tw_316 tw_317 tw_76 tw_318 rfl rfl (by decide) ⟨Nat.le_of_ble_eq_true rfl, Nat.le_of_ble_eq_true rfl⟩ rfl hl.1 rfl (Nat.le_of_ble_eq_true rfl) dX2_takeWord_68 ⟨Nat.le_of_ble_eq_true rfl, Nat.le_of_ble_eq_true rfl⟩ ?_
            refine lv_bipush (v := 59) hx hb dX2_takeWord_71 (by decide) ?_
            refine lv_icmp_eq (tgt := 82) hx hb dX2_takeWord_73 (by decide) (fun bc => ?_) (fun bc => ?_)
            · have h := ite_t bc h
              obtain rfl := Option.some.inj h
              exact x82w _ _ _ ls (eq_some_app (hR38 _ rfl) hc38) hP hD hS hl
            · have h := ite_f bc h
              refine lv_iinc (v := (s38 + (1 : Int32))) (lv' := [(2, .int (s38 + (1 : Int32))), (0, .ref (a_rd 0)), (1, .int x36)]) hx hb dX2_takeWord_76 hl (k := 2) rfl rfl (by decide) rfl (fun ls hl => ?_)
              refine lv_goto (tgt := 38) hx hb dX2_takeWord_79 (by decide) ?_
              obtain rfl := Option.some.inj h
              exact ih38 _ _ _ ls (hL38 _ rfl) hP hD hS (lv_sub hl [1, 2, 0] rfl)
    exact lp38 F x36 _ _ ls hi38 hP hD hS (lv_sub hl [1, 2, 0] rfl)
  have lp5 : ∀ (n5 : Nat) (s5 : Int32) (H : Heap) (locs : List Loc) (ls : Array Slot), iter (f2_takeWord_L5 tp) n5 s5 = some e5 → va_P D vwCl [(a_rd 0, .inr (2, [.ref (a_tp 0), .ref (a_rd 2), .ref (a_rd 3), .ref (a_rd 4), .ref (a_rd 5), .ref (a_sh 0), .int rd.2.2.2.2.1, .int rd.2.2.2.2.2])), (a_rd 2, .inl (kA 0, 12, .inl rd.1)), (a_rd 3, .inl (kA 0, 12, .inl rd.2.1)), (a_rd 4, .inl (kA 0, 80, .inl rd.2.2.1)), (a_rd 5, .inl (kA 0, 80, .inl rd.2.2.2.1)), (a_tp 0, .inr (4, [.ref (a_tp 1), .int tp.2])), (a_tp 1, .inl (kA 1, 1200, .inl tp.1))] H → va_D A [(a_rd 0, .inr (2, [.ref (a_tp 0), .ref (a_rd 2), .ref (a_rd 3), .ref (a_rd 4), .ref (a_rd 5), .ref (a_sh 0), .int rd.2.2.2.2.1, .int rd.2.2.2.2.2])), (a_rd 2, .inl (kA 0, 12, .inl rd.1)), (a_rd 3, .inl (kA 0, 12, .inl rd.2.1)), (a_rd 4, .inl (kA 0, 80, .inl rd.2.2.1)), (a_rd 5, .inl (kA 0, 80, .inl rd.2.2.2.1)), (a_tp 0, .inr (4, [.ref (a_tp 1), .int tp.2])), (a_tp 1, .inl (kA 1, 1200, .inl tp.1))] → va_S A s.heap H locs → lv_has ls 3 [(0, .ref (a_rd 0)), (1, .int s5)] → W p l e rm2_takeWord s m args below meth c H locs 0 0 Q (F0 m 5 ls []) := by
    intro n5
    induction n5 with
    | zero =>
      intro s5 H locs ls h hP hD hS hl
      exact (iter_zero h).elim
    | succ n5 ih5 =>
      intro s5 H locs ls h hP hD hS hl
      obtain ⟨z5, h, hL5, hR5⟩ := iter_split h
      unfold f2_takeWord_L5 at h
      refine lv_iload_n hx hb dX2_takeWord_5 rfl (lv_at hl 1 rfl) ?_
      refine lv_aload_n hx hb dX2_takeWord_6 rfl (lv_at hl 0 rfl) ?_
      refine va_get (D := D) (ci := 2) (v := .ref (a_tp 0)) (C := "ConstraintText$Reader") (T := TX2) (N := 8) hx hb hts ing2 hown hK hP 0 rfl rfl 0 (by decide) (hts _ tw_219) (fun _ h9 => h9) rfl dX2_takeWord_7 ?_
      refine va_getN (D := D) (ci := 4) (v := .int tp.2) (C := "ConstraintText$Tape") (T := TX4) (N := 2) hx hb hts ing4 hown hK hP 5 rfl rfl 1 (by decide) (va_Nw.use rfl (hN.1 _ nw_114)) (fun _ h9 => h9) rfl dX2_takeWord_10 ?_
      refine lv_icmp_ge (tgt := 36) hx hb dX2_takeWord_13 (by decide) (fun bc => ?_) (fun bc => ?_)
      · have h := ite_t bc h
        obtain rfl := Option.some.inj h
        exact x36w _ _ _ ls (eq_some_app (hR5 _ rfl) hc5) hP hD hS hl
      · have h := ite_f bc h
        refine lv_aload_n hx hb dX2_takeWord_16 rfl (lv_at hl 0 rfl) ?_
        refine va_get (D := D) (ci := 2) (v := .ref (a_tp 0)) (C := "ConstraintText$Reader") (T := TX2) (N := 8) hx hb hts ing2 hown hK hP 0 rfl rfl 0 (by decide) (hts _ tw_219) (fun _ h9 => h9) rfl dX2_takeWord_17 ?_
        refine lv_iload_n hx hb dX2_takeWord_20 rfl (lv_at hl 1 rfl) ?_
        obtain ⟨u21, hc_21, h⟩ := bnd_some h
        refine ro_V (n := 1) (As := [.int s5]) (rest := []) hx hb hml hown hts hN hS hK hP (c4_at l D kA a_tp s5 tp u21 hc_21) [5, 6] rfl 5 4 rfl rfl rfl tw_315 tw_316 tw_317 tw_76 tw_318 rfl rfl (by decide) ⟨Nat.le_of_ble_eq_true rfl, Nat.le_of_ble_eq_true rfl⟩ rfl hl.1 rfl (Nat.le_of_ble_eq_true rfl) dX2_takeWord_21 ⟨Nat.le_of_ble_eq_true rfl, Nat.le_of_ble_eq_true rfl⟩ ?_
        obtain ⟨u24, hc_24, h⟩ := bnd_some h
        refine ro_SN (n := 1) (As := [.int u21]) (rest := []) hx hb hml hown hts hN hS hK hP (c5_isBlank l D kA u21 u24 hc_24) [] rfl nw_319 tw_320 tw_74 tw_321 rfl rfl (by decide) ⟨Nat.le_of_ble_eq_true rfl, Nat.le_of_ble_eq_true rfl⟩ rfl hl.1 rfl (Nat.le_of_ble_eq_true rfl) dX2_takeWord_24 ⟨Nat.le_of_ble_eq_true rfl, Nat.le_of_ble_eq_true rfl⟩ ?_
        refine lv_if_eq (tgt := 36) hx hb dX2_takeWord_27 (by decide) (fun bc => ?_) (fun bc => ?_)
        · have h := ite_t bc h
          obtain rfl := Option.some.inj h
          exact x36w _ _ _ ls (eq_some_app (hR5 _ rfl) hc5) hP hD hS hl
        · have h := ite_f bc h
          refine lv_iinc (v := (s5 + (1 : Int32))) (lv' := [(1, .int (s5 + (1 : Int32))), (0, .ref (a_rd 0))]) hx hb dX2_takeWord_30 hl (k := 1) rfl rfl (by decide) rfl (fun ls hl => ?_)
          refine lv_goto (tgt := 5) hx hb dX2_takeWord_33 (by decide) ?_
          obtain rfl := Option.some.inj h
          exact ih5 _ _ _ ls (hL5 _ rfl) hP hD hS (lv_sub hl [1, 0] rfl)
  exact lp5 F rd.2.2.2.2.2 _ _ ls hi5 hP hD hS (lv_sub hl [1, 0] rfl)
abbrev rm5_keyword : Room := { frames := 0, cells := 0, slots := 0, locals := 0 }
set_option maxHeartbeats 4000000 in
set_option maxRecDepth 100000 in
theorem c5_keyword (l : Launch) (adK adV : Nat → Nat) (D : va_G) (kA : Nat → ClassId)  (p1 : Int32) (res : Nat) (h : f5_keyword p1 = some res) : Rs l yX5_keyword cX5_keyword 1 (some (.object "java/lang/String")) rm5_keyword adK adV D kA [.int p1] [] (some (.ref (adK res))) := by
  refine Rs.of (by decide) (Nat.le_of_ble_eq_true rfl) ?_
  intro p e s m args below meth c hF hZ hP hK ls hl
  generalize hQ : rsQ below _ args s = Q
  obtain ⟨hx, hb, hml, hown, hr, hk, hts, hN⟩ := hF
  have hl : lv_has ls 1 [(0, .int p1)] := hl
  unfold f5_keyword at h
  refine lv_iload_n hx hb dX5_keyword_0 rfl (lv_at hl 0 rfl) ?_
  by_cases sw0 : p1 = (0 : Int32)
  · have h := ite_t sw0 h
    refine lv_tableIn (tgt := 52) hx hb dX5_keyword_1 (by rw [sw0]; decide) (by rw [sw0]; decide) (by rw [sw0]; rfl) (by decide) ?_
    refine va_ldcS hx hb hown (hZ.2.1 9 (by decide)) dX5_keyword_52 ?_
    obtain rfl := Option.some.inj h
    rw [← hQ]
    exact rs_areturn hx hb hr hk  dX5_keyword_54
  · have h := ite_f sw0 h
    by_cases sw1 : p1 = (1 : Int32)
    · have h := ite_t sw1 h
      refine lv_tableIn (tgt := 55) hx hb dX5_keyword_1 (by rw [sw1]; decide) (by rw [sw1]; decide) (by rw [sw1]; rfl) (by decide) ?_
      refine va_ldcS hx hb hown (hZ.2.1 10 (by decide)) dX5_keyword_55 ?_
      obtain rfl := Option.some.inj h
      rw [← hQ]
      exact rs_areturn hx hb hr hk  dX5_keyword_57
    · have h := ite_f sw1 h
      by_cases sw2 : p1 = (2 : Int32)
      · have h := ite_t sw2 h
        refine lv_tableIn (tgt := 58) hx hb dX5_keyword_1 (by rw [sw2]; decide) (by rw [sw2]; decide) (by rw [sw2]; rfl) (by decide) ?_
        refine va_ldcS hx hb hown (hZ.2.1 11 (by decide)) dX5_keyword_58 ?_
        obtain rfl := Option.some.inj h
        rw [← hQ]
        exact rs_areturn hx hb hr hk  dX5_keyword_60
      · have h := ite_f sw2 h
        by_cases sw3 : p1 = (3 : Int32)
        · have h := ite_t sw3 h
          refine lv_tableIn (tgt := 61) hx hb dX5_keyword_1 (by rw [sw3]; decide) (by rw [sw3]; decide) (by rw [sw3]; rfl) (by decide) ?_
          refine va_ldcS hx hb hown (hZ.2.1 12 (by decide)) dX5_keyword_61 ?_
          obtain rfl := Option.some.inj h
          rw [← hQ]
          exact rs_areturn hx hb hr hk  dX5_keyword_63
        · have h := ite_f sw3 h
          by_cases sw4 : p1 = (4 : Int32)
          · have h := ite_t sw4 h
            refine lv_tableIn (tgt := 64) hx hb dX5_keyword_1 (by rw [sw4]; decide) (by rw [sw4]; decide) (by rw [sw4]; rfl) (by decide) ?_
            refine va_ldcS hx hb hown (hZ.2.1 13 (by decide)) dX5_keyword_64 ?_
            obtain rfl := Option.some.inj h
            rw [← hQ]
            exact rs_areturn hx hb hr hk  dX5_keyword_66
          · have h := ite_f sw4 h
            by_cases sw5 : p1 = (5 : Int32)
            · have h := ite_t sw5 h
              refine lv_tableIn (tgt := 67) hx hb dX5_keyword_1 (by rw [sw5]; decide) (by rw [sw5]; decide) (by rw [sw5]; rfl) (by decide) ?_
              refine va_ldcS hx hb hown (hZ.2.1 14 (by decide)) dX5_keyword_67 ?_
              obtain rfl := Option.some.inj h
              rw [← hQ]
              exact rs_areturn hx hb hr hk  dX5_keyword_69
            · have h := ite_f sw5 h
              by_cases sw6 : p1 = (6 : Int32)
              · have h := ite_t sw6 h
                refine lv_tableIn (tgt := 70) hx hb dX5_keyword_1 (by rw [sw6]; decide) (by rw [sw6]; decide) (by rw [sw6]; rfl) (by decide) ?_
                refine va_ldcS hx hb hown (hZ.2.1 15 (by decide)) dX5_keyword_70 ?_
                obtain rfl := Option.some.inj h
                rw [← hQ]
                exact rs_areturn hx hb hr hk  dX5_keyword_72
              · have h := ite_f sw6 h
                by_cases sw7 : p1 = (7 : Int32)
                · have h := ite_t sw7 h
                  refine lv_tableIn (tgt := 73) hx hb dX5_keyword_1 (by rw [sw7]; decide) (by rw [sw7]; decide) (by rw [sw7]; rfl) (by decide) ?_
                  refine va_ldcS hx hb hown (hZ.2.1 16 (by decide)) dX5_keyword_73 ?_
                  obtain rfl := Option.some.inj h
                  rw [← hQ]
                  exact rs_areturn hx hb hr hk  dX5_keyword_75
                · have h := ite_f sw7 h
                  by_cases sw8 : p1 = (8 : Int32)
                  · have h := ite_t sw8 h
                    refine lv_tableIn (tgt := 76) hx hb dX5_keyword_1 (by rw [sw8]; decide) (by rw [sw8]; decide) (by rw [sw8]; rfl) (by decide) ?_
                    refine va_ldcS hx hb hown (hZ.2.1 17 (by decide)) dX5_keyword_76 ?_
                    obtain rfl := Option.some.inj h
                    rw [← hQ]
                    exact rs_areturn hx hb hr hk  dX5_keyword_78
                  · have h := ite_f sw8 h
                    refine lv_tableOut (tgt := 79) hx hb dX5_keyword_1 (by have q0 := lv_neT (a := 0) sw0 (by decide); have q1 := lv_neT (a := 1) sw1 (by decide); have q2 := lv_neT (a := 2) sw2 (by decide); have q3 := lv_neT (a := 3) sw3 (by decide); have q4 := lv_neT (a := 4) sw4 (by decide); have q5 := lv_neT (a := 5) sw5 (by decide); have q6 := lv_neT (a := 6) sw6 (by decide); have q7 := lv_neT (a := 7) sw7 (by decide); have q8 := lv_neT (a := 8) sw8 (by decide); omega) (by decide) ?_
                    refine va_ldcS hx hb hown (hZ.2.1 18 (by decide)) dX5_keyword_79 ?_
                    obtain rfl := Option.some.inj h
                    rw [← hQ]
                    exact rs_areturn hx hb hr hk  dX5_keyword_81
abbrev rm2_isInHand : Room := { frames := 4, cells := 0, slots := 0, locals := 85 }
set_option maxHeartbeats 4000000 in
set_option maxRecDepth 100000 in
theorem c2_isInHand (l : Launch) (adK adV : Nat → Nat) (D : va_G) (kA : Nat → ClassId) (a_rd : Nat → Nat) (a_tp : Nat → Nat) (a_sh : Nat → Nat) (F : Nat) (p1 : Nat) (rd : T2) (tp : T4) (res : Int32) (h : f2_isInHand F p1 rd tp = some res) : Rs l yX2_isInHand cX2_isInHand 3 (some .boolean) rm2_isInHand adK adV D kA [.ref (a_rd 0), .ref (adK p1)] [(a_rd 0, .inr (2, [.ref (a_tp 0), .ref (a_rd 2), .ref (a_rd 3), .ref (a_rd 4), .ref (a_rd 5), .ref (a_sh 0), .int rd.2.2.2.2.1, .int rd.2.2.2.2.2])), (a_rd 2, .inl (kA 0, 12, .inl rd.1)), (a_rd 3, .inl (kA 0, 12, .inl rd.2.1)), (a_rd 4, .inl (kA 0, 80, .inl rd.2.2.1)), (a_rd 5, .inl (kA 0, 80, .inl rd.2.2.2.1)), (a_tp 0, .inr (4, [.ref (a_tp 1), .int tp.2])), (a_tp 1, .inl (kA 1, 1200, .inl tp.1))] (some (.int res)) := by
  refine Rs.of (by decide) (Nat.le_of_ble_eq_true rfl) ?_
  intro p e s m args below meth c hF hZ hP hK ls hl
  generalize hQ : rsQ below _ args s = Q
  obtain ⟨hx, hb, hml, hown, hr, hk, hts, hN⟩ := hF
  have hl : lv_has ls 3 [(0, .ref (a_rd 0)), (1, .ref (adK p1))] := hl
  unfold f2_isInHand at h
  refine lv_aload_n hx hb dX2_isInHand_0 rfl (lv_at hl 1 rfl) ?_
  obtain ⟨g1, h⟩ := grd_some h
  refine rs_V (n := 0) (As := []) (rest := []) hx hb hml hown hts hN hZ va_S.rf hK hP (cJ0_length l adK adV D kA p1 (of_decide_eq_true g1)) [] rfl (vk_recv hZ.1 (of_decide_eq_true g1) va_S.rf) tw_347 tw_348 tw_349 tw_86 tw_350 rfl rfl (by decide) ⟨Nat.le_of_ble_eq_true rfl, Nat.le_of_ble_eq_true rfl⟩ rfl hl.1 rfl (Nat.le_of_ble_eq_true rfl) dX2_isInHand_1 ⟨Nat.le_of_ble_eq_true rfl, Nat.le_of_ble_eq_true rfl⟩ ?_
  refine lv_aload_n hx hb dX2_isInHand_4 rfl (lv_at hl 0 rfl) ?_
  refine va_get (D := D) (ci := 2) (v := .int rd.2.2.2.2.2) (C := "ConstraintText$Reader") (T := TX2) (N := 8) hx hb hts ing2 hown hK hP 0 rfl rfl 7 (by decide) (hts _ tw_227) (fun _ h9 => h9) rfl dX2_isInHand_5 ?_
  refine lv_aload_n hx hb dX2_isInHand_8 rfl (lv_at hl 0 rfl) ?_
  refine va_get (D := D) (ci := 2) (v := .int rd.2.2.2.2.1) (C := "ConstraintText$Reader") (T := TX2) (N := 8) hx hb hts ing2 hown hK hP 0 rfl rfl 6 (by decide) (hts _ tw_226) (fun _ h9 => h9) rfl dX2_isInHand_9 ?_
  refine lv_isub hx hb dX2_isInHand_12 ?_
  refine lv_icmp_eq (tgt := 18) hx hb dX2_isInHand_13 (by decide) (fun bc => ?_) (fun bc => ?_)
  · have h := ite_t bc h
    refine lv_iconst (v := 0) hx hb dX2_isInHand_18 (by decide) ?_
    refine lv_istore_n (lv' := [(2, .int (0 : Int32)), (0, .ref (a_rd 0)), (1, .ref (adK p1))]) hx hb dX2_isInHand_19 rfl hl (by decide) rfl (fun ls hl => ?_)
    obtain ⟨k20, e20, hk20, hi20, hc20⟩ := bnd_name h
    have x49w : ∀ (x49 : Unit) (ls : Array Slot), k20 (.inl x49) = some res → lv_has ls 3 [] → W p l e rm2_isInHand s m args below meth c s.heap [] 0 0 Q (F0 m 49 ls []) := by
      intro x49 ls h hl
      have h := app_of hk20 h
      have h := cas_l h
      refine lv_iconst (v := 0) hx hb dX2_isInHand_49 (by decide) ?_
      obtain rfl := Option.some.inj h
      rw [← hQ]
      exact rs_zreturn hx hb hr hk nz_Z0 dX2_isInHand_50
    have x57w : ∀ (x57 : Unit) (ls : Array Slot), k20 (.inr x57) = some res → lv_has ls 3 [] → W p l e rm2_isInHand s m args below meth c s.heap [] 0 0 Q (F0 m 57 ls []) := by
      intro x57 ls h hl
      have h := app_of hk20 h
      have h := cas_r h
      refine lv_iconst (v := 1) hx hb dX2_isInHand_57 (by decide) ?_
      obtain rfl := Option.some.inj h
      rw [← hQ]
      exact rs_zreturn hx hb hr hk nz_Z1 dX2_isInHand_58
    have lp20 : ∀ (n20 : Nat) (s20 : Int32) (ls : Array Slot), iter (f2_isInHand_L20 p1 rd tp) n20 s20 = some e20 → lv_has ls 3 [(0, .ref (a_rd 0)), (1, .ref (adK p1)), (2, .int s20)] → W p l e rm2_isInHand s m args below meth c s.heap [] 0 0 Q (F0 m 20 ls []) := by
      intro n20
      induction n20 with
      | zero =>
        intro s20 ls h hl
        exact (iter_zero h).elim
      | succ n20 ih20 =>
        intro s20 ls h hl
        obtain ⟨z20, h, hL20, hR20⟩ := iter_split h
        unfold f2_isInHand_L20 at h
        refine lv_iload_n hx hb dX2_isInHand_20 rfl (lv_at hl 2 rfl) ?_
        refine lv_aload_n hx hb dX2_isInHand_21 rfl (lv_at hl 1 rfl) ?_
        obtain ⟨g22, h⟩ := grd_some h
        refine rs_V (n := 0) (As := []) (rest := [.int s20]) hx hb hml hown hts hN hZ va_S.rf hK hP (cJ0_length l adK adV D kA p1 (of_decide_eq_true g22)) [] rfl (vk_recv hZ.1 (of_decide_eq_true g22) va_S.rf) tw_347 tw_348 tw_349 tw_86 tw_350 rfl rfl (by decide) ⟨Nat.le_of_ble_eq_true rfl, Nat.le_of_ble_eq_true rfl⟩ rfl hl.1 rfl (Nat.le_of_ble_eq_true rfl) dX2_isInHand_22 ⟨Nat.le_of_ble_eq_true rfl, Nat.le_of_ble_eq_true rfl⟩ ?_
        refine lv_icmp_ge (tgt := 57) hx hb dX2_isInHand_25 (by decide) (fun bc => ?_) (fun bc => ?_)
        · have h := ite_t bc h
          obtain rfl := Option.some.inj h
          exact x57w _ ls (eq_some_app (hR20 _ rfl) hc20) (lv_sub hl [] rfl)
        · have h := ite_f bc h
          refine lv_aload_n hx hb dX2_isInHand_28 rfl (lv_at hl 1 rfl) ?_
          refine lv_iload_n hx hb dX2_isInHand_29 rfl (lv_at hl 2 rfl) ?_
          obtain ⟨g30, h⟩ := grd_some h
          obtain ⟨g30b, h⟩ := grd_some h
          refine rs_V (n := 1) (As := [.int s20]) (rest := []) hx hb hml hown hts hN hZ va_S.rf hK hP (cJ0_charAt l adK adV D kA p1 (of_decide_eq_true g30) s20 (inb_in g30b)) [] rfl (vk_recv hZ.1 (of_decide_eq_true g30) va_S.rf) tw_357 tw_358 tw_359 tw_86 tw_360 rfl rfl (by decide) ⟨Nat.le_of_ble_eq_true rfl, Nat.le_of_ble_eq_true rfl⟩ rfl hl.1 rfl (Nat.le_of_ble_eq_true rfl) dX2_isInHand_30 ⟨Nat.le_of_ble_eq_true rfl, Nat.le_of_ble_eq_true rfl⟩ ?_
          refine lv_aload_n hx hb dX2_isInHand_33 rfl (lv_at hl 0 rfl) ?_
          refine va_get (D := D) (ci := 2) (v := .ref (a_tp 0)) (C := "ConstraintText$Reader") (T := TX2) (N := 8) hx hb hts ing2 hown hK hP 0 rfl rfl 0 (by decide) (hts _ tw_219) (fun _ h9 => h9) rfl dX2_isInHand_34 ?_
          refine lv_aload_n hx hb dX2_isInHand_37 rfl (lv_at hl 0 rfl) ?_
          refine va_get (D := D) (ci := 2) (v := .int rd.2.2.2.2.1) (C := "ConstraintText$Reader") (T := TX2) (N := 8) hx hb hts ing2 hown hK hP 0 rfl rfl 6 (by decide) (hts _ tw_226) (fun _ h9 => h9) rfl dX2_isInHand_38 ?_
          refine lv_iload_n hx hb dX2_isInHand_41 rfl (lv_at hl 2 rfl) ?_
          refine lv_iadd hx hb dX2_isInHand_42 ?_
          obtain ⟨u43, hc_43, h⟩ := bnd_some h
          refine ro_V (n := 1) (As := [.int (rd.2.2.2.2.1 + s20)]) (rest := [.int (sCh p1 s20)]) hx hb hml hown hts hN va_S.rf hK hP (c4_at l D kA a_tp (rd.2.2.2.2.1 + s20) tp u43 hc_43) [5, 6] rfl 5 4 rfl rfl rfl tw_315 tw_316 tw_317 tw_76 tw_318 rfl rfl (by decide) ⟨Nat.le_of_ble_eq_true rfl, Nat.le_of_ble_eq_true rfl⟩ rfl hl.1 rfl (Nat.le_of_ble_eq_true rfl) dX2_isInHand_43 ⟨Nat.le_of_ble_eq_true rfl, Nat.le_of_ble_eq_true rfl⟩ ?_
          refine lv_icmp_eq (tgt := 51) hx hb dX2_isInHand_46 (by decide) (fun bc => ?_) (fun bc => ?_)
          · have h := ite_t bc h
            refine lv_iinc (v := (s20 + (1 : Int32))) (lv' := [(2, .int (s20 + (1 : Int32))), (0, .ref (a_rd 0)), (1, .ref (adK p1))]) hx hb dX2_isInHand_51 hl (k := 2) rfl rfl (by decide) rfl (fun ls hl => ?_)
            refine lv_goto (tgt := 20) hx hb dX2_isInHand_54 (by decide) ?_
            obtain rfl := Option.some.inj h
            exact ih20 _ ls (hL20 _ rfl) (lv_sub hl [1, 2, 0] rfl)
          · have h := ite_f bc h
            obtain rfl := Option.some.inj h
            exact x49w _ ls (eq_some_app (hR20 _ rfl) hc20) (lv_sub hl [] rfl)
    exact lp20 F (0 : Int32) ls hi20 (lv_sub hl [1, 2, 0] rfl)
  · have h := ite_f bc h
    refine lv_iconst (v := 0) hx hb dX2_isInHand_16 (by decide) ?_
    obtain rfl := Option.some.inj h
    rw [← hQ]
    exact rs_zreturn hx hb hr hk nz_Z0 dX2_isInHand_17
abbrev rm2_sortInHand : Room := { frames := 5, cells := 0, slots := 0, locals := 107 }
set_option maxHeartbeats 4000000 in
set_option maxRecDepth 100000 in
theorem c2_sortInHand (l : Launch) (D : va_G) (kA : Nat → ClassId) (a_rd : Nat → Nat) (a_tp : Nat → Nat) (a_sh : Nat → Nat) (F : Nat) (rd : T2) (tp : T4) (res : Int32) (h : f2_sortInHand F rd tp = some res) : Ro l yX2_sortInHand cX2_sortInHand 2 (some .int) rm2_sortInHand D kA [.ref (a_rd 0)] [(a_rd 0, .inr (2, [.ref (a_tp 0), .ref (a_rd 2), .ref (a_rd 3), .ref (a_rd 4), .ref (a_rd 5), .ref (a_sh 0), .int rd.2.2.2.2.1, .int rd.2.2.2.2.2])), (a_rd 2, .inl (kA 0, 12, .inl rd.1)), (a_rd 3, .inl (kA 0, 12, .inl rd.2.1)), (a_rd 4, .inl (kA 0, 80, .inl rd.2.2.1)), (a_rd 5, .inl (kA 0, 80, .inl rd.2.2.2.1)), (a_tp 0, .inr (4, [.ref (a_tp 1), .int tp.2])), (a_tp 1, .inl (kA 1, 1200, .inl tp.1))] (.int res) := by
  refine Ro.of (by decide +kernel) (Nat.le_of_ble_eq_true rfl) ?_
  intro p e s m args below meth c hF hP hK ls hl
  generalize hQ : roQ below _ args s = Q
  obtain ⟨hx, hb, hml, hown, hr, hk, hts, hN⟩ := hF
  obtain ⟨hN1, adK, adV, hZ⟩ := id hN
  have hl : lv_has ls 2 [(0, .ref (a_rd 0))] := hl
  unfold f2_sortInHand at h
  refine lv_iconst (v := 0) hx hb dX2_sortInHand_0 (by decide) ?_
  refine lv_istore_n (lv' := [(1, .int (0 : Int32)), (0, .ref (a_rd 0))]) hx hb dX2_sortInHand_1 rfl hl (by decide) rfl (fun ls hl => ?_)
  obtain ⟨k2, e2, hk2, hi2, hc2⟩ := bnd_name h
  have x19w : ∀ (x19 : Int32) (ls : Array Slot), k2 (.inl x19) = some res → lv_has ls 2 [(1, .int x19)] → W p l e rm2_sortInHand s m args below meth c s.heap [] 0 0 Q (F0 m 19 ls []) := by
    intro x19 ls h hl
    have h := app_of hk2 h
    have h := cas_l h
    refine lv_iload_n hx hb dX2_sortInHand_19 rfl (lv_at hl 0 rfl) ?_
    obtain rfl := Option.some.inj h
    rw [← hQ]
    exact ro_ireturn hx hb hr hk  dX2_sortInHand_20
  have x27w : ∀ (x27 : Unit) (ls : Array Slot), k2 (.inr x27) = some res → lv_has ls 2 [] → W p l e rm2_sortInHand s m args below meth c s.heap [] 0 0 Q (F0 m 27 ls []) := by
    intro x27 ls h hl
    have h := app_of hk2 h
    have h := cas_r h
    refine lv_iconst (v := -1) hx hb dX2_sortInHand_27 (by decide) ?_
    obtain rfl := Option.some.inj h
    rw [← hQ]
    exact ro_ireturn hx hb hr hk  dX2_sortInHand_28
  have lp2 : ∀ (n2 : Nat) (s2 : Int32) (ls : Array Slot), iter (f2_sortInHand_L2 F rd tp) n2 s2 = some e2 → lv_has ls 2 [(0, .ref (a_rd 0)), (1, .int s2)] → W p l e rm2_sortInHand s m args below meth c s.heap [] 0 0 Q (F0 m 2 ls []) := by
    intro n2
    induction n2 with
    | zero =>
      intro s2 ls h hl
      exact (iter_zero h).elim
    | succ n2 ih2 =>
      intro s2 ls h hl
      obtain ⟨z2, h, hL2, hR2⟩ := iter_split h
      unfold f2_sortInHand_L2 at h
      refine lv_iload_n hx hb dX2_sortInHand_2 rfl (lv_at hl 1 rfl) ?_
      refine lv_bipush (v := 10) hx hb dX2_sortInHand_3 (by decide) ?_
      refine lv_icmp_ge (tgt := 27) hx hb dX2_sortInHand_5 (by decide) (fun bc => ?_) (fun bc => ?_)
      · have h := ite_t bc h
        obtain rfl := Option.some.inj h
        exact x27w _ ls (eq_some_app (hR2 _ rfl) hc2) (lv_sub hl [] rfl)
      · have h := ite_f bc h
        refine lv_aload_n hx hb dX2_sortInHand_8 rfl (lv_at hl 0 rfl) ?_
        refine lv_iload_n hx hb dX2_sortInHand_9 rfl (lv_at hl 1 rfl) ?_
        obtain ⟨u10, hc_10, h⟩ := bnd_some h
        refine rs_SN (n := 1) (As := [.int s2]) (rest := [.ref (a_rd 0)]) hx hb hml hown hts hN hZ va_S.rf hK hP (c5_keyword l adK adV D kA s2 u10 hc_10) [] rfl nw_330 tw_331 tw_74 tw_332 rfl rfl (by decide) ⟨Nat.le_of_ble_eq_true rfl, Nat.le_of_ble_eq_true rfl⟩ rfl hl.1 rfl (Nat.le_of_ble_eq_true rfl) dX2_sortInHand_10 ⟨Nat.le_of_ble_eq_true rfl, Nat.le_of_ble_eq_true rfl⟩ ?_
        obtain ⟨u13, hc_13, h⟩ := bnd_some h
        refine rs_V (n := 1) (As := [.ref (adK u10)]) (rest := []) hx hb hml hown hts hN hZ va_S.rf hK hP (c2_isInHand l adK adV D kA a_rd a_tp a_sh F u10 rd tp u13 hc_13) [0, 1, 2, 3, 4, 5, 6] rfl (va_recv hK hP (ci := 2) (q0 := 0) rfl rfl) tw_343 tw_345 tw_3 tw_75 tw_346 rfl rfl (by decide) ⟨Nat.le_of_ble_eq_true rfl, Nat.le_of_ble_eq_true rfl⟩ rfl hl.1 rfl (Nat.le_of_ble_eq_true rfl) dX2_sortInHand_13 ⟨Nat.le_of_ble_eq_true rfl, Nat.le_of_ble_eq_true rfl⟩ ?_
        refine lv_if_eq (tgt := 21) hx hb dX2_sortInHand_16 (by decide) (fun bc => ?_) (fun bc => ?_)
        · have h := ite_t bc h
          refine lv_iinc (v := (s2 + (1 : Int32))) (lv' := [(1, .int (s2 + (1 : Int32))), (0, .ref (a_rd 0))]) hx hb dX2_sortInHand_21 hl (k := 1) rfl rfl (by decide) rfl (fun ls hl => ?_)
          refine lv_goto (tgt := 2) hx hb dX2_sortInHand_24 (by decide) ?_
          obtain rfl := Option.some.inj h
          exact ih2 _ ls (hL2 _ rfl) (lv_sub hl [1, 0] rfl)
        · have h := ite_f bc h
          obtain rfl := Option.some.inj h
          exact x19w _ ls (eq_some_app (hR2 _ rfl) hc2) (lv_sub hl [1] rfl)
  exact lp2 F (0 : Int32) ls hi2 (lv_sub hl [1, 0] rfl)
abbrev rm3_open : Room := { frames := 0, cells := 0, slots := 0, locals := 0 }
set_option maxHeartbeats 4000000 in
set_option maxRecDepth 100000 in
theorem c3_open (l : Launch) (D : va_G) (kA : Nat → ClassId) (a_sh : Nat → Nat) (a_ck : Nat → Nat) (F : Nat) (p1 : Int32) (sh : T3) (res : T3) (h : f3_open F p1 sh = some res) : Rw l yX3_open cX3_open 3 none rm3_open D kA [.ref (a_sh 0), .int p1] [(a_sh 0, .inr (3, [.ref (a_sh 1), .ref (a_sh 2), .ref (a_sh 3), .ref (a_sh 4), .ref (a_sh 5), .ref (a_sh 6), .ref (a_sh 7), .ref (a_ck 0), .int sh.2.2.2.2.2.2.2.1, .int sh.2.2.2.2.2.2.2.2])), (a_sh 1, .inl (kA 0, 40, .inl sh.1)), (a_sh 2, .inl (kA 0, 40, .inl sh.2.1)), (a_sh 3, .inl (kA 0, 80, .inl sh.2.2.1)), (a_sh 4, .inl (kA 0, 120, .inl sh.2.2.2.1)), (a_sh 5, .inl (kA 0, 120, .inl sh.2.2.2.2.1)), (a_sh 6, .inl (kA 2, 120, .inr (.inl sh.2.2.2.2.2.1))), (a_sh 7, .inl (kA 1, 1240, .inl sh.2.2.2.2.2.2.1))] none [(a_sh 0, .inr (3, [.ref (a_sh 1), .ref (a_sh 2), .ref (a_sh 3), .ref (a_sh 4), .ref (a_sh 5), .ref (a_sh 6), .ref (a_sh 7), .ref (a_ck 0), .int res.2.2.2.2.2.2.2.1, .int res.2.2.2.2.2.2.2.2])), (a_sh 1, .inl (kA 0, 40, .inl res.1)), (a_sh 2, .inl (kA 0, 40, .inl res.2.1)), (a_sh 3, .inl (kA 0, 80, .inl res.2.2.1)), (a_sh 4, .inl (kA 0, 120, .inl res.2.2.2.1)), (a_sh 5, .inl (kA 0, 120, .inl res.2.2.2.2.1)), (a_sh 6, .inl (kA 2, 120, .inr (.inl res.2.2.2.2.2.1))), (a_sh 7, .inl (kA 1, 1240, .inl res.2.2.2.2.2.2.1))] := by
  refine Rw.of (by decide) (Nat.le_of_ble_eq_true rfl) ?_
  intro p e s m args below meth c A hF hP hD hS hA hK ls hl
  generalize hQ : rwQ below D A _ _ args s = Q
  obtain ⟨hx, hb, hml, hown, hr, hk, hts, hN⟩ := hF
  have hl : lv_has ls 3 [(0, .ref (a_sh 0)), (1, .int p1)] := hl
  unfold f3_open at h
  refine lv_aload_n hx hb dX3_open_0 rfl (lv_at hl 0 rfl) ?_
  refine va_get (D := D) (ci := 3) (v := .int sh.2.2.2.2.2.2.2.1) (C := "ConstraintText$Sheet") (T := TX3) (N := 10) hx hb hts ing3 hown hK hP 0 rfl rfl 8 (by decide) (hts _ tw_193) (fun _ h9 => h9) rfl dX3_open_1 ?_
  refine lv_bipush (v := 40) hx hb dX3_open_4 (by decide) ?_
  refine lv_icmp_ge (tgt := 107) hx hb dX3_open_6 (by decide) (fun bc => ?_) (fun bc => ?_)
  · have h := ite_t bc h
    obtain rfl := Option.some.inj h
    rw [← hQ]
    exact rw_return hx hb hr hk  dX3_open_107  hP hD hS
  · have h := ite_f bc h
    refine lv_aload_n hx hb dX3_open_9 rfl (lv_at hl 0 rfl) ?_
    refine va_get (D := D) (ci := 3) (v := .ref (a_sh 1)) (C := "ConstraintText$Sheet") (T := TX3) (N := 10) hx hb hts ing3 hown hK hP 0 rfl rfl 0 (by decide) (hts _ tw_180) (fun _ h9 => h9) rfl dX3_open_10 ?_
    refine lv_aload_n hx hb dX3_open_13 rfl (lv_at hl 0 rfl) ?_
    refine va_get (D := D) (ci := 3) (v := .int sh.2.2.2.2.2.2.2.1) (C := "ConstraintText$Sheet") (T := TX3) (N := 10) hx hb hts ing3 hown hK hP 0 rfl rfl 8 (by decide) (hts _ tw_193) (fun _ h9 => h9) rfl dX3_open_14 ?_
    refine lv_iload_n hx hb dX3_open_17 rfl (lv_at hl 1 rfl) ?_
    obtain ⟨g18, h⟩ := grd_some h
    refine va_iast hx hb hK hP hD hS 1 0 rfl rfl (inb_in g18) dX3_open_18 (fun H locs hP hD hS => ?_)
    have hP : va_P D vwCl [(a_sh 0, .inr (3, [.ref (a_sh 1), .ref (a_sh 2), .ref (a_sh 3), .ref (a_sh 4), .ref (a_sh 5), .ref (a_sh 6), .ref (a_sh 7), .ref (a_ck 0), .int sh.2.2.2.2.2.2.2.1, .int sh.2.2.2.2.2.2.2.2])), (a_sh 1, .inl (kA 0, 40, .inl (upd sh.1 sh.2.2.2.2.2.2.2.1.toNatClampNeg p1))), (a_sh 2, .inl (kA 0, 40, .inl sh.2.1)), (a_sh 3, .inl (kA 0, 80, .inl sh.2.2.1)), (a_sh 4, .inl (kA 0, 120, .inl sh.2.2.2.1)), (a_sh 5, .inl (kA 0, 120, .inl sh.2.2.2.2.1)), (a_sh 6, .inl (kA 2, 120, .inr (.inl sh.2.2.2.2.2.1))), (a_sh 7, .inl (kA 1, 1240, .inl sh.2.2.2.2.2.2.1))] H := hP
    have hD : va_D A [(a_sh 0, .inr (3, [.ref (a_sh 1), .ref (a_sh 2), .ref (a_sh 3), .ref (a_sh 4), .ref (a_sh 5), .ref (a_sh 6), .ref (a_sh 7), .ref (a_ck 0), .int sh.2.2.2.2.2.2.2.1, .int sh.2.2.2.2.2.2.2.2])), (a_sh 1, .inl (kA 0, 40, .inl (upd sh.1 sh.2.2.2.2.2.2.2.1.toNatClampNeg p1))), (a_sh 2, .inl (kA 0, 40, .inl sh.2.1)), (a_sh 3, .inl (kA 0, 80, .inl sh.2.2.1)), (a_sh 4, .inl (kA 0, 120, .inl sh.2.2.2.1)), (a_sh 5, .inl (kA 0, 120, .inl sh.2.2.2.2.1)), (a_sh 6, .inl (kA 2, 120, .inr (.inl sh.2.2.2.2.2.1))), (a_sh 7, .inl (kA 1, 1240, .inl sh.2.2.2.2.2.2.1))] := hD
    refine lv_aload_n hx hb dX3_open_19 rfl (lv_at hl 0 rfl) ?_
    refine va_get (D := D) (ci := 3) (v := .ref (a_sh 2)) (C := "ConstraintText$Sheet") (T := TX3) (N := 10) hx hb hts ing3 hown hK hP 0 rfl rfl 1 (by decide) (hts _ tw_182) (fun _ h9 => h9) rfl dX3_open_20 ?_
    refine lv_aload_n hx hb dX3_open_23 rfl (lv_at hl 0 rfl) ?_
    refine va_get (D := D) (ci := 3) (v := .int sh.2.2.2.2.2.2.2.1) (C := "ConstraintText$Sheet") (T := TX3) (N := 10) hx hb hts ing3 hown hK hP 0 rfl rfl 8 (by decide) (hts _ tw_193) (fun _ h9 => h9) rfl dX3_open_24 ?_
    refine lv_iconst (v := 0) hx hb dX3_open_27 (by decide) ?_
    obtain ⟨g28, h⟩ := grd_some h
    refine va_iast hx hb hK hP hD hS 2 0 rfl rfl (inb_in g28) dX3_open_28 (fun H locs hP hD hS => ?_)
    have hP : va_P D vwCl [(a_sh 0, .inr (3, [.ref (a_sh 1), .ref (a_sh 2), .ref (a_sh 3), .ref (a_sh 4), .ref (a_sh 5), .ref (a_sh 6), .ref (a_sh 7), .ref (a_ck 0), .int sh.2.2.2.2.2.2.2.1, .int sh.2.2.2.2.2.2.2.2])), (a_sh 1, .inl (kA 0, 40, .inl (upd sh.1 sh.2.2.2.2.2.2.2.1.toNatClampNeg p1))), (a_sh 2, .inl (kA 0, 40, .inl (upd sh.2.1 sh.2.2.2.2.2.2.2.1.toNatClampNeg (0 : Int32)))), (a_sh 3, .inl (kA 0, 80, .inl sh.2.2.1)), (a_sh 4, .inl (kA 0, 120, .inl sh.2.2.2.1)), (a_sh 5, .inl (kA 0, 120, .inl sh.2.2.2.2.1)), (a_sh 6, .inl (kA 2, 120, .inr (.inl sh.2.2.2.2.2.1))), (a_sh 7, .inl (kA 1, 1240, .inl sh.2.2.2.2.2.2.1))] H := hP
    have hD : va_D A [(a_sh 0, .inr (3, [.ref (a_sh 1), .ref (a_sh 2), .ref (a_sh 3), .ref (a_sh 4), .ref (a_sh 5), .ref (a_sh 6), .ref (a_sh 7), .ref (a_ck 0), .int sh.2.2.2.2.2.2.2.1, .int sh.2.2.2.2.2.2.2.2])), (a_sh 1, .inl (kA 0, 40, .inl (upd sh.1 sh.2.2.2.2.2.2.2.1.toNatClampNeg p1))), (a_sh 2, .inl (kA 0, 40, .inl (upd sh.2.1 sh.2.2.2.2.2.2.2.1.toNatClampNeg (0 : Int32)))), (a_sh 3, .inl (kA 0, 80, .inl sh.2.2.1)), (a_sh 4, .inl (kA 0, 120, .inl sh.2.2.2.1)), (a_sh 5, .inl (kA 0, 120, .inl sh.2.2.2.2.1)), (a_sh 6, .inl (kA 2, 120, .inr (.inl sh.2.2.2.2.2.1))), (a_sh 7, .inl (kA 1, 1240, .inl sh.2.2.2.2.2.2.1))] := hD
    refine lv_iconst (v := 0) hx hb dX3_open_29 (by decide) ?_
    refine lv_istore_n (lv' := [(2, .int (0 : Int32)), (0, .ref (a_sh 0)), (1, .int p1)]) hx hb dX3_open_30 rfl hl (by decide) rfl (fun ls hl => ?_)
    obtain ⟨k31, e31, hk31, hi31, hc31⟩ := bnd_name h
    have x56w : ∀ (x56 : T3) (H : Heap) (locs : List Loc) (ls : Array Slot), k31 x56 = some res → va_P D vwCl [(a_sh 0, .inr (3, [.ref (a_sh 1), .ref (a_sh 2), .ref (a_sh 3), .ref (a_sh 4), .ref (a_sh 5), .ref (a_sh 6), .ref (a_sh 7), .ref (a_ck 0), .int x56.2.2.2.2.2.2.2.1, .int x56.2.2.2.2.2.2.2.2])), (a_sh 1, .inl (kA 0, 40, .inl x56.1)), (a_sh 2, .inl (kA 0, 40, .inl x56.2.1)), (a_sh 3, .inl (kA 0, 80, .inl x56.2.2.1)), (a_sh 4, .inl (kA 0, 120, .inl x56.2.2.2.1)), (a_sh 5, .inl (kA 0, 120, .inl x56.2.2.2.2.1)), (a_sh 6, .inl (kA 2, 120, .inr (.inl x56.2.2.2.2.2.1))), (a_sh 7, .inl (kA 1, 1240, .inl x56.2.2.2.2.2.2.1))] H → va_D A [(a_sh 0, .inr (3, [.ref (a_sh 1), .ref (a_sh 2), .ref (a_sh 3), .ref (a_sh 4), .ref (a_sh 5), .ref (a_sh 6), .ref (a_sh 7), .ref (a_ck 0), .int x56.2.2.2.2.2.2.2.1, .int x56.2.2.2.2.2.2.2.2])), (a_sh 1, .inl (kA 0, 40, .inl x56.1)), (a_sh 2, .inl (kA 0, 40, .inl x56.2.1)), (a_sh 3, .inl (kA 0, 80, .inl x56.2.2.1)), (a_sh 4, .inl (kA 0, 120, .inl x56.2.2.2.1)), (a_sh 5, .inl (kA 0, 120, .inl x56.2.2.2.2.1)), (a_sh 6, .inl (kA 2, 120, .inr (.inl x56.2.2.2.2.2.1))), (a_sh 7, .inl (kA 1, 1240, .inl x56.2.2.2.2.2.2.1))] → va_S A s.heap H locs → lv_has ls 3 [(0, .ref (a_sh 0))] → W p l e rm3_open s m args below meth c H locs 0 0 Q (F0 m 56 ls []) := by
      intro x56 H locs ls h hP hD hS hl
      have h := app_of hk31 h
      refine lv_iconst (v := 0) hx hb dX3_open_56 (by decide) ?_
      refine lv_istore_n (lv' := [(2, .int (0 : Int32)), (0, .ref (a_sh 0))]) hx hb dX3_open_57 rfl hl (by decide) rfl (fun ls hl => ?_)
      obtain ⟨k58, e58, hk58, hi58, hc58⟩ := bnd_name h
      have x97w : ∀ (x97 : T3) (H : Heap) (locs : List Loc) (ls : Array Slot), k58 x97 = some res → va_P D vwCl [(a_sh 0, .inr (3, [.ref (a_sh 1), .ref (a_sh 2), .ref (a_sh 3), .ref (a_sh 4), .ref (a_sh 5), .ref (a_sh 6), .ref (a_sh 7), .ref (a_ck 0), .int x97.2.2.2.2.2.2.2.1, .int x97.2.2.2.2.2.2.2.2])), (a_sh 1, .inl (kA 0, 40, .inl x97.1)), (a_sh 2, .inl (kA 0, 40, .inl x97.2.1)), (a_sh 3, .inl (kA 0, 80, .inl x97.2.2.1)), (a_sh 4, .inl (kA 0, 120, .inl x97.2.2.2.1)), (a_sh 5, .inl (kA 0, 120, .inl x97.2.2.2.2.1)), (a_sh 6, .inl (kA 2, 120, .inr (.inl x97.2.2.2.2.2.1))), (a_sh 7, .inl (kA 1, 1240, .inl x97.2.2.2.2.2.2.1))] H → va_D A [(a_sh 0, .inr (3, [.ref (a_sh 1), .ref (a_sh 2), .ref (a_sh 3), .ref (a_sh 4), .ref (a_sh 5), .ref (a_sh 6), .ref (a_sh 7), .ref (a_ck 0), .int x97.2.2.2.2.2.2.2.1, .int x97.2.2.2.2.2.2.2.2])), (a_sh 1, .inl (kA 0, 40, .inl x97.1)), (a_sh 2, .inl (kA 0, 40, .inl x97.2.1)), (a_sh 3, .inl (kA 0, 80, .inl x97.2.2.1)), (a_sh 4, .inl (kA 0, 120, .inl x97.2.2.2.1)), (a_sh 5, .inl (kA 0, 120, .inl x97.2.2.2.2.1)), (a_sh 6, .inl (kA 2, 120, .inr (.inl x97.2.2.2.2.2.1))), (a_sh 7, .inl (kA 1, 1240, .inl x97.2.2.2.2.2.2.1))] → va_S A s.heap H locs → lv_has ls 3 [(0, .ref (a_sh 0))] → W p l e rm3_open s m args below meth c H locs 0 0 Q (F0 m 97 ls []) := by
        intro x97 H locs ls h hP hD hS hl
        have h := app_of hk58 h
        refine lv_aload_n hx hb dX3_open_97 rfl (lv_at hl 0 rfl) ?_
        refine lv_dup hx hb dX3_open_98 rfl ?_
        refine va_get (D := D) (ci := 3) (v := .int x97.2.2.2.2.2.2.2.1) (C := "ConstraintText$Sheet") (T := TX3) (N := 10) hx hb hts ing3 hown hK hP 0 rfl rfl 8 (by decide) (hts _ tw_193) (fun _ h9 => h9) rfl dX3_open_99 ?_
        refine lv_iconst (v := 1) hx hb dX3_open_102 (by decide) ?_
        refine lv_iadd hx hb dX3_open_103 ?_
        refine va_put (D := D) (ci := 3) (v := .int (x97.2.2.2.2.2.2.2.1 + (1 : Int32))) (ty := .int) (C := "ConstraintText$Sheet") (T := TX3) (N := 10) hx hb hts ing3 tyX3 tyX3_ok nmX3 hown hK hP hD hS 0 rfl rfl 8 (by decide) (hts _ tw_193) (fun _ h9 => h9) rfl (tyX3_ok 8 (by decide)) rfl rfl (Nat.le_of_ble_eq_true rfl) dX3_open_104 (fun H locs hP hD hS => ?_)
        have hP : va_P D vwCl [(a_sh 0, .inr (3, [.ref (a_sh 1), .ref (a_sh 2), .ref (a_sh 3), .ref (a_sh 4), .ref (a_sh 5), .ref (a_sh 6), .ref (a_sh 7), .ref (a_ck 0), .int (x97.2.2.2.2.2.2.2.1 + (1 : Int32)), .int x97.2.2.2.2.2.2.2.2])), (a_sh 1, .inl (kA 0, 40, .inl x97.1)), (a_sh 2, .inl (kA 0, 40, .inl x97.2.1)), (a_sh 3, .inl (kA 0, 80, .inl x97.2.2.1)), (a_sh 4, .inl (kA 0, 120, .inl x97.2.2.2.1)), (a_sh 5, .inl (kA 0, 120, .inl x97.2.2.2.2.1)), (a_sh 6, .inl (kA 2, 120, .inr (.inl x97.2.2.2.2.2.1))), (a_sh 7, .inl (kA 1, 1240, .inl x97.2.2.2.2.2.2.1))] H := hP
        have hD : va_D A [(a_sh 0, .inr (3, [.ref (a_sh 1), .ref (a_sh 2), .ref (a_sh 3), .ref (a_sh 4), .ref (a_sh 5), .ref (a_sh 6), .ref (a_sh 7), .ref (a_ck 0), .int (x97.2.2.2.2.2.2.2.1 + (1 : Int32)), .int x97.2.2.2.2.2.2.2.2])), (a_sh 1, .inl (kA 0, 40, .inl x97.1)), (a_sh 2, .inl (kA 0, 40, .inl x97.2.1)), (a_sh 3, .inl (kA 0, 80, .inl x97.2.2.1)), (a_sh 4, .inl (kA 0, 120, .inl x97.2.2.2.1)), (a_sh 5, .inl (kA 0, 120, .inl x97.2.2.2.2.1)), (a_sh 6, .inl (kA 2, 120, .inr (.inl x97.2.2.2.2.2.1))), (a_sh 7, .inl (kA 1, 1240, .inl x97.2.2.2.2.2.2.1))] := hD
        obtain rfl := Option.some.inj h
        rw [← hQ]
        exact rw_return hx hb hr hk  dX3_open_107  hP hD hS
      have lp58 : ∀ (n58 : Nat) (s58 : Int32 × T3) (H : Heap) (locs : List Loc) (ls : Array Slot), iter (f3_open_L58) n58 s58 = some e58 → va_P D vwCl [(a_sh 0, .inr (3, [.ref (a_sh 1), .ref (a_sh 2), .ref (a_sh 3), .ref (a_sh 4), .ref (a_sh 5), .ref (a_sh 6), .ref (a_sh 7), .ref (a_ck 0), .int s58.2.2.2.2.2.2.2.2.1, .int s58.2.2.2.2.2.2.2.2.2])), (a_sh 1, .inl (kA 0, 40, .inl s58.2.1)), (a_sh 2, .inl (kA 0, 40, .inl s58.2.2.1)), (a_sh 3, .inl (kA 0, 80, .inl s58.2.2.2.1)), (a_sh 4, .inl (kA 0, 120, .inl s58.2.2.2.2.1)), (a_sh 5, .inl (kA 0, 120, .inl s58.2.2.2.2.2.1)), (a_sh 6, .inl (kA 2, 120, .inr (.inl s58.2.2.2.2.2.2.1))), (a_sh 7, .inl (kA 1, 1240, .inl s58.2.2.2.2.2.2.2.1))] H → va_D A [(a_sh 0, .inr (3, [.ref (a_sh 1), .ref (a_sh 2), .ref (a_sh 3), .ref (a_sh 4), .ref (a_sh 5), .ref (a_sh 6), .ref (a_sh 7), .ref (a_ck 0), .int s58.2.2.2.2.2.2.2.2.1, .int s58.2.2.2.2.2.2.2.2.2])), (a_sh 1, .inl (kA 0, 40, .inl s58.2.1)), (a_sh 2, .inl (kA 0, 40, .inl s58.2.2.1)), (a_sh 3, .inl (kA 0, 80, .inl s58.2.2.2.1)), (a_sh 4, .inl (kA 0, 120, .inl s58.2.2.2.2.1)), (a_sh 5, .inl (kA 0, 120, .inl s58.2.2.2.2.2.1)), (a_sh 6, .inl (kA 2, 120, .inr (.inl s58.2.2.2.2.2.2.1))), (a_sh 7, .inl (kA 1, 1240, .inl s58.2.2.2.2.2.2.2.1))] → va_S A s.heap H locs → lv_has ls 3 [(0, .ref (a_sh 0)), (2, .int s58.1)] → W p l e rm3_open s m args below meth c H locs 0 0 Q (F0 m 58 ls []) := by
        intro n58
        induction n58 with
        | zero =>
          intro s58 H locs ls h hP hD hS hl
          exact (iter_zero h).elim
        | succ n58 ih58 =>
          intro s58 H locs ls h hP hD hS hl
          obtain ⟨z58, h, hL58, hR58⟩ := iter_split h
          unfold f3_open_L58 at h
          refine lv_iload_n hx hb dX3_open_58 rfl (lv_at hl 1 rfl) ?_
          refine lv_iconst (v := 3) hx hb dX3_open_59 (by decide) ?_
          refine lv_icmp_ge (tgt := 97) hx hb dX3_open_60 (by decide) (fun bc => ?_) (fun bc => ?_)
          · have h := ite_t bc h
            obtain rfl := Option.some.inj h
            exact x97w _ _ _ ls (eq_some_app (hR58 _ rfl) hc58) hP hD hS (lv_sub hl [0] rfl)
          · have h := ite_f bc h
            refine lv_aload_n hx hb dX3_open_63 rfl (lv_at hl 0 rfl) ?_
            refine va_get (D := D) (ci := 3) (v := .ref (a_sh 5)) (C := "ConstraintText$Sheet") (T := TX3) (N := 10) hx hb hts ing3 hown hK hP 0 rfl rfl 4 (by decide) (hts _ tw_187) (fun _ h9 => h9) rfl dX3_open_64 ?_
            refine lv_aload_n hx hb dX3_open_67 rfl (lv_at hl 0 rfl) ?_
            refine va_get (D := D) (ci := 3) (v := .int s58.2.2.2.2.2.2.2.2.1) (C := "ConstraintText$Sheet") (T := TX3) (N := 10) hx hb hts ing3 hown hK hP 0 rfl rfl 8 (by decide) (hts _ tw_193) (fun _ h9 => h9) rfl dX3_open_68 ?_
            refine lv_iconst (v := 3) hx hb dX3_open_71 (by decide) ?_
            refine lv_imul hx hb dX3_open_72 ?_
            refine lv_iload_n hx hb dX3_open_73 rfl (lv_at hl 1 rfl) ?_
            refine lv_iadd hx hb dX3_open_74 ?_
            refine lv_iconst (v := 0) hx hb dX3_open_75 (by decide) ?_
            obtain ⟨g76, h⟩ := grd_some h
            refine va_iast hx hb hK hP hD hS 5 0 rfl rfl (inb_in g76) dX3_open_76 (fun H locs hP hD hS => ?_)
            have hP : va_P D vwCl [(a_sh 0, .inr (3, [.ref (a_sh 1), .ref (a_sh 2), .ref (a_sh 3), .ref (a_sh 4), .ref (a_sh 5), .ref (a_sh 6), .ref (a_sh 7), .ref (a_ck 0), .int s58.2.2.2.2.2.2.2.2.1, .int s58.2.2.2.2.2.2.2.2.2])), (a_sh 1, .inl (kA 0, 40, .inl s58.2.1)), (a_sh 2, .inl (kA 0, 40, .inl s58.2.2.1)), (a_sh 3, .inl (kA 0, 80, .inl s58.2.2.2.1)), (a_sh 4, .inl (kA 0, 120, .inl s58.2.2.2.2.1)), (a_sh 5, .inl (kA 0, 120, .inl (upd s58.2.2.2.2.2.1 ((s58.2.2.2.2.2.2.2.2.1 * (3 : Int32)) + s58.1).toNatClampNeg (0 : Int32)))), (a_sh 6, .inl (kA 2, 120, .inr (.inl s58.2.2.2.2.2.2.1))), (a_sh 7, .inl (kA 1, 1240, .inl s58.2.2.2.2.2.2.2.1))] H := hP
            have hD : va_D A [(a_sh 0, .inr (3, [.ref (a_sh 1), .ref (a_sh 2), .ref (a_sh 3), .ref (a_sh 4), .ref (a_sh 5), .ref (a_sh 6), .ref (a_sh 7), .ref (a_ck 0), .int s58.2.2.2.2.2.2.2.2.1, .int s58.2.2.2.2.2.2.2.2.2])), (a_sh 1, .inl (kA 0, 40, .inl s58.2.1)), (a_sh 2, .inl (kA 0, 40, .inl s58.2.2.1)), (a_sh 3, .inl (kA 0, 80, .inl s58.2.2.2.1)), (a_sh 4, .inl (kA 0, 120, .inl s58.2.2.2.2.1)), (a_sh 5, .inl (kA 0, 120, .inl (upd s58.2.2.2.2.2.1 ((s58.2.2.2.2.2.2.2.2.1 * (3 : Int32)) + s58.1).toNatClampNeg (0 : Int32)))), (a_sh 6, .inl (kA 2, 120, .inr (.inl s58.2.2.2.2.2.2.1))), (a_sh 7, .inl (kA 1, 1240, .inl s58.2.2.2.2.2.2.2.1))] := hD
            refine lv_aload_n hx hb dX3_open_77 rfl (lv_at hl 0 rfl) ?_
            refine va_get (D := D) (ci := 3) (v := .ref (a_sh 6)) (C := "ConstraintText$Sheet") (T := TX3) (N := 10) hx hb hts ing3 hown hK hP 0 rfl rfl 5 (by decide) (hts _ tw_188) (fun _ h9 => h9) rfl dX3_open_78 ?_
            refine lv_aload_n hx hb dX3_open_81 rfl (lv_at hl 0 rfl) ?_
            refine va_get (D := D) (ci := 3) (v := .int s58.2.2.2.2.2.2.2.2.1) (C := "ConstraintText$Sheet") (T := TX3) (N := 10) hx hb hts ing3 hown hK hP 0 rfl rfl 8 (by decide) (hts _ tw_193) (fun _ h9 => h9) rfl dX3_open_82 ?_
            refine lv_iconst (v := 3) hx hb dX3_open_85 (by decide) ?_
            refine lv_imul hx hb dX3_open_86 ?_
            refine lv_iload_n hx hb dX3_open_87 rfl (lv_at hl 1 rfl) ?_
            refine lv_iadd hx hb dX3_open_88 ?_
            refine lv_lconst (v := 0) hx hb dX3_open_89 (by decide) ?_
            obtain ⟨g90, h⟩ := grd_some h
            refine va_last hx hb hK hP hD hS 6 2 rfl rfl (inb_in g90) dX3_open_90 (fun H locs hP hD hS => ?_)
            have hP : va_P D vwCl [(a_sh 0, .inr (3, [.ref (a_sh 1), .ref (a_sh 2), .ref (a_sh 3), .ref (a_sh 4), .ref (a_sh 5), .ref (a_sh 6), .ref (a_sh 7), .ref (a_ck 0), .int s58.2.2.2.2.2.2.2.2.1, .int s58.2.2.2.2.2.2.2.2.2])), (a_sh 1, .inl (kA 0, 40, .inl s58.2.1)), (a_sh 2, .inl (kA 0, 40, .inl s58.2.2.1)), (a_sh 3, .inl (kA 0, 80, .inl s58.2.2.2.1)), (a_sh 4, .inl (kA 0, 120, .inl s58.2.2.2.2.1)), (a_sh 5, .inl (kA 0, 120, .inl (upd s58.2.2.2.2.2.1 ((s58.2.2.2.2.2.2.2.2.1 * (3 : Int32)) + s58.1).toNatClampNeg (0 : Int32)))), (a_sh 6, .inl (kA 2, 120, .inr (.inl (vp_updL s58.2.2.2.2.2.2.1 ((s58.2.2.2.2.2.2.2.2.1 * (3 : Int32)) + s58.1).toNatClampNeg (0 : Int64))))), (a_sh 7, .inl (kA 1, 1240, .inl s58.2.2.2.2.2.2.2.1))] H := hP
            have hD : va_D A [(a_sh 0, .inr (3, [.ref (a_sh 1), .ref (a_sh 2), .ref (a_sh 3), .ref (a_sh 4), .ref (a_sh 5), .ref (a_sh 6), .ref (a_sh 7), .ref (a_ck 0), .int s58.2.2.2.2.2.2.2.2.1, .int s58.2.2.2.2.2.2.2.2.2])), (a_sh 1, .inl (kA 0, 40, .inl s58.2.1)), (a_sh 2, .inl (kA 0, 40, .inl s58.2.2.1)), (a_sh 3, .inl (kA 0, 80, .inl s58.2.2.2.1)), (a_sh 4, .inl (kA 0, 120, .inl s58.2.2.2.2.1)), (a_sh 5, .inl (kA 0, 120, .inl (upd s58.2.2.2.2.2.1 ((s58.2.2.2.2.2.2.2.2.1 * (3 : Int32)) + s58.1).toNatClampNeg (0 : Int32)))), (a_sh 6, .inl (kA 2, 120, .inr (.inl (vp_updL s58.2.2.2.2.2.2.1 ((s58.2.2.2.2.2.2.2.2.1 * (3 : Int32)) + s58.1).toNatClampNeg (0 : Int64))))), (a_sh 7, .inl (kA 1, 1240, .inl s58.2.2.2.2.2.2.2.1))] := hD
            refine lv_iinc (v := (s58.1 + (1 : Int32))) (lv' := [(2, .int (s58.1 + (1 : Int32))), (0, .ref (a_sh 0))]) hx hb dX3_open_91 hl (k := 1) rfl rfl (by decide) rfl (fun ls hl => ?_)
            refine lv_goto (tgt := 58) hx hb dX3_open_94 (by decide) ?_
            obtain rfl := Option.some.inj h
            exact ih58 _ _ _ ls (hL58 _ rfl) hP hD hS (lv_sub hl [1, 0] rfl)
      exact lp58 F ((0 : Int32), x56) _ _ ls hi58 hP hD hS (lv_sub hl [1, 0] rfl)
    have lp31 : ∀ (n31 : Nat) (s31 : Int32 × T3) (H : Heap) (locs : List Loc) (ls : Array Slot), iter (f3_open_L31) n31 s31 = some e31 → va_P D vwCl [(a_sh 0, .inr (3, [.ref (a_sh 1), .ref (a_sh 2), .ref (a_sh 3), .ref (a_sh 4), .ref (a_sh 5), .ref (a_sh 6), .ref (a_sh 7), .ref (a_ck 0), .int s31.2.2.2.2.2.2.2.2.1, .int s31.2.2.2.2.2.2.2.2.2])), (a_sh 1, .inl (kA 0, 40, .inl s31.2.1)), (a_sh 2, .inl (kA 0, 40, .inl s31.2.2.1)), (a_sh 3, .inl (kA 0, 80, .inl s31.2.2.2.1)), (a_sh 4, .inl (kA 0, 120, .inl s31.2.2.2.2.1)), (a_sh 5, .inl (kA 0, 120, .inl s31.2.2.2.2.2.1)), (a_sh 6, .inl (kA 2, 120, .inr (.inl s31.2.2.2.2.2.2.1))), (a_sh 7, .inl (kA 1, 1240, .inl s31.2.2.2.2.2.2.2.1))] H → va_D A [(a_sh 0, .inr (3, [.ref (a_sh 1), .ref (a_sh 2), .ref (a_sh 3), .ref (a_sh 4), .ref (a_sh 5), .ref (a_sh 6), .ref (a_sh 7), .ref (a_ck 0), .int s31.2.2.2.2.2.2.2.2.1, .int s31.2.2.2.2.2.2.2.2.2])), (a_sh 1, .inl (kA 0, 40, .inl s31.2.1)), (a_sh 2, .inl (kA 0, 40, .inl s31.2.2.1)), (a_sh 3, .inl (kA 0, 80, .inl s31.2.2.2.1)), (a_sh 4, .inl (kA 0, 120, .inl s31.2.2.2.2.1)), (a_sh 5, .inl (kA 0, 120, .inl s31.2.2.2.2.2.1)), (a_sh 6, .inl (kA 2, 120, .inr (.inl s31.2.2.2.2.2.2.1))), (a_sh 7, .inl (kA 1, 1240, .inl s31.2.2.2.2.2.2.2.1))] → va_S A s.heap H locs → lv_has ls 3 [(0, .ref (a_sh 0)), (2, .int s31.1)] → W p l e rm3_open s m args below meth c H locs 0 0 Q (F0 m 31 ls []) := by
      intro n31
      induction n31 with
      | zero =>
        intro s31 H locs ls h hP hD hS hl
        exact (iter_zero h).elim
      | succ n31 ih31 =>
        intro s31 H locs ls h hP hD hS hl
        obtain ⟨z31, h, hL31, hR31⟩ := iter_split h
        unfold f3_open_L31 at h
        refine lv_iload_n hx hb dX3_open_31 rfl (lv_at hl 1 rfl) ?_
        refine lv_iconst (v := 2) hx hb dX3_open_32 (by decide) ?_
        refine lv_icmp_ge (tgt := 56) hx hb dX3_open_33 (by decide) (fun bc => ?_) (fun bc => ?_)
        · have h := ite_t bc h
          obtain rfl := Option.some.inj h
          exact x56w _ _ _ ls (eq_some_app (hR31 _ rfl) hc31) hP hD hS (lv_sub hl [0] rfl)
        · have h := ite_f bc h
          refine lv_aload_n hx hb dX3_open_36 rfl (lv_at hl 0 rfl) ?_
          refine va_get (D := D) (ci := 3) (v := .ref (a_sh 3)) (C := "ConstraintText$Sheet") (T := TX3) (N := 10) hx hb hts ing3 hown hK hP 0 rfl rfl 2 (by decide) (hts _ tw_184) (fun _ h9 => h9) rfl dX3_open_37 ?_
          refine lv_aload_n hx hb dX3_open_40 rfl (lv_at hl 0 rfl) ?_
          refine va_get (D := D) (ci := 3) (v := .int s31.2.2.2.2.2.2.2.2.1) (C := "ConstraintText$Sheet") (T := TX3) (N := 10) hx hb hts ing3 hown hK hP 0 rfl rfl 8 (by decide) (hts _ tw_193) (fun _ h9 => h9) rfl dX3_open_41 ?_
          refine lv_iconst (v := 2) hx hb dX3_open_44 (by decide) ?_
          refine lv_imul hx hb dX3_open_45 ?_
          refine lv_iload_n hx hb dX3_open_46 rfl (lv_at hl 1 rfl) ?_
          refine lv_iadd hx hb dX3_open_47 ?_
          refine lv_iconst (v := -1) hx hb dX3_open_48 (by decide) ?_
          obtain ⟨g49, h⟩ := grd_some h
          refine va_iast hx hb hK hP hD hS 3 0 rfl rfl (inb_in g49) dX3_open_49 (fun H locs hP hD hS => ?_)
          have hP : va_P D vwCl [(a_sh 0, .inr (3, [.ref (a_sh 1), .ref (a_sh 2), .ref (a_sh 3), .ref (a_sh 4), .ref (a_sh 5), .ref (a_sh 6), .ref (a_sh 7), .ref (a_ck 0), .int s31.2.2.2.2.2.2.2.2.1, .int s31.2.2.2.2.2.2.2.2.2])), (a_sh 1, .inl (kA 0, 40, .inl s31.2.1)), (a_sh 2, .inl (kA 0, 40, .inl s31.2.2.1)), (a_sh 3, .inl (kA 0, 80, .inl (upd s31.2.2.2.1 ((s31.2.2.2.2.2.2.2.2.1 * (2 : Int32)) + s31.1).toNatClampNeg (-1 : Int32)))), (a_sh 4, .inl (kA 0, 120, .inl s31.2.2.2.2.1)), (a_sh 5, .inl (kA 0, 120, .inl s31.2.2.2.2.2.1)), (a_sh 6, .inl (kA 2, 120, .inr (.inl s31.2.2.2.2.2.2.1))), (a_sh 7, .inl (kA 1, 1240, .inl s31.2.2.2.2.2.2.2.1))] H := hP
          have hD : va_D A [(a_sh 0, .inr (3, [.ref (a_sh 1), .ref (a_sh 2), .ref (a_sh 3), .ref (a_sh 4), .ref (a_sh 5), .ref (a_sh 6), .ref (a_sh 7), .ref (a_ck 0), .int s31.2.2.2.2.2.2.2.2.1, .int s31.2.2.2.2.2.2.2.2.2])), (a_sh 1, .inl (kA 0, 40, .inl s31.2.1)), (a_sh 2, .inl (kA 0, 40, .inl s31.2.2.1)), (a_sh 3, .inl (kA 0, 80, .inl (upd s31.2.2.2.1 ((s31.2.2.2.2.2.2.2.2.1 * (2 : Int32)) + s31.1).toNatClampNeg (-1 : Int32)))), (a_sh 4, .inl (kA 0, 120, .inl s31.2.2.2.2.1)), (a_sh 5, .inl (kA 0, 120, .inl s31.2.2.2.2.2.1)), (a_sh 6, .inl (kA 2, 120, .inr (.inl s31.2.2.2.2.2.2.1))), (a_sh 7, .inl (kA 1, 1240, .inl s31.2.2.2.2.2.2.2.1))] := hD
          refine lv_iinc (v := (s31.1 + (1 : Int32))) (lv' := [(2, .int (s31.1 + (1 : Int32))), (0, .ref (a_sh 0))]) hx hb dX3_open_50 hl (k := 1) rfl rfl (by decide) rfl (fun ls hl => ?_)
          refine lv_goto (tgt := 31) hx hb dX3_open_53 (by decide) ?_
          obtain rfl := Option.some.inj h
          exact ih31 _ _ _ ls (hL31 _ rfl) hP hD hS (lv_sub hl [1, 0] rfl)
    exact lp31 F ((0 : Int32), ((upd sh.1 sh.2.2.2.2.2.2.2.1.toNatClampNeg p1), (upd sh.2.1 sh.2.2.2.2.2.2.2.1.toNatClampNeg (0 : Int32)), sh.2.2.1, sh.2.2.2.1, sh.2.2.2.2.1, sh.2.2.2.2.2.1, sh.2.2.2.2.2.2.1, sh.2.2.2.2.2.2.2.1, sh.2.2.2.2.2.2.2.2)) _ _ ls hi31 hP hD hS (lv_sub hl [1, 0] rfl)
abbrev rm3_printedAt : Room := { frames := 0, cells := 0, slots := 0, locals := 0 }
set_option maxHeartbeats 4000000 in
set_option maxRecDepth 100000 in
theorem c3_printedAt (l : Launch) (D : va_G) (kA : Nat → ClassId) (a_sh : Nat → Nat) (a_ck : Nat → Nat) (p1 : Int32) (sh : T3) (res : Int32) (h : f3_printedAt p1 sh = some res) : Ro l yX3_printedAt cX3_printedAt 2 (some .int) rm3_printedAt D kA [.ref (a_sh 0), .int p1] [(a_sh 0, .inr (3, [.ref (a_sh 1), .ref (a_sh 2), .ref (a_sh 3), .ref (a_sh 4), .ref (a_sh 5), .ref (a_sh 6), .ref (a_sh 7), .ref (a_ck 0), .int sh.2.2.2.2.2.2.2.1, .int sh.2.2.2.2.2.2.2.2])), (a_sh 1, .inl (kA 0, 40, .inl sh.1)), (a_sh 2, .inl (kA 0, 40, .inl sh.2.1)), (a_sh 3, .inl (kA 0, 80, .inl sh.2.2.1)), (a_sh 4, .inl (kA 0, 120, .inl sh.2.2.2.1)), (a_sh 5, .inl (kA 0, 120, .inl sh.2.2.2.2.1)), (a_sh 6, .inl (kA 2, 120, .inr (.inl sh.2.2.2.2.2.1))), (a_sh 7, .inl (kA 1, 1240, .inl sh.2.2.2.2.2.2.1))] (.int res) := by
  refine Ro.of (by decide +kernel) (Nat.le_of_ble_eq_true rfl) ?_
  intro p e s m args below meth c hF hP hK ls hl
  generalize hQ : roQ below _ args s = Q
  obtain ⟨hx, hb, hml, hown, hr, hk, hts, hN⟩ := hF
  have hl : lv_has ls 2 [(0, .ref (a_sh 0)), (1, .int p1)] := hl
  unfold f3_printedAt at h
  refine lv_iload_n hx hb dX3_printedAt_0 rfl (lv_at hl 1 rfl) ?_
  refine lv_if_lt (tgt := 30) hx hb dX3_printedAt_1 (by decide) (fun bc => ?_) (fun bc => ?_)
  · have h := ite_t bc h
    refine lv_iconst (v := -1) hx hb dX3_printedAt_30 (by decide) ?_
    obtain rfl := Option.some.inj h
    rw [← hQ]
    exact ro_ireturn hx hb hr hk  dX3_printedAt_31
  · have h := ite_f bc h
    refine lv_iload_n hx hb dX3_printedAt_4 rfl (lv_at hl 1 rfl) ?_
    refine lv_aload_n hx hb dX3_printedAt_5 rfl (lv_at hl 0 rfl) ?_
    refine va_get (D := D) (ci := 3) (v := .int sh.2.2.2.2.2.2.2.2) (C := "ConstraintText$Sheet") (T := TX3) (N := 10) hx hb hts ing3 hown hK hP 0 rfl rfl 9 (by decide) (hts _ tw_196) (fun _ h9 => h9) rfl dX3_printedAt_6 ?_
    refine lv_icmp_ge (tgt := 30) hx hb dX3_printedAt_9 (by decide) (fun bc => ?_) (fun bc => ?_)
    · have h := ite_t bc h
      refine lv_iconst (v := -1) hx hb dX3_printedAt_30 (by decide) ?_
      obtain rfl := Option.some.inj h
      rw [← hQ]
      exact ro_ireturn hx hb hr hk  dX3_printedAt_31
    · have h := ite_f bc h
      refine lv_iload_n hx hb dX3_printedAt_12 rfl (lv_at hl 1 rfl) ?_
      refine lv_aload_n hx hb dX3_printedAt_13 rfl (lv_at hl 0 rfl) ?_
      refine va_get (D := D) (ci := 3) (v := .ref (a_sh 7)) (C := "ConstraintText$Sheet") (T := TX3) (N := 10) hx hb hts ing3 hown hK hP 0 rfl rfl 6 (by decide) (hts _ tw_189) (fun _ h9 => h9) rfl dX3_printedAt_14 ?_
      refine va_alen (v := 1240) hx hb hK hP 7 1 rfl rfl (show Int32.ofNat 1240 = (1240 : Int32) from by decide) dX3_printedAt_17 ?_
      refine lv_icmp_ge (tgt := 30) hx hb dX3_printedAt_18 (by decide) (fun bc => ?_) (fun bc => ?_)
      · have h := ite_t bc h
        refine lv_iconst (v := -1) hx hb dX3_printedAt_30 (by decide) ?_
        obtain rfl := Option.some.inj h
        rw [← hQ]
        exact ro_ireturn hx hb hr hk  dX3_printedAt_31
      · have h := ite_f bc h
        refine lv_aload_n hx hb dX3_printedAt_21 rfl (lv_at hl 0 rfl) ?_
        refine va_get (D := D) (ci := 3) (v := .ref (a_sh 7)) (C := "ConstraintText$Sheet") (T := TX3) (N := 10) hx hb hts ing3 hown hK hP 0 rfl rfl 6 (by decide) (hts _ tw_189) (fun _ h9 => h9) rfl dX3_printedAt_22 ?_
        refine lv_iload_n hx hb dX3_printedAt_25 rfl (lv_at hl 1 rfl) ?_
        obtain ⟨g26, h⟩ := grd_some h
        refine va_cald hx hb hK hP 7 1 rfl rfl (inb_in g26) dX3_printedAt_26 ?_
        refine lv_goto (tgt := 31) hx hb dX3_printedAt_27 (by decide) ?_
        obtain rfl := Option.some.inj h
        rw [← hQ]
        exact ro_ireturn hx hb hr hk  dX3_printedAt_31
abbrev rm3_print : Room := { frames := 0, cells := 0, slots := 0, locals := 0 }
set_option maxHeartbeats 4000000 in
set_option maxRecDepth 100000 in
theorem c3_print (l : Launch) (D : va_G) (kA : Nat → ClassId) (a_sh : Nat → Nat) (a_ck : Nat → Nat) (p1 : Int32) (sh : T3) (res : T3) (h : f3_print p1 sh = some res) : Rw l yX3_print cX3_print 2 none rm3_print D kA [.ref (a_sh 0), .int p1] [(a_sh 0, .inr (3, [.ref (a_sh 1), .ref (a_sh 2), .ref (a_sh 3), .ref (a_sh 4), .ref (a_sh 5), .ref (a_sh 6), .ref (a_sh 7), .ref (a_ck 0), .int sh.2.2.2.2.2.2.2.1, .int sh.2.2.2.2.2.2.2.2])), (a_sh 1, .inl (kA 0, 40, .inl sh.1)), (a_sh 2, .inl (kA 0, 40, .inl sh.2.1)), (a_sh 3, .inl (kA 0, 80, .inl sh.2.2.1)), (a_sh 4, .inl (kA 0, 120, .inl sh.2.2.2.1)), (a_sh 5, .inl (kA 0, 120, .inl sh.2.2.2.2.1)), (a_sh 6, .inl (kA 2, 120, .inr (.inl sh.2.2.2.2.2.1))), (a_sh 7, .inl (kA 1, 1240, .inl sh.2.2.2.2.2.2.1))] none [(a_sh 0, .inr (3, [.ref (a_sh 1), .ref (a_sh 2), .ref (a_sh 3), .ref (a_sh 4), .ref (a_sh 5), .ref (a_sh 6), .ref (a_sh 7), .ref (a_ck 0), .int res.2.2.2.2.2.2.2.1, .int res.2.2.2.2.2.2.2.2])), (a_sh 1, .inl (kA 0, 40, .inl res.1)), (a_sh 2, .inl (kA 0, 40, .inl res.2.1)), (a_sh 3, .inl (kA 0, 80, .inl res.2.2.1)), (a_sh 4, .inl (kA 0, 120, .inl res.2.2.2.1)), (a_sh 5, .inl (kA 0, 120, .inl res.2.2.2.2.1)), (a_sh 6, .inl (kA 2, 120, .inr (.inl res.2.2.2.2.2.1))), (a_sh 7, .inl (kA 1, 1240, .inl res.2.2.2.2.2.2.1))] := by
  refine Rw.of (by decide) (Nat.le_of_ble_eq_true rfl) ?_
  intro p e s m args below meth c A hF hP hD hS hA hK ls hl
  generalize hQ : rwQ below D A _ _ args s = Q
  obtain ⟨hx, hb, hml, hown, hr, hk, hts, hN⟩ := hF
  have hl : lv_has ls 2 [(0, .ref (a_sh 0)), (1, .int p1)] := hl
  unfold f3_print at h
  refine lv_aload_n hx hb dX3_print_0 rfl (lv_at hl 0 rfl) ?_
  refine va_get (D := D) (ci := 3) (v := .int sh.2.2.2.2.2.2.2.2) (C := "ConstraintText$Sheet") (T := TX3) (N := 10) hx hb hts ing3 hown hK hP 0 rfl rfl 9 (by decide) (hts _ tw_196) (fun _ h9 => h9) rfl dX3_print_1 ?_
  refine lv_aload_n hx hb dX3_print_4 rfl (lv_at hl 0 rfl) ?_
  refine va_get (D := D) (ci := 3) (v := .ref (a_sh 7)) (C := "ConstraintText$Sheet") (T := TX3) (N := 10) hx hb hts ing3 hown hK hP 0 rfl rfl 6 (by decide) (hts _ tw_189) (fun _ h9 => h9) rfl dX3_print_5 ?_
  refine va_alen (v := 1240) hx hb hK hP 7 1 rfl rfl (show Int32.ofNat 1240 = (1240 : Int32) from by decide) dX3_print_8 ?_
  refine lv_icmp_ge (tgt := 33) hx hb dX3_print_9 (by decide) (fun bc => ?_) (fun bc => ?_)
  · have h := ite_t bc h
    obtain rfl := Option.some.inj h
    rw [← hQ]
    exact rw_return hx hb hr hk  dX3_print_33  hP hD hS
  · have h := ite_f bc h
    refine lv_aload_n hx hb dX3_print_12 rfl (lv_at hl 0 rfl) ?_
    refine va_get (D := D) (ci := 3) (v := .ref (a_sh 7)) (C := "ConstraintText$Sheet") (T := TX3) (N := 10) hx hb hts ing3 hown hK hP 0 rfl rfl 6 (by decide) (hts _ tw_189) (fun _ h9 => h9) rfl dX3_print_13 ?_
    refine lv_aload_n hx hb dX3_print_16 rfl (lv_at hl 0 rfl) ?_
    refine va_get (D := D) (ci := 3) (v := .int sh.2.2.2.2.2.2.2.2) (C := "ConstraintText$Sheet") (T := TX3) (N := 10) hx hb hts ing3 hown hK hP 0 rfl rfl 9 (by decide) (hts _ tw_196) (fun _ h9 => h9) rfl dX3_print_17 ?_
    refine lv_iload_n hx hb dX3_print_20 rfl (lv_at hl 1 rfl) ?_
    refine lv_i2c (v := (xi2c p1)) hx hb dX3_print_21 rfl ?_
    obtain ⟨g22, h⟩ := grd_some h
    refine va_cast hx hb hK hP hD hS 7 1 rfl rfl (inb_in g22) dX3_print_22 (fun H locs hP hD hS => ?_)
    have hP : va_P D vwCl [(a_sh 0, .inr (3, [.ref (a_sh 1), .ref (a_sh 2), .ref (a_sh 3), .ref (a_sh 4), .ref (a_sh 5), .ref (a_sh 6), .ref (a_sh 7), .ref (a_ck 0), .int sh.2.2.2.2.2.2.2.1, .int sh.2.2.2.2.2.2.2.2])), (a_sh 1, .inl (kA 0, 40, .inl sh.1)), (a_sh 2, .inl (kA 0, 40, .inl sh.2.1)), (a_sh 3, .inl (kA 0, 80, .inl sh.2.2.1)), (a_sh 4, .inl (kA 0, 120, .inl sh.2.2.2.1)), (a_sh 5, .inl (kA 0, 120, .inl sh.2.2.2.2.1)), (a_sh 6, .inl (kA 2, 120, .inr (.inl sh.2.2.2.2.2.1))), (a_sh 7, .inl (kA 1, 1240, .inl (upd sh.2.2.2.2.2.2.1 sh.2.2.2.2.2.2.2.2.toNatClampNeg (vp_nar .char (xi2c p1)))))] H := hP
    have hD : va_D A [(a_sh 0, .inr (3, [.ref (a_sh 1), .ref (a_sh 2), .ref (a_sh 3), .ref (a_sh 4), .ref (a_sh 5), .ref (a_sh 6), .ref (a_sh 7), .ref (a_ck 0), .int sh.2.2.2.2.2.2.2.1, .int sh.2.2.2.2.2.2.2.2])), (a_sh 1, .inl (kA 0, 40, .inl sh.1)), (a_sh 2, .inl (kA 0, 40, .inl sh.2.1)), (a_sh 3, .inl (kA 0, 80, .inl sh.2.2.1)), (a_sh 4, .inl (kA 0, 120, .inl sh.2.2.2.1)), (a_sh 5, .inl (kA 0, 120, .inl sh.2.2.2.2.1)), (a_sh 6, .inl (kA 2, 120, .inr (.inl sh.2.2.2.2.2.1))), (a_sh 7, .inl (kA 1, 1240, .inl (upd sh.2.2.2.2.2.2.1 sh.2.2.2.2.2.2.2.2.toNatClampNeg (vp_nar .char (xi2c p1)))))] := hD
    refine lv_aload_n hx hb dX3_print_23 rfl (lv_at hl 0 rfl) ?_
    refine lv_dup hx hb dX3_print_24 rfl ?_
    refine va_get (D := D) (ci := 3) (v := .int sh.2.2.2.2.2.2.2.2) (C := "ConstraintText$Sheet") (T := TX3) (N := 10) hx hb hts ing3 hown hK hP 0 rfl rfl 9 (by decide) (hts _ tw_196) (fun _ h9 => h9) rfl dX3_print_25 ?_
    refine lv_iconst (v := 1) hx hb dX3_print_28 (by decide) ?_
    refine lv_iadd hx hb dX3_print_29 ?_
    refine va_put (D := D) (ci := 3) (v := .int (sh.2.2.2.2.2.2.2.2 + (1 : Int32))) (ty := .int) (C := "ConstraintText$Sheet") (T := TX3) (N := 10) hx hb hts ing3 tyX3 tyX3_ok nmX3 hown hK hP hD hS 0 rfl rfl 9 (by decide) (hts _ tw_196) (fun _ h9 => h9) rfl (tyX3_ok 9 (by decide)) rfl rfl (Nat.le_of_ble_eq_true rfl) dX3_print_30 (fun H locs hP hD hS => ?_)
    have hP : va_P D vwCl [(a_sh 0, .inr (3, [.ref (a_sh 1), .ref (a_sh 2), .ref (a_sh 3), .ref (a_sh 4), .ref (a_sh 5), .ref (a_sh 6), .ref (a_sh 7), .ref (a_ck 0), .int sh.2.2.2.2.2.2.2.1, .int (sh.2.2.2.2.2.2.2.2 + (1 : Int32))])), (a_sh 1, .inl (kA 0, 40, .inl sh.1)), (a_sh 2, .inl (kA 0, 40, .inl sh.2.1)), (a_sh 3, .inl (kA 0, 80, .inl sh.2.2.1)), (a_sh 4, .inl (kA 0, 120, .inl sh.2.2.2.1)), (a_sh 5, .inl (kA 0, 120, .inl sh.2.2.2.2.1)), (a_sh 6, .inl (kA 2, 120, .inr (.inl sh.2.2.2.2.2.1))), (a_sh 7, .inl (kA 1, 1240, .inl (upd sh.2.2.2.2.2.2.1 sh.2.2.2.2.2.2.2.2.toNatClampNeg (vp_nar .char (xi2c p1)))))] H := hP
    have hD : va_D A [(a_sh 0, .inr (3, [.ref (a_sh 1), .ref (a_sh 2), .ref (a_sh 3), .ref (a_sh 4), .ref (a_sh 5), .ref (a_sh 6), .ref (a_sh 7), .ref (a_ck 0), .int sh.2.2.2.2.2.2.2.1, .int (sh.2.2.2.2.2.2.2.2 + (1 : Int32))])), (a_sh 1, .inl (kA 0, 40, .inl sh.1)), (a_sh 2, .inl (kA 0, 40, .inl sh.2.1)), (a_sh 3, .inl (kA 0, 80, .inl sh.2.2.1)), (a_sh 4, .inl (kA 0, 120, .inl sh.2.2.2.1)), (a_sh 5, .inl (kA 0, 120, .inl sh.2.2.2.2.1)), (a_sh 6, .inl (kA 2, 120, .inr (.inl sh.2.2.2.2.2.1))), (a_sh 7, .inl (kA 1, 1240, .inl (upd sh.2.2.2.2.2.2.1 sh.2.2.2.2.2.2.2.2.toNatClampNeg (vp_nar .char (xi2c p1)))))] := hD
    obtain rfl := Option.some.inj h
    rw [← hQ]
    exact rw_return hx hb hr hk  dX3_print_33  hP hD hS
abbrev rm3_printGap : Room := { frames := 1, cells := 0, slots := 0, locals := 21 }
set_option maxHeartbeats 4000000 in
set_option maxRecDepth 100000 in
theorem c3_printGap (l : Launch) (D : va_G) (kA : Nat → ClassId) (a_sh : Nat → Nat) (a_ck : Nat → Nat) (sh : T3) (res : T3) (h : f3_printGap sh = some res) : Rw l yX3_printGap cX3_printGap 1 none rm3_printGap D kA [.ref (a_sh 0)] [(a_sh 0, .inr (3, [.ref (a_sh 1), .ref (a_sh 2), .ref (a_sh 3), .ref (a_sh 4), .ref (a_sh 5), .ref (a_sh 6), .ref (a_sh 7), .ref (a_ck 0), .int sh.2.2.2.2.2.2.2.1, .int sh.2.2.2.2.2.2.2.2])), (a_sh 1, .inl (kA 0, 40, .inl sh.1)), (a_sh 2, .inl (kA 0, 40, .inl sh.2.1)), (a_sh 3, .inl (kA 0, 80, .inl sh.2.2.1)), (a_sh 4, .inl (kA 0, 120, .inl sh.2.2.2.1)), (a_sh 5, .inl (kA 0, 120, .inl sh.2.2.2.2.1)), (a_sh 6, .inl (kA 2, 120, .inr (.inl sh.2.2.2.2.2.1))), (a_sh 7, .inl (kA 1, 1240, .inl sh.2.2.2.2.2.2.1))] none [(a_sh 0, .inr (3, [.ref (a_sh 1), .ref (a_sh 2), .ref (a_sh 3), .ref (a_sh 4), .ref (a_sh 5), .ref (a_sh 6), .ref (a_sh 7), .ref (a_ck 0), .int res.2.2.2.2.2.2.2.1, .int res.2.2.2.2.2.2.2.2])), (a_sh 1, .inl (kA 0, 40, .inl res.1)), (a_sh 2, .inl (kA 0, 40, .inl res.2.1)), (a_sh 3, .inl (kA 0, 80, .inl res.2.2.1)), (a_sh 4, .inl (kA 0, 120, .inl res.2.2.2.1)), (a_sh 5, .inl (kA 0, 120, .inl res.2.2.2.2.1)), (a_sh 6, .inl (kA 2, 120, .inr (.inl res.2.2.2.2.2.1))), (a_sh 7, .inl (kA 1, 1240, .inl res.2.2.2.2.2.2.1))] := by
  refine Rw.of (by decide) (Nat.le_of_ble_eq_true rfl) ?_
  intro p e s m args below meth c A hF hP hD hS hA hK ls hl
  generalize hQ : rwQ below D A _ _ args s = Q
  obtain ⟨hx, hb, hml, hown, hr, hk, hts, hN⟩ := hF
  have hl : lv_has ls 1 [(0, .ref (a_sh 0))] := hl
  unfold f3_printGap at h
  refine lv_aload_n hx hb dX3_printGap_0 rfl (lv_at hl 0 rfl) ?_
  refine va_get (D := D) (ci := 3) (v := .int sh.2.2.2.2.2.2.2.2) (C := "ConstraintText$Sheet") (T := TX3) (N := 10) hx hb hts ing3 hown hK hP 0 rfl rfl 9 (by decide) (hts _ tw_196) (fun _ h9 => h9) rfl dX3_printGap_1 ?_
  refine lv_if_le (tgt := 28) hx hb dX3_printGap_4 (by decide) (fun bc => ?_) (fun bc => ?_)
  · have h := ite_t bc h
    obtain rfl := Option.some.inj h
    rw [← hQ]
    exact rw_return hx hb hr hk  dX3_printGap_28  hP hD hS
  · have h := ite_f bc h
    refine lv_aload_n hx hb dX3_printGap_7 rfl (lv_at hl 0 rfl) ?_
    refine lv_aload_n hx hb dX3_printGap_8 rfl (lv_at hl 0 rfl) ?_
    refine va_get (D := D) (ci := 3) (v := .int sh.2.2.2.2.2.2.2.2) (C := "ConstraintText$Sheet") (T := TX3) (N := 10) hx hb hts ing3 hown hK hP 0 rfl rfl 9 (by decide) (hts _ tw_196) (fun _ h9 => h9) rfl dX3_printGap_9 ?_
    refine lv_iconst (v := 1) hx hb dX3_printGap_12 (by decide) ?_
    refine lv_isub hx hb dX3_printGap_13 ?_
    obtain ⟨u14, hc_14, h⟩ := bnd_some h
    refine ro_V (n := 1) (As := [.int (sh.2.2.2.2.2.2.2.2 - (1 : Int32))]) (rest := []) hx hb hml hown hts hN hS hK hP (c3_printedAt l D kA a_sh a_ck (sh.2.2.2.2.2.2.2.2 - (1 : Int32)) sh u14 hc_14) [0, 1, 2, 3, 4, 5, 6, 7] rfl 0 3 rfl rfl rfl tw_407 tw_408 tw_409 tw_77 tw_410 rfl rfl (by decide) ⟨Nat.le_of_ble_eq_true rfl, Nat.le_of_ble_eq_true rfl⟩ rfl hl.1 rfl (Nat.le_of_ble_eq_true rfl) dX3_printGap_14 ⟨Nat.le_of_ble_eq_true rfl, Nat.le_of_ble_eq_true rfl⟩ ?_
    refine lv_bipush (v := 10) hx hb dX3_printGap_17 (by decide) ?_
    refine lv_icmp_eq (tgt := 28) hx hb dX3_printGap_19 (by decide) (fun bc => ?_) (fun bc => ?_)
    · have h := ite_t bc h
      obtain rfl := Option.some.inj h
      rw [← hQ]
      exact rw_return hx hb hr hk  dX3_printGap_28  hP hD hS
    · have h := ite_f bc h
      refine lv_aload_n hx hb dX3_printGap_22 rfl (lv_at hl 0 rfl) ?_
      refine lv_bipush (v := 32) hx hb dX3_printGap_23 (by decide) ?_
      obtain ⟨u25, hc_25, h⟩ := bnd_some h
      refine rw_V (wr := []) (n := 1) (As := [.int (32 : Int32)]) (rest := []) hx hb hml hown hts hN hS hK hP hD hA (c3_print l D kA a_sh a_ck (32 : Int32) sh u25 hc_25) [0, 1, 2, 3, 4, 5, 6, 7] [] rfl (by decide) rfl (by decide) (by decide) 0 3 rfl rfl rfl tw_411 tw_412 tw_413 tw_77 tw_414 rfl rfl (by decide) ⟨Nat.le_of_ble_eq_true rfl, Nat.le_of_ble_eq_true rfl⟩ rfl hl.1 rfl (Nat.le_of_ble_eq_true rfl) dX3_printGap_25 ⟨Nat.le_of_ble_eq_true rfl, Nat.le_of_ble_eq_true rfl⟩ (fun H locs hP hD hS => ?_)
      have hP : va_P D vwCl [(a_sh 0, .inr (3, [.ref (a_sh 1), .ref (a_sh 2), .ref (a_sh 3), .ref (a_sh 4), .ref (a_sh 5), .ref (a_sh 6), .ref (a_sh 7), .ref (a_ck 0), .int u25.2.2.2.2.2.2.2.1, .int u25.2.2.2.2.2.2.2.2])), (a_sh 1, .inl (kA 0, 40, .inl u25.1)), (a_sh 2, .inl (kA 0, 40, .inl u25.2.1)), (a_sh 3, .inl (kA 0, 80, .inl u25.2.2.1)), (a_sh 4, .inl (kA 0, 120, .inl u25.2.2.2.1)), (a_sh 5, .inl (kA 0, 120, .inl u25.2.2.2.2.1)), (a_sh 6, .inl (kA 2, 120, .inr (.inl u25.2.2.2.2.2.1))), (a_sh 7, .inl (kA 1, 1240, .inl u25.2.2.2.2.2.2.1))] H := hP
      have hD : va_D A [(a_sh 0, .inr (3, [.ref (a_sh 1), .ref (a_sh 2), .ref (a_sh 3), .ref (a_sh 4), .ref (a_sh 5), .ref (a_sh 6), .ref (a_sh 7), .ref (a_ck 0), .int u25.2.2.2.2.2.2.2.1, .int u25.2.2.2.2.2.2.2.2])), (a_sh 1, .inl (kA 0, 40, .inl u25.1)), (a_sh 2, .inl (kA 0, 40, .inl u25.2.1)), (a_sh 3, .inl (kA 0, 80, .inl u25.2.2.1)), (a_sh 4, .inl (kA 0, 120, .inl u25.2.2.2.1)), (a_sh 5, .inl (kA 0, 120, .inl u25.2.2.2.2.1)), (a_sh 6, .inl (kA 2, 120, .inr (.inl u25.2.2.2.2.2.1))), (a_sh 7, .inl (kA 1, 1240, .inl u25.2.2.2.2.2.2.1))] := hD
      obtain rfl := Option.some.inj h
      rw [← hQ]
      exact rw_return hx hb hr hk  dX3_printGap_28  hP hD hS
abbrev rm2_printWord : Room := { frames := 2, cells := 0, slots := 0, locals := 41 }
set_option maxHeartbeats 4000000 in
set_option maxRecDepth 100000 in
theorem c2_printWord (l : Launch) (D : va_G) (kA : Nat → ClassId) (a_rd : Nat → Nat) (a_sh : Nat → Nat) (a_tp : Nat → Nat) (a_ck : Nat → Nat) (F : Nat) (rd : T2) (sh : T3) (tp : T4) (res : T3) (h : f2_printWord F rd sh tp = some res) : Rw l yX2_printWord cX2_printWord 2 none rm2_printWord D kA [.ref (a_rd 0)] [(a_rd 0, .inr (2, [.ref (a_tp 0), .ref (a_rd 2), .ref (a_rd 3), .ref (a_rd 4), .ref (a_rd 5), .ref (a_sh 0), .int rd.2.2.2.2.1, .int rd.2.2.2.2.2])), (a_rd 2, .inl (kA 0, 12, .inl rd.1)), (a_rd 3, .inl (kA 0, 12, .inl rd.2.1)), (a_rd 4, .inl (kA 0, 80, .inl rd.2.2.1)), (a_rd 5, .inl (kA 0, 80, .inl rd.2.2.2.1)), (a_sh 0, .inr (3, [.ref (a_sh 1), .ref (a_sh 2), .ref (a_sh 3), .ref (a_sh 4), .ref (a_sh 5), .ref (a_sh 6), .ref (a_sh 7), .ref (a_ck 0), .int sh.2.2.2.2.2.2.2.1, .int sh.2.2.2.2.2.2.2.2])), (a_sh 1, .inl (kA 0, 40, .inl sh.1)), (a_sh 2, .inl (kA 0, 40, .inl sh.2.1)), (a_sh 3, .inl (kA 0, 80, .inl sh.2.2.1)), (a_sh 4, .inl (kA 0, 120, .inl sh.2.2.2.1)), (a_sh 5, .inl (kA 0, 120, .inl sh.2.2.2.2.1)), (a_sh 6, .inl (kA 2, 120, .inr (.inl sh.2.2.2.2.2.1))), (a_sh 7, .inl (kA 1, 1240, .inl sh.2.2.2.2.2.2.1)), (a_tp 0, .inr (4, [.ref (a_tp 1), .int tp.2])), (a_tp 1, .inl (kA 1, 1200, .inl tp.1))] none [(a_rd 0, .inr (2, [.ref (a_tp 0), .ref (a_rd 2), .ref (a_rd 3), .ref (a_rd 4), .ref (a_rd 5), .ref (a_sh 0), .int rd.2.2.2.2.1, .int rd.2.2.2.2.2])), (a_rd 2, .inl (kA 0, 12, .inl rd.1)), (a_rd 3, .inl (kA 0, 12, .inl rd.2.1)), (a_rd 4, .inl (kA 0, 80, .inl rd.2.2.1)), (a_rd 5, .inl (kA 0, 80, .inl rd.2.2.2.1)), (a_sh 0, .inr (3, [.ref (a_sh 1), .ref (a_sh 2), .ref (a_sh 3), .ref (a_sh 4), .ref (a_sh 5), .ref (a_sh 6), .ref (a_sh 7), .ref (a_ck 0), .int res.2.2.2.2.2.2.2.1, .int res.2.2.2.2.2.2.2.2])), (a_sh 1, .inl (kA 0, 40, .inl res.1)), (a_sh 2, .inl (kA 0, 40, .inl res.2.1)), (a_sh 3, .inl (kA 0, 80, .inl res.2.2.1)), (a_sh 4, .inl (kA 0, 120, .inl res.2.2.2.1)), (a_sh 5, .inl (kA 0, 120, .inl res.2.2.2.2.1)), (a_sh 6, .inl (kA 2, 120, .inr (.inl res.2.2.2.2.2.1))), (a_sh 7, .inl (kA 1, 1240, .inl res.2.2.2.2.2.2.1)), (a_tp 0, .inr (4, [.ref (a_tp 1), .int tp.2])), (a_tp 1, .inl (kA 1, 1200, .inl tp.1))] := by
  refine Rw.of (by decide) (Nat.le_of_ble_eq_true rfl) ?_
  intro p e s m args below meth c A hF hP hD hS hA hK ls hl
  generalize hQ : rwQ below D A _ _ args s = Q
  obtain ⟨hx, hb, hml, hown, hr, hk, hts, hN⟩ := hF
  have hl : lv_has ls 2 [(0, .ref (a_rd 0))] := hl
  unfold f2_printWord at h
  refine lv_aload_n hx hb dX2_printWord_0 rfl (lv_at hl 0 rfl) ?_
  refine va_get (D := D) (ci := 2) (v := .ref (a_sh 0)) (C := "ConstraintText$Reader") (T := TX2) (N := 8) hx hb hts ing2 hown hK hP 0 rfl rfl 5 (by decide) (hts _ tw_225) (fun _ h9 => h9) rfl dX2_printWord_1 ?_
  obtain ⟨u4, hc_4, h⟩ := bnd_some h
  refine rw_V (wr := [(a_rd 0, .inr (2, [.ref (a_tp 0), .ref (a_rd 2), .ref (a_rd 3), .ref (a_rd 4), .ref (a_rd 5), .ref (a_sh 0), .int rd.2.2.2.2.1, .int rd.2.2.2.2.2])), (a_rd 2, .inl (kA 0, 12, .inl rd.1)), (a_rd 3, .inl (kA 0, 12, .inl rd.2.1)), (a_rd 4, .inl (kA 0, 80, .inl rd.2.2.1)), (a_rd 5, .inl (kA 0, 80, .inl rd.2.2.2.1)), (a_tp 0, .inr (4, [.ref (a_tp 1), .int tp.2])), (a_tp 1, .inl (kA 1, 1200, .inl tp.1))]) (n := 0) (As := []) (rest := []) hx hb hml hown hts hN hS hK hP hD hA (c3_printGap l D kA a_sh a_ck sh u4 hc_4) [5, 6, 7, 8, 9, 10, 11, 12] [0, 1, 2, 3, 4, 13, 14] rfl (by decide) rfl (by decide) (by decide) 5 3 rfl rfl rfl tw_403 tw_404 tw_405 tw_77 tw_406 rfl rfl (by decide) ⟨Nat.le_of_ble_eq_true rfl, Nat.le_of_ble_eq_true rfl⟩ rfl hl.1 rfl (Nat.le_of_ble_eq_true rfl) dX2_printWord_4 ⟨Nat.le_of_ble_eq_true rfl, Nat.le_of_ble_eq_true rfl⟩ (fun H locs hP hD hS => ?_)
  have hP : va_P D vwCl [(a_rd 0, .inr (2, [.ref (a_tp 0), .ref (a_rd 2), .ref (a_rd 3), .ref (a_rd 4), .ref (a_rd 5), .ref (a_sh 0), .int rd.2.2.2.2.1, .int rd.2.2.2.2.2])), (a_rd 2, .inl (kA 0, 12, .inl rd.1)), (a_rd 3, .inl (kA 0, 12, .inl rd.2.1)), (a_rd 4, .inl (kA 0, 80, .inl rd.2.2.1)), (a_rd 5, .inl (kA 0, 80, .inl rd.2.2.2.1)), (a_tp 0, .inr (4, [.ref (a_tp 1), .int tp.2])), (a_tp 1, .inl (kA 1, 1200, .inl tp.1)), (a_sh 0, .inr (3, [.ref (a_sh 1), .ref (a_sh 2), .ref (a_sh 3), .ref (a_sh 4), .ref (a_sh 5), .ref (a_sh 6), .ref (a_sh 7), .ref (a_ck 0), .int u4.2.2.2.2.2.2.2.1, .int u4.2.2.2.2.2.2.2.2])), (a_sh 1, .inl (kA 0, 40, .inl u4.1)), (a_sh 2, .inl (kA 0, 40, .inl u4.2.1)), (a_sh 3, .inl (kA 0, 80, .inl u4.2.2.1)), (a_sh 4, .inl (kA 0, 120, .inl u4.2.2.2.1)), (a_sh 5, .inl (kA 0, 120, .inl u4.2.2.2.2.1)), (a_sh 6, .inl (kA 2, 120, .inr (.inl u4.2.2.2.2.2.1))), (a_sh 7, .inl (kA 1, 1240, .inl u4.2.2.2.2.2.2.1))] H := hP
  have hD : va_D A [(a_rd 0, .inr (2, [.ref (a_tp 0), .ref (a_rd 2), .ref (a_rd 3), .ref (a_rd 4), .ref (a_rd 5), .ref (a_sh 0), .int rd.2.2.2.2.1, .int rd.2.2.2.2.2])), (a_rd 2, .inl (kA 0, 12, .inl rd.1)), (a_rd 3, .inl (kA 0, 12, .inl rd.2.1)), (a_rd 4, .inl (kA 0, 80, .inl rd.2.2.1)), (a_rd 5, .inl (kA 0, 80, .inl rd.2.2.2.1)), (a_tp 0, .inr (4, [.ref (a_tp 1), .int tp.2])), (a_tp 1, .inl (kA 1, 1200, .inl tp.1)), (a_sh 0, .inr (3, [.ref (a_sh 1), .ref (a_sh 2), .ref (a_sh 3), .ref (a_sh 4), .ref (a_sh 5), .ref (a_sh 6), .ref (a_sh 7), .ref (a_ck 0), .int u4.2.2.2.2.2.2.2.1, .int u4.2.2.2.2.2.2.2.2])), (a_sh 1, .inl (kA 0, 40, .inl u4.1)), (a_sh 2, .inl (kA 0, 40, .inl u4.2.1)), (a_sh 3, .inl (kA 0, 80, .inl u4.2.2.1)), (a_sh 4, .inl (kA 0, 120, .inl u4.2.2.2.1)), (a_sh 5, .inl (kA 0, 120, .inl u4.2.2.2.2.1)), (a_sh 6, .inl (kA 2, 120, .inr (.inl u4.2.2.2.2.2.1))), (a_sh 7, .inl (kA 1, 1240, .inl u4.2.2.2.2.2.2.1))] := hD
  refine lv_aload_n hx hb dX2_printWord_7 rfl (lv_at hl 0 rfl) ?_
  refine va_get (D := D) (ci := 2) (v := .int rd.2.2.2.2.1) (C := "ConstraintText$Reader") (T := TX2) (N := 8) hx hb hts ing2 hown hK hP 0 rfl rfl 6 (by decide) (hts _ tw_226) (fun _ h9 => h9) rfl dX2_printWord_8 ?_
  refine lv_istore_n (lv' := [(1, .int rd.2.2.2.2.1), (0, .ref (a_rd 0))]) hx hb dX2_printWord_11 rfl hl (by decide) rfl (fun ls hl => ?_)
  obtain ⟨k12, e12, hk12, hi12, hc12⟩ := bnd_name h
  have x41w : ∀ (x41 : T3) (H : Heap) (locs : List Loc) (ls : Array Slot), k12 x41 = some res → va_P D vwCl [(a_rd 0, .inr (2, [.ref (a_tp 0), .ref (a_rd 2), .ref (a_rd 3), .ref (a_rd 4), .ref (a_rd 5), .ref (a_sh 0), .int rd.2.2.2.2.1, .int rd.2.2.2.2.2])), (a_rd 2, .inl (kA 0, 12, .inl rd.1)), (a_rd 3, .inl (kA 0, 12, .inl rd.2.1)), (a_rd 4, .inl (kA 0, 80, .inl rd.2.2.1)), (a_rd 5, .inl (kA 0, 80, .inl rd.2.2.2.1)), (a_sh 0, .inr (3, [.ref (a_sh 1), .ref (a_sh 2), .ref (a_sh 3), .ref (a_sh 4), .ref (a_sh 5), .ref (a_sh 6), .ref (a_sh 7), .ref (a_ck 0), .int x41.2.2.2.2.2.2.2.1, .int x41.2.2.2.2.2.2.2.2])), (a_sh 1, .inl (kA 0, 40, .inl x41.1)), (a_sh 2, .inl (kA 0, 40, .inl x41.2.1)), (a_sh 3, .inl (kA 0, 80, .inl x41.2.2.1)), (a_sh 4, .inl (kA 0, 120, .inl x41.2.2.2.1)), (a_sh 5, .inl (kA 0, 120, .inl x41.2.2.2.2.1)), (a_sh 6, .inl (kA 2, 120, .inr (.inl x41.2.2.2.2.2.1))), (a_sh 7, .inl (kA 1, 1240, .inl x41.2.2.2.2.2.2.1)), (a_tp 0, .inr (4, [.ref (a_tp 1), .int tp.2])), (a_tp 1, .inl (kA 1, 1200, .inl tp.1))] H → va_D A [(a_rd 0, .inr (2, [.ref (a_tp 0), .ref (a_rd 2), .ref (a_rd 3), .ref (a_rd 4), .ref (a_rd 5), .ref (a_sh 0), .int rd.2.2.2.2.1, .int rd.2.2.2.2.2])), (a_rd 2, .inl (kA 0, 12, .inl rd.1)), (a_rd 3, .inl (kA 0, 12, .inl rd.2.1)), (a_rd 4, .inl (kA 0, 80, .inl rd.2.2.1)), (a_rd 5, .inl (kA 0, 80, .inl rd.2.2.2.1)), (a_sh 0, .inr (3, [.ref (a_sh 1), .ref (a_sh 2), .ref (a_sh 3), .ref (a_sh 4), .ref (a_sh 5), .ref (a_sh 6), .ref (a_sh 7), .ref (a_ck 0), .int x41.2.2.2.2.2.2.2.1, .int x41.2.2.2.2.2.2.2.2])), (a_sh 1, .inl (kA 0, 40, .inl x41.1)), (a_sh 2, .inl (kA 0, 40, .inl x41.2.1)), (a_sh 3, .inl (kA 0, 80, .inl x41.2.2.1)), (a_sh 4, .inl (kA 0, 120, .inl x41.2.2.2.1)), (a_sh 5, .inl (kA 0, 120, .inl x41.2.2.2.2.1)), (a_sh 6, .inl (kA 2, 120, .inr (.inl x41.2.2.2.2.2.1))), (a_sh 7, .inl (kA 1, 1240, .inl x41.2.2.2.2.2.2.1)), (a_tp 0, .inr (4, [.ref (a_tp 1), .int tp.2])), (a_tp 1, .inl (kA 1, 1200, .inl tp.1))] → va_S A s.heap H locs → lv_has ls 2 [] → W p l e rm2_printWord s m args below meth c H locs 0 0 Q (F0 m 41 ls []) := by
    intro x41 H locs ls h hP hD hS hl
    have h := app_of hk12 h
    obtain rfl := Option.some.inj h
    rw [← hQ]
    exact rw_return hx hb hr hk  dX2_printWord_41  hP hD hS
  have lp12 : ∀ (n12 : Nat) (s12 : Int32 × T3) (H : Heap) (locs : List Loc) (ls : Array Slot), iter (f2_printWord_L12 rd tp) n12 s12 = some e12 → va_P D vwCl [(a_rd 0, .inr (2, [.ref (a_tp 0), .ref (a_rd 2), .ref (a_rd 3), .ref (a_rd 4), .ref (a_rd 5), .ref (a_sh 0), .int rd.2.2.2.2.1, .int rd.2.2.2.2.2])), (a_rd 2, .inl (kA 0, 12, .inl rd.1)), (a_rd 3, .inl (kA 0, 12, .inl rd.2.1)), (a_rd 4, .inl (kA 0, 80, .inl rd.2.2.1)), (a_rd 5, .inl (kA 0, 80, .inl rd.2.2.2.1)), (a_sh 0, .inr (3, [.ref (a_sh 1), .ref (a_sh 2), .ref (a_sh 3), .ref (a_sh 4), .ref (a_sh 5), .ref (a_sh 6), .ref (a_sh 7), .ref (a_ck 0), .int s12.2.2.2.2.2.2.2.2.1, .int s12.2.2.2.2.2.2.2.2.2])), (a_sh 1, .inl (kA 0, 40, .inl s12.2.1)), (a_sh 2, .inl (kA 0, 40, .inl s12.2.2.1)), (a_sh 3, .inl (kA 0, 80, .inl s12.2.2.2.1)), (a_sh 4, .inl (kA 0, 120, .inl s12.2.2.2.2.1)), (a_sh 5, .inl (kA 0, 120, .inl s12.2.2.2.2.2.1)), (a_sh 6, .inl (kA 2, 120, .inr (.inl s12.2.2.2.2.2.2.1))), (a_sh 7, .inl (kA 1, 1240, .inl s12.2.2.2.2.2.2.2.1)), (a_tp 0, .inr (4, [.ref (a_tp 1), .int tp.2])), (a_tp 1, .inl (kA 1, 1200, .inl tp.1))] H → va_D A [(a_rd 0, .inr (2, [.ref (a_tp 0), .ref (a_rd 2), .ref (a_rd 3), .ref (a_rd 4), .ref (a_rd 5), .ref (a_sh 0), .int rd.2.2.2.2.1, .int rd.2.2.2.2.2])), (a_rd 2, .inl (kA 0, 12, .inl rd.1)), (a_rd 3, .inl (kA 0, 12, .inl rd.2.1)), (a_rd 4, .inl (kA 0, 80, .inl rd.2.2.1)), (a_rd 5, .inl (kA 0, 80, .inl rd.2.2.2.1)), (a_sh 0, .inr (3, [.ref (a_sh 1), .ref (a_sh 2), .ref (a_sh 3), .ref (a_sh 4), .ref (a_sh 5), .ref (a_sh 6), .ref (a_sh 7), .ref (a_ck 0), .int s12.2.2.2.2.2.2.2.2.1, .int s12.2.2.2.2.2.2.2.2.2])), (a_sh 1, .inl (kA 0, 40, .inl s12.2.1)), (a_sh 2, .inl (kA 0, 40, .inl s12.2.2.1)), (a_sh 3, .inl (kA 0, 80, .inl s12.2.2.2.1)), (a_sh 4, .inl (kA 0, 120, .inl s12.2.2.2.2.1)), (a_sh 5, .inl (kA 0, 120, .inl s12.2.2.2.2.2.1)), (a_sh 6, .inl (kA 2, 120, .inr (.inl s12.2.2.2.2.2.2.1))), (a_sh 7, .inl (kA 1, 1240, .inl s12.2.2.2.2.2.2.2.1)), (a_tp 0, .inr (4, [.ref (a_tp 1), .int tp.2])), (a_tp 1, .inl (kA 1, 1200, .inl tp.1))] → va_S A s.heap H locs → lv_has ls 2 [(0, .ref (a_rd 0)), (1, .int s12.1)] → W p l e rm2_printWord s m args below meth c H locs 0 0 Q (F0 m 12 ls []) := by
    intro n12
    induction n12 with
    | zero =>
      intro s12 H locs ls h hP hD hS hl
      exact (iter_zero h).elim
    | succ n12 ih12 =>
      intro s12 H locs ls h hP hD hS hl
      obtain ⟨z12, h, hL12, hR12⟩ := iter_split h
      unfold f2_printWord_L12 at h
      refine lv_iload_n hx hb dX2_printWord_12 rfl (lv_at hl 1 rfl) ?_
      refine lv_aload_n hx hb dX2_printWord_13 rfl (lv_at hl 0 rfl) ?_
      refine va_get (D := D) (ci := 2) (v := .int rd.2.2.2.2.2) (C := "ConstraintText$Reader") (T := TX2) (N := 8) hx hb hts ing2 hown hK hP 0 rfl rfl 7 (by decide) (hts _ tw_227) (fun _ h9 => h9) rfl dX2_printWord_14 ?_
      refine lv_icmp_ge (tgt := 41) hx hb dX2_printWord_17 (by decide) (fun bc => ?_) (fun bc => ?_)
      · have h := ite_t bc h
        obtain rfl := Option.some.inj h
        exact x41w _ _ _ ls (eq_some_app (hR12 _ rfl) hc12) hP hD hS (lv_sub hl [] rfl)
      · have h := ite_f bc h
        refine lv_aload_n hx hb dX2_printWord_20 rfl (lv_at hl 0 rfl) ?_
        refine va_get (D := D) (ci := 2) (v := .ref (a_sh 0)) (C := "ConstraintText$Reader") (T := TX2) (N := 8) hx hb hts ing2 hown hK hP 0 rfl rfl 5 (by decide) (hts _ tw_225) (fun _ h9 => h9) rfl dX2_printWord_21 ?_
        refine lv_aload_n hx hb dX2_printWord_24 rfl (lv_at hl 0 rfl) ?_
        refine va_get (D := D) (ci := 2) (v := .ref (a_tp 0)) (C := "ConstraintText$Reader") (T := TX2) (N := 8) hx hb hts ing2 hown hK hP 0 rfl rfl 0 (by decide) (hts _ tw_219) (fun _ h9 => h9) rfl dX2_printWord_25 ?_
        refine lv_iload_n hx hb dX2_printWord_28 rfl (lv_at hl 1 rfl) ?_
        obtain ⟨u29, hc_29, h⟩ := bnd_some h
        refine ro_V (n := 1) (As := [.int s12.1]) (rest := [.ref (a_sh 0)]) hx hb hml hown hts hN hS hK hP (c4_at l D kA a_tp s12.1 tp u29 hc_29) [13, 14] rfl 13 4 rfl rfl rfl tw_315 tw_316 tw_317 tw_76 tw_318 rfl rfl (by decide) ⟨Nat.le_of_ble_eq_true rfl, Nat.le_of_ble_eq_true rfl⟩ rfl hl.1 rfl (Nat.le_of_ble_eq_true rfl) dX2_printWord_29 ⟨Nat.le_of_ble_eq_true rfl, Nat.le_of_ble_eq_true rfl⟩ ?_
        obtain ⟨u32, hc_32, h⟩ := bnd_some h
        refine rw_V (wr := [(a_rd 0, .inr (2, [.ref (a_tp 0), .ref (a_rd 2), .ref (a_rd 3), .ref (a_rd 4), .ref (a_rd 5), .ref (a_sh 0), .int rd.2.2.2.2.1, .int rd.2.2.2.2.2])), (a_rd 2, .inl (kA 0, 12, .inl rd.1)), (a_rd 3, .inl (kA 0, 12, .inl rd.2.1)), (a_rd 4, .inl (kA 0, 80, .inl rd.2.2.1)), (a_rd 5, .inl (kA 0, 80, .inl rd.2.2.2.1)), (a_tp 0, .inr (4, [.ref (a_tp 1), .int tp.2])), (a_tp 1, .inl (kA 1, 1200, .inl tp.1))]) (n := 1) (As := [.int u29]) (rest := []) hx hb hml hown hts hN hS hK hP hD hA (c3_print l D kA a_sh a_ck u29 s12.2 u32 hc_32) [5, 6, 7, 8, 9, 10, 11, 12] [0, 1, 2, 3, 4, 13, 14] rfl (by decide) rfl (by decide) (by decide) 5 3 rfl rfl rfl tw_415 tw_412 tw_413 tw_77 tw_414 rfl rfl (by decide) ⟨Nat.le_of_ble_eq_true rfl, Nat.le_of_ble_eq_true rfl⟩ rfl hl.1 rfl (Nat.le_of_ble_eq_true rfl) dX2_printWord_32 ⟨Nat.le_of_ble_eq_true rfl, Nat.le_of_ble_eq_true rfl⟩ (fun H locs hP hD hS => ?_)
        have hP : va_P D vwCl [(a_rd 0, .inr (2, [.ref (a_tp 0), .ref (a_rd 2), .ref (a_rd 3), .ref (a_rd 4), .ref (a_rd 5), .ref (a_sh 0), .int rd.2.2.2.2.1, .int rd.2.2.2.2.2])), (a_rd 2, .inl (kA 0, 12, .inl rd.1)), (a_rd 3, .inl (kA 0, 12, .inl rd.2.1)), (a_rd 4, .inl (kA 0, 80, .inl rd.2.2.1)), (a_rd 5, .inl (kA 0, 80, .inl rd.2.2.2.1)), (a_tp 0, .inr (4, [.ref (a_tp 1), .int tp.2])), (a_tp 1, .inl (kA 1, 1200, .inl tp.1)), (a_sh 0, .inr (3, [.ref (a_sh 1), .ref (a_sh 2), .ref (a_sh 3), .ref (a_sh 4), .ref (a_sh 5), .ref (a_sh 6), .ref (a_sh 7), .ref (a_ck 0), .int u32.2.2.2.2.2.2.2.1, .int u32.2.2.2.2.2.2.2.2])), (a_sh 1, .inl (kA 0, 40, .inl u32.1)), (a_sh 2, .inl (kA 0, 40, .inl u32.2.1)), (a_sh 3, .inl (kA 0, 80, .inl u32.2.2.1)), (a_sh 4, .inl (kA 0, 120, .inl u32.2.2.2.1)), (a_sh 5, .inl (kA 0, 120, .inl u32.2.2.2.2.1)), (a_sh 6, .inl (kA 2, 120, .inr (.inl u32.2.2.2.2.2.1))), (a_sh 7, .inl (kA 1, 1240, .inl u32.2.2.2.2.2.2.1))] H := hP
        have hD : va_D A [(a_rd 0, .inr (2, [.ref (a_tp 0), .ref (a_rd 2), .ref (a_rd 3), .ref (a_rd 4), .ref (a_rd 5), .ref (a_sh 0), .int rd.2.2.2.2.1, .int rd.2.2.2.2.2])), (a_rd 2, .inl (kA 0, 12, .inl rd.1)), (a_rd 3, .inl (kA 0, 12, .inl rd.2.1)), (a_rd 4, .inl (kA 0, 80, .inl rd.2.2.1)), (a_rd 5, .inl (kA 0, 80, .inl rd.2.2.2.1)), (a_tp 0, .inr (4, [.ref (a_tp 1), .int tp.2])), (a_tp 1, .inl (kA 1, 1200, .inl tp.1)), (a_sh 0, .inr (3, [.ref (a_sh 1), .ref (a_sh 2), .ref (a_sh 3), .ref (a_sh 4), .ref (a_sh 5), .ref (a_sh 6), .ref (a_sh 7), .ref (a_ck 0), .int u32.2.2.2.2.2.2.2.1, .int u32.2.2.2.2.2.2.2.2])), (a_sh 1, .inl (kA 0, 40, .inl u32.1)), (a_sh 2, .inl (kA 0, 40, .inl u32.2.1)), (a_sh 3, .inl (kA 0, 80, .inl u32.2.2.1)), (a_sh 4, .inl (kA 0, 120, .inl u32.2.2.2.1)), (a_sh 5, .inl (kA 0, 120, .inl u32.2.2.2.2.1)), (a_sh 6, .inl (kA 2, 120, .inr (.inl u32.2.2.2.2.2.1))), (a_sh 7, .inl (kA 1, 1240, .inl u32.2.2.2.2.2.2.1))] := hD
        refine lv_iinc (v := (s12.1 + (1 : Int32))) (lv' := [(1, .int (s12.1 + (1 : Int32))), (0, .ref (a_rd 0))]) hx hb dX2_printWord_35 hl (k := 1) rfl rfl (by decide) rfl (fun ls hl => ?_)
        refine lv_goto (tgt := 12) hx hb dX2_printWord_38 (by decide) ?_
        obtain rfl := Option.some.inj h
        exact ih12 _ _ _ ls (hL12 _ rfl) (hP.sub [0, 1, 2, 3, 4, 7, 8, 9, 10, 11, 12, 13, 14, 5, 6] rfl) (hD.sub [0, 1, 2, 3, 4, 7, 8, 9, 10, 11, 12, 13, 14, 5, 6] (by decide) rfl) hS (lv_sub hl [1, 0] rfl)
  exact lp12 F (rd.2.2.2.2.1, u4) _ _ ls hi12 (hP.sub [0, 1, 2, 3, 4, 7, 8, 9, 10, 11, 12, 13, 14, 5, 6] rfl) (hD.sub [0, 1, 2, 3, 4, 7, 8, 9, 10, 11, 12, 13, 14, 5, 6] (by decide) rfl) hS (lv_sub hl [1, 0] rfl)
abbrev rm5_isSmallLetter : Room := { frames := 0, cells := 0, slots := 0, locals := 0 }
set_option maxHeartbeats 4000000 in
set_option maxRecDepth 100000 in
theorem c5_isSmallLetter (l : Launch) (D : va_G) (kA : Nat → ClassId)  (p1 : Int32) (res : Int32) (h : f5_isSmallLetter p1 = some res) : Ro l yX5_isSmallLetter cX5_isSmallLetter 1 (some .boolean) rm5_isSmallLetter D kA [.int p1] [] (.int res) := by
  refine Ro.of (by decide +kernel) (Nat.le_of_ble_eq_true rfl) ?_
  intro p e s m args below meth c hF hP hK ls hl
  generalize hQ : roQ below _ args s = Q
  obtain ⟨hx, hb, hml, hown, hr, hk, hts, hN⟩ := hF
  have hl : lv_has ls 1 [(0, .int p1)] := hl
  unfold f5_isSmallLetter at h
  refine lv_iload_n hx hb dX5_isSmallLetter_0 rfl (lv_at hl 0 rfl) ?_
  refine lv_bipush (v := 97) hx hb dX5_isSmallLetter_1 (by decide) ?_
  refine lv_icmp_lt (tgt := 16) hx hb dX5_isSmallLetter_3 (by decide) (fun bc => ?_) (fun bc => ?_)
  · have h := ite_t bc h
    refine lv_iconst (v := 0) hx hb dX5_isSmallLetter_16 (by decide) ?_
    obtain rfl := Option.some.inj h
    rw [← hQ]
    exact ro_zreturn hx hb hr hk nz_Z0 dX5_isSmallLetter_17
  · have h := ite_f bc h
    refine lv_iload_n hx hb dX5_isSmallLetter_6 rfl (lv_at hl 0 rfl) ?_
    refine lv_bipush (v := 122) hx hb dX5_isSmallLetter_7 (by decide) ?_
    refine lv_icmp_gt (tgt := 16) hx hb dX5_isSmallLetter_9 (by decide) (fun bc => ?_) (fun bc => ?_)
    · have h := ite_t bc h
      refine lv_iconst (v := 0) hx hb dX5_isSmallLetter_16 (by decide) ?_
      obtain rfl := Option.some.inj h
      rw [← hQ]
      exact ro_zreturn hx hb hr hk nz_Z0 dX5_isSmallLetter_17
    · have h := ite_f bc h
      refine lv_iconst (v := 1) hx hb dX5_isSmallLetter_12 (by decide) ?_
      refine lv_goto (tgt := 17) hx hb dX5_isSmallLetter_13 (by decide) ?_
      obtain rfl := Option.some.inj h
      rw [← hQ]
      exact ro_zreturn hx hb hr hk nz_Z1 dX5_isSmallLetter_17
abbrev rm2_isNameInHand : Room := { frames := 1, cells := 0, slots := 0, locals := 21 }
set_option maxHeartbeats 4000000 in
set_option maxRecDepth 100000 in
theorem c2_isNameInHand (l : Launch) (D : va_G) (kA : Nat → ClassId) (a_rd : Nat → Nat) (a_tp : Nat → Nat) (a_sh : Nat → Nat) (F : Nat) (rd : T2) (tp : T4) (res : Int32) (h : f2_isNameInHand F rd tp = some res) : Ro l yX2_isNameInHand cX2_isNameInHand 2 (some .boolean) rm2_isNameInHand D kA [.ref (a_rd 0)] [(a_rd 0, .inr (2, [.ref (a_tp 0), .ref (a_rd 2), .ref (a_rd 3), .ref (a_rd 4), .ref (a_rd 5), .ref (a_sh 0), .int rd.2.2.2.2.1, .int rd.2.2.2.2.2])), (a_rd 2, .inl (kA 0, 12, .inl rd.1)), (a_rd 3, .inl (kA 0, 12, .inl rd.2.1)), (a_rd 4, .inl (kA 0, 80, .inl rd.2.2.1)), (a_rd 5, .inl (kA 0, 80, .inl rd.2.2.2.1)), (a_tp 0, .inr (4, [.ref (a_tp 1), .int tp.2])), (a_tp 1, .inl (kA 1, 1200, .inl tp.1))] (.int res) := by
  refine Ro.of (by decide +kernel) (Nat.le_of_ble_eq_true rfl) ?_
  intro p e s m args below meth c hF hP hK ls hl
  generalize hQ : roQ below _ args s = Q
  obtain ⟨hx, hb, hml, hown, hr, hk, hts, hN⟩ := hF
  have hl : lv_has ls 2 [(0, .ref (a_rd 0))] := hl
  unfold f2_isNameInHand at h
  refine lv_aload_n hx hb dX2_isNameInHand_0 rfl (lv_at hl 0 rfl) ?_
  refine va_get (D := D) (ci := 2) (v := .int rd.2.2.2.2.2) (C := "ConstraintText$Reader") (T := TX2) (N := 8) hx hb hts ing2 hown hK hP 0 rfl rfl 7 (by decide) (hts _ tw_227) (fun _ h9 => h9) rfl dX2_isNameInHand_1 ?_
  refine lv_aload_n hx hb dX2_isNameInHand_4 rfl (lv_at hl 0 rfl) ?_
  refine va_get (D := D) (ci := 2) (v := .int rd.2.2.2.2.1) (C := "ConstraintText$Reader") (T := TX2) (N := 8) hx hb hts ing2 hown hK hP 0 rfl rfl 6 (by decide) (hts _ tw_226) (fun _ h9 => h9) rfl dX2_isNameInHand_5 ?_
  refine lv_icmp_eq (tgt := 25) hx hb dX2_isNameInHand_8 (by decide) (fun bc => ?_) (fun bc => ?_)
  · have h := ite_t bc h
    refine lv_iconst (v := 0) hx hb dX2_isNameInHand_25 (by decide) ?_
    obtain rfl := Option.some.inj h
    rw [← hQ]
    exact ro_zreturn hx hb hr hk nz_Z0 dX2_isNameInHand_26
  · have h := ite_f bc h
    refine lv_aload_n hx hb dX2_isNameInHand_11 rfl (lv_at hl 0 rfl) ?_
    refine va_get (D := D) (ci := 2) (v := .int rd.2.2.2.2.2) (C := "ConstraintText$Reader") (T := TX2) (N := 8) hx hb hts ing2 hown hK hP 0 rfl rfl 7 (by decide) (hts _ tw_227) (fun _ h9 => h9) rfl dX2_isNameInHand_12 ?_
    refine lv_aload_n hx hb dX2_isNameInHand_15 rfl (lv_at hl 0 rfl) ?_
    refine va_get (D := D) (ci := 2) (v := .int rd.2.2.2.2.1) (C := "ConstraintText$Reader") (T := TX2) (N := 8) hx hb hts ing2 hown hK hP 0 rfl rfl 6 (by decide) (hts _ tw_226) (fun _ h9 => h9) rfl dX2_isNameInHand_16 ?_
    refine lv_isub hx hb dX2_isNameInHand_19 ?_
    refine lv_bipush (v := 8) hx hb dX2_isNameInHand_20 (by decide) ?_
    refine lv_icmp_le (tgt := 27) hx hb dX2_isNameInHand_22 (by decide) (fun bc => ?_) (fun bc => ?_)
    · have h := ite_t bc h
      refine lv_aload_n hx hb dX2_isNameInHand_27 rfl (lv_at hl 0 rfl) ?_
      refine va_get (D := D) (ci := 2) (v := .int rd.2.2.2.2.1) (C := "ConstraintText$Reader") (T := TX2) (N := 8) hx hb hts ing2 hown hK hP 0 rfl rfl 6 (by decide) (hts _ tw_226) (fun _ h9 => h9) rfl dX2_isNameInHand_28 ?_
      refine lv_istore_n (lv' := [(1, .int rd.2.2.2.2.1), (0, .ref (a_rd 0))]) hx hb dX2_isNameInHand_31 rfl hl (by decide) rfl (fun ls hl => ?_)
      obtain ⟨k32, e32, hk32, hi32, hc32⟩ := bnd_name h
      have x54w : ∀ (x54 : Unit) (ls : Array Slot), k32 (.inl x54) = some res → lv_has ls 2 [] → W p l e rm2_isNameInHand s m args below meth c s.heap [] 0 0 Q (F0 m 54 ls []) := by
        intro x54 ls h hl
        have h := app_of hk32 h
        have h := cas_l h
        refine lv_iconst (v := 0) hx hb dX2_isNameInHand_54 (by decide) ?_
        obtain rfl := Option.some.inj h
        rw [← hQ]
        exact ro_zreturn hx hb hr hk nz_Z0 dX2_isNameInHand_55
      have x62w : ∀ (x62 : Unit) (ls : Array Slot), k32 (.inr x62) = some res → lv_has ls 2 [] → W p l e rm2_isNameInHand s m args below meth c s.heap [] 0 0 Q (F0 m 62 ls []) := by
        intro x62 ls h hl
        have h := app_of hk32 h
        have h := cas_r h
        refine lv_iconst (v := 1) hx hb dX2_isNameInHand_62 (by decide) ?_
        obtain rfl := Option.some.inj h
        rw [← hQ]
        exact ro_zreturn hx hb hr hk nz_Z1 dX2_isNameInHand_63
      have lp32 : ∀ (n32 : Nat) (s32 : Int32) (ls : Array Slot), iter (f2_isNameInHand_L32 rd tp) n32 s32 = some e32 → lv_has ls 2 [(0, .ref (a_rd 0)), (1, .int s32)] → W p l e rm2_isNameInHand s m args below meth c s.heap [] 0 0 Q (F0 m 32 ls []) := by
        intro n32
        induction n32 with
        | zero =>
          intro s32 ls h hl
          exact (iter_zero h).elim
        | succ n32 ih32 =>
          intro s32 ls h hl
          obtain ⟨z32, h, hL32, hR32⟩ := iter_split h
          unfold f2_isNameInHand_L32 at h
          refine lv_iload_n hx hb dX2_isNameInHand_32 rfl (lv_at hl 1 rfl) ?_
          refine lv_aload_n hx hb dX2_isNameInHand_33 rfl (lv_at hl 0 rfl) ?_
          refine va_get (D := D) (ci := 2) (v := .int rd.2.2.2.2.2) (C := "ConstraintText$Reader") (T := TX2) (N := 8) hx hb hts ing2 hown hK hP 0 rfl rfl 7 (by decide) (hts _ tw_227) (fun _ h9 => h9) rfl dX2_isNameInHand_34 ?_
          refine lv_icmp_ge (tgt := 62) hx hb dX2_isNameInHand_37 (by decide) (fun bc => ?_) (fun bc => ?_)
          · have h := ite_t bc h
            obtain rfl := Option.some.inj h
            exact x62w _ ls (eq_some_app (hR32 _ rfl) hc32) (lv_sub hl [] rfl)
          · have h := ite_f bc h
            refine lv_aload_n hx hb dX2_isNameInHand_40 rfl (lv_at hl 0 rfl) ?_
            refine va_get (D := D) (ci := 2) (v := .ref (a_tp 0)) (C := "ConstraintText$Reader") (T := TX2) (N := 8) hx hb hts ing2 hown hK hP 0 rfl rfl 0 (by decide) (hts _ tw_219) (fun _ h9 => h9) rfl dX2_isNameInHand_41 ?_
            refine lv_iload_n hx hb dX2_isNameInHand_44 rfl (lv_at hl 1 rfl) ?_
            obtain ⟨u45, hc_45, h⟩ := bnd_some h
            refine ro_V (n := 1) (As := [.int s32]) (rest := []) hx hb hml hown hts hN va_S.rf hK hP (c4_at l D kA a_tp s32 tp u45 hc_45) [5, 6] rfl 5 4 rfl rfl rfl tw_315 tw_316 tw_317 tw_76 tw_318 rfl rfl (by decide) ⟨Nat.le_of_ble_eq_true rfl, Nat.le_of_ble_eq_true rfl⟩ rfl hl.1 rfl (Nat.le_of_ble_eq_true rfl) dX2_isNameInHand_45 ⟨Nat.le_of_ble_eq_true rfl, Nat.le_of_ble_eq_true rfl⟩ ?_
            obtain ⟨u48, hc_48, h⟩ := bnd_some h
            refine ro_SN (n := 1) (As := [.int u45]) (rest := []) hx hb hml hown hts hN va_S.rf hK hP (c5_isSmallLetter l D kA u45 u48 hc_48) [] rfl nw_424 tw_425 tw_74 tw_426 rfl rfl (by decide) ⟨Nat.le_of_ble_eq_true rfl, Nat.le_of_ble_eq_true rfl⟩ rfl hl.1 rfl (Nat.le_of_ble_eq_true rfl) dX2_isNameInHand_48 ⟨Nat.le_of_ble_eq_true rfl, Nat.le_of_ble_eq_true rfl⟩ ?_
            refine lv_if_ne (tgt := 56) hx hb dX2_isNameInHand_51 (by decide) (fun bc => ?_) (fun bc => ?_)
            · have h := ite_f bc h
              refine lv_iinc (v := (s32 + (1 : Int32))) (lv' := [(1, .int (s32 + (1 : Int32))), (0, .ref (a_rd 0))]) hx hb dX2_isNameInHand_56 hl (k := 1) rfl rfl (by decide) rfl (fun ls hl => ?_)
              refine lv_goto (tgt := 32) hx hb dX2_isNameInHand_59 (by decide) ?_
              obtain rfl := Option.some.inj h
              exact ih32 _ ls (hL32 _ rfl) (lv_sub hl [1, 0] rfl)
            · have h := ite_t bc h
              obtain rfl := Option.some.inj h
              exact x54w _ ls (eq_some_app (hR32 _ rfl) hc32) (lv_sub hl [] rfl)
      exact lp32 F rd.2.2.2.2.1 ls hi32 (lv_sub hl [1, 0] rfl)
    · have h := ite_f bc h
      refine lv_iconst (v := 0) hx hb dX2_isNameInHand_25 (by decide) ?_
      obtain rfl := Option.some.inj h
      rw [← hQ]
      exact ro_zreturn hx hb hr hk nz_Z0 dX2_isNameInHand_26
abbrev rm2_isSameText : Room := { frames := 1, cells := 0, slots := 0, locals := 21 }
set_option maxHeartbeats 4000000 in
set_option maxRecDepth 100000 in
theorem c2_isSameText (l : Launch) (D : va_G) (kA : Nat → ClassId) (a_rd : Nat → Nat) (a_tp : Nat → Nat) (a_sh : Nat → Nat) (F : Nat) (p1 : Int32) (p2 : Int32) (p3 : Int32) (rd : T2) (tp : T4) (res : Int32) (h : f2_isSameText F p1 p2 p3 rd tp = some res) : Ro l yX2_isSameText cX2_isSameText 5 (some .boolean) rm2_isSameText D kA [.ref (a_rd 0), .int p1, .int p2, .int p3] [(a_rd 0, .inr (2, [.ref (a_tp 0), .ref (a_rd 2), .ref (a_rd 3), .ref (a_rd 4), .ref (a_rd 5), .ref (a_sh 0), .int rd.2.2.2.2.1, .int rd.2.2.2.2.2])), (a_rd 2, .inl (kA 0, 12, .inl rd.1)), (a_rd 3, .inl (kA 0, 12, .inl rd.2.1)), (a_rd 4, .inl (kA 0, 80, .inl rd.2.2.1)), (a_rd 5, .inl (kA 0, 80, .inl rd.2.2.2.1)), (a_tp 0, .inr (4, [.ref (a_tp 1), .int tp.2])), (a_tp 1, .inl (kA 1, 1200, .inl tp.1))] (.int res) := by
  refine Ro.of (by decide +kernel) (Nat.le_of_ble_eq_true rfl) ?_
  intro p e s m args below meth c hF hP hK ls hl
  generalize hQ : roQ below _ args s = Q
  obtain ⟨hx, hb, hml, hown, hr, hk, hts, hN⟩ := hF
  have hl : lv_has ls 5 [(0, .ref (a_rd 0)), (1, .int p1), (2, .int p2), (3, .int p3)] := hl
  unfold f2_isSameText at h
  refine lv_iconst (v := 0) hx hb dX2_isSameText_0 (by decide) ?_
  refine lv_istore (lv' := [(4, .int (0 : Int32)), (0, .ref (a_rd 0)), (1, .int p1), (2, .int p2), (3, .int p3)]) hx hb dX2_isSameText_1 hl (by decide) rfl (fun ls hl => ?_)
  obtain ⟨k3, e3, hk3, hi3, hc3⟩ := bnd_name h
  have x34w : ∀ (x34 : Unit) (ls : Array Slot), k3 (.inl x34) = some res → lv_has ls 5 [] → W p l e rm2_isSameText s m args below meth c s.heap [] 0 0 Q (F0 m 34 ls []) := by
    intro x34 ls h hl
    have h := app_of hk3 h
    have h := cas_l h
    refine lv_iconst (v := 0) hx hb dX2_isSameText_34 (by decide) ?_
    obtain rfl := Option.some.inj h
    rw [← hQ]
    exact ro_zreturn hx hb hr hk nz_Z0 dX2_isSameText_35
  have x42w : ∀ (x42 : Unit) (ls : Array Slot), k3 (.inr x42) = some res → lv_has ls 5 [] → W p l e rm2_isSameText s m args below meth c s.heap [] 0 0 Q (F0 m 42 ls []) := by
    intro x42 ls h hl
    have h := app_of hk3 h
    have h := cas_r h
    refine lv_iconst (v := 1) hx hb dX2_isSameText_42 (by decide) ?_
    obtain rfl := Option.some.inj h
    rw [← hQ]
    exact ro_zreturn hx hb hr hk nz_Z1 dX2_isSameText_43
  have lp3 : ∀ (n3 : Nat) (s3 : Int32) (ls : Array Slot), iter (f2_isSameText_L3 p1 p2 p3 tp) n3 s3 = some e3 → lv_has ls 5 [(0, .ref (a_rd 0)), (1, .int p1), (2, .int p2), (3, .int p3), (4, .int s3)] → W p l e rm2_isSameText s m args below meth c s.heap [] 0 0 Q (F0 m 3 ls []) := by
    intro n3
    induction n3 with
    | zero =>
      intro s3 ls h hl
      exact (iter_zero h).elim
    | succ n3 ih3 =>
      intro s3 ls h hl
      obtain ⟨z3, h, hL3, hR3⟩ := iter_split h
      unfold f2_isSameText_L3 at h
      refine lv_iload hx hb dX2_isSameText_3 (lv_at hl 4 rfl) ?_
      refine lv_iload_n hx hb dX2_isSameText_5 rfl (lv_at hl 3 rfl) ?_
      refine lv_icmp_ge (tgt := 42) hx hb dX2_isSameText_6 (by decide) (fun bc => ?_) (fun bc => ?_)
      · have h := ite_t bc h
        obtain rfl := Option.some.inj h
        exact x42w _ ls (eq_some_app (hR3 _ rfl) hc3) (lv_sub hl [] rfl)
      · have h := ite_f bc h
        refine lv_aload_n hx hb dX2_isSameText_9 rfl (lv_at hl 0 rfl) ?_
        refine va_get (D := D) (ci := 2) (v := .ref (a_tp 0)) (C := "ConstraintText$Reader") (T := TX2) (N := 8) hx hb hts ing2 hown hK hP 0 rfl rfl 0 (by decide) (hts _ tw_219) (fun _ h9 => h9) rfl dX2_isSameText_10 ?_
        refine lv_iload_n hx hb dX2_isSameText_13 rfl (lv_at hl 1 rfl) ?_
        refine lv_iload hx hb dX2_isSameText_14 (lv_at hl 4 rfl) ?_
        refine lv_iadd hx hb dX2_isSameText_16 ?_
        obtain ⟨u17, hc_17, h⟩ := bnd_some h
        refine ro_V (n := 1) (As := [.int (p1 + s3)]) (rest := []) hx hb hml hown hts hN va_S.rf hK hP (c4_at l D kA a_tp (p1 + s3) tp u17 hc_17) [5, 6] rfl 5 4 rfl rfl rfl tw_315 tw_316 tw_317 tw_76 tw_318 rfl rfl (by decide) ⟨Nat.le_of_ble_eq_true rfl, Nat.le_of_ble_eq_true rfl⟩ rfl hl.1 rfl (Nat.le_of_ble_eq_true rfl) dX2_isSameText_17 ⟨Nat.le_of_ble_eq_true rfl, Nat.le_of_ble_eq_true rfl⟩ ?_
        refine lv_aload_n hx hb dX2_isSameText_20 rfl (lv_at hl 0 rfl) ?_
        refine va_get (D := D) (ci := 2) (v := .ref (a_tp 0)) (C := "ConstraintText$Reader") (T := TX2) (N := 8) hx hb hts ing2 hown hK hP 0 rfl rfl 0 (by decide) (hts _ tw_219) (fun _ h9 => h9) rfl dX2_isSameText_21 ?_
        refine lv_iload_n hx hb dX2_isSameText_24 rfl (lv_at hl 2 rfl) ?_
        refine lv_iload hx hb dX2_isSameText_25 (lv_at hl 4 rfl) ?_
        refine lv_iadd hx hb dX2_isSameText_27 ?_
        obtain ⟨u28, hc_28, h⟩ := bnd_some h
        refine ro_V (n := 1) (As := [.int (p2 + s3)]) (rest := [.int u17]) hx hb hml hown hts hN va_S.rf hK hP (c4_at l D kA a_tp (p2 + s3) tp u28 hc_28) [5, 6] rfl 5 4 rfl rfl rfl tw_315 tw_316 tw_317 tw_76 tw_318 rfl rfl (by decide) ⟨Nat.le_of_ble_eq_true rfl, Nat.le_of_ble_eq_true rfl⟩ rfl hl.1 rfl (Nat.le_of_ble_eq_true rfl) dX2_isSameText_28 ⟨Nat.le_of_ble_eq_true rfl, Nat.le_of_ble_eq_true rfl⟩ ?_
        refine lv_icmp_eq (tgt := 36) hx hb dX2_isSameText_31 (by decide) (fun bc => ?_) (fun bc => ?_)
        · have h := ite_t bc h
          refine lv_iinc (v := (s3 + (1 : Int32))) (lv' := [(4, .int (s3 + (1 : Int32))), (0, .ref (a_rd 0)), (1, .int p1), (2, .int p2), (3, .int p3)]) hx hb dX2_isSameText_36 hl (k := 4) rfl rfl (by decide) rfl (fun ls hl => ?_)
          refine lv_goto (tgt := 3) hx hb dX2_isSameText_39 (by decide) ?_
          obtain rfl := Option.some.inj h
          exact ih3 _ ls (hL3 _ rfl) (lv_sub hl [1, 2, 3, 4, 0] rfl)
        · have h := ite_f bc h
          obtain rfl := Option.some.inj h
          exact x34w _ ls (eq_some_app (hR3 _ rfl) hc3) (lv_sub hl [] rfl)
  exact lp3 F (0 : Int32) ls hi3 (lv_sub hl [1, 2, 3, 4, 0] rfl)
abbrev rm2_clockNamed : Room := { frames := 2, cells := 0, slots := 0, locals := 45 }
set_option maxHeartbeats 4000000 in
set_option maxRecDepth 100000 in
theorem c2_clockNamed (l : Launch) (D : va_G) (kA : Nat → ClassId) (a_rd : Nat → Nat) (a_sh : Nat → Nat) (a_ck : Nat → Nat) (a_tp : Nat → Nat) (F : Nat) (p1 : Int32) (p2 : Int32) (rd : T2) (sh : T3) (ck : T0) (tp : T4) (res : Int32) (h : f2_clockNamed F p1 p2 rd sh ck tp = some res) : Ro l yX2_clockNamed cX2_clockNamed 4 (some .int) rm2_clockNamed D kA [.ref (a_rd 0), .int p1, .int p2] [(a_rd 0, .inr (2, [.ref (a_tp 0), .ref (a_rd 2), .ref (a_rd 3), .ref (a_rd 4), .ref (a_rd 5), .ref (a_sh 0), .int rd.2.2.2.2.1, .int rd.2.2.2.2.2])), (a_rd 2, .inl (kA 0, 12, .inl rd.1)), (a_rd 3, .inl (kA 0, 12, .inl rd.2.1)), (a_rd 4, .inl (kA 0, 80, .inl rd.2.2.1)), (a_rd 5, .inl (kA 0, 80, .inl rd.2.2.2.1)), (a_sh 0, .inr (3, [.ref (a_sh 1), .ref (a_sh 2), .ref (a_sh 3), .ref (a_sh 4), .ref (a_sh 5), .ref (a_sh 6), .ref (a_sh 7), .ref (a_ck 0), .int sh.2.2.2.2.2.2.2.1, .int sh.2.2.2.2.2.2.2.2])), (a_sh 1, .inl (kA 0, 40, .inl sh.1)), (a_sh 2, .inl (kA 0, 40, .inl sh.2.1)), (a_sh 3, .inl (kA 0, 80, .inl sh.2.2.1)), (a_sh 4, .inl (kA 0, 120, .inl sh.2.2.2.1)), (a_sh 5, .inl (kA 0, 120, .inl sh.2.2.2.2.1)), (a_sh 6, .inl (kA 2, 120, .inr (.inl sh.2.2.2.2.2.1))), (a_sh 7, .inl (kA 1, 1240, .inl sh.2.2.2.2.2.2.1)), (a_ck 0, .inr (0, [.ref (a_ck 1), .ref (a_ck 2), .ref (a_ck 3), .ref (a_ck 4), .ref (a_ck 5), .ref (a_ck 6), .ref (a_ck 7), .ref (a_ck 8), .ref (a_ck 9), .ref (a_ck 10), .ref (a_ck 11), .int ck.2.2.2.2.2.2.2.2.2.2.2])), (a_ck 1, .inl (kA 0, 12, .inl ck.1)), (a_ck 2, .inl (kA 0, 12, .inl ck.2.1)), (a_ck 3, .inl (kA 3, 12, .inl ck.2.2.1)), (a_ck 4, .inl (kA 0, 12, .inl ck.2.2.2.1)), (a_ck 5, .inl (kA 0, 12, .inl ck.2.2.2.2.1)), (a_ck 6, .inl (kA 2, 12, .inr (.inl ck.2.2.2.2.2.1))), (a_ck 7, .inl (kA 2, 12, .inr (.inl ck.2.2.2.2.2.2.1))), (a_ck 8, .inl (kA 2, 12, .inr (.inl ck.2.2.2.2.2.2.2.1))), (a_ck 9, .inl (kA 2, 12, .inr (.inl ck.2.2.2.2.2.2.2.2.1))), (a_ck 10, .inl (kA 3, 12, .inl ck.2.2.2.2.2.2.2.2.2.1)), (a_ck 11, .inl (kA 3, 12, .inl ck.2.2.2.2.2.2.2.2.2.2.1)), (a_tp 0, .inr (4, [.ref (a_tp 1), .int tp.2])), (a_tp 1, .inl (kA 1, 1200, .inl tp.1))] (.int res) := by
  refine Ro.of (by decide +kernel) (Nat.le_of_ble_eq_true rfl) ?_
  intro p e s m args below meth c hF hP hK ls hl
  generalize hQ : roQ below _ args s = Q
  obtain ⟨hx, hb, hml, hown, hr, hk, hts, hN⟩ := hF
  have hl : lv_has ls 4 [(0, .ref (a_rd 0)), (1, .int p1), (2, .int p2)] := hl
  unfold f2_clockNamed at h
  refine lv_iconst (v := 0) hx hb dX2_clockNamed_0 (by decide) ?_
  refine lv_istore_n (lv' := [(3, .int (0 : Int32)), (0, .ref (a_rd 0)), (1, .int p1), (2, .int p2)]) hx hb dX2_clockNamed_1 rfl hl (by decide) rfl (fun ls hl => ?_)
  obtain ⟨k2, e2, hk2, hi2, hc2⟩ := bnd_name h
  have x41w : ∀ (x41 : Int32) (ls : Array Slot), k2 (.inl x41) = some res → lv_has ls 4 [(3, .int x41)] → W p l e rm2_clockNamed s m args below meth c s.heap [] 0 0 Q (F0 m 41 ls []) := by
    intro x41 ls h hl
    have h := app_of hk2 h
    have h := cas_l h
    refine lv_iload_n hx hb dX2_clockNamed_41 rfl (lv_at hl 0 rfl) ?_
    obtain rfl := Option.some.inj h
    rw [← hQ]
    exact ro_ireturn hx hb hr hk  dX2_clockNamed_42
  have x49w : ∀ (x49 : Unit) (ls : Array Slot), k2 (.inr x49) = some res → lv_has ls 4 [] → W p l e rm2_clockNamed s m args below meth c s.heap [] 0 0 Q (F0 m 49 ls []) := by
    intro x49 ls h hl
    have h := app_of hk2 h
    have h := cas_r h
    refine lv_iconst (v := -1) hx hb dX2_clockNamed_49 (by decide) ?_
    obtain rfl := Option.some.inj h
    rw [← hQ]
    exact ro_ireturn hx hb hr hk  dX2_clockNamed_50
  have lp2 : ∀ (n2 : Nat) (s2 : Int32) (ls : Array Slot), iter (f2_clockNamed_L2 F p1 p2 rd ck tp) n2 s2 = some e2 → lv_has ls 4 [(0, .ref (a_rd 0)), (1, .int p1), (2, .int p2), (3, .int s2)] → W p l e rm2_clockNamed s m args below meth c s.heap [] 0 0 Q (F0 m 2 ls []) := by
    intro n2
    induction n2 with
    | zero =>
      intro s2 ls h hl
      exact (iter_zero h).elim
    | succ n2 ih2 =>
      intro s2 ls h hl
      obtain ⟨z2, h, hL2, hR2⟩ := iter_split h
      unfold f2_clockNamed_L2 at h
      refine lv_iload_n hx hb dX2_clockNamed_2 rfl (lv_at hl 3 rfl) ?_
      refine lv_aload_n hx hb dX2_clockNamed_3 rfl (lv_at hl 0 rfl) ?_
      refine va_get (D := D) (ci := 2) (v := .ref (a_sh 0)) (C := "ConstraintText$Reader") (T := TX2) (N := 8) hx hb hts ing2 hown hK hP 0 rfl rfl 5 (by decide) (hts _ tw_225) (fun _ h9 => h9) rfl dX2_clockNamed_4 ?_
      refine va_getN (D := D) (ci := 3) (v := .ref (a_ck 0)) (C := "ConstraintText$Sheet") (T := TX3) (N := 10) hx hb hts ing3 hown hK hP 5 rfl rfl 7 (by decide) (va_Nw.use rfl (hN.1 _ nw_192)) (fun _ h9 => h9) rfl dX2_clockNamed_7 ?_
      refine va_getN (D := D) (ci := 0) (v := .int ck.2.2.2.2.2.2.2.2.2.2.2) (C := "ConstraintText$ClockTable") (T := TX0) (N := 12) hx hb hts ing0 hown hK hP 13 rfl rfl 11 (by decide) (va_Nw.use rfl (hN.1 _ nw_150)) (fun _ h9 => h9) rfl dX2_clockNamed_10 ?_
      refine lv_icmp_ge (tgt := 49) hx hb dX2_clockNamed_13 (by decide) (fun bc => ?_) (fun bc => ?_)
      · have h := ite_t bc h
        obtain rfl := Option.some.inj h
        exact x49w _ ls (eq_some_app (hR2 _ rfl) hc2) (lv_sub hl [] rfl)
      · have h := ite_f bc h
        refine lv_aload_n hx hb dX2_clockNamed_16 rfl (lv_at hl 0 rfl) ?_
        refine va_get (D := D) (ci := 2) (v := .ref (a_rd 3)) (C := "ConstraintText$Reader") (T := TX2) (N := 8) hx hb hts ing2 hown hK hP 0 rfl rfl 2 (by decide) (hts _ tw_222) (fun _ h9 => h9) rfl dX2_clockNamed_17 ?_
        refine lv_iload_n hx hb dX2_clockNamed_20 rfl (lv_at hl 3 rfl) ?_
        obtain ⟨g21, h⟩ := grd_some h
        refine va_iald hx hb hK hP 2 0 rfl rfl (inb_in g21) dX2_clockNamed_21 ?_
        refine lv_iload_n hx hb dX2_clockNamed_22 rfl (lv_at hl 2 rfl) ?_
        obtain ⟨k43, hk43, h⟩ := jn_name h
        have j43 : ∀ (v43 : Unit) (ls : Array Slot), k43 v43 = some z2 → lv_has ls 4 [(0, .ref (a_rd 0)), (1, .int p1), (2, .int p2), (3, .int s2)] → W p l e rm2_clockNamed s m args below meth c s.heap [] 0 0 Q (F0 m 43 ls []) := by
          intro v43 ls h hl
          have h := app_of hk43 h
          refine lv_iinc (v := (s2 + (1 : Int32))) (lv' := [(3, .int (s2 + (1 : Int32))), (0, .ref (a_rd 0)), (1, .int p1), (2, .int p2)]) hx hb dX2_clockNamed_43 hl (k := 3) rfl rfl (by decide) rfl (fun ls hl => ?_)
          refine lv_goto (tgt := 2) hx hb dX2_clockNamed_46 (by decide) ?_
          obtain rfl := Option.some.inj h
          exact ih2 _ ls (hL2 _ rfl) (lv_sub hl [1, 2, 3, 0] rfl)
        refine lv_icmp_ne (tgt := 43) hx hb dX2_clockNamed_23 (by decide) (fun bc => ?_) (fun bc => ?_)
        · have h := ite_f bc h
          exact j43 _ ls h hl
        · have h := ite_t bc h
          refine lv_aload_n hx hb dX2_clockNamed_26 rfl (lv_at hl 0 rfl) ?_
          refine lv_aload_n hx hb dX2_clockNamed_27 rfl (lv_at hl 0 rfl) ?_
          refine va_get (D := D) (ci := 2) (v := .ref (a_rd 2)) (C := "ConstraintText$Reader") (T := TX2) (N := 8) hx hb hts ing2 hown hK hP 0 rfl rfl 1 (by decide) (hts _ tw_221) (fun _ h9 => h9) rfl dX2_clockNamed_28 ?_
          refine lv_iload_n hx hb dX2_clockNamed_31 rfl (lv_at hl 3 rfl) ?_
          obtain ⟨g32, h⟩ := grd_some h
          refine va_iald hx hb hK hP 1 0 rfl rfl (inb_in g32) dX2_clockNamed_32 ?_
          refine lv_iload_n hx hb dX2_clockNamed_33 rfl (lv_at hl 1 rfl) ?_
          refine lv_iload_n hx hb dX2_clockNamed_34 rfl (lv_at hl 2 rfl) ?_
          obtain ⟨u35, hc_35, h⟩ := bnd_some h
          refine ro_V (n := 3) (As := [.int (rd.1 s2.toNatClampNeg), .int p1, .int p2]) (rest := []) hx hb hml hown hts hN va_S.rf hK hP (c2_isSameText l D kA a_rd a_tp a_sh F (rd.1 s2.toNatClampNeg) p1 p2 rd tp u35 hc_35) [0, 1, 2, 3, 4, 25, 26] rfl 0 2 rfl rfl rfl tw_431 tw_433 tw_8 tw_75 tw_434 rfl rfl (by decide) ⟨Nat.le_of_ble_eq_true rfl, Nat.le_of_ble_eq_true rfl⟩ rfl hl.1 rfl (Nat.le_of_ble_eq_true rfl) dX2_clockNamed_35 ⟨Nat.le_of_ble_eq_true rfl, Nat.le_of_ble_eq_true rfl⟩ ?_
          refine lv_if_eq (tgt := 43) hx hb dX2_clockNamed_38 (by decide) (fun bc => ?_) (fun bc => ?_)
          · have h := ite_t bc h
            exact j43 _ ls h hl
          · have h := ite_f bc h
            obtain rfl := Option.some.inj h
            exact x41w _ ls (eq_some_app (hR2 _ rfl) hc2) (lv_sub hl [3] rfl)
  exact lp2 F (0 : Int32) ls hi2 (lv_sub hl [1, 2, 3, 0] rfl)
abbrev rm2_takeNewClock : Room := { frames := 3, cells := 0, slots := 0, locals := 68 }
set_option maxHeartbeats 4000000 in
set_option maxRecDepth 100000 in
theorem c2_takeNewClock (l : Launch) (D : va_G) (kA : Nat → ClassId) (a_rd : Nat → Nat) (a_tp : Nat → Nat) (a_sh : Nat → Nat) (a_ck : Nat → Nat) (F : Nat) (rd : T2) (tp : T4) (sh : T3) (ck : T0) (res : Int32 × T2 × T3 × T0) (h : f2_takeNewClock F rd tp sh ck = some res) : Rw l yX2_takeNewClock cX2_takeNewClock 2 (some .boolean) rm2_takeNewClock D kA [.ref (a_rd 0)] [(a_rd 0, .inr (2, [.ref (a_tp 0), .ref (a_rd 2), .ref (a_rd 3), .ref (a_rd 4), .ref (a_rd 5), .ref (a_sh 0), .int rd.2.2.2.2.1, .int rd.2.2.2.2.2])), (a_rd 2, .inl (kA 0, 12, .inl rd.1)), (a_rd 3, .inl (kA 0, 12, .inl rd.2.1)), (a_rd 4, .inl (kA 0, 80, .inl rd.2.2.1)), (a_rd 5, .inl (kA 0, 80, .inl rd.2.2.2.1)), (a_tp 0, .inr (4, [.ref (a_tp 1), .int tp.2])), (a_tp 1, .inl (kA 1, 1200, .inl tp.1)), (a_sh 0, .inr (3, [.ref (a_sh 1), .ref (a_sh 2), .ref (a_sh 3), .ref (a_sh 4), .ref (a_sh 5), .ref (a_sh 6), .ref (a_sh 7), .ref (a_ck 0), .int sh.2.2.2.2.2.2.2.1, .int sh.2.2.2.2.2.2.2.2])), (a_sh 1, .inl (kA 0, 40, .inl sh.1)), (a_sh 2, .inl (kA 0, 40, .inl sh.2.1)), (a_sh 3, .inl (kA 0, 80, .inl sh.2.2.1)), (a_sh 4, .inl (kA 0, 120, .inl sh.2.2.2.1)), (a_sh 5, .inl (kA 0, 120, .inl sh.2.2.2.2.1)), (a_sh 6, .inl (kA 2, 120, .inr (.inl sh.2.2.2.2.2.1))), (a_sh 7, .inl (kA 1, 1240, .inl sh.2.2.2.2.2.2.1)), (a_ck 0, .inr (0, [.ref (a_ck 1), .ref (a_ck 2), .ref (a_ck 3), .ref (a_ck 4), .ref (a_ck 5), .ref (a_ck 6), .ref (a_ck 7), .ref (a_ck 8), .ref (a_ck 9), .ref (a_ck 10), .ref (a_ck 11), .int ck.2.2.2.2.2.2.2.2.2.2.2])), (a_ck 1, .inl (kA 0, 12, .inl ck.1)), (a_ck 2, .inl (kA 0, 12, .inl ck.2.1)), (a_ck 3, .inl (kA 3, 12, .inl ck.2.2.1)), (a_ck 4, .inl (kA 0, 12, .inl ck.2.2.2.1)), (a_ck 5, .inl (kA 0, 12, .inl ck.2.2.2.2.1)), (a_ck 6, .inl (kA 2, 12, .inr (.inl ck.2.2.2.2.2.1))), (a_ck 7, .inl (kA 2, 12, .inr (.inl ck.2.2.2.2.2.2.1))), (a_ck 8, .inl (kA 2, 12, .inr (.inl ck.2.2.2.2.2.2.2.1))), (a_ck 9, .inl (kA 2, 12, .inr (.inl ck.2.2.2.2.2.2.2.2.1))), (a_ck 10, .inl (kA 3, 12, .inl ck.2.2.2.2.2.2.2.2.2.1)), (a_ck 11, .inl (kA 3, 12, .inl ck.2.2.2.2.2.2.2.2.2.2.1))] (some (.int res.1)) [(a_rd 0, .inr (2, [.ref (a_tp 0), .ref (a_rd 2), .ref (a_rd 3), .ref (a_rd 4), .ref (a_rd 5), .ref (a_sh 0), .int res.2.1.2.2.2.2.1, .int res.2.1.2.2.2.2.2])), (a_rd 2, .inl (kA 0, 12, .inl res.2.1.1)), (a_rd 3, .inl (kA 0, 12, .inl res.2.1.2.1)), (a_rd 4, .inl (kA 0, 80, .inl res.2.1.2.2.1)), (a_rd 5, .inl (kA 0, 80, .inl res.2.1.2.2.2.1)), (a_tp 0, .inr (4, [.ref (a_tp 1), .int tp.2])), (a_tp 1, .inl (kA 1, 1200, .inl tp.1)), (a_sh 0, .inr (3, [.ref (a_sh 1), .ref (a_sh 2), .ref (a_sh 3), .ref (a_sh 4), .ref (a_sh 5), .ref (a_sh 6), .ref (a_sh 7), .ref (a_ck 0), .int res.2.2.1.2.2.2.2.2.2.2.1, .int res.2.2.1.2.2.2.2.2.2.2.2])), (a_sh 1, .inl (kA 0, 40, .inl res.2.2.1.1)), (a_sh 2, .inl (kA 0, 40, .inl res.2.2.1.2.1)), (a_sh 3, .inl (kA 0, 80, .inl res.2.2.1.2.2.1)), (a_sh 4, .inl (kA 0, 120, .inl res.2.2.1.2.2.2.1)), (a_sh 5, .inl (kA 0, 120, .inl res.2.2.1.2.2.2.2.1)), (a_sh 6, .inl (kA 2, 120, .inr (.inl res.2.2.1.2.2.2.2.2.1))), (a_sh 7, .inl (kA 1, 1240, .inl res.2.2.1.2.2.2.2.2.2.1)), (a_ck 0, .inr (0, [.ref (a_ck 1), .ref (a_ck 2), .ref (a_ck 3), .ref (a_ck 4), .ref (a_ck 5), .ref (a_ck 6), .ref (a_ck 7), .ref (a_ck 8), .ref (a_ck 9), .ref (a_ck 10), .ref (a_ck 11), .int res.2.2.2.2.2.2.2.2.2.2.2.2.2.2])), (a_ck 1, .inl (kA 0, 12, .inl res.2.2.2.1)), (a_ck 2, .inl (kA 0, 12, .inl res.2.2.2.2.1)), (a_ck 3, .inl (kA 3, 12, .inl res.2.2.2.2.2.1)), (a_ck 4, .inl (kA 0, 12, .inl res.2.2.2.2.2.2.1)), (a_ck 5, .inl (kA 0, 12, .inl res.2.2.2.2.2.2.2.1)), (a_ck 6, .inl (kA 2, 12, .inr (.inl res.2.2.2.2.2.2.2.2.1))), (a_ck 7, .inl (kA 2, 12, .inr (.inl res.2.2.2.2.2.2.2.2.2.1))), (a_ck 8, .inl (kA 2, 12, .inr (.inl res.2.2.2.2.2.2.2.2.2.2.1))), (a_ck 9, .inl (kA 2, 12, .inr (.inl res.2.2.2.2.2.2.2.2.2.2.2.1))), (a_ck 10, .inl (kA 3, 12, .inl res.2.2.2.2.2.2.2.2.2.2.2.2.1)), (a_ck 11, .inl (kA 3, 12, .inl res.2.2.2.2.2.2.2.2.2.2.2.2.2.1))] := by
  refine Rw.of (by decide) (Nat.le_of_ble_eq_true rfl) ?_
  intro p e s m args below meth c A hF hP hD hS hA hK ls hl
  generalize hQ : rwQ below D A _ _ args s = Q
  obtain ⟨hx, hb, hml, hown, hr, hk, hts, hN⟩ := hF
  have hl : lv_has ls 2 [(0, .ref (a_rd 0))] := hl
  unfold f2_takeNewClock at h
  refine lv_aload_n hx hb dX2_takeNewClock_0 rfl (lv_at hl 0 rfl) ?_
  obtain ⟨u1, hc_1, h⟩ := bnd_some h
  refine rw_V (wr := [(a_sh 0, .inr (3, [.ref (a_sh 1), .ref (a_sh 2), .ref (a_sh 3), .ref (a_sh 4), .ref (a_sh 5), .ref (a_sh 6), .ref (a_sh 7), .ref (a_ck 0), .int sh.2.2.2.2.2.2.2.1, .int sh.2.2.2.2.2.2.2.2])), (a_sh 1, .inl (kA 0, 40, .inl sh.1)), (a_sh 2, .inl (kA 0, 40, .inl sh.2.1)), (a_sh 3, .inl (kA 0, 80, .inl sh.2.2.1)), (a_sh 4, .inl (kA 0, 120, .inl sh.2.2.2.1)), (a_sh 5, .inl (kA 0, 120, .inl sh.2.2.2.2.1)), (a_sh 6, .inl (kA 2, 120, .inr (.inl sh.2.2.2.2.2.1))), (a_sh 7, .inl (kA 1, 1240, .inl sh.2.2.2.2.2.2.1)), (a_ck 0, .inr (0, [.ref (a_ck 1), .ref (a_ck 2), .ref (a_ck 3), .ref (a_ck 4), .ref (a_ck 5), .ref (a_ck 6), .ref (a_ck 7), .ref (a_ck 8), .ref (a_ck 9), .ref (a_ck 10), .ref (a_ck 11), .int ck.2.2.2.2.2.2.2.2.2.2.2])), (a_ck 1, .inl (kA 0, 12, .inl ck.1)), (a_ck 2, .inl (kA 0, 12, .inl ck.2.1)), (a_ck 3, .inl (kA 3, 12, .inl ck.2.2.1)), (a_ck 4, .inl (kA 0, 12, .inl ck.2.2.2.1)), (a_ck 5, .inl (kA 0, 12, .inl ck.2.2.2.2.1)), (a_ck 6, .inl (kA 2, 12, .inr (.inl ck.2.2.2.2.2.1))), (a_ck 7, .inl (kA 2, 12, .inr (.inl ck.2.2.2.2.2.2.1))), (a_ck 8, .inl (kA 2, 12, .inr (.inl ck.2.2.2.2.2.2.2.1))), (a_ck 9, .inl (kA 2, 12, .inr (.inl ck.2.2.2.2.2.2.2.2.1))), (a_ck 10, .inl (kA 3, 12, .inl ck.2.2.2.2.2.2.2.2.2.1)), (a_ck 11, .inl (kA 3, 12, .inl ck.2.2.2.2.2.2.2.2.2.2.1))]) (n := 0) (As := []) (rest := []) hx hb hml hown hts hN hS hK hP hD hA (c2_takeWord l D kA a_rd a_tp a_sh F rd tp u1 hc_1) [0, 1, 2, 3, 4, 5, 6] [7, 8, 9, 10, 11, 12, 13, 14, 15, 16, 17, 18, 19, 20, 21, 22, 23, 24, 25, 26] rfl (by decide) rfl (by decide) (by decide) 0 2 rfl rfl rfl tw_311 tw_313 tw_0 tw_75 tw_314 rfl rfl (by decide) ⟨Nat.le_of_ble_eq_true rfl, Nat.le_of_ble_eq_true rfl⟩ rfl hl.1 rfl (Nat.le_of_ble_eq_true rfl) dX2_takeNewClock_1 ⟨Nat.le_of_ble_eq_true rfl, Nat.le_of_ble_eq_true rfl⟩ (fun H locs hP hD hS => ?_)
  have hP : va_P D vwCl [(a_sh 0, .inr (3, [.ref (a_sh 1), .ref (a_sh 2), .ref (a_sh 3), .ref (a_sh 4), .ref (a_sh 5), .ref (a_sh 6), .ref (a_sh 7), .ref (a_ck 0), .int sh.2.2.2.2.2.2.2.1, .int sh.2.2.2.2.2.2.2.2])), (a_sh 1, .inl (kA 0, 40, .inl sh.1)), (a_sh 2, .inl (kA 0, 40, .inl sh.2.1)), (a_sh 3, .inl (kA 0, 80, .inl sh.2.2.1)), (a_sh 4, .inl (kA 0, 120, .inl sh.2.2.2.1)), (a_sh 5, .inl (kA 0, 120, .inl sh.2.2.2.2.1)), (a_sh 6, .inl (kA 2, 120, .inr (.inl sh.2.2.2.2.2.1))), (a_sh 7, .inl (kA 1, 1240, .inl sh.2.2.2.2.2.2.1)), (a_ck 0, .inr (0, [.ref (a_ck 1), .ref (a_ck 2), .ref (a_ck 3), .ref (a_ck 4), .ref (a_ck 5), .ref (a_ck 6), .ref (a_ck 7), .ref (a_ck 8), .ref (a_ck 9), .ref (a_ck 10), .ref (a_ck 11), .int ck.2.2.2.2.2.2.2.2.2.2.2])), (a_ck 1, .inl (kA 0, 12, .inl ck.1)), (a_ck 2, .inl (kA 0, 12, .inl ck.2.1)), (a_ck 3, .inl (kA 3, 12, .inl ck.2.2.1)), (a_ck 4, .inl (kA 0, 12, .inl ck.2.2.2.1)), (a_ck 5, .inl (kA 0, 12, .inl ck.2.2.2.2.1)), (a_ck 6, .inl (kA 2, 12, .inr (.inl ck.2.2.2.2.2.1))), (a_ck 7, .inl (kA 2, 12, .inr (.inl ck.2.2.2.2.2.2.1))), (a_ck 8, .inl (kA 2, 12, .inr (.inl ck.2.2.2.2.2.2.2.1))), (a_ck 9, .inl (kA 2, 12, .inr (.inl ck.2.2.2.2.2.2.2.2.1))), (a_ck 10, .inl (kA 3, 12, .inl ck.2.2.2.2.2.2.2.2.2.1)), (a_ck 11, .inl (kA 3, 12, .inl ck.2.2.2.2.2.2.2.2.2.2.1)), (a_rd 0, .inr (2, [.ref (a_tp 0), .ref (a_rd 2), .ref (a_rd 3), .ref (a_rd 4), .ref (a_rd 5), .ref (a_sh 0), .int u1.2.2.2.2.1, .int u1.2.2.2.2.2])), (a_rd 2, .inl (kA 0, 12, .inl u1.1)), (a_rd 3, .inl (kA 0, 12, .inl u1.2.1)), (a_rd 4, .inl (kA 0, 80, .inl u1.2.2.1)), (a_rd 5, .inl (kA 0, 80, .inl u1.2.2.2.1)), (a_tp 0, .inr (4, [.ref (a_tp 1), .int tp.2])), (a_tp 1, .inl (kA 1, 1200, .inl tp.1))] H := hP
  have hD : va_D A [(a_sh 0, .inr (3, [.ref (a_sh 1), .ref (a_sh 2), .ref (a_sh 3), .ref (a_sh 4), .ref (a_sh 5), .ref (a_sh 6), .ref (a_sh 7), .ref (a_ck 0), .int sh.2.2.2.2.2.2.2.1, .int sh.2.2.2.2.2.2.2.2])), (a_sh 1, .inl (kA 0, 40, .inl sh.1)), (a_sh 2, .inl (kA 0, 40, .inl sh.2.1)), (a_sh 3, .inl (kA 0, 80, .inl sh.2.2.1)), (a_sh 4, .inl (kA 0, 120, .inl sh.2.2.2.1)), (a_sh 5, .inl (kA 0, 120, .inl sh.2.2.2.2.1)), (a_sh 6, .inl (kA 2, 120, .inr (.inl sh.2.2.2.2.2.1))), (a_sh 7, .inl (kA 1, 1240, .inl sh.2.2.2.2.2.2.1)), (a_ck 0, .inr (0, [.ref (a_ck 1), .ref (a_ck 2), .ref (a_ck 3), .ref (a_ck 4), .ref (a_ck 5), .ref (a_ck 6), .ref (a_ck 7), .ref (a_ck 8), .ref (a_ck 9), .ref (a_ck 10), .ref (a_ck 11), .int ck.2.2.2.2.2.2.2.2.2.2.2])), (a_ck 1, .inl (kA 0, 12, .inl ck.1)), (a_ck 2, .inl (kA 0, 12, .inl ck.2.1)), (a_ck 3, .inl (kA 3, 12, .inl ck.2.2.1)), (a_ck 4, .inl (kA 0, 12, .inl ck.2.2.2.1)), (a_ck 5, .inl (kA 0, 12, .inl ck.2.2.2.2.1)), (a_ck 6, .inl (kA 2, 12, .inr (.inl ck.2.2.2.2.2.1))), (a_ck 7, .inl (kA 2, 12, .inr (.inl ck.2.2.2.2.2.2.1))), (a_ck 8, .inl (kA 2, 12, .inr (.inl ck.2.2.2.2.2.2.2.1))), (a_ck 9, .inl (kA 2, 12, .inr (.inl ck.2.2.2.2.2.2.2.2.1))), (a_ck 10, .inl (kA 3, 12, .inl ck.2.2.2.2.2.2.2.2.2.1)), (a_ck 11, .inl (kA 3, 12, .inl ck.2.2.2.2.2.2.2.2.2.2.1)), (a_rd 0, .inr (2, [.ref (a_tp 0), .ref (a_rd 2), .ref (a_rd 3), .ref (a_rd 4), .ref (a_rd 5), .ref (a_sh 0), .int u1.2.2.2.2.1, .int u1.2.2.2.2.2])), (a_rd 2, .inl (kA 0, 12, .inl u1.1)), (a_rd 3, .inl (kA 0, 12, .inl u1.2.1)), (a_rd 4, .inl (kA 0, 80, .inl u1.2.2.1)), (a_rd 5, .inl (kA 0, 80, .inl u1.2.2.2.1)), (a_tp 0, .inr (4, [.ref (a_tp 1), .int tp.2])), (a_tp 1, .inl (kA 1, 1200, .inl tp.1))] := hD
  refine lv_aload_n hx hb dX2_takeNewClock_4 rfl (lv_at hl 0 rfl) ?_
  refine va_get (D := D) (ci := 2) (v := .ref (a_sh 0)) (C := "ConstraintText$Reader") (T := TX2) (N := 8) hx hb hts ing2 hown hK hP 20 rfl rfl 5 (by decide) (hts _ tw_225) (fun _ h9 => h9) rfl dX2_takeNewClock_5 ?_
  refine va_getN (D := D) (ci := 3) (v := .ref (a_ck 0)) (C := "ConstraintText$Sheet") (T := TX3) (N := 10) hx hb hts ing3 hown hK hP 0 rfl rfl 7 (by decide) (va_Nw.use rfl (hN.1 _ nw_192)) (fun _ h9 => h9) rfl dX2_takeNewClock_8 ?_
  refine va_getN (D := D) (ci := 0) (v := .int ck.2.2.2.2.2.2.2.2.2.2.2) (C := "ConstraintText$ClockTable") (T := TX0) (N := 12) hx hb hts ing0 hown hK hP 8 rfl rfl 11 (by decide) (va_Nw.use rfl (hN.1 _ nw_150)) (fun _ h9 => h9) rfl dX2_takeNewClock_11 ?_
  refine lv_istore_n (lv' := [(1, .int ck.2.2.2.2.2.2.2.2.2.2.2), (0, .ref (a_rd 0))]) hx hb dX2_takeNewClock_14 rfl hl (by decide) rfl (fun ls hl => ?_)
  refine lv_aload_n hx hb dX2_takeNewClock_15 rfl (lv_at hl 1 rfl) ?_
  obtain ⟨u16, hc_16, h⟩ := bnd_some h
  refine ro_V (n := 0) (As := []) (rest := []) hx hb hml hown hts hN hS hK hP (c2_isNameInHand l D kA a_rd a_tp a_sh F u1 tp u16 hc_16) [20, 21, 22, 23, 24, 25, 26] rfl 20 2 rfl rfl rfl tw_420 tw_422 tw_6 tw_75 tw_423 rfl rfl (by decide) ⟨Nat.le_of_ble_eq_true rfl, Nat.le_of_ble_eq_true rfl⟩ rfl hl.1 rfl (Nat.le_of_ble_eq_true rfl) dX2_takeNewClock_16 ⟨Nat.le_of_ble_eq_true rfl, Nat.le_of_ble_eq_true rfl⟩ ?_
  refine lv_if_eq (tgt := 49) hx hb dX2_takeNewClock_19 (by decide) (fun bc => ?_) (fun bc => ?_)
  · have h := ite_t bc h
    refine lv_iconst (v := 0) hx hb dX2_takeNewClock_49 (by decide) ?_
    obtain rfl := Option.some.inj h
    rw [← hQ]
    exact rw_zreturn hx hb hr hk nz_Z0 dX2_takeNewClock_50  (hP.sub [20, 21, 22, 23, 24, 25, 26, 0, 1, 2, 3, 4, 5, 6, 7, 8, 9, 10, 11, 12, 13, 14, 15, 16, 17, 18, 19] rfl) (hD.sub [20, 21, 22, 23, 24, 25, 26, 0, 1, 2, 3, 4, 5, 6, 7, 8, 9, 10, 11, 12, 13, 14, 15, 16, 17, 18, 19] (by decide) rfl) hS
  · have h := ite_f bc h
    refine lv_iload_n hx hb dX2_takeNewClock_22 rfl (lv_at hl 0 rfl) ?_
    refine lv_bipush (v := 12) hx hb dX2_takeNewClock_23 (by decide) ?_
    refine lv_icmp_ge (tgt := 49) hx hb dX2_takeNewClock_25 (by decide) (fun bc => ?_) (fun bc => ?_)
    · have h := ite_t bc h
      refine lv_iconst (v := 0) hx hb dX2_takeNewClock_49 (by decide) ?_
      obtain rfl := Option.some.inj h
      rw [← hQ]
      exact rw_zreturn hx hb hr hk nz_Z0 dX2_takeNewClock_50  (hP.sub [20, 21, 22, 23, 24, 25, 26, 0, 1, 2, 3, 4, 5, 6, 7, 8, 9, 10, 11, 12, 13, 14, 15, 16, 17, 18, 19] rfl) (hD.sub [20, 21, 22, 23, 24, 25, 26, 0, 1, 2, 3, 4, 5, 6, 7, 8, 9, 10, 11, 12, 13, 14, 15, 16, 17, 18, 19] (by decide) rfl) hS
    · have h := ite_f bc h
      refine lv_aload_n hx hb dX2_takeNewClock_28 rfl (lv_at hl 1 rfl) ?_
      refine lv_aload_n hx hb dX2_takeNewClock_29 rfl (lv_at hl 1 rfl) ?_
      refine va_get (D := D) (ci := 2) (v := .int u1.2.2.2.2.1) (C := "ConstraintText$Reader") (T := TX2) (N := 8) hx hb hts ing2 hown hK hP 20 rfl rfl 6 (by decide) (hts _ tw_226) (fun _ h9 => h9) rfl dX2_takeNewClock_30 ?_
      refine lv_aload_n hx hb dX2_takeNewClock_33 rfl (lv_at hl 1 rfl) ?_
      refine va_get (D := D) (ci := 2) (v := .int u1.2.2.2.2.2) (C := "ConstraintText$Reader") (T := TX2) (N := 8) hx hb hts ing2 hown hK hP 20 rfl rfl 7 (by decide) (hts _ tw_227) (fun _ h9 => h9) rfl dX2_takeNewClock_34 ?_
      refine lv_aload_n hx hb dX2_takeNewClock_37 rfl (lv_at hl 1 rfl) ?_
      refine va_get (D := D) (ci := 2) (v := .int u1.2.2.2.2.1) (C := "ConstraintText$Reader") (T := TX2) (N := 8) hx hb hts ing2 hown hK hP 20 rfl rfl 6 (by decide) (hts _ tw_226) (fun _ h9 => h9) rfl dX2_takeNewClock_38 ?_
      refine lv_isub hx hb dX2_takeNewClock_41 ?_
      obtain ⟨u42, hc_42, h⟩ := bnd_some h
      refine ro_V (n := 2) (As := [.int u1.2.2.2.2.1, .int (u1.2.2.2.2.2 - u1.2.2.2.2.1)]) (rest := []) hx hb hml hown hts hN hS hK hP (c2_clockNamed l D kA a_rd a_sh a_ck a_tp F u1.2.2.2.2.1 (u1.2.2.2.2.2 - u1.2.2.2.2.1) u1 sh ck tp u42 hc_42) [20, 21, 22, 23, 24, 0, 1, 2, 3, 4, 5, 6, 7, 8, 9, 10, 11, 12, 13, 14, 15, 16, 17, 18, 19, 25, 26] rfl 20 2 rfl rfl rfl tw_427 tw_429 tw_7 tw_75 tw_430 rfl rfl (by decide) ⟨Nat.le_of_ble_eq_true rfl, Nat.le_of_ble_eq_true rfl⟩ rfl hl.1 rfl (Nat.le_of_ble_eq_true rfl) dX2_takeNewClock_42 ⟨Nat.le_of_ble_eq_true rfl, Nat.le_of_ble_eq_true rfl⟩ ?_
      refine lv_iconst (v := -1) hx hb dX2_takeNewClock_45 (by decide) ?_
      refine lv_icmp_eq (tgt := 51) hx hb dX2_takeNewClock_46 (by decide) (fun bc => ?_) (fun bc => ?_)
      · have h := ite_t bc h
        refine lv_aload_n hx hb dX2_takeNewClock_51 rfl (lv_at hl 1 rfl) ?_
        refine va_get (D := D) (ci := 2) (v := .ref (a_rd 2)) (C := "ConstraintText$Reader") (T := TX2) (N := 8) hx hb hts ing2 hown hK hP 20 rfl rfl 1 (by decide) (hts _ tw_221) (fun _ h9 => h9) rfl dX2_takeNewClock_52 ?_
        refine lv_iload_n hx hb dX2_takeNewClock_55 rfl (lv_at hl 0 rfl) ?_
        refine lv_aload_n hx hb dX2_takeNewClock_56 rfl (lv_at hl 1 rfl) ?_
        refine va_get (D := D) (ci := 2) (v := .int u1.2.2.2.2.1) (C := "ConstraintText$Reader") (T := TX2) (N := 8) hx hb hts ing2 hown hK hP 20 rfl rfl 6 (by decide) (hts _ tw_226) (fun _ h9 => h9) rfl dX2_takeNewClock_57 ?_
        obtain ⟨g60, h⟩ := grd_some h
        refine va_iast hx hb hK hP hD hS 21 0 rfl rfl (inb_in g60) dX2_takeNewClock_60 (fun H locs hP hD hS => ?_)
        have hP : va_P D vwCl [(a_sh 0, .inr (3, [.ref (a_sh 1), .ref (a_sh 2), .ref (a_sh 3), .ref (a_sh 4), .ref (a_sh 5), .ref (a_sh 6), .ref (a_sh 7), .ref (a_ck 0), .int sh.2.2.2.2.2.2.2.1, .int sh.2.2.2.2.2.2.2.2])), (a_sh 1, .inl (kA 0, 40, .inl sh.1)), (a_sh 2, .inl (kA 0, 40, .inl sh.2.1)), (a_sh 3, .inl (kA 0, 80, .inl sh.2.2.1)), (a_sh 4, .inl (kA 0, 120, .inl sh.2.2.2.1)), (a_sh 5, .inl (kA 0, 120, .inl sh.2.2.2.2.1)), (a_sh 6, .inl (kA 2, 120, .inr (.inl sh.2.2.2.2.2.1))), (a_sh 7, .inl (kA 1, 1240, .inl sh.2.2.2.2.2.2.1)), (a_ck 0, .inr (0, [.ref (a_ck 1), .ref (a_ck 2), .ref (a_ck 3), .ref (a_ck 4), .ref (a_ck 5), .ref (a_ck 6), .ref (a_ck 7), .ref (a_ck 8), .ref (a_ck 9), .ref (a_ck 10), .ref (a_ck 11), .int ck.2.2.2.2.2.2.2.2.2.2.2])), (a_ck 1, .inl (kA 0, 12, .inl ck.1)), (a_ck 2, .inl (kA 0, 12, .inl ck.2.1)), (a_ck 3, .inl (kA 3, 12, .inl ck.2.2.1)), (a_ck 4, .inl (kA 0, 12, .inl ck.2.2.2.1)), (a_ck 5, .inl (kA 0, 12, .inl ck.2.2.2.2.1)), (a_ck 6, .inl (kA 2, 12, .inr (.inl ck.2.2.2.2.2.1))), (a_ck 7, .inl (kA 2, 12, .inr (.inl ck.2.2.2.2.2.2.1))), (a_ck 8, .inl (kA 2, 12, .inr (.inl ck.2.2.2.2.2.2.2.1))), (a_ck 9, .inl (kA 2, 12, .inr (.inl ck.2.2.2.2.2.2.2.2.1))), (a_ck 10, .inl (kA 3, 12, .inl ck.2.2.2.2.2.2.2.2.2.1)), (a_ck 11, .inl (kA 3, 12, .inl ck.2.2.2.2.2.2.2.2.2.2.1)), (a_rd 0, .inr (2, [.ref (a_tp 0), .ref (a_rd 2), .ref (a_rd 3), .ref (a_rd 4), .ref (a_rd 5), .ref (a_sh 0), .int u1.2.2.2.2.1, .int u1.2.2.2.2.2])), (a_rd 2, .inl (kA 0, 12, .inl (upd u1.1 ck.2.2.2.2.2.2.2.2.2.2.2.toNatClampNeg u1.2.2.2.2.1))), (a_rd 3, .inl (kA 0, 12, .inl u1.2.1)), (a_rd 4, .inl (kA 0, 80, .inl u1.2.2.1)), (a_rd 5, .inl (kA 0, 80, .inl u1.2.2.2.1)), (a_tp 0, .inr (4, [.ref (a_tp 1), .int tp.2])), (a_tp 1, .inl (kA 1, 1200, .inl tp.1))] H := hP
        have hD : va_D A [(a_sh 0, .inr (3, [.ref (a_sh 1), .ref (a_sh 2), .ref (a_sh 3), .ref (a_sh 4), .ref (a_sh 5), .ref (a_sh 6), .ref (a_sh 7), .ref (a_ck 0), .int sh.2.2.2.2.2.2.2.1, .int sh.2.2.2.2.2.2.2.2])), (a_sh 1, .inl (kA 0, 40, .inl sh.1)), (a_sh 2, .inl (kA 0, 40, .inl sh.2.1)), (a_sh 3, .inl (kA 0, 80, .inl sh.2.2.1)), (a_sh 4, .inl (kA 0, 120, .inl sh.2.2.2.1)), (a_sh 5, .inl (kA 0, 120, .inl sh.2.2.2.2.1)), (a_sh 6, .inl (kA 2, 120, .inr (.inl sh.2.2.2.2.2.1))), (a_sh 7, .inl (kA 1, 1240, .inl sh.2.2.2.2.2.2.1)), (a_ck 0, .inr (0, [.ref (a_ck 1), .ref (a_ck 2), .ref (a_ck 3), .ref (a_ck 4), .ref (a_ck 5), .ref (a_ck 6), .ref (a_ck 7), .ref (a_ck 8), .ref (a_ck 9), .ref (a_ck 10), .ref (a_ck 11), .int ck.2.2.2.2.2.2.2.2.2.2.2])), (a_ck 1, .inl (kA 0, 12, .inl ck.1)), (a_ck 2, .inl (kA 0, 12, .inl ck.2.1)), (a_ck 3, .inl (kA 3, 12, .inl ck.2.2.1)), (a_ck 4, .inl (kA 0, 12, .inl ck.2.2.2.1)), (a_ck 5, .inl (kA 0, 12, .inl ck.2.2.2.2.1)), (a_ck 6, .inl (kA 2, 12, .inr (.inl ck.2.2.2.2.2.1))), (a_ck 7, .inl (kA 2, 12, .inr (.inl ck.2.2.2.2.2.2.1))), (a_ck 8, .inl (kA 2, 12, .inr (.inl ck.2.2.2.2.2.2.2.1))), (a_ck 9, .inl (kA 2, 12, .inr (.inl ck.2.2.2.2.2.2.2.2.1))), (a_ck 10, .inl (kA 3, 12, .inl ck.2.2.2.2.2.2.2.2.2.1)), (a_ck 11, .inl (kA 3, 12, .inl ck.2.2.2.2.2.2.2.2.2.2.1)), (a_rd 0, .inr (2, [.ref (a_tp 0), .ref (a_rd 2), .ref (a_rd 3), .ref (a_rd 4), .ref (a_rd 5), .ref (a_sh 0), .int u1.2.2.2.2.1, .int u1.2.2.2.2.2])), (a_rd 2, .inl (kA 0, 12, .inl (upd u1.1 ck.2.2.2.2.2.2.2.2.2.2.2.toNatClampNeg u1.2.2.2.2.1))), (a_rd 3, .inl (kA 0, 12, .inl u1.2.1)), (a_rd 4, .inl (kA 0, 80, .inl u1.2.2.1)), (a_rd 5, .inl (kA 0, 80, .inl u1.2.2.2.1)), (a_tp 0, .inr (4, [.ref (a_tp 1), .int tp.2])), (a_tp 1, .inl (kA 1, 1200, .inl tp.1))] := hD
        refine lv_aload_n hx hb dX2_takeNewClock_61 rfl (lv_at hl 1 rfl) ?_
        refine va_get (D := D) (ci := 2) (v := .ref (a_rd 3)) (C := "ConstraintText$Reader") (T := TX2) (N := 8) hx hb hts ing2 hown hK hP 20 rfl rfl 2 (by decide) (hts _ tw_222) (fun _ h9 => h9) rfl dX2_takeNewClock_62 ?_
        refine lv_iload_n hx hb dX2_takeNewClock_65 rfl (lv_at hl 0 rfl) ?_
        refine lv_aload_n hx hb dX2_takeNewClock_66 rfl (lv_at hl 1 rfl) ?_
        refine va_get (D := D) (ci := 2) (v := .int u1.2.2.2.2.2) (C := "ConstraintText$Reader") (T := TX2) (N := 8) hx hb hts ing2 hown hK hP 20 rfl rfl 7 (by decide) (hts _ tw_227) (fun _ h9 => h9) rfl dX2_takeNewClock_67 ?_
        refine lv_aload_n hx hb dX2_takeNewClock_70 rfl (lv_at hl 1 rfl) ?_
        refine va_get (D := D) (ci := 2) (v := .int u1.2.2.2.2.1) (C := "ConstraintText$Reader") (T := TX2) (N := 8) hx hb hts ing2 hown hK hP 20 rfl rfl 6 (by decide) (hts _ tw_226) (fun _ h9 => h9) rfl dX2_takeNewClock_71 ?_
        refine lv_isub hx hb dX2_takeNewClock_74 ?_
        obtain ⟨g75, h⟩ := grd_some h
        refine va_iast hx hb hK hP hD hS 22 0 rfl rfl (inb_in g75) dX2_takeNewClock_75 (fun H locs hP hD hS => ?_)
        have hP : va_P D vwCl [(a_sh 0, .inr (3, [.ref (a_sh 1), .ref (a_sh 2), .ref (a_sh 3), .ref (a_sh 4), .ref (a_sh 5), .ref (a_sh 6), .ref (a_sh 7), .ref (a_ck 0), .int sh.2.2.2.2.2.2.2.1, .int sh.2.2.2.2.2.2.2.2])), (a_sh 1, .inl (kA 0, 40, .inl sh.1)), (a_sh 2, .inl (kA 0, 40, .inl sh.2.1)), (a_sh 3, .inl (kA 0, 80, .inl sh.2.2.1)), (a_sh 4, .inl (kA 0, 120, .inl sh.2.2.2.1)), (a_sh 5, .inl (kA 0, 120, .inl sh.2.2.2.2.1)), (a_sh 6, .inl (kA 2, 120, .inr (.inl sh.2.2.2.2.2.1))), (a_sh 7, .inl (kA 1, 1240, .inl sh.2.2.2.2.2.2.1)), (a_ck 0, .inr (0, [.ref (a_ck 1), .ref (a_ck 2), .ref (a_ck 3), .ref (a_ck 4), .ref (a_ck 5), .ref (a_ck 6), .ref (a_ck 7), .ref (a_ck 8), .ref (a_ck 9), .ref (a_ck 10), .ref (a_ck 11), .int ck.2.2.2.2.2.2.2.2.2.2.2])), (a_ck 1, .inl (kA 0, 12, .inl ck.1)), (a_ck 2, .inl (kA 0, 12, .inl ck.2.1)), (a_ck 3, .inl (kA 3, 12, .inl ck.2.2.1)), (a_ck 4, .inl (kA 0, 12, .inl ck.2.2.2.1)), (a_ck 5, .inl (kA 0, 12, .inl ck.2.2.2.2.1)), (a_ck 6, .inl (kA 2, 12, .inr (.inl ck.2.2.2.2.2.1))), (a_ck 7, .inl (kA 2, 12, .inr (.inl ck.2.2.2.2.2.2.1))), (a_ck 8, .inl (kA 2, 12, .inr (.inl ck.2.2.2.2.2.2.2.1))), (a_ck 9, .inl (kA 2, 12, .inr (.inl ck.2.2.2.2.2.2.2.2.1))), (a_ck 10, .inl (kA 3, 12, .inl ck.2.2.2.2.2.2.2.2.2.1)), (a_ck 11, .inl (kA 3, 12, .inl ck.2.2.2.2.2.2.2.2.2.2.1)), (a_rd 0, .inr (2, [.ref (a_tp 0), .ref (a_rd 2), .ref (a_rd 3), .ref (a_rd 4), .ref (a_rd 5), .ref (a_sh 0), .int u1.2.2.2.2.1, .int u1.2.2.2.2.2])), (a_rd 2, .inl (kA 0, 12, .inl (upd u1.1 ck.2.2.2.2.2.2.2.2.2.2.2.toNatClampNeg u1.2.2.2.2.1))), (a_rd 3, .inl (kA 0, 12, .inl (upd u1.2.1 ck.2.2.2.2.2.2.2.2.2.2.2.toNatClampNeg (u1.2.2.2.2.2 - u1.2.2.2.2.1)))), (a_rd 4, .inl (kA 0, 80, .inl u1.2.2.1)), (a_rd 5, .inl (kA 0, 80, .inl u1.2.2.2.1)), (a_tp 0, .inr (4, [.ref (a_tp 1), .int tp.2])), (a_tp 1, .inl (kA 1, 1200, .inl tp.1))] H := hP
        have hD : va_D A [(a_sh 0, .inr (3, [.ref (a_sh 1), .ref (a_sh 2), .ref (a_sh 3), .ref (a_sh 4), .ref (a_sh 5), .ref (a_sh 6), .ref (a_sh 7), .ref (a_ck 0), .int sh.2.2.2.2.2.2.2.1, .int sh.2.2.2.2.2.2.2.2])), (a_sh 1, .inl (kA 0, 40, .inl sh.1)), (a_sh 2, .inl (kA 0, 40, .inl sh.2.1)), (a_sh 3, .inl (kA 0, 80, .inl sh.2.2.1)), (a_sh 4, .inl (kA 0, 120, .inl sh.2.2.2.1)), (a_sh 5, .inl (kA 0, 120, .inl sh.2.2.2.2.1)), (a_sh 6, .inl (kA 2, 120, .inr (.inl sh.2.2.2.2.2.1))), (a_sh 7, .inl (kA 1, 1240, .inl sh.2.2.2.2.2.2.1)), (a_ck 0, .inr (0, [.ref (a_ck 1), .ref (a_ck 2), .ref (a_ck 3), .ref (a_ck 4), .ref (a_ck 5), .ref (a_ck 6), .ref (a_ck 7), .ref (a_ck 8), .ref (a_ck 9), .ref (a_ck 10), .ref (a_ck 11), .int ck.2.2.2.2.2.2.2.2.2.2.2])), (a_ck 1, .inl (kA 0, 12, .inl ck.1)), (a_ck 2, .inl (kA 0, 12, .inl ck.2.1)), (a_ck 3, .inl (kA 3, 12, .inl ck.2.2.1)), (a_ck 4, .inl (kA 0, 12, .inl ck.2.2.2.1)), (a_ck 5, .inl (kA 0, 12, .inl ck.2.2.2.2.1)), (a_ck 6, .inl (kA 2, 12, .inr (.inl ck.2.2.2.2.2.1))), (a_ck 7, .inl (kA 2, 12, .inr (.inl ck.2.2.2.2.2.2.1))), (a_ck 8, .inl (kA 2, 12, .inr (.inl ck.2.2.2.2.2.2.2.1))), (a_ck 9, .inl (kA 2, 12, .inr (.inl ck.2.2.2.2.2.2.2.2.1))), (a_ck 10, .inl (kA 3, 12, .inl ck.2.2.2.2.2.2.2.2.2.1)), (a_ck 11, .inl (kA 3, 12, .inl ck.2.2.2.2.2.2.2.2.2.2.1)), (a_rd 0, .inr (2, [.ref (a_tp 0), .ref (a_rd 2), .ref (a_rd 3), .ref (a_rd 4), .ref (a_rd 5), .ref (a_sh 0), .int u1.2.2.2.2.1, .int u1.2.2.2.2.2])), (a_rd 2, .inl (kA 0, 12, .inl (upd u1.1 ck.2.2.2.2.2.2.2.2.2.2.2.toNatClampNeg u1.2.2.2.2.1))), (a_rd 3, .inl (kA 0, 12, .inl (upd u1.2.1 ck.2.2.2.2.2.2.2.2.2.2.2.toNatClampNeg (u1.2.2.2.2.2 - u1.2.2.2.2.1)))), (a_rd 4, .inl (kA 0, 80, .inl u1.2.2.1)), (a_rd 5, .inl (kA 0, 80, .inl u1.2.2.2.1)), (a_tp 0, .inr (4, [.ref (a_tp 1), .int tp.2])), (a_tp 1, .inl (kA 1, 1200, .inl tp.1))] := hD
        refine lv_aload_n hx hb dX2_takeNewClock_76 rfl (lv_at hl 1 rfl) ?_
        refine va_get (D := D) (ci := 2) (v := .ref (a_sh 0)) (C := "ConstraintText$Reader") (T := TX2) (N := 8) hx hb hts ing2 hown hK hP 20 rfl rfl 5 (by decide) (hts _ tw_225) (fun _ h9 => h9) rfl dX2_takeNewClock_77 ?_
        refine va_getN (D := D) (ci := 3) (v := .ref (a_ck 0)) (C := "ConstraintText$Sheet") (T := TX3) (N := 10) hx hb hts ing3 hown hK hP 0 rfl rfl 7 (by decide) (va_Nw.use rfl (hN.1 _ nw_192)) (fun _ h9 => h9) rfl dX2_takeNewClock_80 ?_
        refine lv_aload_n hx hb dX2_takeNewClock_83 rfl (lv_at hl 1 rfl) ?_
        refine va_get (D := D) (ci := 2) (v := .ref (a_sh 0)) (C := "ConstraintText$Reader") (T := TX2) (N := 8) hx hb hts ing2 hown hK hP 20 rfl rfl 5 (by decide) (hts _ tw_225) (fun _ h9 => h9) rfl dX2_takeNewClock_84 ?_
        refine va_getN (D := D) (ci := 3) (v := .int sh.2.2.2.2.2.2.2.1) (C := "ConstraintText$Sheet") (T := TX3) (N := 10) hx hb hts ing3 hown hK hP 0 rfl rfl 8 (by decide) (va_Nw.use rfl (hN.1 _ nw_195)) (fun _ h9 => h9) rfl dX2_takeNewClock_87 ?_
        obtain ⟨u90, hc_90, h⟩ := bnd_some h
        refine rw_V (wr := [(a_sh 0, .inr (3, [.ref (a_sh 1), .ref (a_sh 2), .ref (a_sh 3), .ref (a_sh 4), .ref (a_sh 5), .ref (a_sh 6), .ref (a_sh 7), .ref (a_ck 0), .int sh.2.2.2.2.2.2.2.1, .int sh.2.2.2.2.2.2.2.2])), (a_sh 1, .inl (kA 0, 40, .inl sh.1)), (a_sh 2, .inl (kA 0, 40, .inl sh.2.1)), (a_sh 3, .inl (kA 0, 80, .inl sh.2.2.1)), (a_sh 4, .inl (kA 0, 120, .inl sh.2.2.2.1)), (a_sh 5, .inl (kA 0, 120, .inl sh.2.2.2.2.1)), (a_sh 6, .inl (kA 2, 120, .inr (.inl sh.2.2.2.2.2.1))), (a_sh 7, .inl (kA 1, 1240, .inl sh.2.2.2.2.2.2.1)), (a_rd 0, .inr (2, [.ref (a_tp 0), .ref (a_rd 2), .ref (a_rd 3), .ref (a_rd 4), .ref (a_rd 5), .ref (a_sh 0), .int u1.2.2.2.2.1, .int u1.2.2.2.2.2])), (a_rd 2, .inl (kA 0, 12, .inl (upd u1.1 ck.2.2.2.2.2.2.2.2.2.2.2.toNatClampNeg u1.2.2.2.2.1))), (a_rd 3, .inl (kA 0, 12, .inl (upd u1.2.1 ck.2.2.2.2.2.2.2.2.2.2.2.toNatClampNeg (u1.2.2.2.2.2 - u1.2.2.2.2.1)))), (a_rd 4, .inl (kA 0, 80, .inl u1.2.2.1)), (a_rd 5, .inl (kA 0, 80, .inl u1.2.2.2.1)), (a_tp 0, .inr (4, [.ref (a_tp 1), .int tp.2])), (a_tp 1, .inl (kA 1, 1200, .inl tp.1))]) (n := 1) (As := [.int sh.2.2.2.2.2.2.2.1]) (rest := []) hx hb hml hown hts hN hS hK hP hD hA (c0_open l D kA a_ck sh.2.2.2.2.2.2.2.1 ck u90 hc_90) [8, 9, 10, 11, 12, 13, 14, 15, 16, 17, 18, 19] [0, 1, 2, 3, 4, 5, 6, 7, 20, 21, 22, 23, 24, 25, 26] rfl (by decide) rfl (by decide) (by decide) 8 0 rfl rfl rfl tw_435 tw_436 tw_437 tw_78 tw_438 rfl rfl (by decide) ⟨Nat.le_of_ble_eq_true rfl, Nat.le_of_ble_eq_true rfl⟩ rfl hl.1 rfl (Nat.le_of_ble_eq_true rfl) dX2_takeNewClock_90 ⟨Nat.le_of_ble_eq_true rfl, Nat.le_of_ble_eq_true rfl⟩ (fun H locs hP hD hS => ?_)
        have hP : va_P D vwCl [(a_sh 0, .inr (3, [.ref (a_sh 1), .ref (a_sh 2), .ref (a_sh 3), .ref (a_sh 4), .ref (a_sh 5), .ref (a_sh 6), .ref (a_sh 7), .ref (a_ck 0), .int sh.2.2.2.2.2.2.2.1, .int sh.2.2.2.2.2.2.2.2])), (a_sh 1, .inl (kA 0, 40, .inl sh.1)), (a_sh 2, .inl (kA 0, 40, .inl sh.2.1)), (a_sh 3, .inl (kA 0, 80, .inl sh.2.2.1)), (a_sh 4, .inl (kA 0, 120, .inl sh.2.2.2.1)), (a_sh 5, .inl (kA 0, 120, .inl sh.2.2.2.2.1)), (a_sh 6, .inl (kA 2, 120, .inr (.inl sh.2.2.2.2.2.1))), (a_sh 7, .inl (kA 1, 1240, .inl sh.2.2.2.2.2.2.1)), (a_rd 0, .inr (2, [.ref (a_tp 0), .ref (a_rd 2), .ref (a_rd 3), .ref (a_rd 4), .ref (a_rd 5), .ref (a_sh 0), .int u1.2.2.2.2.1, .int u1.2.2.2.2.2])), (a_rd 2, .inl (kA 0, 12, .inl (upd u1.1 ck.2.2.2.2.2.2.2.2.2.2.2.toNatClampNeg u1.2.2.2.2.1))), (a_rd 3, .inl (kA 0, 12, .inl (upd u1.2.1 ck.2.2.2.2.2.2.2.2.2.2.2.toNatClampNeg (u1.2.2.2.2.2 - u1.2.2.2.2.1)))), (a_rd 4, .inl (kA 0, 80, .inl u1.2.2.1)), (a_rd 5, .inl (kA 0, 80, .inl u1.2.2.2.1)), (a_tp 0, .inr (4, [.ref (a_tp 1), .int tp.2])), (a_tp 1, .inl (kA 1, 1200, .inl tp.1)), (a_ck 0, .inr (0, [.ref (a_ck 1), .ref (a_ck 2), .ref (a_ck 3), .ref (a_ck 4), .ref (a_ck 5), .ref (a_ck 6), .ref (a_ck 7), .ref (a_ck 8), .ref (a_ck 9), .ref (a_ck 10), .ref (a_ck 11), .int u90.2.2.2.2.2.2.2.2.2.2.2])), (a_ck 1, .inl (kA 0, 12, .inl u90.1)), (a_ck 2, .inl (kA 0, 12, .inl u90.2.1)), (a_ck 3, .inl (kA 3, 12, .inl u90.2.2.1)), (a_ck 4, .inl (kA 0, 12, .inl u90.2.2.2.1)), (a_ck 5, .inl (kA 0, 12, .inl u90.2.2.2.2.1)), (a_ck 6, .inl (kA 2, 12, .inr (.inl u90.2.2.2.2.2.1))), (a_ck 7, .inl (kA 2, 12, .inr (.inl u90.2.2.2.2.2.2.1))), (a_ck 8, .inl (kA 2, 12, .inr (.inl u90.2.2.2.2.2.2.2.1))), (a_ck 9, .inl (kA 2, 12, .inr (.inl u90.2.2.2.2.2.2.2.2.1))), (a_ck 10, .inl (kA 3, 12, .inl u90.2.2.2.2.2.2.2.2.2.1)), (a_ck 11, .inl (kA 3, 12, .inl u90.2.2.2.2.2.2.2.2.2.2.1))] H := hP
        have hD : va_D A [(a_sh 0, .inr (3, [.ref (a_sh 1), .ref (a_sh 2), .ref (a_sh 3), .ref (a_sh 4), .ref (a_sh 5), .ref (a_sh 6), .ref (a_sh 7), .ref (a_ck 0), .int sh.2.2.2.2.2.2.2.1, .int sh.2.2.2.2.2.2.2.2])), (a_sh 1, .inl (kA 0, 40, .inl sh.1)), (a_sh 2, .inl (kA 0, 40, .inl sh.2.1)), (a_sh 3, .inl (kA 0, 80, .inl sh.2.2.1)), (a_sh 4, .inl (kA 0, 120, .inl sh.2.2.2.1)), (a_sh 5, .inl (kA 0, 120, .inl sh.2.2.2.2.1)), (a_sh 6, .inl (kA 2, 120, .inr (.inl sh.2.2.2.2.2.1))), (a_sh 7, .inl (kA 1, 1240, .inl sh.2.2.2.2.2.2.1)), (a_rd 0, .inr (2, [.ref (a_tp 0), .ref (a_rd 2), .ref (a_rd 3), .ref (a_rd 4), .ref (a_rd 5), .ref (a_sh 0), .int u1.2.2.2.2.1, .int u1.2.2.2.2.2])), (a_rd 2, .inl (kA 0, 12, .inl (upd u1.1 ck.2.2.2.2.2.2.2.2.2.2.2.toNatClampNeg u1.2.2.2.2.1))), (a_rd 3, .inl (kA 0, 12, .inl (upd u1.2.1 ck.2.2.2.2.2.2.2.2.2.2.2.toNatClampNeg (u1.2.2.2.2.2 - u1.2.2.2.2.1)))), (a_rd 4, .inl (kA 0, 80, .inl u1.2.2.1)), (a_rd 5, .inl (kA 0, 80, .inl u1.2.2.2.1)), (a_tp 0, .inr (4, [.ref (a_tp 1), .int tp.2])), (a_tp 1, .inl (kA 1, 1200, .inl tp.1)), (a_ck 0, .inr (0, [.ref (a_ck 1), .ref (a_ck 2), .ref (a_ck 3), .ref (a_ck 4), .ref (a_ck 5), .ref (a_ck 6), .ref (a_ck 7), .ref (a_ck 8), .ref (a_ck 9), .ref (a_ck 10), .ref (a_ck 11), .int u90.2.2.2.2.2.2.2.2.2.2.2])), (a_ck 1, .inl (kA 0, 12, .inl u90.1)), (a_ck 2, .inl (kA 0, 12, .inl u90.2.1)), (a_ck 3, .inl (kA 3, 12, .inl u90.2.2.1)), (a_ck 4, .inl (kA 0, 12, .inl u90.2.2.2.1)), (a_ck 5, .inl (kA 0, 12, .inl u90.2.2.2.2.1)), (a_ck 6, .inl (kA 2, 12, .inr (.inl u90.2.2.2.2.2.1))), (a_ck 7, .inl (kA 2, 12, .inr (.inl u90.2.2.2.2.2.2.1))), (a_ck 8, .inl (kA 2, 12, .inr (.inl u90.2.2.2.2.2.2.2.1))), (a_ck 9, .inl (kA 2, 12, .inr (.inl u90.2.2.2.2.2.2.2.2.1))), (a_ck 10, .inl (kA 3, 12, .inl u90.2.2.2.2.2.2.2.2.2.1)), (a_ck 11, .inl (kA 3, 12, .inl u90.2.2.2.2.2.2.2.2.2.2.1))] := hD
        refine lv_aload_n hx hb dX2_takeNewClock_93 rfl (lv_at hl 1 rfl) ?_
        obtain ⟨u94, hc_94, h⟩ := bnd_some h
        refine rw_V (wr := [(a_ck 0, .inr (0, [.ref (a_ck 1), .ref (a_ck 2), .ref (a_ck 3), .ref (a_ck 4), .ref (a_ck 5), .ref (a_ck 6), .ref (a_ck 7), .ref (a_ck 8), .ref (a_ck 9), .ref (a_ck 10), .ref (a_ck 11), .int u90.2.2.2.2.2.2.2.2.2.2.2])), (a_ck 1, .inl (kA 0, 12, .inl u90.1)), (a_ck 2, .inl (kA 0, 12, .inl u90.2.1)), (a_ck 3, .inl (kA 3, 12, .inl u90.2.2.1)), (a_ck 4, .inl (kA 0, 12, .inl u90.2.2.2.1)), (a_ck 5, .inl (kA 0, 12, .inl u90.2.2.2.2.1)), (a_ck 6, .inl (kA 2, 12, .inr (.inl u90.2.2.2.2.2.1))), (a_ck 7, .inl (kA 2, 12, .inr (.inl u90.2.2.2.2.2.2.1))), (a_ck 8, .inl (kA 2, 12, .inr (.inl u90.2.2.2.2.2.2.2.1))), (a_ck 9, .inl (kA 2, 12, .inr (.inl u90.2.2.2.2.2.2.2.2.1))), (a_ck 10, .inl (kA 3, 12, .inl u90.2.2.2.2.2.2.2.2.2.1)), (a_ck 11, .inl (kA 3, 12, .inl u90.2.2.2.2.2.2.2.2.2.2.1))]) (n := 0) (As := []) (rest := []) hx hb hml hown hts hN hS hK hP hD hA (c2_printWord l D kA a_rd a_sh a_tp a_ck F ((upd u1.1 ck.2.2.2.2.2.2.2.2.2.2.2.toNatClampNeg u1.2.2.2.2.1), (upd u1.2.1 ck.2.2.2.2.2.2.2.2.2.2.2.toNatClampNeg (u1.2.2.2.2.2 - u1.2.2.2.2.1)), u1.2.2.1, u1.2.2.2.1, u1.2.2.2.2.1, u1.2.2.2.2.2) sh tp u94 hc_94) [8, 9, 10, 11, 12, 0, 1, 2, 3, 4, 5, 6, 7, 13, 14] [15, 16, 17, 18, 19, 20, 21, 22, 23, 24, 25, 26] rfl (by decide) rfl (by decide) (by decide) 8 2 rfl rfl rfl tw_399 tw_401 tw_4 tw_75 tw_402 rfl rfl (by decide) ⟨Nat.le_of_ble_eq_true rfl, Nat.le_of_ble_eq_true rfl⟩ rfl hl.1 rfl (Nat.le_of_ble_eq_true rfl) dX2_takeNewClock_94 ⟨Nat.le_of_ble_eq_true rfl, Nat.le_of_ble_eq_true rfl⟩ (fun H locs hP hD hS => ?_)
        have hP : va_P D vwCl [(a_ck 0, .inr (0, [.ref (a_ck 1), .ref (a_ck 2), .ref (a_ck 3), .ref (a_ck 4), .ref (a_ck 5), .ref (a_ck 6), .ref (a_ck 7), .ref (a_ck 8), .ref (a_ck 9), .ref (a_ck 10), .ref (a_ck 11), .int u90.2.2.2.2.2.2.2.2.2.2.2])), (a_ck 1, .inl (kA 0, 12, .inl u90.1)), (a_ck 2, .inl (kA 0, 12, .inl u90.2.1)), (a_ck 3, .inl (kA 3, 12, .inl u90.2.2.1)), (a_ck 4, .inl (kA 0, 12, .inl u90.2.2.2.1)), (a_ck 5, .inl (kA 0, 12, .inl u90.2.2.2.2.1)), (a_ck 6, .inl (kA 2, 12, .inr (.inl u90.2.2.2.2.2.1))), (a_ck 7, .inl (kA 2, 12, .inr (.inl u90.2.2.2.2.2.2.1))), (a_ck 8, .inl (kA 2, 12, .inr (.inl u90.2.2.2.2.2.2.2.1))), (a_ck 9, .inl (kA 2, 12, .inr (.inl u90.2.2.2.2.2.2.2.2.1))), (a_ck 10, .inl (kA 3, 12, .inl u90.2.2.2.2.2.2.2.2.2.1)), (a_ck 11, .inl (kA 3, 12, .inl u90.2.2.2.2.2.2.2.2.2.2.1)), (a_rd 0, .inr (2, [.ref (a_tp 0), .ref (a_rd 2), .ref (a_rd 3), .ref (a_rd 4), .ref (a_rd 5), .ref (a_sh 0), .int u1.2.2.2.2.1, .int u1.2.2.2.2.2])), (a_rd 2, .inl (kA 0, 12, .inl (upd u1.1 ck.2.2.2.2.2.2.2.2.2.2.2.toNatClampNeg u1.2.2.2.2.1))), (a_rd 3, .inl (kA 0, 12, .inl (upd u1.2.1 ck.2.2.2.2.2.2.2.2.2.2.2.toNatClampNeg (u1.2.2.2.2.2 - u1.2.2.2.2.1)))), (a_rd 4, .inl (kA 0, 80, .inl u1.2.2.1)), (a_rd 5, .inl (kA 0, 80, .inl u1.2.2.2.1)), (a_sh 0, .inr (3, [.ref (a_sh 1), .ref (a_sh 2), .ref (a_sh 3), .ref (a_sh 4), .ref (a_sh 5), .ref (a_sh 6), .ref (a_sh 7), .ref (a_ck 0), .int u94.2.2.2.2.2.2.2.1, .int u94.2.2.2.2.2.2.2.2])), (a_sh 1, .inl (kA 0, 40, .inl u94.1)), (a_sh 2, .inl (kA 0, 40, .inl u94.2.1)), (a_sh 3, .inl (kA 0, 80, .inl u94.2.2.1)), (a_sh 4, .inl (kA 0, 120, .inl u94.2.2.2.1)), (a_sh 5, .inl (kA 0, 120, .inl u94.2.2.2.2.1)), (a_sh 6, .inl (kA 2, 120, .inr (.inl u94.2.2.2.2.2.1))), (a_sh 7, .inl (kA 1, 1240, .inl u94.2.2.2.2.2.2.1)), (a_tp 0, .inr (4, [.ref (a_tp 1), .int tp.2])), (a_tp 1, .inl (kA 1, 1200, .inl tp.1))] H := hP
        have hD : va_D A [(a_ck 0, .inr (0, [.ref (a_ck 1), .ref (a_ck 2), .ref (a_ck 3), .ref (a_ck 4), .ref (a_ck 5), .ref (a_ck 6), .ref (a_ck 7), .ref (a_ck 8), .ref (a_ck 9), .ref (a_ck 10), .ref (a_ck 11), .int u90.2.2.2.2.2.2.2.2.2.2.2])), (a_ck 1, .inl (kA 0, 12, .inl u90.1)), (a_ck 2, .inl (kA 0, 12, .inl u90.2.1)), (a_ck 3, .inl (kA 3, 12, .inl u90.2.2.1)), (a_ck 4, .inl (kA 0, 12, .inl u90.2.2.2.1)), (a_ck 5, .inl (kA 0, 12, .inl u90.2.2.2.2.1)), (a_ck 6, .inl (kA 2, 12, .inr (.inl u90.2.2.2.2.2.1))), (a_ck 7, .inl (kA 2, 12, .inr (.inl u90.2.2.2.2.2.2.1))), (a_ck 8, .inl (kA 2, 12, .inr (.inl u90.2.2.2.2.2.2.2.1))), (a_ck 9, .inl (kA 2, 12, .inr (.inl u90.2.2.2.2.2.2.2.2.1))), (a_ck 10, .inl (kA 3, 12, .inl u90.2.2.2.2.2.2.2.2.2.1)), (a_ck 11, .inl (kA 3, 12, .inl u90.2.2.2.2.2.2.2.2.2.2.1)), (a_rd 0, .inr (2, [.ref (a_tp 0), .ref (a_rd 2), .ref (a_rd 3), .ref (a_rd 4), .ref (a_rd 5), .ref (a_sh 0), .int u1.2.2.2.2.1, .int u1.2.2.2.2.2])), (a_rd 2, .inl (kA 0, 12, .inl (upd u1.1 ck.2.2.2.2.2.2.2.2.2.2.2.toNatClampNeg u1.2.2.2.2.1))), (a_rd 3, .inl (kA 0, 12, .inl (upd u1.2.1 ck.2.2.2.2.2.2.2.2.2.2.2.toNatClampNeg (u1.2.2.2.2.2 - u1.2.2.2.2.1)))), (a_rd 4, .inl (kA 0, 80, .inl u1.2.2.1)), (a_rd 5, .inl (kA 0, 80, .inl u1.2.2.2.1)), (a_sh 0, .inr (3, [.ref (a_sh 1), .ref (a_sh 2), .ref (a_sh 3), .ref (a_sh 4), .ref (a_sh 5), .ref (a_sh 6), .ref (a_sh 7), .ref (a_ck 0), .int u94.2.2.2.2.2.2.2.1, .int u94.2.2.2.2.2.2.2.2])), (a_sh 1, .inl (kA 0, 40, .inl u94.1)), (a_sh 2, .inl (kA 0, 40, .inl u94.2.1)), (a_sh 3, .inl (kA 0, 80, .inl u94.2.2.1)), (a_sh 4, .inl (kA 0, 120, .inl u94.2.2.2.1)), (a_sh 5, .inl (kA 0, 120, .inl u94.2.2.2.2.1)), (a_sh 6, .inl (kA 2, 120, .inr (.inl u94.2.2.2.2.2.1))), (a_sh 7, .inl (kA 1, 1240, .inl u94.2.2.2.2.2.2.1)), (a_tp 0, .inr (4, [.ref (a_tp 1), .int tp.2])), (a_tp 1, .inl (kA 1, 1200, .inl tp.1))] := hD
        refine lv_iconst (v := 1) hx hb dX2_takeNewClock_97 (by decide) ?_
        obtain rfl := Option.some.inj h
        rw [← hQ]
        exact rw_zreturn hx hb hr hk nz_Z1 dX2_takeNewClock_98  (hP.sub [12, 13, 14, 15, 16, 25, 26, 17, 18, 19, 20, 21, 22, 23, 24, 0, 1, 2, 3, 4, 5, 6, 7, 8, 9, 10, 11] rfl) (hD.sub [12, 13, 14, 15, 16, 25, 26, 17, 18, 19, 20, 21, 22, 23, 24, 0, 1, 2, 3, 4, 5, 6, 7, 8, 9, 10, 11] (by decide) rfl) hS
      · have h := ite_f bc h
        refine lv_iconst (v := 0) hx hb dX2_takeNewClock_49 (by decide) ?_
        obtain rfl := Option.some.inj h
        rw [← hQ]
        exact rw_zreturn hx hb hr hk nz_Z0 dX2_takeNewClock_50  (hP.sub [20, 21, 22, 23, 24, 25, 26, 0, 1, 2, 3, 4, 5, 6, 7, 8, 9, 10, 11, 12, 13, 14, 15, 16, 17, 18, 19] rfl) (hD.sub [20, 21, 22, 23, 24, 25, 26, 0, 1, 2, 3, 4, 5, 6, 7, 8, 9, 10, 11, 12, 13, 14, 15, 16, 17, 18, 19] (by decide) rfl) hS
abbrev rm5_isDigit : Room := { frames := 0, cells := 0, slots := 0, locals := 0 }
set_option maxHeartbeats 4000000 in
set_option maxRecDepth 100000 in
theorem c5_isDigit (l : Launch) (D : va_G) (kA : Nat → ClassId)  (p1 : Int32) (res : Int32) (h : f5_isDigit p1 = some res) : Ro l yX5_isDigit cX5_isDigit 1 (some .boolean) rm5_isDigit D kA [.int p1] [] (.int res) := by
  refine Ro.of (by decide +kernel) (Nat.le_of_ble_eq_true rfl) ?_
  intro p e s m args below meth c hF hP hK ls hl
  generalize hQ : roQ below _ args s = Q
  obtain ⟨hx, hb, hml, hown, hr, hk, hts, hN⟩ := hF
  have hl : lv_has ls 1 [(0, .int p1)] := hl
  unfold f5_isDigit at h
  refine lv_iload_n hx hb dX5_isDigit_0 rfl (lv_at hl 0 rfl) ?_
  refine lv_bipush (v := 48) hx hb dX5_isDigit_1 (by decide) ?_
  refine lv_icmp_lt (tgt := 16) hx hb dX5_isDigit_3 (by decide) (fun bc => ?_) (fun bc => ?_)
  · have h := ite_t bc h
    refine lv_iconst (v := 0) hx hb dX5_isDigit_16 (by decide) ?_
    obtain rfl := Option.some.inj h
    rw [← hQ]
    exact ro_zreturn hx hb hr hk nz_Z0 dX5_isDigit_17
  · have h := ite_f bc h
    refine lv_iload_n hx hb dX5_isDigit_6 rfl (lv_at hl 0 rfl) ?_
    refine lv_bipush (v := 57) hx hb dX5_isDigit_7 (by decide) ?_
    refine lv_icmp_gt (tgt := 16) hx hb dX5_isDigit_9 (by decide) (fun bc => ?_) (fun bc => ?_)
    · have h := ite_t bc h
      refine lv_iconst (v := 0) hx hb dX5_isDigit_16 (by decide) ?_
      obtain rfl := Option.some.inj h
      rw [← hQ]
      exact ro_zreturn hx hb hr hk nz_Z0 dX5_isDigit_17
    · have h := ite_f bc h
      refine lv_iconst (v := 1) hx hb dX5_isDigit_12 (by decide) ?_
      refine lv_goto (tgt := 17) hx hb dX5_isDigit_13 (by decide) ?_
      obtain rfl := Option.some.inj h
      rw [← hQ]
      exact ro_zreturn hx hb hr hk nz_Z1 dX5_isDigit_17
abbrev rm2_wholeInHand : Room := { frames := 1, cells := 0, slots := 0, locals := 21 }
set_option maxHeartbeats 4000000 in
set_option maxRecDepth 100000 in
theorem c2_wholeInHand (l : Launch) (D : va_G) (kA : Nat → ClassId) (a_rd : Nat → Nat) (a_tp : Nat → Nat) (a_sh : Nat → Nat) (F : Nat) (rd : T2) (tp : T4) (res : Int32) (h : f2_wholeInHand F rd tp = some res) : Ro l yX2_wholeInHand cX2_wholeInHand 4 (some .int) rm2_wholeInHand D kA [.ref (a_rd 0)] [(a_rd 0, .inr (2, [.ref (a_tp 0), .ref (a_rd 2), .ref (a_rd 3), .ref (a_rd 4), .ref (a_rd 5), .ref (a_sh 0), .int rd.2.2.2.2.1, .int rd.2.2.2.2.2])), (a_rd 2, .inl (kA 0, 12, .inl rd.1)), (a_rd 3, .inl (kA 0, 12, .inl rd.2.1)), (a_rd 4, .inl (kA 0, 80, .inl rd.2.2.1)), (a_rd 5, .inl (kA 0, 80, .inl rd.2.2.2.1)), (a_tp 0, .inr (4, [.ref (a_tp 1), .int tp.2])), (a_tp 1, .inl (kA 1, 1200, .inl tp.1))] (.int res) := by
  refine Ro.of (by decide +kernel) (Nat.le_of_ble_eq_true rfl) ?_
  intro p e s m args below meth c hF hP hK ls hl
  generalize hQ : roQ below _ args s = Q
  obtain ⟨hx, hb, hml, hown, hr, hk, hts, hN⟩ := hF
  have hl : lv_has ls 4 [(0, .ref (a_rd 0))] := hl
  unfold f2_wholeInHand at h
  refine lv_aload_n hx hb dX2_wholeInHand_0 rfl (lv_at hl 0 rfl) ?_
  refine va_get (D := D) (ci := 2) (v := .int rd.2.2.2.2.2) (C := "ConstraintText$Reader") (T := TX2) (N := 8) hx hb hts ing2 hown hK hP 0 rfl rfl 7 (by decide) (hts _ tw_227) (fun _ h9 => h9) rfl dX2_wholeInHand_1 ?_
  refine lv_aload_n hx hb dX2_wholeInHand_4 rfl (lv_at hl 0 rfl) ?_
  refine va_get (D := D) (ci := 2) (v := .int rd.2.2.2.2.1) (C := "ConstraintText$Reader") (T := TX2) (N := 8) hx hb hts ing2 hown hK hP 0 rfl rfl 6 (by decide) (hts _ tw_226) (fun _ h9 => h9) rfl dX2_wholeInHand_5 ?_
  refine lv_icmp_eq (tgt := 25) hx hb dX2_wholeInHand_8 (by decide) (fun bc => ?_) (fun bc => ?_)
  · have h := ite_t bc h
    refine lv_iconst (v := -1) hx hb dX2_wholeInHand_25 (by decide) ?_
    obtain rfl := Option.some.inj h
    rw [← hQ]
    exact ro_ireturn hx hb hr hk  dX2_wholeInHand_26
  · have h := ite_f bc h
    refine lv_aload_n hx hb dX2_wholeInHand_11 rfl (lv_at hl 0 rfl) ?_
    refine va_get (D := D) (ci := 2) (v := .int rd.2.2.2.2.2) (C := "ConstraintText$Reader") (T := TX2) (N := 8) hx hb hts ing2 hown hK hP 0 rfl rfl 7 (by decide) (hts _ tw_227) (fun _ h9 => h9) rfl dX2_wholeInHand_12 ?_
    refine lv_aload_n hx hb dX2_wholeInHand_15 rfl (lv_at hl 0 rfl) ?_
    refine va_get (D := D) (ci := 2) (v := .int rd.2.2.2.2.1) (C := "ConstraintText$Reader") (T := TX2) (N := 8) hx hb hts ing2 hown hK hP 0 rfl rfl 6 (by decide) (hts _ tw_226) (fun _ h9 => h9) rfl dX2_wholeInHand_16 ?_
    refine lv_isub hx hb dX2_wholeInHand_19 ?_
    refine lv_bipush (v := 6) hx hb dX2_wholeInHand_20 (by decide) ?_
    refine lv_icmp_le (tgt := 27) hx hb dX2_wholeInHand_22 (by decide) (fun bc => ?_) (fun bc => ?_)
    · have h := ite_t bc h
      refine lv_iconst (v := 0) hx hb dX2_wholeInHand_27 (by decide) ?_
      refine lv_istore_n (lv' := [(1, .int (0 : Int32)), (0, .ref (a_rd 0))]) hx hb dX2_wholeInHand_28 rfl hl (by decide) rfl (fun ls hl => ?_)
      refine lv_aload_n hx hb dX2_wholeInHand_29 rfl (lv_at hl 1 rfl) ?_
      refine va_get (D := D) (ci := 2) (v := .int rd.2.2.2.2.1) (C := "ConstraintText$Reader") (T := TX2) (N := 8) hx hb hts ing2 hown hK hP 0 rfl rfl 6 (by decide) (hts _ tw_226) (fun _ h9 => h9) rfl dX2_wholeInHand_30 ?_
      refine lv_istore_n (lv' := [(2, .int rd.2.2.2.2.1), (1, .int (0 : Int32)), (0, .ref (a_rd 0))]) hx hb dX2_wholeInHand_33 rfl hl (by decide) rfl (fun ls hl => ?_)
      obtain ⟨k34, e34, hk34, hi34, hc34⟩ := bnd_name h
      have x58w : ∀ (x58 : Unit) (ls : Array Slot), k34 (.inl x58) = some res → lv_has ls 4 [] → W p l e rm2_wholeInHand s m args below meth c s.heap [] 0 0 Q (F0 m 58 ls []) := by
        intro x58 ls h hl
        have h := app_of hk34 h
        have h := cas_l h
        refine lv_iconst (v := -1) hx hb dX2_wholeInHand_58 (by decide) ?_
        obtain rfl := Option.some.inj h
        rw [← hQ]
        exact ro_ireturn hx hb hr hk  dX2_wholeInHand_59
      have x76w : ∀ (x76 : Int32) (ls : Array Slot), k34 (.inr x76) = some res → lv_has ls 4 [(1, .int x76)] → W p l e rm2_wholeInHand s m args below meth c s.heap [] 0 0 Q (F0 m 76 ls []) := by
        intro x76 ls h hl
        have h := app_of hk34 h
        have h := cas_r h
        refine lv_iload_n hx hb dX2_wholeInHand_76 rfl (lv_at hl 0 rfl) ?_
        obtain rfl := Option.some.inj h
        rw [← hQ]
        exact ro_ireturn hx hb hr hk  dX2_wholeInHand_77
      have lp34 : ∀ (n34 : Nat) (s34 : Int32 × Int32) (ls : Array Slot), iter (f2_wholeInHand_L34 rd tp) n34 s34 = some e34 → lv_has ls 4 [(0, .ref (a_rd 0)), (1, .int s34.1), (2, .int s34.2)] → W p l e rm2_wholeInHand s m args below meth c s.heap [] 0 0 Q (F0 m 34 ls []) := by
        intro n34
        induction n34 with
        | zero =>
          intro s34 ls h hl
          exact (iter_zero h).elim
        | succ n34 ih34 =>
          intro s34 ls h hl
          obtain ⟨z34, h, hL34, hR34⟩ := iter_split h
          unfold f2_wholeInHand_L34 at h
          refine lv_iload_n hx hb dX2_wholeInHand_34 rfl (lv_at hl 2 rfl) ?_
          refine lv_aload_n hx hb dX2_wholeInHand_35 rfl (lv_at hl 0 rfl) ?_
          refine va_get (D := D) (ci := 2) (v := .int rd.2.2.2.2.2) (C := "ConstraintText$Reader") (T := TX2) (N := 8) hx hb hts ing2 hown hK hP 0 rfl rfl 7 (by decide) (hts _ tw_227) (fun _ h9 => h9) rfl dX2_wholeInHand_36 ?_
          refine lv_icmp_ge (tgt := 76) hx hb dX2_wholeInHand_39 (by decide) (fun bc => ?_) (fun bc => ?_)
          · have h := ite_t bc h
            obtain rfl := Option.some.inj h
            exact x76w _ ls (eq_some_app (hR34 _ rfl) hc34) (lv_sub hl [1] rfl)
          · have h := ite_f bc h
            refine lv_aload_n hx hb dX2_wholeInHand_42 rfl (lv_at hl 0 rfl) ?_
            refine va_get (D := D) (ci := 2) (v := .ref (a_tp 0)) (C := "ConstraintText$Reader") (T := TX2) (N := 8) hx hb hts ing2 hown hK hP 0 rfl rfl 0 (by decide) (hts _ tw_219) (fun _ h9 => h9) rfl dX2_wholeInHand_43 ?_
            refine lv_iload_n hx hb dX2_wholeInHand_46 rfl (lv_at hl 2 rfl) ?_
            obtain ⟨u47, hc_47, h⟩ := bnd_some h
            refine ro_V (n := 1) (As := [.int s34.2]) (rest := []) hx hb hml hown hts hN va_S.rf hK hP (c4_at l D kA a_tp s34.2 tp u47 hc_47) [5, 6] rfl 5 4 rfl rfl rfl tw_315 tw_316 tw_317 tw_76 tw_318 rfl rfl (by decide) ⟨Nat.le_of_ble_eq_true rfl, Nat.le_of_ble_eq_true rfl⟩ rfl hl.1 rfl (Nat.le_of_ble_eq_true rfl) dX2_wholeInHand_47 ⟨Nat.le_of_ble_eq_true rfl, Nat.le_of_ble_eq_true rfl⟩ ?_
            refine lv_istore_n (lv' := [(3, .int u47), (0, .ref (a_rd 0)), (1, .int s34.1), (2, .int s34.2)]) hx hb dX2_wholeInHand_50 rfl hl (by decide) rfl (fun ls hl => ?_)
            refine lv_iload_n hx hb dX2_wholeInHand_51 rfl (lv_at hl 0 rfl) ?_
            obtain ⟨u52, hc_52, h⟩ := bnd_some h
            refine ro_SN (n := 1) (As := [.int u47]) (rest := []) hx hb hml hown hts hN va_S.rf hK hP (c5_isDigit l D kA u47 u52 hc_52) [] rfl nw_452 tw_453 tw_74 tw_454 rfl rfl (by decide) ⟨Nat.le_of_ble_eq_true rfl, Nat.le_of_ble_eq_true rfl⟩ rfl hl.1 rfl (Nat.le_of_ble_eq_true rfl) dX2_wholeInHand_52 ⟨Nat.le_of_ble_eq_true rfl, Nat.le_of_ble_eq_true rfl⟩ ?_
            refine lv_if_ne (tgt := 60) hx hb dX2_wholeInHand_55 (by decide) (fun bc => ?_) (fun bc => ?_)
            · have h := ite_f bc h
              refine lv_iload_n hx hb dX2_wholeInHand_60 rfl (lv_at hl 2 rfl) ?_
              refine lv_bipush (v := 10) hx hb dX2_wholeInHand_61 (by decide) ?_
              refine lv_imul hx hb dX2_wholeInHand_63 ?_
              refine lv_iload_n hx hb dX2_wholeInHand_64 rfl (lv_at hl 0 rfl) ?_
              refine lv_bipush (v := 48) hx hb dX2_wholeInHand_65 (by decide) ?_
              refine lv_isub hx hb dX2_wholeInHand_67 ?_
              refine lv_iadd hx hb dX2_wholeInHand_68 ?_
              refine lv_istore_n (lv' := [(1, .int ((s34.1 * (10 : Int32)) + (u47 - (48 : Int32)))), (3, .int u47), (0, .ref (a_rd 0)), (2, .int s34.2)]) hx hb dX2_wholeInHand_69 rfl hl (by decide) rfl (fun ls hl => ?_)
              refine lv_iinc (v := (s34.2 + (1 : Int32))) (lv' := [(2, .int (s34.2 + (1 : Int32))), (1, .int ((s34.1 * (10 : Int32)) + (u47 - (48 : Int32)))), (3, .int u47), (0, .ref (a_rd 0))]) hx hb dX2_wholeInHand_70 hl (k := 3) rfl rfl (by decide) rfl (fun ls hl => ?_)
              refine lv_goto (tgt := 34) hx hb dX2_wholeInHand_73 (by decide) ?_
              obtain rfl := Option.some.inj h
              exact ih34 _ ls (hL34 _ rfl) (lv_sub hl [3, 1, 0] rfl)
            · have h := ite_t bc h
              obtain rfl := Option.some.inj h
              exact x58w _ ls (eq_some_app (hR34 _ rfl) hc34) (lv_sub hl [] rfl)
      exact lp34 F ((0 : Int32), rd.2.2.2.2.1) ls hi34 (lv_sub hl [2, 1, 0] rfl)
    · have h := ite_f bc h
      refine lv_iconst (v := -1) hx hb dX2_wholeInHand_25 (by decide) ?_
      obtain rfl := Option.some.inj h
      rw [← hQ]
      exact ro_ireturn hx hb hr hk  dX2_wholeInHand_26
abbrev rm3_printWhole : Room := { frames := 2, cells := 0, slots := 0, locals := 41 }
set_option maxHeartbeats 4000000 in
set_option maxRecDepth 100000 in
theorem c3_printWhole (l : Launch) (D : va_G) (kA : Nat → ClassId) (a_sh : Nat → Nat) (a_ck : Nat → Nat) (F : Nat) (p1 : Int32) (sh : T3) (res : T3) (h : f3_printWhole F p1 sh = some res) : Rw l yX3_printWhole cX3_printWhole 3 none rm3_printWhole D kA [.ref (a_sh 0), .int p1] [(a_sh 0, .inr (3, [.ref (a_sh 1), .ref (a_sh 2), .ref (a_sh 3), .ref (a_sh 4), .ref (a_sh 5), .ref (a_sh 6), .ref (a_sh 7), .ref (a_ck 0), .int sh.2.2.2.2.2.2.2.1, .int sh.2.2.2.2.2.2.2.2])), (a_sh 1, .inl (kA 0, 40, .inl sh.1)), (a_sh 2, .inl (kA 0, 40, .inl sh.2.1)), (a_sh 3, .inl (kA 0, 80, .inl sh.2.2.1)), (a_sh 4, .inl (kA 0, 120, .inl sh.2.2.2.1)), (a_sh 5, .inl (kA 0, 120, .inl sh.2.2.2.2.1)), (a_sh 6, .inl (kA 2, 120, .inr (.inl sh.2.2.2.2.2.1))), (a_sh 7, .inl (kA 1, 1240, .inl sh.2.2.2.2.2.2.1))] none [(a_sh 0, .inr (3, [.ref (a_sh 1), .ref (a_sh 2), .ref (a_sh 3), .ref (a_sh 4), .ref (a_sh 5), .ref (a_sh 6), .ref (a_sh 7), .ref (a_ck 0), .int res.2.2.2.2.2.2.2.1, .int res.2.2.2.2.2.2.2.2])), (a_sh 1, .inl (kA 0, 40, .inl res.1)), (a_sh 2, .inl (kA 0, 40, .inl res.2.1)), (a_sh 3, .inl (kA 0, 80, .inl res.2.2.1)), (a_sh 4, .inl (kA 0, 120, .inl res.2.2.2.1)), (a_sh 5, .inl (kA 0, 120, .inl res.2.2.2.2.1)), (a_sh 6, .inl (kA 2, 120, .inr (.inl res.2.2.2.2.2.1))), (a_sh 7, .inl (kA 1, 1240, .inl res.2.2.2.2.2.2.1))] := by
  refine Rw.of (by decide) (Nat.le_of_ble_eq_true rfl) ?_
  intro p e s m args below meth c A hF hP hD hS hA hK ls hl
  generalize hQ : rwQ below D A _ _ args s = Q
  obtain ⟨hx, hb, hml, hown, hr, hk, hts, hN⟩ := hF
  have hl : lv_has ls 3 [(0, .ref (a_sh 0)), (1, .int p1)] := hl
  unfold f3_printWhole at h
  refine lv_aload_n hx hb dX3_printWhole_0 rfl (lv_at hl 0 rfl) ?_
  obtain ⟨u1, hc_1, h⟩ := bnd_some h
  refine rw_V (wr := []) (n := 0) (As := []) (rest := []) hx hb hml hown hts hN hS hK hP hD hA (c3_printGap l D kA a_sh a_ck sh u1 hc_1) [0, 1, 2, 3, 4, 5, 6, 7] [] rfl (by decide) rfl (by decide) (by decide) 0 3 rfl rfl rfl tw_459 tw_404 tw_405 tw_77 tw_406 rfl rfl (by decide) ⟨Nat.le_of_ble_eq_true rfl, Nat.le_of_ble_eq_true rfl⟩ rfl hl.1 rfl (Nat.le_of_ble_eq_true rfl) dX3_printWhole_1 ⟨Nat.le_of_ble_eq_true rfl, Nat.le_of_ble_eq_true rfl⟩ (fun H locs hP hD hS => ?_)
  have hP : va_P D vwCl [(a_sh 0, .inr (3, [.ref (a_sh 1), .ref (a_sh 2), .ref (a_sh 3), .ref (a_sh 4), .ref (a_sh 5), .ref (a_sh 6), .ref (a_sh 7), .ref (a_ck 0), .int u1.2.2.2.2.2.2.2.1, .int u1.2.2.2.2.2.2.2.2])), (a_sh 1, .inl (kA 0, 40, .inl u1.1)), (a_sh 2, .inl (kA 0, 40, .inl u1.2.1)), (a_sh 3, .inl (kA 0, 80, .inl u1.2.2.1)), (a_sh 4, .inl (kA 0, 120, .inl u1.2.2.2.1)), (a_sh 5, .inl (kA 0, 120, .inl u1.2.2.2.2.1)), (a_sh 6, .inl (kA 2, 120, .inr (.inl u1.2.2.2.2.2.1))), (a_sh 7, .inl (kA 1, 1240, .inl u1.2.2.2.2.2.2.1))] H := hP
  have hD : va_D A [(a_sh 0, .inr (3, [.ref (a_sh 1), .ref (a_sh 2), .ref (a_sh 3), .ref (a_sh 4), .ref (a_sh 5), .ref (a_sh 6), .ref (a_sh 7), .ref (a_ck 0), .int u1.2.2.2.2.2.2.2.1, .int u1.2.2.2.2.2.2.2.2])), (a_sh 1, .inl (kA 0, 40, .inl u1.1)), (a_sh 2, .inl (kA 0, 40, .inl u1.2.1)), (a_sh 3, .inl (kA 0, 80, .inl u1.2.2.1)), (a_sh 4, .inl (kA 0, 120, .inl u1.2.2.2.1)), (a_sh 5, .inl (kA 0, 120, .inl u1.2.2.2.2.1)), (a_sh 6, .inl (kA 2, 120, .inr (.inl u1.2.2.2.2.2.1))), (a_sh 7, .inl (kA 1, 1240, .inl u1.2.2.2.2.2.2.1))] := hD
  refine lv_ldc (own := "ConstraintText$Sheet") (v := 100000) hx hb hown (hts _ tw_460) dX3_printWhole_4 ?_
  refine lv_istore_n (lv' := [(2, .int (100000 : Int32)), (0, .ref (a_sh 0)), (1, .int p1)]) hx hb dX3_printWhole_6 rfl hl (by decide) rfl (fun ls hl => ?_)
  obtain ⟨k7, e7, hk7, hi7, hc7⟩ := bnd_name h
  have x42w : ∀ (x42 : T3) (H : Heap) (locs : List Loc) (ls : Array Slot), k7 x42 = some res → va_P D vwCl [(a_sh 0, .inr (3, [.ref (a_sh 1), .ref (a_sh 2), .ref (a_sh 3), .ref (a_sh 4), .ref (a_sh 5), .ref (a_sh 6), .ref (a_sh 7), .ref (a_ck 0), .int x42.2.2.2.2.2.2.2.1, .int x42.2.2.2.2.2.2.2.2])), (a_sh 1, .inl (kA 0, 40, .inl x42.1)), (a_sh 2, .inl (kA 0, 40, .inl x42.2.1)), (a_sh 3, .inl (kA 0, 80, .inl x42.2.2.1)), (a_sh 4, .inl (kA 0, 120, .inl x42.2.2.2.1)), (a_sh 5, .inl (kA 0, 120, .inl x42.2.2.2.2.1)), (a_sh 6, .inl (kA 2, 120, .inr (.inl x42.2.2.2.2.2.1))), (a_sh 7, .inl (kA 1, 1240, .inl x42.2.2.2.2.2.2.1))] H → va_D A [(a_sh 0, .inr (3, [.ref (a_sh 1), .ref (a_sh 2), .ref (a_sh 3), .ref (a_sh 4), .ref (a_sh 5), .ref (a_sh 6), .ref (a_sh 7), .ref (a_ck 0), .int x42.2.2.2.2.2.2.2.1, .int x42.2.2.2.2.2.2.2.2])), (a_sh 1, .inl (kA 0, 40, .inl x42.1)), (a_sh 2, .inl (kA 0, 40, .inl x42.2.1)), (a_sh 3, .inl (kA 0, 80, .inl x42.2.2.1)), (a_sh 4, .inl (kA 0, 120, .inl x42.2.2.2.1)), (a_sh 5, .inl (kA 0, 120, .inl x42.2.2.2.2.1)), (a_sh 6, .inl (kA 2, 120, .inr (.inl x42.2.2.2.2.2.1))), (a_sh 7, .inl (kA 1, 1240, .inl x42.2.2.2.2.2.2.1))] → va_S A s.heap H locs → lv_has ls 3 [] → W p l e rm3_printWhole s m args below meth c H locs 0 0 Q (F0 m 42 ls []) := by
    intro x42 H locs ls h hP hD hS hl
    have h := app_of hk7 h
    obtain rfl := Option.some.inj h
    rw [← hQ]
    exact rw_return hx hb hr hk  dX3_printWhole_42  hP hD hS
  have lp7 : ∀ (n7 : Nat) (s7 : Int32 × T3) (H : Heap) (locs : List Loc) (ls : Array Slot), iter (f3_printWhole_L7 p1) n7 s7 = some e7 → va_P D vwCl [(a_sh 0, .inr (3, [.ref (a_sh 1), .ref (a_sh 2), .ref (a_sh 3), .ref (a_sh 4), .ref (a_sh 5), .ref (a_sh 6), .ref (a_sh 7), .ref (a_ck 0), .int s7.2.2.2.2.2.2.2.2.1, .int s7.2.2.2.2.2.2.2.2.2])), (a_sh 1, .inl (kA 0, 40, .inl s7.2.1)), (a_sh 2, .inl (kA 0, 40, .inl s7.2.2.1)), (a_sh 3, .inl (kA 0, 80, .inl s7.2.2.2.1)), (a_sh 4, .inl (kA 0, 120, .inl s7.2.2.2.2.1)), (a_sh 5, .inl (kA 0, 120, .inl s7.2.2.2.2.2.1)), (a_sh 6, .inl (kA 2, 120, .inr (.inl s7.2.2.2.2.2.2.1))), (a_sh 7, .inl (kA 1, 1240, .inl s7.2.2.2.2.2.2.2.1))] H → va_D A [(a_sh 0, .inr (3, [.ref (a_sh 1), .ref (a_sh 2), .ref (a_sh 3), .ref (a_sh 4), .ref (a_sh 5), .ref (a_sh 6), .ref (a_sh 7), .ref (a_ck 0), .int s7.2.2.2.2.2.2.2.2.1, .int s7.2.2.2.2.2.2.2.2.2])), (a_sh 1, .inl (kA 0, 40, .inl s7.2.1)), (a_sh 2, .inl (kA 0, 40, .inl s7.2.2.1)), (a_sh 3, .inl (kA 0, 80, .inl s7.2.2.2.1)), (a_sh 4, .inl (kA 0, 120, .inl s7.2.2.2.2.1)), (a_sh 5, .inl (kA 0, 120, .inl s7.2.2.2.2.2.1)), (a_sh 6, .inl (kA 2, 120, .inr (.inl s7.2.2.2.2.2.2.1))), (a_sh 7, .inl (kA 1, 1240, .inl s7.2.2.2.2.2.2.2.1))] → va_S A s.heap H locs → lv_has ls 3 [(0, .ref (a_sh 0)), (1, .int p1), (2, .int s7.1)] → W p l e rm3_printWhole s m args below meth c H locs 0 0 Q (F0 m 7 ls []) := by
    intro n7
    induction n7 with
    | zero =>
      intro s7 H locs ls h hP hD hS hl
      exact (iter_zero h).elim
    | succ n7 ih7 =>
      intro s7 H locs ls h hP hD hS hl
      obtain ⟨z7, h, hL7, hR7⟩ := iter_split h
      unfold f3_printWhole_L7 at h
      refine lv_iload_n hx hb dX3_printWhole_7 rfl (lv_at hl 2 rfl) ?_
      refine lv_if_le (tgt := 42) hx hb dX3_printWhole_8 (by decide) (fun bc => ?_) (fun bc => ?_)
      · have h := ite_t bc h
        obtain rfl := Option.some.inj h
        exact x42w _ _ _ ls (eq_some_app (hR7 _ rfl) hc7) hP hD hS (lv_sub hl [] rfl)
      · have h := ite_f bc h
        refine lv_iload_n hx hb dX3_printWhole_11 rfl (lv_at hl 1 rfl) ?_
        refine lv_iload_n hx hb dX3_printWhole_12 rfl (lv_at hl 2 rfl) ?_
        obtain ⟨k34, hk34, h⟩ := jn_name h
        have j34 : ∀ (v34 : T3) (H : Heap) (locs : List Loc) (ls : Array Slot), k34 v34 = some z7 → va_P D vwCl [(a_sh 0, .inr (3, [.ref (a_sh 1), .ref (a_sh 2), .ref (a_sh 3), .ref (a_sh 4), .ref (a_sh 5), .ref (a_sh 6), .ref (a_sh 7), .ref (a_ck 0), .int v34.2.2.2.2.2.2.2.1, .int v34.2.2.2.2.2.2.2.2])), (a_sh 1, .inl (kA 0, 40, .inl v34.1)), (a_sh 2, .inl (kA 0, 40, .inl v34.2.1)), (a_sh 3, .inl (kA 0, 80, .inl v34.2.2.1)), (a_sh 4, .inl (kA 0, 120, .inl v34.2.2.2.1)), (a_sh 5, .inl (kA 0, 120, .inl v34.2.2.2.2.1)), (a_sh 6, .inl (kA 2, 120, .inr (.inl v34.2.2.2.2.2.1))), (a_sh 7, .inl (kA 1, 1240, .inl v34.2.2.2.2.2.2.1))] H → va_D A [(a_sh 0, .inr (3, [.ref (a_sh 1), .ref (a_sh 2), .ref (a_sh 3), .ref (a_sh 4), .ref (a_sh 5), .ref (a_sh 6), .ref (a_sh 7), .ref (a_ck 0), .int v34.2.2.2.2.2.2.2.1, .int v34.2.2.2.2.2.2.2.2])), (a_sh 1, .inl (kA 0, 40, .inl v34.1)), (a_sh 2, .inl (kA 0, 40, .inl v34.2.1)), (a_sh 3, .inl (kA 0, 80, .inl v34.2.2.1)), (a_sh 4, .inl (kA 0, 120, .inl v34.2.2.2.1)), (a_sh 5, .inl (kA 0, 120, .inl v34.2.2.2.2.1)), (a_sh 6, .inl (kA 2, 120, .inr (.inl v34.2.2.2.2.2.1))), (a_sh 7, .inl (kA 1, 1240, .inl v34.2.2.2.2.2.2.1))] → va_S A s.heap H locs → lv_has ls 3 [(0, .ref (a_sh 0)), (1, .int p1), (2, .int s7.1)] → W p l e rm3_printWhole s m args below meth c H locs 0 0 Q (F0 m 34 ls []) := by
          intro v34 H locs ls h hP hD hS hl
          have h := app_of hk34 h
          refine lv_iload_n hx hb dX3_printWhole_34 rfl (lv_at hl 2 rfl) ?_
          refine lv_bipush (v := 10) hx hb dX3_printWhole_35 (by decide) ?_
          refine lv_idiv hx hb dX3_printWhole_37 (by decide) ?_
          refine lv_istore_n (lv' := [(2, .int (s7.1 / (10 : Int32))), (0, .ref (a_sh 0)), (1, .int p1)]) hx hb dX3_printWhole_38 rfl hl (by decide) rfl (fun ls hl => ?_)
          refine lv_goto (tgt := 7) hx hb dX3_printWhole_39 (by decide) ?_
          obtain rfl := Option.some.inj h
          exact ih7 _ _ _ ls (hL7 _ rfl) hP hD hS (lv_sub hl [1, 2, 0] rfl)
        obtain ⟨k21, hk21, h⟩ := jn_name h
        have j21 : ∀ (v21 : Unit) (H : Heap) (locs : List Loc) (ls : Array Slot), k21 v21 = some z7 → va_P D vwCl [(a_sh 0, .inr (3, [.ref (a_sh 1), .ref (a_sh 2), .ref (a_sh 3), .ref (a_sh 4), .ref (a_sh 5), .ref (a_sh 6), .ref (a_sh 7), .ref (a_ck 0), .int s7.2.2.2.2.2.2.2.2.1, .int s7.2.2.2.2.2.2.2.2.2])), (a_sh 1, .inl (kA 0, 40, .inl s7.2.1)), (a_sh 2, .inl (kA 0, 40, .inl s7.2.2.1)), (a_sh 3, .inl (kA 0, 80, .inl s7.2.2.2.1)), (a_sh 4, .inl (kA 0, 120, .inl s7.2.2.2.2.1)), (a_sh 5, .inl (kA 0, 120, .inl s7.2.2.2.2.2.1)), (a_sh 6, .inl (kA 2, 120, .inr (.inl s7.2.2.2.2.2.2.1))), (a_sh 7, .inl (kA 1, 1240, .inl s7.2.2.2.2.2.2.2.1))] H → va_D A [(a_sh 0, .inr (3, [.ref (a_sh 1), .ref (a_sh 2), .ref (a_sh 3), .ref (a_sh 4), .ref (a_sh 5), .ref (a_sh 6), .ref (a_sh 7), .ref (a_ck 0), .int s7.2.2.2.2.2.2.2.2.1, .int s7.2.2.2.2.2.2.2.2.2])), (a_sh 1, .inl (kA 0, 40, .inl s7.2.1)), (a_sh 2, .inl (kA 0, 40, .inl s7.2.2.1)), (a_sh 3, .inl (kA 0, 80, .inl s7.2.2.2.1)), (a_sh 4, .inl (kA 0, 120, .inl s7.2.2.2.2.1)), (a_sh 5, .inl (kA 0, 120, .inl s7.2.2.2.2.2.1)), (a_sh 6, .inl (kA 2, 120, .inr (.inl s7.2.2.2.2.2.2.1))), (a_sh 7, .inl (kA 1, 1240, .inl s7.2.2.2.2.2.2.2.1))] → va_S A s.heap H locs → lv_has ls 3 [(0, .ref (a_sh 0)), (1, .int p1), (2, .int s7.1)] → W p l e rm3_printWhole s m args below meth c H locs 0 0 Q (F0 m 21 ls []) := by
          intro v21 H locs ls h hP hD hS hl
          have h := app_of hk21 h
          refine lv_aload_n hx hb dX3_printWhole_21 rfl (lv_at hl 0 rfl) ?_
          refine lv_bipush (v := 48) hx hb dX3_printWhole_22 (by decide) ?_
          refine lv_iload_n hx hb dX3_printWhole_24 rfl (lv_at hl 1 rfl) ?_
          refine lv_iload_n hx hb dX3_printWhole_25 rfl (lv_at hl 2 rfl) ?_
          obtain ⟨g26, h⟩ := grd_some h
          refine lv_idiv hx hb dX3_printWhole_26 (of_decide_eq_true g26) ?_
          refine lv_bipush (v := 10) hx hb dX3_printWhole_27 (by decide) ?_
          refine lv_irem hx hb dX3_printWhole_29 (by decide) ?_
          refine lv_iadd hx hb dX3_printWhole_30 ?_
          obtain ⟨u31, hc_31, h⟩ := bnd_some h
          refine rw_V (wr := []) (n := 1) (As := [.int ((48 : Int32) + ((p1 / s7.1) - (p1 / s7.1) / (10 : Int32) * (10 : Int32)))]) (rest := []) hx hb hml hown hts hN hS hK hP hD hA (c3_print l D kA a_sh a_ck ((48 : Int32) + ((p1 / s7.1) - (p1 / s7.1) / (10 : Int32) * (10 : Int32))) s7.2 u31 hc_31) [0, 1, 2, 3, 4, 5, 6, 7] [] rfl (by decide) rfl (by decide) (by decide) 0 3 rfl rfl rfl tw_411 tw_412 tw_413 tw_77 tw_414 rfl rfl (by decide) ⟨Nat.le_of_ble_eq_true rfl, Nat.le_of_ble_eq_true rfl⟩ rfl hl.1 rfl (Nat.le_of_ble_eq_true rfl) dX3_printWhole_31 ⟨Nat.le_of_ble_eq_true rfl, Nat.le_of_ble_eq_true rfl⟩ (fun H locs hP hD hS => ?_)
          have hP : va_P D vwCl [(a_sh 0, .inr (3, [.ref (a_sh 1), .ref (a_sh 2), .ref (a_sh 3), .ref (a_sh 4), .ref (a_sh 5), .ref (a_sh 6), .ref (a_sh 7), .ref (a_ck 0), .int u31.2.2.2.2.2.2.2.1, .int u31.2.2.2.2.2.2.2.2])), (a_sh 1, .inl (kA 0, 40, .inl u31.1)), (a_sh 2, .inl (kA 0, 40, .inl u31.2.1)), (a_sh 3, .inl (kA 0, 80, .inl u31.2.2.1)), (a_sh 4, .inl (kA 0, 120, .inl u31.2.2.2.1)), (a_sh 5, .inl (kA 0, 120, .inl u31.2.2.2.2.1)), (a_sh 6, .inl (kA 2, 120, .inr (.inl u31.2.2.2.2.2.1))), (a_sh 7, .inl (kA 1, 1240, .inl u31.2.2.2.2.2.2.1))] H := hP
          have hD : va_D A [(a_sh 0, .inr (3, [.ref (a_sh 1), .ref (a_sh 2), .ref (a_sh 3), .ref (a_sh 4), .ref (a_sh 5), .ref (a_sh 6), .ref (a_sh 7), .ref (a_ck 0), .int u31.2.2.2.2.2.2.2.1, .int u31.2.2.2.2.2.2.2.2])), (a_sh 1, .inl (kA 0, 40, .inl u31.1)), (a_sh 2, .inl (kA 0, 40, .inl u31.2.1)), (a_sh 3, .inl (kA 0, 80, .inl u31.2.2.1)), (a_sh 4, .inl (kA 0, 120, .inl u31.2.2.2.1)), (a_sh 5, .inl (kA 0, 120, .inl u31.2.2.2.2.1)), (a_sh 6, .inl (kA 2, 120, .inr (.inl u31.2.2.2.2.2.1))), (a_sh 7, .inl (kA 1, 1240, .inl u31.2.2.2.2.2.2.1))] := hD
          exact j34 _ _ _ ls h hP hD hS hl
        refine lv_icmp_ge (tgt := 21) hx hb dX3_printWhole_13 (by decide) (fun bc => ?_) (fun bc => ?_)
        · have h := ite_t bc h
          exact j21 _ _ _ ls h hP hD hS hl
        · have h := ite_f bc h
          refine lv_iload_n hx hb dX3_printWhole_16 rfl (lv_at hl 2 rfl) ?_
          refine lv_iconst (v := 1) hx hb dX3_printWhole_17 (by decide) ?_
          refine lv_icmp_ne (tgt := 34) hx hb dX3_printWhole_18 (by decide) (fun bc => ?_) (fun bc => ?_)
          · have h := ite_f bc h
            exact j34 _ _ _ ls h hP hD hS hl
          · have h := ite_t bc h
            exact j21 _ _ _ ls h hP hD hS hl
  exact lp7 F ((100000 : Int32), u1) _ _ ls hi7 hP hD hS (lv_sub hl [1, 2, 0] rfl)
abbrev rm2_takeWhole : Room := { frames := 3, cells := 0, slots := 0, locals := 63 }
set_option maxHeartbeats 4000000 in
set_option maxRecDepth 100000 in
theorem c2_takeWhole (l : Launch) (D : va_G) (kA : Nat → ClassId) (a_rd : Nat → Nat) (a_tp : Nat → Nat) (a_sh : Nat → Nat) (a_ck : Nat → Nat) (F : Nat) (p1 : Int32) (p2 : Int32) (rd : T2) (tp : T4) (sh : T3) (res : Int32 × T2 × T3) (h : f2_takeWhole F p1 p2 rd tp sh = some res) : Rw l yX2_takeWhole cX2_takeWhole 4 (some .int) rm2_takeWhole D kA [.ref (a_rd 0), .int p1, .int p2] [(a_rd 0, .inr (2, [.ref (a_tp 0), .ref (a_rd 2), .ref (a_rd 3), .ref (a_rd 4), .ref (a_rd 5), .ref (a_sh 0), .int rd.2.2.2.2.1, .int rd.2.2.2.2.2])), (a_rd 2, .inl (kA 0, 12, .inl rd.1)), (a_rd 3, .inl (kA 0, 12, .inl rd.2.1)), (a_rd 4, .inl (kA 0, 80, .inl rd.2.2.1)), (a_rd 5, .inl (kA 0, 80, .inl rd.2.2.2.1)), (a_tp 0, .inr (4, [.ref (a_tp 1), .int tp.2])), (a_tp 1, .inl (kA 1, 1200, .inl tp.1)), (a_sh 0, .inr (3, [.ref (a_sh 1), .ref (a_sh 2), .ref (a_sh 3), .ref (a_sh 4), .ref (a_sh 5), .ref (a_sh 6), .ref (a_sh 7), .ref (a_ck 0), .int sh.2.2.2.2.2.2.2.1, .int sh.2.2.2.2.2.2.2.2])), (a_sh 1, .inl (kA 0, 40, .inl sh.1)), (a_sh 2, .inl (kA 0, 40, .inl sh.2.1)), (a_sh 3, .inl (kA 0, 80, .inl sh.2.2.1)), (a_sh 4, .inl (kA 0, 120, .inl sh.2.2.2.1)), (a_sh 5, .inl (kA 0, 120, .inl sh.2.2.2.2.1)), (a_sh 6, .inl (kA 2, 120, .inr (.inl sh.2.2.2.2.2.1))), (a_sh 7, .inl (kA 1, 1240, .inl sh.2.2.2.2.2.2.1))] (some (.int res.1)) [(a_rd 0, .inr (2, [.ref (a_tp 0), .ref (a_rd 2), .ref (a_rd 3), .ref (a_rd 4), .ref (a_rd 5), .ref (a_sh 0), .int res.2.1.2.2.2.2.1, .int res.2.1.2.2.2.2.2])), (a_rd 2, .inl (kA 0, 12, .inl res.2.1.1)), (a_rd 3, .inl (kA 0, 12, .inl res.2.1.2.1)), (a_rd 4, .inl (kA 0, 80, .inl res.2.1.2.2.1)), (a_rd 5, .inl (kA 0, 80, .inl res.2.1.2.2.2.1)), (a_tp 0, .inr (4, [.ref (a_tp 1), .int tp.2])), (a_tp 1, .inl (kA 1, 1200, .inl tp.1)), (a_sh 0, .inr (3, [.ref (a_sh 1), .ref (a_sh 2), .ref (a_sh 3), .ref (a_sh 4), .ref (a_sh 5), .ref (a_sh 6), .ref (a_sh 7), .ref (a_ck 0), .int res.2.2.2.2.2.2.2.2.2.1, .int res.2.2.2.2.2.2.2.2.2.2])), (a_sh 1, .inl (kA 0, 40, .inl res.2.2.1)), (a_sh 2, .inl (kA 0, 40, .inl res.2.2.2.1)), (a_sh 3, .inl (kA 0, 80, .inl res.2.2.2.2.1)), (a_sh 4, .inl (kA 0, 120, .inl res.2.2.2.2.2.1)), (a_sh 5, .inl (kA 0, 120, .inl res.2.2.2.2.2.2.1)), (a_sh 6, .inl (kA 2, 120, .inr (.inl res.2.2.2.2.2.2.2.1))), (a_sh 7, .inl (kA 1, 1240, .inl res.2.2.2.2.2.2.2.2.1))] := by
  refine Rw.of (by decide) (Nat.le_of_ble_eq_true rfl) ?_
  intro p e s m args below meth c A hF hP hD hS hA hK ls hl
  generalize hQ : rwQ below D A _ _ args s = Q
  obtain ⟨hx, hb, hml, hown, hr, hk, hts, hN⟩ := hF
  have hl : lv_has ls 4 [(0, .ref (a_rd 0)), (1, .int p1), (2, .int p2)] := hl
  unfold f2_takeWhole at h
  refine lv_aload_n hx hb dX2_takeWhole_0 rfl (lv_at hl 0 rfl) ?_
  obtain ⟨u1, hc_1, h⟩ := bnd_some h
  refine rw_V (wr := [(a_sh 0, .inr (3, [.ref (a_sh 1), .ref (a_sh 2), .ref (a_sh 3), .ref (a_sh 4), .ref (a_sh 5), .ref (a_sh 6), .ref (a_sh 7), .ref (a_ck 0), .int sh.2.2.2.2.2.2.2.1, .int sh.2.2.2.2.2.2.2.2])), (a_sh 1, .inl (kA 0, 40, .inl sh.1)), (a_sh 2, .inl (kA 0, 40, .inl sh.2.1)), (a_sh 3, .inl (kA 0, 80, .inl sh.2.2.1)), (a_sh 4, .inl (kA 0, 120, .inl sh.2.2.2.1)), (a_sh 5, .inl (kA 0, 120, .inl sh.2.2.2.2.1)), (a_sh 6, .inl (kA 2, 120, .inr (.inl sh.2.2.2.2.2.1))), (a_sh 7, .inl (kA 1, 1240, .inl sh.2.2.2.2.2.2.1))]) (n := 0) (As := []) (rest := []) hx hb hml hown hts hN hS hK hP hD hA (c2_takeWord l D kA a_rd a_tp a_sh F rd tp u1 hc_1) [0, 1, 2, 3, 4, 5, 6] [7, 8, 9, 10, 11, 12, 13, 14] rfl (by decide) rfl (by decide) (by decide) 0 2 rfl rfl rfl tw_311 tw_313 tw_0 tw_75 tw_314 rfl rfl (by decide) ⟨Nat.le_of_ble_eq_true rfl, Nat.le_of_ble_eq_true rfl⟩ rfl hl.1 rfl (Nat.le_of_ble_eq_true rfl) dX2_takeWhole_1 ⟨Nat.le_of_ble_eq_true rfl, Nat.le_of_ble_eq_true rfl⟩ (fun H locs hP hD hS => ?_)
  have hP : va_P D vwCl [(a_sh 0, .inr (3, [.ref (a_sh 1), .ref (a_sh 2), .ref (a_sh 3), .ref (a_sh 4), .ref (a_sh 5), .ref (a_sh 6), .ref (a_sh 7), .ref (a_ck 0), .int sh.2.2.2.2.2.2.2.1, .int sh.2.2.2.2.2.2.2.2])), (a_sh 1, .inl (kA 0, 40, .inl sh.1)), (a_sh 2, .inl (kA 0, 40, .inl sh.2.1)), (a_sh 3, .inl (kA 0, 80, .inl sh.2.2.1)), (a_sh 4, .inl (kA 0, 120, .inl sh.2.2.2.1)), (a_sh 5, .inl (kA 0, 120, .inl sh.2.2.2.2.1)), (a_sh 6, .inl (kA 2, 120, .inr (.inl sh.2.2.2.2.2.1))), (a_sh 7, .inl (kA 1, 1240, .inl sh.2.2.2.2.2.2.1)), (a_rd 0, .inr (2, [.ref (a_tp 0), .ref (a_rd 2), .ref (a_rd 3), .ref (a_rd 4), .ref (a_rd 5), .ref (a_sh 0), .int u1.2.2.2.2.1, .int u1.2.2.2.2.2])), (a_rd 2, .inl (kA 0, 12, .inl u1.1)), (a_rd 3, .inl (kA 0, 12, .inl u1.2.1)), (a_rd 4, .inl (kA 0, 80, .inl u1.2.2.1)), (a_rd 5, .inl (kA 0, 80, .inl u1.2.2.2.1)), (a_tp 0, .inr (4, [.ref (a_tp 1), .int tp.2])), (a_tp 1, .inl (kA 1, 1200, .inl tp.1))] H := hP
  have hD : va_D A [(a_sh 0, .inr (3, [.ref (a_sh 1), .ref (a_sh 2), .ref (a_sh 3), .ref (a_sh 4), .ref (a_sh 5), .ref (a_sh 6), .ref (a_sh 7), .ref (a_ck 0), .int sh.2.2.2.2.2.2.2.1, .int sh.2.2.2.2.2.2.2.2])), (a_sh 1, .inl (kA 0, 40, .inl sh.1)), (a_sh 2, .inl (kA 0, 40, .inl sh.2.1)), (a_sh 3, .inl (kA 0, 80, .inl sh.2.2.1)), (a_sh 4, .inl (kA 0, 120, .inl sh.2.2.2.1)), (a_sh 5, .inl (kA 0, 120, .inl sh.2.2.2.2.1)), (a_sh 6, .inl (kA 2, 120, .inr (.inl sh.2.2.2.2.2.1))), (a_sh 7, .inl (kA 1, 1240, .inl sh.2.2.2.2.2.2.1)), (a_rd 0, .inr (2, [.ref (a_tp 0), .ref (a_rd 2), .ref (a_rd 3), .ref (a_rd 4), .ref (a_rd 5), .ref (a_sh 0), .int u1.2.2.2.2.1, .int u1.2.2.2.2.2])), (a_rd 2, .inl (kA 0, 12, .inl u1.1)), (a_rd 3, .inl (kA 0, 12, .inl u1.2.1)), (a_rd 4, .inl (kA 0, 80, .inl u1.2.2.1)), (a_rd 5, .inl (kA 0, 80, .inl u1.2.2.2.1)), (a_tp 0, .inr (4, [.ref (a_tp 1), .int tp.2])), (a_tp 1, .inl (kA 1, 1200, .inl tp.1))] := hD
  refine lv_aload_n hx hb dX2_takeWhole_4 rfl (lv_at hl 0 rfl) ?_
  obtain ⟨u5, hc_5, h⟩ := bnd_some h
  refine ro_V (n := 0) (As := []) (rest := []) hx hb hml hown hts hN hS hK hP (c2_wholeInHand l D kA a_rd a_tp a_sh F u1 tp u5 hc_5) [8, 9, 10, 11, 12, 13, 14] rfl 8 2 rfl rfl rfl tw_448 tw_450 tw_11 tw_75 tw_451 rfl rfl (by decide) ⟨Nat.le_of_ble_eq_true rfl, Nat.le_of_ble_eq_true rfl⟩ rfl hl.1 rfl (Nat.le_of_ble_eq_true rfl) dX2_takeWhole_5 ⟨Nat.le_of_ble_eq_true rfl, Nat.le_of_ble_eq_true rfl⟩ ?_
  refine lv_istore_n (lv' := [(3, .int u5), (0, .ref (a_rd 0)), (1, .int p1), (2, .int p2)]) hx hb dX2_takeWhole_8 rfl hl (by decide) rfl (fun ls hl => ?_)
  refine lv_iload_n hx hb dX2_takeWhole_9 rfl (lv_at hl 0 rfl) ?_
  refine lv_iload_n hx hb dX2_takeWhole_10 rfl (lv_at hl 2 rfl) ?_
  refine lv_icmp_lt (tgt := 19) hx hb dX2_takeWhole_11 (by decide) (fun bc => ?_) (fun bc => ?_)
  · have h := ite_t bc h
    refine lv_iconst (v := -1) hx hb dX2_takeWhole_19 (by decide) ?_
    obtain rfl := Option.some.inj h
    rw [← hQ]
    exact rw_ireturn hx hb hr hk  dX2_takeWhole_20  (hP.sub [8, 9, 10, 11, 12, 13, 14, 0, 1, 2, 3, 4, 5, 6, 7] rfl) (hD.sub [8, 9, 10, 11, 12, 13, 14, 0, 1, 2, 3, 4, 5, 6, 7] (by decide) rfl) hS
  · have h := ite_f bc h
    refine lv_iload_n hx hb dX2_takeWhole_14 rfl (lv_at hl 0 rfl) ?_
    refine lv_iload_n hx hb dX2_takeWhole_15 rfl (lv_at hl 3 rfl) ?_
    refine lv_icmp_le (tgt := 21) hx hb dX2_takeWhole_16 (by decide) (fun bc => ?_) (fun bc => ?_)
    · have h := ite_t bc h
      refine lv_aload_n hx hb dX2_takeWhole_21 rfl (lv_at hl 1 rfl) ?_
      refine va_get (D := D) (ci := 2) (v := .ref (a_sh 0)) (C := "ConstraintText$Reader") (T := TX2) (N := 8) hx hb hts ing2 hown hK hP 8 rfl rfl 5 (by decide) (hts _ tw_225) (fun _ h9 => h9) rfl dX2_takeWhole_22 ?_
      refine lv_iload_n hx hb dX2_takeWhole_25 rfl (lv_at hl 0 rfl) ?_
      obtain ⟨u26, hc_26, h⟩ := bnd_some h
      refine rw_V (wr := [(a_rd 0, .inr (2, [.ref (a_tp 0), .ref (a_rd 2), .ref (a_rd 3), .ref (a_rd 4), .ref (a_rd 5), .ref (a_sh 0), .int u1.2.2.2.2.1, .int u1.2.2.2.2.2])), (a_rd 2, .inl (kA 0, 12, .inl u1.1)), (a_rd 3, .inl (kA 0, 12, .inl u1.2.1)), (a_rd 4, .inl (kA 0, 80, .inl u1.2.2.1)), (a_rd 5, .inl (kA 0, 80, .inl u1.2.2.2.1)), (a_tp 0, .inr (4, [.ref (a_tp 1), .int tp.2])), (a_tp 1, .inl (kA 1, 1200, .inl tp.1))]) (n := 1) (As := [.int u5]) (rest := []) hx hb hml hown hts hN hS hK hP hD hA (c3_printWhole l D kA a_sh a_ck F u5 sh u26 hc_26) [0, 1, 2, 3, 4, 5, 6, 7] [8, 9, 10, 11, 12, 13, 14] rfl (by decide) rfl (by decide) (by decide) 0 3 rfl rfl rfl tw_455 tw_456 tw_457 tw_77 tw_458 rfl rfl (by decide) ⟨Nat.le_of_ble_eq_true rfl, Nat.le_of_ble_eq_true rfl⟩ rfl hl.1 rfl (Nat.le_of_ble_eq_true rfl) dX2_takeWhole_26 ⟨Nat.le_of_ble_eq_true rfl, Nat.le_of_ble_eq_true rfl⟩ (fun H locs hP hD hS => ?_)
      have hP : va_P D vwCl [(a_rd 0, .inr (2, [.ref (a_tp 0), .ref (a_rd 2), .ref (a_rd 3), .ref (a_rd 4), .ref (a_rd 5), .ref (a_sh 0), .int u1.2.2.2.2.1, .int u1.2.2.2.2.2])), (a_rd 2, .inl (kA 0, 12, .inl u1.1)), (a_rd 3, .inl (kA 0, 12, .inl u1.2.1)), (a_rd 4, .inl (kA 0, 80, .inl u1.2.2.1)), (a_rd 5, .inl (kA 0, 80, .inl u1.2.2.2.1)), (a_tp 0, .inr (4, [.ref (a_tp 1), .int tp.2])), (a_tp 1, .inl (kA 1, 1200, .inl tp.1)), (a_sh 0, .inr (3, [.ref (a_sh 1), .ref (a_sh 2), .ref (a_sh 3), .ref (a_sh 4), .ref (a_sh 5), .ref (a_sh 6), .ref (a_sh 7), .ref (a_ck 0), .int u26.2.2.2.2.2.2.2.1, .int u26.2.2.2.2.2.2.2.2])), (a_sh 1, .inl (kA 0, 40, .inl u26.1)), (a_sh 2, .inl (kA 0, 40, .inl u26.2.1)), (a_sh 3, .inl (kA 0, 80, .inl u26.2.2.1)), (a_sh 4, .inl (kA 0, 120, .inl u26.2.2.2.1)), (a_sh 5, .inl (kA 0, 120, .inl u26.2.2.2.2.1)), (a_sh 6, .inl (kA 2, 120, .inr (.inl u26.2.2.2.2.2.1))), (a_sh 7, .inl (kA 1, 1240, .inl u26.2.2.2.2.2.2.1))] H := hP
      have hD : va_D A [(a_rd 0, .inr (2, [.ref (a_tp 0), .ref (a_rd 2), .ref (a_rd 3), .ref (a_rd 4), .ref (a_rd 5), .ref (a_sh 0), .int u1.2.2.2.2.1, .int u1.2.2.2.2.2])), (a_rd 2, .inl (kA 0, 12, .inl u1.1)), (a_rd 3, .inl (kA 0, 12, .inl u1.2.1)), (a_rd 4, .inl (kA 0, 80, .inl u1.2.2.1)), (a_rd 5, .inl (kA 0, 80, .inl u1.2.2.2.1)), (a_tp 0, .inr (4, [.ref (a_tp 1), .int tp.2])), (a_tp 1, .inl (kA 1, 1200, .inl tp.1)), (a_sh 0, .inr (3, [.ref (a_sh 1), .ref (a_sh 2), .ref (a_sh 3), .ref (a_sh 4), .ref (a_sh 5), .ref (a_sh 6), .ref (a_sh 7), .ref (a_ck 0), .int u26.2.2.2.2.2.2.2.1, .int u26.2.2.2.2.2.2.2.2])), (a_sh 1, .inl (kA 0, 40, .inl u26.1)), (a_sh 2, .inl (kA 0, 40, .inl u26.2.1)), (a_sh 3, .inl (kA 0, 80, .inl u26.2.2.1)), (a_sh 4, .inl (kA 0, 120, .inl u26.2.2.2.1)), (a_sh 5, .inl (kA 0, 120, .inl u26.2.2.2.2.1)), (a_sh 6, .inl (kA 2, 120, .inr (.inl u26.2.2.2.2.2.1))), (a_sh 7, .inl (kA 1, 1240, .inl u26.2.2.2.2.2.2.1))] := hD
      refine lv_iload_n hx hb dX2_takeWhole_29 rfl (lv_at hl 0 rfl) ?_
      obtain rfl := Option.some.inj h
      rw [← hQ]
      exact rw_ireturn hx hb hr hk  dX2_takeWhole_30  hP hD hS
    · have h := ite_f bc h
      refine lv_iconst (v := -1) hx hb dX2_takeWhole_19 (by decide) ?_
      obtain rfl := Option.some.inj h
      rw [← hQ]
      exact rw_ireturn hx hb hr hk  dX2_takeWhole_20  (hP.sub [8, 9, 10, 11, 12, 13, 14, 0, 1, 2, 3, 4, 5, 6, 7] rfl) (hD.sub [8, 9, 10, 11, 12, 13, 14, 0, 1, 2, 3, 4, 5, 6, 7] (by decide) rfl) hS
abbrev rm2_takeTimes : Room := { frames := 4, cells := 0, slots := 0, locals := 86 }
set_option maxHeartbeats 4000000 in
set_option maxRecDepth 100000 in
theorem c2_takeTimes (l : Launch) (D : va_G) (kA : Nat → ClassId) (a_rd : Nat → Nat) (a_tp : Nat → Nat) (a_sh : Nat → Nat) (a_ck : Nat → Nat) (F : Nat) (rd : T2) (tp : T4) (sh : T3) (ck : T0) (res : Int32 × T2 × T3 × T0) (h : f2_takeTimes F rd tp sh ck = some res) : Rw l yX2_takeTimes cX2_takeTimes 4 (some .boolean) rm2_takeTimes D kA [.ref (a_rd 0)] [(a_rd 0, .inr (2, [.ref (a_tp 0), .ref (a_rd 2), .ref (a_rd 3), .ref (a_rd 4), .ref (a_rd 5), .ref (a_sh 0), .int rd.2.2.2.2.1, .int rd.2.2.2.2.2])), (a_rd 2, .inl (kA 0, 12, .inl rd.1)), (a_rd 3, .inl (kA 0, 12, .inl rd.2.1)), (a_rd 4, .inl (kA 0, 80, .inl rd.2.2.1)), (a_rd 5, .inl (kA 0, 80, .inl rd.2.2.2.1)), (a_tp 0, .inr (4, [.ref (a_tp 1), .int tp.2])), (a_tp 1, .inl (kA 1, 1200, .inl tp.1)), (a_sh 0, .inr (3, [.ref (a_sh 1), .ref (a_sh 2), .ref (a_sh 3), .ref (a_sh 4), .ref (a_sh 5), .ref (a_sh 6), .ref (a_sh 7), .ref (a_ck 0), .int sh.2.2.2.2.2.2.2.1, .int sh.2.2.2.2.2.2.2.2])), (a_sh 1, .inl (kA 0, 40, .inl sh.1)), (a_sh 2, .inl (kA 0, 40, .inl sh.2.1)), (a_sh 3, .inl (kA 0, 80, .inl sh.2.2.1)), (a_sh 4, .inl (kA 0, 120, .inl sh.2.2.2.1)), (a_sh 5, .inl (kA 0, 120, .inl sh.2.2.2.2.1)), (a_sh 6, .inl (kA 2, 120, .inr (.inl sh.2.2.2.2.2.1))), (a_sh 7, .inl (kA 1, 1240, .inl sh.2.2.2.2.2.2.1)), (a_ck 0, .inr (0, [.ref (a_ck 1), .ref (a_ck 2), .ref (a_ck 3), .ref (a_ck 4), .ref (a_ck 5), .ref (a_ck 6), .ref (a_ck 7), .ref (a_ck 8), .ref (a_ck 9), .ref (a_ck 10), .ref (a_ck 11), .int ck.2.2.2.2.2.2.2.2.2.2.2])), (a_ck 1, .inl (kA 0, 12, .inl ck.1)), (a_ck 2, .inl (kA 0, 12, .inl ck.2.1)), (a_ck 3, .inl (kA 3, 12, .inl ck.2.2.1)), (a_ck 4, .inl (kA 0, 12, .inl ck.2.2.2.1)), (a_ck 5, .inl (kA 0, 12, .inl ck.2.2.2.2.1)), (a_ck 6, .inl (kA 2, 12, .inr (.inl ck.2.2.2.2.2.1))), (a_ck 7, .inl (kA 2, 12, .inr (.inl ck.2.2.2.2.2.2.1))), (a_ck 8, .inl (kA 2, 12, .inr (.inl ck.2.2.2.2.2.2.2.1))), (a_ck 9, .inl (kA 2, 12, .inr (.inl ck.2.2.2.2.2.2.2.2.1))), (a_ck 10, .inl (kA 3, 12, .inl ck.2.2.2.2.2.2.2.2.2.1)), (a_ck 11, .inl (kA 3, 12, .inl ck.2.2.2.2.2.2.2.2.2.2.1))] (some (.int res.1)) [(a_rd 0, .inr (2, [.ref (a_tp 0), .ref (a_rd 2), .ref (a_rd 3), .ref (a_rd 4), .ref (a_rd 5), .ref (a_sh 0), .int res.2.1.2.2.2.2.1, .int res.2.1.2.2.2.2.2])), (a_rd 2, .inl (kA 0, 12, .inl res.2.1.1)), (a_rd 3, .inl (kA 0, 12, .inl res.2.1.2.1)), (a_rd 4, .inl (kA 0, 80, .inl res.2.1.2.2.1)), (a_rd 5, .inl (kA 0, 80, .inl res.2.1.2.2.2.1)), (a_tp 0, .inr (4, [.ref (a_tp 1), .int tp.2])), (a_tp 1, .inl (kA 1, 1200, .inl tp.1)), (a_sh 0, .inr (3, [.ref (a_sh 1), .ref (a_sh 2), .ref (a_sh 3), .ref (a_sh 4), .ref (a_sh 5), .ref (a_sh 6), .ref (a_sh 7), .ref (a_ck 0), .int res.2.2.1.2.2.2.2.2.2.2.1, .int res.2.2.1.2.2.2.2.2.2.2.2])), (a_sh 1, .inl (kA 0, 40, .inl res.2.2.1.1)), (a_sh 2, .inl (kA 0, 40, .inl res.2.2.1.2.1)), (a_sh 3, .inl (kA 0, 80, .inl res.2.2.1.2.2.1)), (a_sh 4, .inl (kA 0, 120, .inl res.2.2.1.2.2.2.1)), (a_sh 5, .inl (kA 0, 120, .inl res.2.2.1.2.2.2.2.1)), (a_sh 6, .inl (kA 2, 120, .inr (.inl res.2.2.1.2.2.2.2.2.1))), (a_sh 7, .inl (kA 1, 1240, .inl res.2.2.1.2.2.2.2.2.2.1)), (a_ck 0, .inr (0, [.ref (a_ck 1), .ref (a_ck 2), .ref (a_ck 3), .ref (a_ck 4), .ref (a_ck 5), .ref (a_ck 6), .ref (a_ck 7), .ref (a_ck 8), .ref (a_ck 9), .ref (a_ck 10), .ref (a_ck 11), .int res.2.2.2.2.2.2.2.2.2.2.2.2.2.2])), (a_ck 1, .inl (kA 0, 12, .inl res.2.2.2.1)), (a_ck 2, .inl (kA 0, 12, .inl res.2.2.2.2.1)), (a_ck 3, .inl (kA 3, 12, .inl res.2.2.2.2.2.1)), (a_ck 4, .inl (kA 0, 12, .inl res.2.2.2.2.2.2.1)), (a_ck 5, .inl (kA 0, 12, .inl res.2.2.2.2.2.2.2.1)), (a_ck 6, .inl (kA 2, 12, .inr (.inl res.2.2.2.2.2.2.2.2.1))), (a_ck 7, .inl (kA 2, 12, .inr (.inl res.2.2.2.2.2.2.2.2.2.1))), (a_ck 8, .inl (kA 2, 12, .inr (.inl res.2.2.2.2.2.2.2.2.2.2.1))), (a_ck 9, .inl (kA 2, 12, .inr (.inl res.2.2.2.2.2.2.2.2.2.2.2.1))), (a_ck 10, .inl (kA 3, 12, .inl res.2.2.2.2.2.2.2.2.2.2.2.2.1)), (a_ck 11, .inl (kA 3, 12, .inl res.2.2.2.2.2.2.2.2.2.2.2.2.2.1))] := by
  refine Rw.of (by decide) (Nat.le_of_ble_eq_true rfl) ?_
  intro p e s m args below meth c A hF hP hD hS hA hK ls hl
  generalize hQ : rwQ below D A _ _ args s = Q
  obtain ⟨hx, hb, hml, hown, hr, hk, hts, hN⟩ := hF
  have hl : lv_has ls 4 [(0, .ref (a_rd 0))] := hl
  unfold f2_takeTimes at h
  refine lv_aload_n hx hb dX2_takeTimes_0 rfl (lv_at hl 0 rfl) ?_
  refine lv_iconst (v := 1) hx hb dX2_takeTimes_1 (by decide) ?_
  refine lv_ldc (own := "ConstraintText$Reader") (v := 999999) hx hb hown (hts _ tw_443) dX2_takeTimes_2 ?_
  obtain ⟨u4, hc_4, h⟩ := bnd_some h
  refine rw_V (wr := [(a_ck 0, .inr (0, [.ref (a_ck 1), .ref (a_ck 2), .ref (a_ck 3), .ref (a_ck 4), .ref (a_ck 5), .ref (a_ck 6), .ref (a_ck 7), .ref (a_ck 8), .ref (a_ck 9), .ref (a_ck 10), .ref (a_ck 11), .int ck.2.2.2.2.2.2.2.2.2.2.2])), (a_ck 1, .inl (kA 0, 12, .inl ck.1)), (a_ck 2, .inl (kA 0, 12, .inl ck.2.1)), (a_ck 3, .inl (kA 3, 12, .inl ck.2.2.1)), (a_ck 4, .inl (kA 0, 12, .inl ck.2.2.2.1)), (a_ck 5, .inl (kA 0, 12, .inl ck.2.2.2.2.1)), (a_ck 6, .inl (kA 2, 12, .inr (.inl ck.2.2.2.2.2.1))), (a_ck 7, .inl (kA 2, 12, .inr (.inl ck.2.2.2.2.2.2.1))), (a_ck 8, .inl (kA 2, 12, .inr (.inl ck.2.2.2.2.2.2.2.1))), (a_ck 9, .inl (kA 2, 12, .inr (.inl ck.2.2.2.2.2.2.2.2.1))), (a_ck 10, .inl (kA 3, 12, .inl ck.2.2.2.2.2.2.2.2.2.1)), (a_ck 11, .inl (kA 3, 12, .inl ck.2.2.2.2.2.2.2.2.2.2.1))]) (n := 2) (As := [.int (1 : Int32), .int (999999 : Int32)]) (rest := []) hx hb hml hown hts hN hS hK hP hD hA (c2_takeWhole l D kA a_rd a_tp a_sh a_ck F (1 : Int32) (999999 : Int32) rd tp sh u4 hc_4) [0, 1, 2, 3, 4, 5, 6, 7, 8, 9, 10, 11, 12, 13, 14] [15, 16, 17, 18, 19, 20, 21, 22, 23, 24, 25, 26] rfl (by decide) rfl (by decide) (by decide) 0 2 rfl rfl rfl tw_444 tw_446 tw_10 tw_75 tw_447 rfl rfl (by decide) ⟨Nat.le_of_ble_eq_true rfl, Nat.le_of_ble_eq_true rfl⟩ rfl hl.1 rfl (Nat.le_of_ble_eq_true rfl) dX2_takeTimes_4 ⟨Nat.le_of_ble_eq_true rfl, Nat.le_of_ble_eq_true rfl⟩ (fun H locs hP hD hS => ?_)
  have hP : va_P D vwCl [(a_ck 0, .inr (0, [.ref (a_ck 1), .ref (a_ck 2), .ref (a_ck 3), .ref (a_ck 4), .ref (a_ck 5), .ref (a_ck 6), .ref (a_ck 7), .ref (a_ck 8), .ref (a_ck 9), .ref (a_ck 10), .ref (a_ck 11), .int ck.2.2.2.2.2.2.2.2.2.2.2])), (a_ck 1, .inl (kA 0, 12, .inl ck.1)), (a_ck 2, .inl (kA 0, 12, .inl ck.2.1)), (a_ck 3, .inl (kA 3, 12, .inl ck.2.2.1)), (a_ck 4, .inl (kA 0, 12, .inl ck.2.2.2.1)), (a_ck 5, .inl (kA 0, 12, .inl ck.2.2.2.2.1)), (a_ck 6, .inl (kA 2, 12, .inr (.inl ck.2.2.2.2.2.1))), (a_ck 7, .inl (kA 2, 12, .inr (.inl ck.2.2.2.2.2.2.1))), (a_ck 8, .inl (kA 2, 12, .inr (.inl ck.2.2.2.2.2.2.2.1))), (a_ck 9, .inl (kA 2, 12, .inr (.inl ck.2.2.2.2.2.2.2.2.1))), (a_ck 10, .inl (kA 3, 12, .inl ck.2.2.2.2.2.2.2.2.2.1)), (a_ck 11, .inl (kA 3, 12, .inl ck.2.2.2.2.2.2.2.2.2.2.1)), (a_rd 0, .inr (2, [.ref (a_tp 0), .ref (a_rd 2), .ref (a_rd 3), .ref (a_rd 4), .ref (a_rd 5), .ref (a_sh 0), .int u4.2.1.2.2.2.2.1, .int u4.2.1.2.2.2.2.2])), (a_rd 2, .inl (kA 0, 12, .inl u4.2.1.1)), (a_rd 3, .inl (kA 0, 12, .inl u4.2.1.2.1)), (a_rd 4, .inl (kA 0, 80, .inl u4.2.1.2.2.1)), (a_rd 5, .inl (kA 0, 80, .inl u4.2.1.2.2.2.1)), (a_tp 0, .inr (4, [.ref (a_tp 1), .int tp.2])), (a_tp 1, .inl (kA 1, 1200, .inl tp.1)), (a_sh 0, .inr (3, [.ref (a_sh 1), .ref (a_sh 2), .ref (a_sh 3), .ref (a_sh 4), .ref (a_sh 5), .ref (a_sh 6), .ref (a_sh 7), .ref (a_ck 0), .int u4.2.2.2.2.2.2.2.2.2.1, .int u4.2.2.2.2.2.2.2.2.2.2])), (a_sh 1, .inl (kA 0, 40, .inl u4.2.2.1)), (a_sh 2, .inl (kA 0, 40, .inl u4.2.2.2.1)), (a_sh 3, .inl (kA 0, 80, .inl u4.2.2.2.2.1)), (a_sh 4, .inl (kA 0, 120, .inl u4.2.2.2.2.2.1)), (a_sh 5, .inl (kA 0, 120, .inl u4.2.2.2.2.2.2.1)), (a_sh 6, .inl (kA 2, 120, .inr (.inl u4.2.2.2.2.2.2.2.1))), (a_sh 7, .inl (kA 1, 1240, .inl u4.2.2.2.2.2.2.2.2.1))] H := hP
  have hD : va_D A [(a_ck 0, .inr (0, [.ref (a_ck 1), .ref (a_ck 2), .ref (a_ck 3), .ref (a_ck 4), .ref (a_ck 5), .ref (a_ck 6), .ref (a_ck 7), .ref (a_ck 8), .ref (a_ck 9), .ref (a_ck 10), .ref (a_ck 11), .int ck.2.2.2.2.2.2.2.2.2.2.2])), (a_ck 1, .inl (kA 0, 12, .inl ck.1)), (a_ck 2, .inl (kA 0, 12, .inl ck.2.1)), (a_ck 3, .inl (kA 3, 12, .inl ck.2.2.1)), (a_ck 4, .inl (kA 0, 12, .inl ck.2.2.2.1)), (a_ck 5, .inl (kA 0, 12, .inl ck.2.2.2.2.1)), (a_ck 6, .inl (kA 2, 12, .inr (.inl ck.2.2.2.2.2.1))), (a_ck 7, .inl (kA 2, 12, .inr (.inl ck.2.2.2.2.2.2.1))), (a_ck 8, .inl (kA 2, 12, .inr (.inl ck.2.2.2.2.2.2.2.1))), (a_ck 9, .inl (kA 2, 12, .inr (.inl ck.2.2.2.2.2.2.2.2.1))), (a_ck 10, .inl (kA 3, 12, .inl ck.2.2.2.2.2.2.2.2.2.1)), (a_ck 11, .inl (kA 3, 12, .inl ck.2.2.2.2.2.2.2.2.2.2.1)), (a_rd 0, .inr (2, [.ref (a_tp 0), .ref (a_rd 2), .ref (a_rd 3), .ref (a_rd 4), .ref (a_rd 5), .ref (a_sh 0), .int u4.2.1.2.2.2.2.1, .int u4.2.1.2.2.2.2.2])), (a_rd 2, .inl (kA 0, 12, .inl u4.2.1.1)), (a_rd 3, .inl (kA 0, 12, .inl u4.2.1.2.1)), (a_rd 4, .inl (kA 0, 80, .inl u4.2.1.2.2.1)), (a_rd 5, .inl (kA 0, 80, .inl u4.2.1.2.2.2.1)), (a_tp 0, .inr (4, [.ref (a_tp 1), .int tp.2])), (a_tp 1, .inl (kA 1, 1200, .inl tp.1)), (a_sh 0, .inr (3, [.ref (a_sh 1), .ref (a_sh 2), .ref (a_sh 3), .ref (a_sh 4), .ref (a_sh 5), .ref (a_sh 6), .ref (a_sh 7), .ref (a_ck 0), .int u4.2.2.2.2.2.2.2.2.2.1, .int u4.2.2.2.2.2.2.2.2.2.2])), (a_sh 1, .inl (kA 0, 40, .inl u4.2.2.1)), (a_sh 2, .inl (kA 0, 40, .inl u4.2.2.2.1)), (a_sh 3, .inl (kA 0, 80, .inl u4.2.2.2.2.1)), (a_sh 4, .inl (kA 0, 120, .inl u4.2.2.2.2.2.1)), (a_sh 5, .inl (kA 0, 120, .inl u4.2.2.2.2.2.2.1)), (a_sh 6, .inl (kA 2, 120, .inr (.inl u4.2.2.2.2.2.2.2.1))), (a_sh 7, .inl (kA 1, 1240, .inl u4.2.2.2.2.2.2.2.2.1))] := hD
  refine lv_istore_n (lv' := [(1, .int u4.1), (0, .ref (a_rd 0))]) hx hb dX2_takeTimes_7 rfl hl (by decide) rfl (fun ls hl => ?_)
  refine lv_iload_n hx hb dX2_takeTimes_8 rfl (lv_at hl 0 rfl) ?_
  refine lv_iconst (v := -1) hx hb dX2_takeTimes_9 (by decide) ?_
  refine lv_icmp_ne (tgt := 15) hx hb dX2_takeTimes_10 (by decide) (fun bc => ?_) (fun bc => ?_)
  · have h := ite_f bc h
    refine lv_aload_n hx hb dX2_takeTimes_15 rfl (lv_at hl 1 rfl) ?_
    refine lv_iconst (v := 0) hx hb dX2_takeTimes_16 (by decide) ?_
    refine lv_iload_n hx hb dX2_takeTimes_17 rfl (lv_at hl 0 rfl) ?_
    refine lv_iconst (v := 1) hx hb dX2_takeTimes_18 (by decide) ?_
    refine lv_isub hx hb dX2_takeTimes_19 ?_
    obtain ⟨u20, hc_20, h⟩ := bnd_some h
    refine rw_V (wr := [(a_ck 0, .inr (0, [.ref (a_ck 1), .ref (a_ck 2), .ref (a_ck 3), .ref (a_ck 4), .ref (a_ck 5), .ref (a_ck 6), .ref (a_ck 7), .ref (a_ck 8), .ref (a_ck 9), .ref (a_ck 10), .ref (a_ck 11), .int ck.2.2.2.2.2.2.2.2.2.2.2])), (a_ck 1, .inl (kA 0, 12, .inl ck.1)), (a_ck 2, .inl (kA 0, 12, .inl ck.2.1)), (a_ck 3, .inl (kA 3, 12, .inl ck.2.2.1)), (a_ck 4, .inl (kA 0, 12, .inl ck.2.2.2.1)), (a_ck 5, .inl (kA 0, 12, .inl ck.2.2.2.2.1)), (a_ck 6, .inl (kA 2, 12, .inr (.inl ck.2.2.2.2.2.1))), (a_ck 7, .inl (kA 2, 12, .inr (.inl ck.2.2.2.2.2.2.1))), (a_ck 8, .inl (kA 2, 12, .inr (.inl ck.2.2.2.2.2.2.2.1))), (a_ck 9, .inl (kA 2, 12, .inr (.inl ck.2.2.2.2.2.2.2.2.1))), (a_ck 10, .inl (kA 3, 12, .inl ck.2.2.2.2.2.2.2.2.2.1)), (a_ck 11, .inl (kA 3, 12, .inl ck.2.2.2.2.2.2.2.2.2.2.1))]) (n := 2) (As := [.int (0 : Int32), .int (u4.1 - (1 : Int32))]) (rest := []) hx hb hml hown hts hN hS hK hP hD hA (c2_takeWhole l D kA a_rd a_tp a_sh a_ck F (0 : Int32) (u4.1 - (1 : Int32)) u4.2.1 tp u4.2.2 u20 hc_20) [12, 13, 14, 15, 16, 17, 18, 19, 20, 21, 22, 23, 24, 25, 26] [0, 1, 2, 3, 4, 5, 6, 7, 8, 9, 10, 11] rfl (by decide) rfl (by decide) (by decide) 12 2 rfl rfl rfl tw_444 tw_446 tw_10 tw_75 tw_447 rfl rfl (by decide) ⟨Nat.le_of_ble_eq_true rfl, Nat.le_of_ble_eq_true rfl⟩ rfl hl.1 rfl (Nat.le_of_ble_eq_true rfl) dX2_takeTimes_20 ⟨Nat.le_of_ble_eq_true rfl, Nat.le_of_ble_eq_true rfl⟩ (fun H locs hP hD hS => ?_)
    have hP : va_P D vwCl [(a_ck 0, .inr (0, [.ref (a_ck 1), .ref (a_ck 2), .ref (a_ck 3), .ref (a_ck 4), .ref (a_ck 5), .ref (a_ck 6), .ref (a_ck 7), .ref (a_ck 8), .ref (a_ck 9), .ref (a_ck 10), .ref (a_ck 11), .int ck.2.2.2.2.2.2.2.2.2.2.2])), (a_ck 1, .inl (kA 0, 12, .inl ck.1)), (a_ck 2, .inl (kA 0, 12, .inl ck.2.1)), (a_ck 3, .inl (kA 3, 12, .inl ck.2.2.1)), (a_ck 4, .inl (kA 0, 12, .inl ck.2.2.2.1)), (a_ck 5, .inl (kA 0, 12, .inl ck.2.2.2.2.1)), (a_ck 6, .inl (kA 2, 12, .inr (.inl ck.2.2.2.2.2.1))), (a_ck 7, .inl (kA 2, 12, .inr (.inl ck.2.2.2.2.2.2.1))), (a_ck 8, .inl (kA 2, 12, .inr (.inl ck.2.2.2.2.2.2.2.1))), (a_ck 9, .inl (kA 2, 12, .inr (.inl ck.2.2.2.2.2.2.2.2.1))), (a_ck 10, .inl (kA 3, 12, .inl ck.2.2.2.2.2.2.2.2.2.1)), (a_ck 11, .inl (kA 3, 12, .inl ck.2.2.2.2.2.2.2.2.2.2.1)), (a_rd 0, .inr (2, [.ref (a_tp 0), .ref (a_rd 2), .ref (a_rd 3), .ref (a_rd 4), .ref (a_rd 5), .ref (a_sh 0), .int u20.2.1.2.2.2.2.1, .int u20.2.1.2.2.2.2.2])), (a_rd 2, .inl (kA 0, 12, .inl u20.2.1.1)), (a_rd 3, .inl (kA 0, 12, .inl u20.2.1.2.1)), (a_rd 4, .inl (kA 0, 80, .inl u20.2.1.2.2.1)), (a_rd 5, .inl (kA 0, 80, .inl u20.2.1.2.2.2.1)), (a_tp 0, .inr (4, [.ref (a_tp 1), .int tp.2])), (a_tp 1, .inl (kA 1, 1200, .inl tp.1)), (a_sh 0, .inr (3, [.ref (a_sh 1), .ref (a_sh 2), .ref (a_sh 3), .ref (a_sh 4), .ref (a_sh 5), .ref (a_sh 6), .ref (a_sh 7), .ref (a_ck 0), .int u20.2.2.2.2.2.2.2.2.2.1, .int u20.2.2.2.2.2.2.2.2.2.2])), (a_sh 1, .inl (kA 0, 40, .inl u20.2.2.1)), (a_sh 2, .inl (kA 0, 40, .inl u20.2.2.2.1)), (a_sh 3, .inl (kA 0, 80, .inl u20.2.2.2.2.1)), (a_sh 4, .inl (kA 0, 120, .inl u20.2.2.2.2.2.1)), (a_sh 5, .inl (kA 0, 120, .inl u20.2.2.2.2.2.2.1)), (a_sh 6, .inl (kA 2, 120, .inr (.inl u20.2.2.2.2.2.2.2.1))), (a_sh 7, .inl (kA 1, 1240, .inl u20.2.2.2.2.2.2.2.2.1))] H := hP
    have hD : va_D A [(a_ck 0, .inr (0, [.ref (a_ck 1), .ref (a_ck 2), .ref (a_ck 3), .ref (a_ck 4), .ref (a_ck 5), .ref (a_ck 6), .ref (a_ck 7), .ref (a_ck 8), .ref (a_ck 9), .ref (a_ck 10), .ref (a_ck 11), .int ck.2.2.2.2.2.2.2.2.2.2.2])), (a_ck 1, .inl (kA 0, 12, .inl ck.1)), (a_ck 2, .inl (kA 0, 12, .inl ck.2.1)), (a_ck 3, .inl (kA 3, 12, .inl ck.2.2.1)), (a_ck 4, .inl (kA 0, 12, .inl ck.2.2.2.1)), (a_ck 5, .inl (kA 0, 12, .inl ck.2.2.2.2.1)), (a_ck 6, .inl (kA 2, 12, .inr (.inl ck.2.2.2.2.2.1))), (a_ck 7, .inl (kA 2, 12, .inr (.inl ck.2.2.2.2.2.2.1))), (a_ck 8, .inl (kA 2, 12, .inr (.inl ck.2.2.2.2.2.2.2.1))), (a_ck 9, .inl (kA 2, 12, .inr (.inl ck.2.2.2.2.2.2.2.2.1))), (a_ck 10, .inl (kA 3, 12, .inl ck.2.2.2.2.2.2.2.2.2.1)), (a_ck 11, .inl (kA 3, 12, .inl ck.2.2.2.2.2.2.2.2.2.2.1)), (a_rd 0, .inr (2, [.ref (a_tp 0), .ref (a_rd 2), .ref (a_rd 3), .ref (a_rd 4), .ref (a_rd 5), .ref (a_sh 0), .int u20.2.1.2.2.2.2.1, .int u20.2.1.2.2.2.2.2])), (a_rd 2, .inl (kA 0, 12, .inl u20.2.1.1)), (a_rd 3, .inl (kA 0, 12, .inl u20.2.1.2.1)), (a_rd 4, .inl (kA 0, 80, .inl u20.2.1.2.2.1)), (a_rd 5, .inl (kA 0, 80, .inl u20.2.1.2.2.2.1)), (a_tp 0, .inr (4, [.ref (a_tp 1), .int tp.2])), (a_tp 1, .inl (kA 1, 1200, .inl tp.1)), (a_sh 0, .inr (3, [.ref (a_sh 1), .ref (a_sh 2), .ref (a_sh 3), .ref (a_sh 4), .ref (a_sh 5), .ref (a_sh 6), .ref (a_sh 7), .ref (a_ck 0), .int u20.2.2.2.2.2.2.2.2.2.1, .int u20.2.2.2.2.2.2.2.2.2.2])), (a_sh 1, .inl (kA 0, 40, .inl u20.2.2.1)), (a_sh 2, .inl (kA 0, 40, .inl u20.2.2.2.1)), (a_sh 3, .inl (kA 0, 80, .inl u20.2.2.2.2.1)), (a_sh 4, .inl (kA 0, 120, .inl u20.2.2.2.2.2.1)), (a_sh 5, .inl (kA 0, 120, .inl u20.2.2.2.2.2.2.1)), (a_sh 6, .inl (kA 2, 120, .inr (.inl u20.2.2.2.2.2.2.2.1))), (a_sh 7, .inl (kA 1, 1240, .inl u20.2.2.2.2.2.2.2.2.1))] := hD
    refine lv_istore_n (lv' := [(2, .int u20.1), (1, .int u4.1), (0, .ref (a_rd 0))]) hx hb dX2_takeTimes_23 rfl hl (by decide) rfl (fun ls hl => ?_)
    refine lv_iload_n hx hb dX2_takeTimes_24 rfl (lv_at hl 0 rfl) ?_
    refine lv_iconst (v := -1) hx hb dX2_takeTimes_25 (by decide) ?_
    refine lv_icmp_ne (tgt := 31) hx hb dX2_takeTimes_26 (by decide) (fun bc => ?_) (fun bc => ?_)
    · have h := ite_f bc h
      refine lv_aload_n hx hb dX2_takeTimes_31 rfl (lv_at hl 2 rfl) ?_
      refine lv_iconst (v := 0) hx hb dX2_takeTimes_32 (by decide) ?_
      refine lv_iload_n hx hb dX2_takeTimes_33 rfl (lv_at hl 1 rfl) ?_
      refine lv_iconst (v := 1) hx hb dX2_takeTimes_34 (by decide) ?_
      refine lv_isub hx hb dX2_takeTimes_35 ?_
      obtain ⟨u36, hc_36, h⟩ := bnd_some h
      refine rw_V (wr := [(a_ck 0, .inr (0, [.ref (a_ck 1), .ref (a_ck 2), .ref (a_ck 3), .ref (a_ck 4), .ref (a_ck 5), .ref (a_ck 6), .ref (a_ck 7), .ref (a_ck 8), .ref (a_ck 9), .ref (a_ck 10), .ref (a_ck 11), .int ck.2.2.2.2.2.2.2.2.2.2.2])), (a_ck 1, .inl (kA 0, 12, .inl ck.1)), (a_ck 2, .inl (kA 0, 12, .inl ck.2.1)), (a_ck 3, .inl (kA 3, 12, .inl ck.2.2.1)), (a_ck 4, .inl (kA 0, 12, .inl ck.2.2.2.1)), (a_ck 5, .inl (kA 0, 12, .inl ck.2.2.2.2.1)), (a_ck 6, .inl (kA 2, 12, .inr (.inl ck.2.2.2.2.2.1))), (a_ck 7, .inl (kA 2, 12, .inr (.inl ck.2.2.2.2.2.2.1))), (a_ck 8, .inl (kA 2, 12, .inr (.inl ck.2.2.2.2.2.2.2.1))), (a_ck 9, .inl (kA 2, 12, .inr (.inl ck.2.2.2.2.2.2.2.2.1))), (a_ck 10, .inl (kA 3, 12, .inl ck.2.2.2.2.2.2.2.2.2.1)), (a_ck 11, .inl (kA 3, 12, .inl ck.2.2.2.2.2.2.2.2.2.2.1))]) (n := 2) (As := [.int (0 : Int32), .int (u4.1 - (1 : Int32))]) (rest := []) hx hb hml hown hts hN hS hK hP hD hA (c2_takeWhole l D kA a_rd a_tp a_sh a_ck F (0 : Int32) (u4.1 - (1 : Int32)) u20.2.1 tp u20.2.2 u36 hc_36) [12, 13, 14, 15, 16, 17, 18, 19, 20, 21, 22, 23, 24, 25, 26] [0, 1, 2, 3, 4, 5, 6, 7, 8, 9, 10, 11] rfl (by decide) rfl (by decide) (by decide) 12 2 rfl rfl rfl tw_444 tw_446 tw_10 tw_75 tw_447 rfl rfl (by decide) ⟨Nat.le_of_ble_eq_true rfl, Nat.le_of_ble_eq_true rfl⟩ rfl hl.1 rfl (Nat.le_of_ble_eq_true rfl) dX2_takeTimes_36 ⟨Nat.le_of_ble_eq_true rfl, Nat.le_of_ble_eq_true rfl⟩ (fun H locs hP hD hS => ?_)
      have hP : va_P D vwCl [(a_ck 0, .inr (0, [.ref (a_ck 1), .ref (a_ck 2), .ref (a_ck 3), .ref (a_ck 4), .ref (a_ck 5), .ref (a_ck 6), .ref (a_ck 7), .ref (a_ck 8), .ref (a_ck 9), .ref (a_ck 10), .ref (a_ck 11), .int ck.2.2.2.2.2.2.2.2.2.2.2])), (a_ck 1, .inl (kA 0, 12, .inl ck.1)), (a_ck 2, .inl (kA 0, 12, .inl ck.2.1)), (a_ck 3, .inl (kA 3, 12, .inl ck.2.2.1)), (a_ck 4, .inl (kA 0, 12, .inl ck.2.2.2.1)), (a_ck 5, .inl (kA 0, 12, .inl ck.2.2.2.2.1)), (a_ck 6, .inl (kA 2, 12, .inr (.inl ck.2.2.2.2.2.1))), (a_ck 7, .inl (kA 2, 12, .inr (.inl ck.2.2.2.2.2.2.1))), (a_ck 8, .inl (kA 2, 12, .inr (.inl ck.2.2.2.2.2.2.2.1))), (a_ck 9, .inl (kA 2, 12, .inr (.inl ck.2.2.2.2.2.2.2.2.1))), (a_ck 10, .inl (kA 3, 12, .inl ck.2.2.2.2.2.2.2.2.2.1)), (a_ck 11, .inl (kA 3, 12, .inl ck.2.2.2.2.2.2.2.2.2.2.1)), (a_rd 0, .inr (2, [.ref (a_tp 0), .ref (a_rd 2), .ref (a_rd 3), .ref (a_rd 4), .ref (a_rd 5), .ref (a_sh 0), .int u36.2.1.2.2.2.2.1, .int u36.2.1.2.2.2.2.2])), (a_rd 2, .inl (kA 0, 12, .inl u36.2.1.1)), (a_rd 3, .inl (kA 0, 12, .inl u36.2.1.2.1)), (a_rd 4, .inl (kA 0, 80, .inl u36.2.1.2.2.1)), (a_rd 5, .inl (kA 0, 80, .inl u36.2.1.2.2.2.1)), (a_tp 0, .inr (4, [.ref (a_tp 1), .int tp.2])), (a_tp 1, .inl (kA 1, 1200, .inl tp.1)), (a_sh 0, .inr (3, [.ref (a_sh 1), .ref (a_sh 2), .ref (a_sh 3), .ref (a_sh 4), .ref (a_sh 5), .ref (a_sh 6), .ref (a_sh 7), .ref (a_ck 0), .int u36.2.2.2.2.2.2.2.2.2.1, .int u36.2.2.2.2.2.2.2.2.2.2])), (a_sh 1, .inl (kA 0, 40, .inl u36.2.2.1)), (a_sh 2, .inl (kA 0, 40, .inl u36.2.2.2.1)), (a_sh 3, .inl (kA 0, 80, .inl u36.2.2.2.2.1)), (a_sh 4, .inl (kA 0, 120, .inl u36.2.2.2.2.2.1)), (a_sh 5, .inl (kA 0, 120, .inl u36.2.2.2.2.2.2.1)), (a_sh 6, .inl (kA 2, 120, .inr (.inl u36.2.2.2.2.2.2.2.1))), (a_sh 7, .inl (kA 1, 1240, .inl u36.2.2.2.2.2.2.2.2.1))] H := hP
      have hD : va_D A [(a_ck 0, .inr (0, [.ref (a_ck 1), .ref (a_ck 2), .ref (a_ck 3), .ref (a_ck 4), .ref (a_ck 5), .ref (a_ck 6), .ref (a_ck 7), .ref (a_ck 8), .ref (a_ck 9), .ref (a_ck 10), .ref (a_ck 11), .int ck.2.2.2.2.2.2.2.2.2.2.2])), (a_ck 1, .inl (kA 0, 12, .inl ck.1)), (a_ck 2, .inl (kA 0, 12, .inl ck.2.1)), (a_ck 3, .inl (kA 3, 12, .inl ck.2.2.1)), (a_ck 4, .inl (kA 0, 12, .inl ck.2.2.2.1)), (a_ck 5, .inl (kA 0, 12, .inl ck.2.2.2.2.1)), (a_ck 6, .inl (kA 2, 12, .inr (.inl ck.2.2.2.2.2.1))), (a_ck 7, .inl (kA 2, 12, .inr (.inl ck.2.2.2.2.2.2.1))), (a_ck 8, .inl (kA 2, 12, .inr (.inl ck.2.2.2.2.2.2.2.1))), (a_ck 9, .inl (kA 2, 12, .inr (.inl ck.2.2.2.2.2.2.2.2.1))), (a_ck 10, .inl (kA 3, 12, .inl ck.2.2.2.2.2.2.2.2.2.1)), (a_ck 11, .inl (kA 3, 12, .inl ck.2.2.2.2.2.2.2.2.2.2.1)), (a_rd 0, .inr (2, [.ref (a_tp 0), .ref (a_rd 2), .ref (a_rd 3), .ref (a_rd 4), .ref (a_rd 5), .ref (a_sh 0), .int u36.2.1.2.2.2.2.1, .int u36.2.1.2.2.2.2.2])), (a_rd 2, .inl (kA 0, 12, .inl u36.2.1.1)), (a_rd 3, .inl (kA 0, 12, .inl u36.2.1.2.1)), (a_rd 4, .inl (kA 0, 80, .inl u36.2.1.2.2.1)), (a_rd 5, .inl (kA 0, 80, .inl u36.2.1.2.2.2.1)), (a_tp 0, .inr (4, [.ref (a_tp 1), .int tp.2])), (a_tp 1, .inl (kA 1, 1200, .inl tp.1)), (a_sh 0, .inr (3, [.ref (a_sh 1), .ref (a_sh 2), .ref (a_sh 3), .ref (a_sh 4), .ref (a_sh 5), .ref (a_sh 6), .ref (a_sh 7), .ref (a_ck 0), .int u36.2.2.2.2.2.2.2.2.2.1, .int u36.2.2.2.2.2.2.2.2.2.2])), (a_sh 1, .inl (kA 0, 40, .inl u36.2.2.1)), (a_sh 2, .inl (kA 0, 40, .inl u36.2.2.2.1)), (a_sh 3, .inl (kA 0, 80, .inl u36.2.2.2.2.1)), (a_sh 4, .inl (kA 0, 120, .inl u36.2.2.2.2.2.1)), (a_sh 5, .inl (kA 0, 120, .inl u36.2.2.2.2.2.2.1)), (a_sh 6, .inl (kA 2, 120, .inr (.inl u36.2.2.2.2.2.2.2.1))), (a_sh 7, .inl (kA 1, 1240, .inl u36.2.2.2.2.2.2.2.2.1))] := hD
      refine lv_istore_n (lv' := [(3, .int u36.1), (2, .int u20.1), (1, .int u4.1), (0, .ref (a_rd 0))]) hx hb dX2_takeTimes_39 rfl hl (by decide) rfl (fun ls hl => ?_)
      refine lv_iload_n hx hb dX2_takeTimes_40 rfl (lv_at hl 0 rfl) ?_
      refine lv_iconst (v := -1) hx hb dX2_takeTimes_41 (by decide) ?_
      refine lv_icmp_eq (tgt := 50) hx hb dX2_takeTimes_42 (by decide) (fun bc => ?_) (fun bc => ?_)
      · have h := ite_t bc h
        refine lv_iconst (v := 0) hx hb dX2_takeTimes_50 (by decide) ?_
        obtain rfl := Option.some.inj h
        rw [← hQ]
        exact rw_zreturn hx hb hr hk nz_Z0 dX2_takeTimes_51  (hP.sub [12, 13, 14, 15, 16, 17, 18, 19, 20, 21, 22, 23, 24, 25, 26, 0, 1, 2, 3, 4, 5, 6, 7, 8, 9, 10, 11] rfl) (hD.sub [12, 13, 14, 15, 16, 17, 18, 19, 20, 21, 22, 23, 24, 25, 26, 0, 1, 2, 3, 4, 5, 6, 7, 8, 9, 10, 11] (by decide) rfl) hS
      · have h := ite_f bc h
        refine lv_iload_n hx hb dX2_takeTimes_45 rfl (lv_at hl 0 rfl) ?_
        refine lv_iload_n hx hb dX2_takeTimes_46 rfl (lv_at hl 1 rfl) ?_
        refine lv_icmp_ne (tgt := 52) hx hb dX2_takeTimes_47 (by decide) (fun bc => ?_) (fun bc => ?_)
        · have h := ite_f bc h
          refine lv_aload_n hx hb dX2_takeTimes_52 rfl (lv_at hl 3 rfl) ?_
          refine va_get (D := D) (ci := 2) (v := .ref (a_sh 0)) (C := "ConstraintText$Reader") (T := TX2) (N := 8) hx hb hts ing2 hown hK hP 12 rfl rfl 5 (by decide) (hts _ tw_225) (fun _ h9 => h9) rfl dX2_takeTimes_53 ?_
          refine va_getN (D := D) (ci := 3) (v := .ref (a_ck 0)) (C := "ConstraintText$Sheet") (T := TX3) (N := 10) hx hb hts ing3 hown hK hP 19 rfl rfl 7 (by decide) (va_Nw.use rfl (hN.1 _ nw_192)) (fun _ h9 => h9) rfl dX2_takeTimes_56 ?_
          refine lv_iload_n hx hb dX2_takeTimes_59 rfl (lv_at hl 2 rfl) ?_
          refine lv_iload_n hx hb dX2_takeTimes_60 rfl (lv_at hl 1 rfl) ?_
          refine lv_iload_n hx hb dX2_takeTimes_61 rfl (lv_at hl 0 rfl) ?_
          obtain ⟨u62, hc_62, h⟩ := bnd_some h
          refine rw_V (wr := [(a_rd 0, .inr (2, [.ref (a_tp 0), .ref (a_rd 2), .ref (a_rd 3), .ref (a_rd 4), .ref (a_rd 5), .ref (a_sh 0), .int u36.2.1.2.2.2.2.1, .int u36.2.1.2.2.2.2.2])), (a_rd 2, .inl (kA 0, 12, .inl u36.2.1.1)), (a_rd 3, .inl (kA 0, 12, .inl u36.2.1.2.1)), (a_rd 4, .inl (kA 0, 80, .inl u36.2.1.2.2.1)), (a_rd 5, .inl (kA 0, 80, .inl u36.2.1.2.2.2.1)), (a_tp 0, .inr (4, [.ref (a_tp 1), .int tp.2])), (a_tp 1, .inl (kA 1, 1200, .inl tp.1)), (a_sh 0, .inr (3, [.ref (a_sh 1), .ref (a_sh 2), .ref (a_sh 3), .ref (a_sh 4), .ref (a_sh 5), .ref (a_sh 6), .ref (a_sh 7), .ref (a_ck 0), .int u36.2.2.2.2.2.2.2.2.2.1, .int u36.2.2.2.2.2.2.2.2.2.2])), (a_sh 1, .inl (kA 0, 40, .inl u36.2.2.1)), (a_sh 2, .inl (kA 0, 40, .inl u36.2.2.2.1)), (a_sh 3, .inl (kA 0, 80, .inl u36.2.2.2.2.1)), (a_sh 4, .inl (kA 0, 120, .inl u36.2.2.2.2.2.1)), (a_sh 5, .inl (kA 0, 120, .inl u36.2.2.2.2.2.2.1)), (a_sh 6, .inl (kA 2, 120, .inr (.inl u36.2.2.2.2.2.2.2.1))), (a_sh 7, .inl (kA 1, 1240, .inl u36.2.2.2.2.2.2.2.2.1))]) (n := 3) (As := [.int u4.1, .int u20.1, .int u36.1]) (rest := []) hx hb hml hown hts hN hS hK hP hD hA (c0_setTimes l D kA a_ck u4.1 u20.1 u36.1 ck u62 hc_62) [0, 1, 2, 3, 4, 5, 6, 7, 8, 9, 10, 11] [12, 13, 14, 15, 16, 17, 18, 19, 20, 21, 22, 23, 24, 25, 26] rfl (by decide) rfl (by decide) (by decide) 0 0 rfl rfl rfl tw_461 tw_462 tw_463 tw_78 tw_464 rfl rfl (by decide) ⟨Nat.le_of_ble_eq_true rfl, Nat.le_of_ble_eq_true rfl⟩ rfl hl.1 rfl (Nat.le_of_ble_eq_true rfl) dX2_takeTimes_62 ⟨Nat.le_of_ble_eq_true rfl, Nat.le_of_ble_eq_true rfl⟩ (fun H locs hP hD hS => ?_)
          have hP : va_P D vwCl [(a_rd 0, .inr (2, [.ref (a_tp 0), .ref (a_rd 2), .ref (a_rd 3), .ref (a_rd 4), .ref (a_rd 5), .ref (a_sh 0), .int u36.2.1.2.2.2.2.1, .int u36.2.1.2.2.2.2.2])), (a_rd 2, .inl (kA 0, 12, .inl u36.2.1.1)), (a_rd 3, .inl (kA 0, 12, .inl u36.2.1.2.1)), (a_rd 4, .inl (kA 0, 80, .inl u36.2.1.2.2.1)), (a_rd 5, .inl (kA 0, 80, .inl u36.2.1.2.2.2.1)), (a_tp 0, .inr (4, [.ref (a_tp 1), .int tp.2])), (a_tp 1, .inl (kA 1, 1200, .inl tp.1)), (a_sh 0, .inr (3, [.ref (a_sh 1), .ref (a_sh 2), .ref (a_sh 3), .ref (a_sh 4), .ref (a_sh 5), .ref (a_sh 6), .ref (a_sh 7), .ref (a_ck 0), .int u36.2.2.2.2.2.2.2.2.2.1, .int u36.2.2.2.2.2.2.2.2.2.2])), (a_sh 1, .inl (kA 0, 40, .inl u36.2.2.1)), (a_sh 2, .inl (kA 0, 40, .inl u36.2.2.2.1)), (a_sh 3, .inl (kA 0, 80, .inl u36.2.2.2.2.1)), (a_sh 4, .inl (kA 0, 120, .inl u36.2.2.2.2.2.1)), (a_sh 5, .inl (kA 0, 120, .inl u36.2.2.2.2.2.2.1)), (a_sh 6, .inl (kA 2, 120, .inr (.inl u36.2.2.2.2.2.2.2.1))), (a_sh 7, .inl (kA 1, 1240, .inl u36.2.2.2.2.2.2.2.2.1)), (a_ck 0, .inr (0, [.ref (a_ck 1), .ref (a_ck 2), .ref (a_ck 3), .ref (a_ck 4), .ref (a_ck 5), .ref (a_ck 6), .ref (a_ck 7), .ref (a_ck 8), .ref (a_ck 9), .ref (a_ck 10), .ref (a_ck 11), .int u62.2.2.2.2.2.2.2.2.2.2.2])), (a_ck 1, .inl (kA 0, 12, .inl u62.1)), (a_ck 2, .inl (kA 0, 12, .inl u62.2.1)), (a_ck 3, .inl (kA 3, 12, .inl u62.2.2.1)), (a_ck 4, .inl (kA 0, 12, .inl u62.2.2.2.1)), (a_ck 5, .inl (kA 0, 12, .inl u62.2.2.2.2.1)), (a_ck 6, .inl (kA 2, 12, .inr (.inl u62.2.2.2.2.2.1))), (a_ck 7, .inl (kA 2, 12, .inr (.inl u62.2.2.2.2.2.2.1))), (a_ck 8, .inl (kA 2, 12, .inr (.inl u62.2.2.2.2.2.2.2.1))), (a_ck 9, .inl (kA 2, 12, .inr (.inl u62.2.2.2.2.2.2.2.2.1))), (a_ck 10, .inl (kA 3, 12, .inl u62.2.2.2.2.2.2.2.2.2.1)), (a_ck 11, .inl (kA 3, 12, .inl u62.2.2.2.2.2.2.2.2.2.2.1))] H := hP
          have hD : va_D A [(a_rd 0, .inr (2, [.ref (a_tp 0), .ref (a_rd 2), .ref (a_rd 3), .ref (a_rd 4), .ref (a_rd 5), .ref (a_sh 0), .int u36.2.1.2.2.2.2.1, .int u36.2.1.2.2.2.2.2])), (a_rd 2, .inl (kA 0, 12, .inl u36.2.1.1)), (a_rd 3, .inl (kA 0, 12, .inl u36.2.1.2.1)), (a_rd 4, .inl (kA 0, 80, .inl u36.2.1.2.2.1)), (a_rd 5, .inl (kA 0, 80, .inl u36.2.1.2.2.2.1)), (a_tp 0, .inr (4, [.ref (a_tp 1), .int tp.2])), (a_tp 1, .inl (kA 1, 1200, .inl tp.1)), (a_sh 0, .inr (3, [.ref (a_sh 1), .ref (a_sh 2), .ref (a_sh 3), .ref (a_sh 4), .ref (a_sh 5), .ref (a_sh 6), .ref (a_sh 7), .ref (a_ck 0), .int u36.2.2.2.2.2.2.2.2.2.1, .int u36.2.2.2.2.2.2.2.2.2.2])), (a_sh 1, .inl (kA 0, 40, .inl u36.2.2.1)), (a_sh 2, .inl (kA 0, 40, .inl u36.2.2.2.1)), (a_sh 3, .inl (kA 0, 80, .inl u36.2.2.2.2.1)), (a_sh 4, .inl (kA 0, 120, .inl u36.2.2.2.2.2.1)), (a_sh 5, .inl (kA 0, 120, .inl u36.2.2.2.2.2.2.1)), (a_sh 6, .inl (kA 2, 120, .inr (.inl u36.2.2.2.2.2.2.2.1))), (a_sh 7, .inl (kA 1, 1240, .inl u36.2.2.2.2.2.2.2.2.1)), (a_ck 0, .inr (0, [.ref (a_ck 1), .ref (a_ck 2), .ref (a_ck 3), .ref (a_ck 4), .ref (a_ck 5), .ref (a_ck 6), .ref (a_ck 7), .ref (a_ck 8), .ref (a_ck 9), .ref (a_ck 10), .ref (a_ck 11), .int u62.2.2.2.2.2.2.2.2.2.2.2])), (a_ck 1, .inl (kA 0, 12, .inl u62.1)), (a_ck 2, .inl (kA 0, 12, .inl u62.2.1)), (a_ck 3, .inl (kA 3, 12, .inl u62.2.2.1)), (a_ck 4, .inl (kA 0, 12, .inl u62.2.2.2.1)), (a_ck 5, .inl (kA 0, 12, .inl u62.2.2.2.2.1)), (a_ck 6, .inl (kA 2, 12, .inr (.inl u62.2.2.2.2.2.1))), (a_ck 7, .inl (kA 2, 12, .inr (.inl u62.2.2.2.2.2.2.1))), (a_ck 8, .inl (kA 2, 12, .inr (.inl u62.2.2.2.2.2.2.2.1))), (a_ck 9, .inl (kA 2, 12, .inr (.inl u62.2.2.2.2.2.2.2.2.1))), (a_ck 10, .inl (kA 3, 12, .inl u62.2.2.2.2.2.2.2.2.2.1)), (a_ck 11, .inl (kA 3, 12, .inl u62.2.2.2.2.2.2.2.2.2.2.1))] := hD
          refine lv_iconst (v := 1) hx hb dX2_takeTimes_65 (by decide) ?_
          obtain rfl := Option.some.inj h
          rw [← hQ]
          exact rw_zreturn hx hb hr hk nz_Z1 dX2_takeTimes_66  hP hD hS
        · have h := ite_t bc h
          refine lv_iconst (v := 0) hx hb dX2_takeTimes_50 (by decide) ?_
          obtain rfl := Option.some.inj h
          rw [← hQ]
          exact rw_zreturn hx hb hr hk nz_Z0 dX2_takeTimes_51  (hP.sub [12, 13, 14, 15, 16, 17, 18, 19, 20, 21, 22, 23, 24, 25, 26, 0, 1, 2, 3, 4, 5, 6, 7, 8, 9, 10, 11] rfl) (hD.sub [12, 13, 14, 15, 16, 17, 18, 19, 20, 21, 22, 23, 24, 25, 26, 0, 1, 2, 3, 4, 5, 6, 7, 8, 9, 10, 11] (by decide) rfl) hS
    · have h := ite_t bc h
      refine lv_iconst (v := 0) hx hb dX2_takeTimes_29 (by decide) ?_
      obtain rfl := Option.some.inj h
      rw [← hQ]
      exact rw_zreturn hx hb hr hk nz_Z0 dX2_takeTimes_30  (hP.sub [12, 13, 14, 15, 16, 17, 18, 19, 20, 21, 22, 23, 24, 25, 26, 0, 1, 2, 3, 4, 5, 6, 7, 8, 9, 10, 11] rfl) (hD.sub [12, 13, 14, 15, 16, 17, 18, 19, 20, 21, 22, 23, 24, 25, 26, 0, 1, 2, 3, 4, 5, 6, 7, 8, 9, 10, 11] (by decide) rfl) hS
  · have h := ite_t bc h
    refine lv_iconst (v := 0) hx hb dX2_takeTimes_13 (by decide) ?_
    obtain rfl := Option.some.inj h
    rw [← hQ]
    exact rw_zreturn hx hb hr hk nz_Z0 dX2_takeTimes_14  (hP.sub [12, 13, 14, 15, 16, 17, 18, 19, 20, 21, 22, 23, 24, 25, 26, 0, 1, 2, 3, 4, 5, 6, 7, 8, 9, 10, 11] rfl) (hD.sub [12, 13, 14, 15, 16, 17, 18, 19, 20, 21, 22, 23, 24, 25, 26, 0, 1, 2, 3, 4, 5, 6, 7, 8, 9, 10, 11] (by decide) rfl) hS
