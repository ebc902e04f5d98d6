/-! ===== a row, the model ===== -/
def mS (md : T6) (N s : Nat) : T6 := (md.1, (md.2.1.1, upd md.2.1.2.1 (40 + N) (nI s), md.2.1.2.2.1, md.2.1.2.2.2.1, md.2.1.2.2.2.2.1, md.2.1.2.2.2.2.2.1, md.2.1.2.2.2.2.2.2.1, md.2.1.2.2.2.2.2.2.2.1, md.2.1.2.2.2.2.2.2.2.2), md.2.2.1, md.2.2.2.1, md.2.2.2.2)
/-- behind a row: a clock more, or none -/
def mFin (Y : T6) (N m : Nat) (k : Bool) : T6 := (Y.1, Y.2.1, (Y.2.2.1.1, (if k = true then upd Y.2.2.1.2.1 (12 + m) (nI N) else Y.2.2.1.2.1), Y.2.2.1.2.2.1, Y.2.2.1.2.2.2.1, Y.2.2.1.2.2.2.2.1, Y.2.2.1.2.2.2.2.2.1, Y.2.2.1.2.2.2.2.2.2.1, Y.2.2.1.2.2.2.2.2.2.2), (Y.2.2.2.1.1, Y.2.2.2.1.2.1, Y.2.2.2.1.2.2.1, nI (N + 1), (if k = true then nI (m + 1) else nI m), Y.2.2.2.1.2.2.2.2.2.1, Y.2.2.2.1.2.2.2.2.2.2), Y.2.2.2.2)
section Mt
variable {F N n m b0 e0 s : Nat} {t : Nat → Nat} {md : T6} {b1 e1 b2' e2 b3 e3 b4 e4 b5 e5 b6 e6 : Nat}
/-- no patterns yet -/
def ps3 (ps : Nat → Int32) (N : Nat) : Nat → Int32 := upd (upd (upd ps (3 * (40 + N)) (nI 0)) (3 * (40 + N) + 1) (nI 0)) (3 * (40 + N) + 2) (nI 0)
/-- the row's first state -/
def mO (md : T6) (N s b1 e1 : Nat) : T6 := mX (mS md N s) N (mNC md (40 + N)) (mND md (40 + N)) (nI 0) (mTwo md (40 + N)) (mThr md (40 + N)) (mPat md) (ps3 (mPs md) N) (md.2.2.2.1.2.2.2.2.2.1 N) (md.2.2.2.1.2.2.2.2.2.2 N) b1 e1 (nI 1)
theorem rowLoop (hF : 5000 < F) (hnr : md.2.2.2.1.2.2.2.1 = nI N) (hN : N < 40) {U : T6} (hU : U = mW md b1 e1 (nI 1)) : iter (f6_readRow_L64 md) F (nI 0, (U.1, (U.2.1.1, upd U.2.1.2.1 (40 + N) (nI s), U.2.1.2.2.1, U.2.1.2.2.2.1, upd U.2.1.2.2.2.2.1 (40 + N) (nI 0), U.2.1.2.2.2.2.2.1, U.2.1.2.2.2.2.2.2.1, U.2.1.2.2.2.2.2.2.2.1, U.2.1.2.2.2.2.2.2.2.2), U.2.2.1, U.2.2.2.1, U.2.2.2.2)) = some (mO md N s b1 e1) := by
  obtain ⟨G, hG⟩ : ∃ G, F = G + 1 + 1 + 1 + 1 := ⟨F - 4, by omega⟩
  have e0 : ∀ ps, (U.1, (U.2.1.1, upd U.2.1.2.1 (40 + N) (nI s), U.2.1.2.2.1, U.2.1.2.2.2.1, upd U.2.1.2.2.2.2.1 (40 + N) (nI 0), U.2.1.2.2.2.2.2.1, U.2.1.2.2.2.2.2.2.1, U.2.1.2.2.2.2.2.2.2.1, ps), U.2.2.1, U.2.2.2.1, U.2.2.2.2) = mX (mS md N s) N (mNC md (40 + N)) (mND md (40 + N)) (nI 0) (mTwo md (40 + N)) (mThr md (40 + N)) (mPat md) ps (md.2.2.2.1.2.2.2.2.2.1 N) (md.2.2.2.1.2.2.2.2.2.2 N) b1 e1 (nI 1) := by
    intro ps
    rw [hU]
    unfold mX mS mW
    simp only [updL_id, upd_id]
  have st : ∀ (ps : Nat → Int32) (k : Nat), k < 3 → f6_readRow_L64 md (nI k, mX (mS md N s) N (mNC md (40 + N)) (mND md (40 + N)) (nI 0) (mTwo md (40 + N)) (mThr md (40 + N)) (mPat md) ps (md.2.2.2.1.2.2.2.2.2.1 N) (md.2.2.2.1.2.2.2.2.2.2 N) b1 e1 (nI 1)) = some (.inl (nI (k + 1), mX (mS md N s) N (mNC md (40 + N)) (mND md (40 + N)) (nI 0) (mTwo md (40 + N)) (mThr md (40 + N)) (mPat md) (upd ps (3 * (40 + N) + k) (nI 0)) (md.2.2.2.1.2.2.2.2.2.1 N) (md.2.2.2.1.2.2.2.2.2.2 N) b1 e1 (nI 1))) := by
    intro ps k hk
    unfold f6_readRow_L64 mX
    simp (disch := omega) only [li, ↓lim1, ↓bnd_m, ↓grd_m, ↓jn_e, ↓cas_m, ↓oc_m, inb_t, nI_add, pk_mul, sub_e, le_t, le_f, lt_t, lt_f, eq_t, eq_f, cl_e, m1_e, m1_e', m1_lt, m1_le, m1_m1, lt_m1, ↓reduceIte, Nat.add_zero, Nat.zero_add, hnr]
  rw [e0]
  conv => lhs; arg 2; rw [hG]
  rw [iter_step (st _ 0 (by omega)), iter_step (st _ 1 (by omega)), iter_step (st _ 2 (by omega))]
  apply iter_stop
  unfold f6_readRow_L64
  simp (disch := omega) only [li, ↓lim1, ↓bnd_m, ↓grd_m, ↓jn_e, ↓cas_m, ↓oc_m, inb_t, nI_add, pk_mul, sub_e, le_t, le_f, lt_t, lt_f, eq_t, eq_f, cl_e, m1_e, m1_e', m1_lt, m1_le, m1_m1, lt_m1, ↓reduceIte, Nat.add_zero, Nat.zero_add]
  rw [hU]
  rfl
theorem readRow_no (hF : 5000 < F) (H : TpM md t n) (hb : md.2.2.2.1.1 = nI b0) (he : md.2.2.2.1.2.1 = nI e0) (hr : md.2.2.2.1.2.2.1 = nI 1) (hen : e0 ≤ n) (hnr : md.2.2.2.1.2.2.2.1 = nI N) (hN : N ≤ 40) {o : Option Nat} (hs : bnd (f6_wordName F md) (fun u => f6_sortOf F u) = some (pI o)) (ho : ∀ s, o = some s → s < 10 ∧ N = 40) : f6_readRow F md = some (mW md b0 e0 (nI 0)) := by
  obtain ⟨w0, wn, sr⟩ := bnd_some hs
  have sr' : f6_sortOf F w0 = some (pI o) := sr
  have tk := take_ok (b := b0) hF H hen hb he hr false
  rw [b2_f] at tk
  have tk' : f6_take F (nI 0) md = some (mW md b0 e0 (nI 0)) := tk
  have r0 : (mW md b0 e0 (nI 0)).2.2.2.1.2.2.1 = nI 0 := rfl
  unfold f6_readRow
  cases o with
  | none =>
    have pn : pI none = im1 := rfl
    rw [pn] at sr'
    simp (disch := omega) only [li, ↓lim1, ↓bnd_m, ↓grd_m, ↓jn_e, ↓cas_m, ↓oc_m, inb_t, nI_add, pk_mul, sub_e, le_t, le_f, lt_t, lt_f, eq_t, eq_f, cl_e, m1_e, m1_e', m1_lt, m1_le, m1_m1, lt_m1, ↓reduceIte, Nat.add_zero, Nat.zero_add, wn, sr', tk', r0]
  | some s =>
    obtain ⟨h1, h2⟩ := ho s rfl
    have pn : pI (some s) = nI s := rfl
    rw [pn] at sr'
    simp (disch := omega) only [li, ↓lim1, ↓bnd_m, ↓grd_m, ↓jn_e, ↓cas_m, ↓oc_m, inb_t, nI_add, pk_mul, sub_e, le_t, le_f, lt_t, lt_f, eq_t, eq_f, cl_e, m1_e, m1_e', m1_lt, m1_le, m1_m1, lt_m1, ↓reduceIte, Nat.add_zero, Nat.zero_add, wn, sr', hnr, tk', r0]
theorem fl_right {md X : T6} {N p : Nat} (h : Fl md N X p) : X.2.2.2.1.2.2.1 = nI 0 := by
  obtain ⟨c, d, o, w, h, pat, ps, pC, pD, e, rfl, _⟩ := h
  rfl
/-- what follows the row's words -/
def tailF (F : Nat) (u13 : Int32) (v231 : T6) : Option T6 :=
  jn (fun (v242 : T6) =>
    if v242.2.2.2.1.2.2.1 = (0 : Int32) then
      some v242
    else
      jn (fun (v280 : T6) =>
        some (v280.1, v280.2.1, v280.2.2.1, (v280.2.2.2.1.1, v280.2.2.2.1.2.1, v280.2.2.2.1.2.2.1, (v280.2.2.2.1.2.2.2.1 + (1 : Int32)), v280.2.2.2.1.2.2.2.2.1, v280.2.2.2.1.2.2.2.2.2.1, v280.2.2.2.1.2.2.2.2.2.2), v280.2.2.2.2)
        ) (fun k280 =>
        if (2 : Int32) < u13 then
          k280 v242
        else
          grd (inb ((12 : Int32) + v242.2.2.2.1.2.2.2.2.1) 24) <|
          k280 (v242.1, v242.2.1, (v242.2.2.1.1, (upd v242.2.2.1.2.1 ((12 : Int32) + v242.2.2.2.1.2.2.2.2.1).toNatClampNeg v242.2.2.2.1.2.2.2.1), v242.2.2.1.2.2.1, v242.2.2.1.2.2.2.1, v242.2.2.1.2.2.2.2.1, v242.2.2.1.2.2.2.2.2.1, v242.2.2.1.2.2.2.2.2.2.1, v242.2.2.1.2.2.2.2.2.2.2), (v242.2.2.2.1.1, v242.2.2.2.1.2.1, v242.2.2.2.1.2.2.1, v242.2.2.2.1.2.2.2.1, (v242.2.2.2.1.2.2.2.2.1 + (1 : Int32)), v242.2.2.2.1.2.2.2.2.2.1, v242.2.2.2.1.2.2.2.2.2.2), v242.2.2.2.2)
        )
    ) (fun k242 =>
    if v231.2.2.2.1.2.2.1 = (0 : Int32) then
      k242 v231
    else
      bnd (f6_takeEnd F v231) fun u239 =>
      k242 u239
    )
theorem tail_fail {X : T6} {u : Int32} (h : X.2.2.2.1.2.2.1 = nI 0) : tailF F u X = some X := by
  unfold tailF
  simp (disch := omega) only [li, ↓lim1, ↓bnd_m, ↓grd_m, ↓jn_e, ↓cas_m, ↓oc_m, inb_t, nI_add, pk_mul, sub_e, le_t, le_f, lt_t, lt_f, eq_t, eq_f, cl_e, m1_e, m1_e', m1_lt, m1_le, m1_m1, lt_m1, ↓reduceIte, Nat.add_zero, Nat.zero_add, h]
theorem tail_ok (hF : 5000 < F) (H : TpM md t n) {bk ek : Nat} (hbe : bk ≤ ek) (hen : ek ≤ n) (hnr : md.2.2.2.1.2.2.2.1 = nI N) (hN : N < 40) (hnc : md.2.2.2.1.2.2.2.2.1 = nI m) (hm : s ≤ 2 → m < 12) (hm' : m ≤ 12) (hs : s < 10) {X : T6} {c d : Int64} {o w h : Int32} {pat ps : Nat → Int32} {pC pD : Int32} (hX : X = mX (mS md N s) N c d o w h pat ps pC pD bk ek (nI 1)) (fp : ∀ i, i < 1920 → pat i = mPat md i) (fs : ∀ j, j < 120 → ps j = mPs md j) :
    match ff [(smc t bk ek, bk)] with
    | some p => ∃ Y, tailF F (nI s) X = some Y ∧ Fl (mS md N s) N Y p
    | none => tailF F (nI s) X = some (mFin (mX (mS md N s) N c d o w h pat ps pC pD (wb t n ek) (we t n (wb t n ek)) (nI 1)) N m (decide (s ≤ 2))) := by
  have te := takeEnd_x (md := mS md N s) (N := N) (c := c) (d := d) (o := o) (w := w) (h := h) (pat := pat) (ps := ps) (pC := pC) (pD := pD) (b := bk) (e := ek) hF H hbe hen
  have xr : X.2.2.2.1.2.2.1 = nI 1 := by rw [hX]; rfl
  rw [← hX] at te
  have e1 : decide (ek = bk + 1 ∧ t bk = 59) = smc t bk ek := rfl
  rw [e1] at te
  cases hz : smc t bk ek with
  | false =>
    rw [ff_f]
    rw [hz, mXt0] at te
    have yr : (mX (mS md N s) N c d o w h pat ps pC pD bk ek (nI 0)).2.2.2.1.2.2.1 = nI 0 := rfl
    refine ⟨mX (mS md N s) N c d o w h pat ps pC pD bk ek (nI 0), ?_, ⟨_, _, _, _, _, _, _, _, _, _, rfl, fp, fs⟩⟩
    unfold tailF
    simp (disch := omega) only [li, ↓lim1, ↓bnd_m, ↓grd_m, ↓jn_e, ↓cas_m, ↓oc_m, inb_t, nI_add, pk_mul, sub_e, le_t, le_f, lt_t, lt_f, eq_t, eq_f, cl_e, m1_e, m1_e', m1_lt, m1_le, m1_m1, lt_m1, ↓reduceIte, Nat.add_zero, Nat.zero_add, xr, te, yr]
  | true =>
    rw [hz, mXt1] at te
    show tailF F (nI s) X = _
    obtain ⟨Y, hY⟩ : ∃ x, x = mX (mS md N s) N c d o w h pat ps pC pD (wb t n ek) (we t n (wb t n ek)) (nI 1) := ⟨_, rfl⟩
    rw [← hY] at te ⊢
    have yr : Y.2.2.2.1.2.2.1 = nI 1 := by rw [hY]; rfl
    have yn : Y.2.2.2.1.2.2.2.1 = nI N := by rw [hY]; exact hnr
    have ym : Y.2.2.2.1.2.2.2.2.1 = nI m := by rw [hY]; exact hnc
    unfold tailF mFin
    by_cases c2 : s ≤ 2
    · have := hm c2
      rw [decide_eq_true c2]
      simp (disch := omega) only [li, ↓lim1, ↓bnd_m, ↓grd_m, ↓jn_e, ↓cas_m, ↓oc_m, inb_t, nI_add, pk_mul, sub_e, le_t, le_f, lt_t, lt_f, eq_t, eq_f, cl_e, m1_e, m1_e', m1_lt, m1_le, m1_m1, lt_m1, ↓reduceIte, Nat.add_zero, Nat.zero_add, xr, te, yr, yn, ym, if_true]
    · rw [decide_eq_false c2]
      simp (disch := omega) only [li, ↓lim1, ↓bnd_m, ↓grd_m, ↓jn_e, ↓cas_m, ↓oc_m, inb_t, nI_add, pk_mul, sub_e, le_t, le_f, lt_t, lt_f, eq_t, eq_f, cl_e, m1_e, m1_e', m1_lt, m1_le, m1_m1, lt_m1, ↓reduceIte, Nat.add_zero, Nat.zero_add, xr, te, yr, yn, ym, Bool.false_eq_true, if_false]
theorem mrow0 (hF : 5000 < F) (H : TpM md t n) (hb : md.2.2.2.1.1 = nI b0) (he : md.2.2.2.1.2.1 = nI e0) (hr : md.2.2.2.1.2.2.1 = nI 1) (hen : e0 ≤ n) (hnr : md.2.2.2.1.2.2.2.1 = nI N) (hN : N < 40) (hnc : md.2.2.2.1.2.2.2.2.1 = nI m) (hm : m ≤ 12) (hs : bnd (f6_wordName F md) (fun u => f6_sortOf F u) = some (nI 0))
    (hb1 : b1 = wb t n e0) (he1 : e1 = we t n b1) (hb2 : b2' = wb t n e1) (he2 : e2 = we t n b2') (hb3 : b3 = wb t n e2) (he3 : e3 = we t n b3) (hb4 : b4 = wb t n e3) (he4 : e4 = we t n b4) (hb5 : b5 = wb t n e4) (he5 : e5 = we t n b5) (hb6 : b6 = wb t n e5) (he6 : e6 = we t n b6)
    {q : Option Nat} (hq : nmw t b1 e1 = true → ∀ pC, f6_clockOf F (lN (nmc t b1 e1)) (mX (mS md N 0) N (mNC md (40 + N)) (mND md (40 + N)) (nI 0) (mTwo md (40 + N)) (mThr md (40 + N)) (mPat md) (ps3 (mPs md) N) pC (md.2.2.2.1.2.2.2.2.2.2 N) b1 e1 (nI 1)) = some (pI q)) (hq' : ∀ k, q = some k → k < 100) :
    match ff ([(nwo t b1 e1 m q, b1), (btw (whw t b2' e2) 1 999999, b2'), (btw (whw t b3 e3) 0 (gz (whw t b2' e2) - 1), b3), (btw (whw t b4 e4) 0 (gz (whw t b2' e2) - 1) && decide (¬ whw t b4 e4 = whw t b3 e3), b4), (ptw t b5 e5, b5)] ++ [(smc t b6 e6, b6)]) with
    | some p => ∃ X, f6_readRow F md = some X ∧ Fl (mS md N 0) N X p
    | none => f6_readRow F md = some (mFin (mX (mS md N 0) N (lN (nmc t b1 e1)) (mND md (40 + N)) (nI (gz (whw t b2' e2))) (nI (gz (whw t b3 e3))) (nI (gz (whw t b4 e4))) (wrP (mPat md) t (16 * (3 * (40 + N))) b5 (e5 - b5)) (upd (ps3 (mPs md) N) (3 * (40 + N)) (nI (e5 - b5))) (nI b1) (md.2.2.2.1.2.2.2.2.2.2 N) (wb t n e6) (we t n (wb t n e6)) (nI 1)) N m true) := by
  obtain ⟨g1a, g1b, g1c⟩ := w_ok (t := t) hen
  rw [← hb1, ← he1] at g1b g1c
  obtain ⟨g2a, g2b, g2c⟩ := w_ok (t := t) g1c
  rw [← hb2, ← he2] at g2b g2c
  obtain ⟨g3a, g3b, g3c⟩ := w_ok (t := t) g2c
  rw [← hb3, ← he3] at g3b g3c
  obtain ⟨g4a, g4b, g4c⟩ := w_ok (t := t) g3c
  rw [← hb4, ← he4] at g4b g4c
  obtain ⟨g5a, g5b, g5c⟩ := w_ok (t := t) g4c
  rw [← hb5, ← he5] at g5b g5c
  obtain ⟨g6a, g6b, g6c⟩ := w_ok (t := t) g5c
  rw [← hb6, ← he6] at g6b g6c
  obtain ⟨w0, wn, sr⟩ := bnd_some hs
  have sr' : f6_sortOf F w0 = some (nI 0) := sr
  have tk := take_ok (b := b0) hF H hen hb he hr true
  rw [b2_t] at tk
  have tk' : f6_take F (nI 1) md = some (mW md (wb t n e0) (we t n (wb t n e0)) (nI 1)) := tk
  rw [← hb1, ← he1] at tk'
  obtain ⟨U, hU⟩ : ∃ x, x = mW md b1 e1 (nI 1) := ⟨_, rfl⟩
  rw [← hU] at tk'
  have u1 : U.2.2.2.1.2.2.1 = nI 1 := by rw [hU]; rfl
  have lp := rowLoop (s := 0) hF hnr hN hU
  have fs : ∀ j, j < 120 → ps3 (mPs md) N j = mPs md j := fun j hj => by unfold ps3; rw [pk_un (by omega), pk_un (by omega), pk_un (by omega)]
  obtain ⟨X, rx, hX⟩ := readClock_x (md := mS md N 0) (c := (mNC md (40 + N))) (d := (mND md (40 + N))) (o := nI 0) (w := (mTwo md (40 + N))) (h := (mThr md (40 + N))) (pat := (mPat md)) (ps := (ps3 (mPs md) N)) (pC := (md.2.2.2.1.2.2.2.2.2.1 N)) (pD := (md.2.2.2.1.2.2.2.2.2.2 N)) hF H hen hnr hN hnc hm hb1 he1 hb2 he2 hb3 he3 hb4 he4 hb5 he5 (fun i _ => rfl) fs hq hq'
  rw [← hb6, ← he6] at hX
  have rx' : f6_readClock F (nI (40 + N)) (mO md N 0 b1 e1) = some X := rx
  have rr : f6_readRow F md = tailF F (nI 0) X := by
    unfold f6_readRow tailF
    simp (disch := omega) only [li, ↓lim1, ↓bnd_m, ↓grd_m, ↓jn_e, ↓cas_m, ↓oc_m, inb_t, nI_add, pk_mul, sub_e, le_t, le_f, lt_t, lt_f, eq_t, eq_f, cl_e, m1_e, m1_e', m1_lt, m1_le, m1_m1, lt_m1, ↓reduceIte, Nat.add_zero, Nat.zero_add, wn, sr', hnr, tk', u1, lp, rx']
  cases hf : ff [(nwo t b1 e1 m q, b1), (btw (whw t b2' e2) 1 999999, b2'), (btw (whw t b3 e3) 0 (gz (whw t b2' e2) - 1), b3), (btw (whw t b4 e4) 0 (gz (whw t b2' e2) - 1) && decide (¬ whw t b4 e4 = whw t b3 e3), b4), (ptw t b5 e5, b5)] with
  | some p =>
    rw [ff_as hf]
    rw [hf] at hX
    exact ⟨X, by rw [rr]; exact tail_fail (fl_right hX), hX⟩
  | none =>
    rw [ff_an hf]
    rw [hf] at hX
    have tl := tail_ok (s := 0) hF H g6b g6c hnr hN hnc (fun _ => by
      cases h1 : nwo t b1 e1 m q with
      | false => rw [h1, ff_f] at hf; cases hf
      | true =>
        unfold nwo at h1
        rw [Bool.and_eq_true, Bool.and_eq_true] at h1
        exact of_decide_eq_true h1.1.2) hm (by omega) hX (fun i hi => wrP_old _ _ (by omega)) (fun j hj => by rw [pk_un (by omega)]; exact fs j hj)
    cases hg : ff [(smc t b6 e6, b6)] with
    | some p =>
      rw [hg] at tl
      obtain ⟨Y, y1, y2⟩ := tl
      exact ⟨Y, by rw [rr]; exact y1, y2⟩
    | none =>
      rw [hg] at tl
      rw [rr]
      exact tl
theorem mrow1 (hF : 5000 < F) (H : TpM md t n) (hb : md.2.2.2.1.1 = nI b0) (he : md.2.2.2.1.2.1 = nI e0) (hr : md.2.2.2.1.2.2.1 = nI 1) (hen : e0 ≤ n) (hnr : md.2.2.2.1.2.2.2.1 = nI N) (hN : N < 40) (hnc : md.2.2.2.1.2.2.2.2.1 = nI m) (hm : m ≤ 12) (hs : bnd (f6_wordName F md) (fun u => f6_sortOf F u) = some (nI 1))
    (hb1 : b1 = wb t n e0) (he1 : e1 = we t n b1) (hb2 : b2' = wb t n e1) (he2 : e2 = we t n b2') (hb3 : b3 = wb t n e2) (he3 : e3 = we t n b3) (hb4 : b4 = wb t n e3) (he4 : e4 = we t n b4) (hb5 : b5 = wb t n e4) (he5 : e5 = we t n b5) (hb6 : b6 = wb t n e5) (he6 : e6 = we t n b6)
    {q : Option Nat} (hq : nmw t b1 e1 = true → ∀ pC, f6_clockOf F (lN (nmc t b1 e1)) (mX (mS md N 1) N (mNC md (40 + N)) (mND md (40 + N)) (nI 0) (mTwo md (40 + N)) (mThr md (40 + N)) (mPat md) (ps3 (mPs md) N) pC (md.2.2.2.1.2.2.2.2.2.2 N) b1 e1 (nI 1)) = some (pI q)) (hq' : ∀ k, q = some k → k < 100) :
    match ff ([(nwo t b1 e1 m q, b1), (nmw t b2' e2, b2'), (btw (whw t b3 e3) 1 1000, b3), (btw (whw t b4 e4) 1 1000, b4), (ptw t b5 e5, b5)] ++ [(smc t b6 e6, b6)]) with
    | some p => ∃ X, f6_readRow F md = some X ∧ Fl (mS md N 1) N X p
    | none => f6_readRow F md = some (mFin (mX (mS md N 1) N (lN (nmc t b1 e1)) (lN (nmc t b2' e2)) (nI (gz (whw t b3 e3))) (nI (gz (whw t b4 e4))) (mThr md (40 + N)) (wrP (mPat md) t (16 * (3 * (40 + N))) b5 (e5 - b5)) (upd (ps3 (mPs md) N) (3 * (40 + N)) (nI (e5 - b5))) (nI b1) (nI b2') (wb t n e6) (we t n (wb t n e6)) (nI 1)) N m true) := by
  obtain ⟨g1a, g1b, g1c⟩ := w_ok (t := t) hen
  rw [← hb1, ← he1] at g1b g1c
  obtain ⟨g2a, g2b, g2c⟩ := w_ok (t := t) g1c
  rw [← hb2, ← he2] at g2b g2c
  obtain ⟨g3a, g3b, g3c⟩ := w_ok (t := t) g2c
  rw [← hb3, ← he3] at g3b g3c
  obtain ⟨g4a, g4b, g4c⟩ := w_ok (t := t) g3c
  rw [← hb4, ← he4] at g4b g4c
  obtain ⟨g5a, g5b, g5c⟩ := w_ok (t := t) g4c
  rw [← hb5, ← he5] at g5b g5c
  obtain ⟨g6a, g6b, g6c⟩ := w_ok (t := t) g5c
  rw [← hb6, ← he6] at g6b g6c
  obtain ⟨w0, wn, sr⟩ := bnd_some hs
  have sr' : f6_sortOf F w0 = some (nI 1) := sr
  have tk := take_ok (b := b0) hF H hen hb he hr true
  rw [b2_t] at tk
  have tk' : f6_take F (nI 1) md = some (mW md (wb t n e0) (we t n (wb t n e0)) (nI 1)) := tk
  rw [← hb1, ← he1] at tk'
  obtain ⟨U, hU⟩ : ∃ x, x = mW md b1 e1 (nI 1) := ⟨_, rfl⟩
  rw [← hU] at tk'
  have u1 : U.2.2.2.1.2.2.1 = nI 1 := by rw [hU]; rfl
  have lp := rowLoop (s := 1) hF hnr hN hU
  have fs : ∀ j, j < 120 → ps3 (mPs md) N j = mPs md j := fun j hj => by unfold ps3; rw [pk_un (by omega), pk_un (by omega), pk_un (by omega)]
  obtain ⟨X, rx, hX⟩ := readDerived_x (md := mS md N 1) (c := (mNC md (40 + N))) (d := (mND md (40 + N))) (o := nI 0) (w := (mTwo md (40 + N))) (h := (mThr md (40 + N))) (pat := (mPat md)) (ps := (ps3 (mPs md) N)) (pC := (md.2.2.2.1.2.2.2.2.2.1 N)) (pD := (md.2.2.2.1.2.2.2.2.2.2 N)) hF H hen hnr hN hnc hm hb1 he1 hb2 he2 hb3 he3 hb4 he4 hb5 he5 (fun i _ => rfl) fs hq hq'
  rw [← hb6, ← he6] at hX
  have rx' : f6_readDerived F (nI (40 + N)) (mO md N 1 b1 e1) = some X := rx
  have rr : f6_readRow F md = tailF F (nI 1) X := by
    unfold f6_readRow tailF
    simp (disch := omega) only [li, ↓lim1, ↓bnd_m, ↓grd_m, ↓jn_e, ↓cas_m, ↓oc_m, inb_t, nI_add, pk_mul, sub_e, le_t, le_f, lt_t, lt_f, eq_t, eq_f, cl_e, m1_e, m1_e', m1_lt, m1_le, m1_m1, lt_m1, ↓reduceIte, Nat.add_zero, Nat.zero_add, wn, sr', hnr, tk', u1, lp, rx']
  cases hf : ff [(nwo t b1 e1 m q, b1), (nmw t b2' e2, b2'), (btw (whw t b3 e3) 1 1000, b3), (btw (whw t b4 e4) 1 1000, b4), (ptw t b5 e5, b5)] with
  | some p =>
    rw [ff_as hf]
    rw [hf] at hX
    exact ⟨X, by rw [rr]; exact tail_fail (fl_right hX), hX⟩
  | none =>
    rw [ff_an hf]
    rw [hf] at hX
    have tl := tail_ok (s := 1) hF H g6b g6c hnr hN hnc (fun _ => by
      cases h1 : nwo t b1 e1 m q with
      | false => rw [h1, ff_f] at hf; cases hf
      | true =>
        unfold nwo at h1
        rw [Bool.and_eq_true, Bool.and_eq_true] at h1
        exact of_decide_eq_true h1.1.2) hm (by omega) hX (fun i hi => wrP_old _ _ (by omega)) (fun j hj => by rw [pk_un (by omega)]; exact fs j hj)
    cases hg : ff [(smc t b6 e6, b6)] with
    | some p =>
      rw [hg] at tl
      obtain ⟨Y, y1, y2⟩ := tl
      exact ⟨Y, by rw [rr]; exact y1, y2⟩
    | none =>
      rw [hg] at tl
      rw [rr]
      exact tl
theorem mrow2 (hF : 5000 < F) (H : TpM md t n) (hb : md.2.2.2.1.1 = nI b0) (he : md.2.2.2.1.2.1 = nI e0) (hr : md.2.2.2.1.2.2.1 = nI 1) (hen : e0 ≤ n) (hnr : md.2.2.2.1.2.2.2.1 = nI N) (hN : N < 40) (hnc : md.2.2.2.1.2.2.2.2.1 = nI m) (hm : m ≤ 12) (hs : bnd (f6_wordName F md) (fun u => f6_sortOf F u) = some (nI 2))
    (hb1 : b1 = wb t n e0) (he1 : e1 = we t n b1) (hb2 : b2' = wb t n e1) (he2 : e2 = we t n b2') (hb3 : b3 = wb t n e2) (he3 : e3 = we t n b3) (hb4 : b4 = wb t n e3) (he4 : e4 = we t n b4) (hb5 : b5 = wb t n e4) (he5 : e5 = we t n b5) (hb6 : b6 = wb t n e5) (he6 : e6 = we t n b6)
    {q : Option Nat} (hq : nmw t b1 e1 = true → ∀ pC, f6_clockOf F (lN (nmc t b1 e1)) (mX (mS md N 2) N (mNC md (40 + N)) (mND md (40 + N)) (nI 0) (mTwo md (40 + N)) (mThr md (40 + N)) (mPat md) (ps3 (mPs md) N) pC (md.2.2.2.1.2.2.2.2.2.2 N) b1 e1 (nI 1)) = some (pI q)) (hq' : ∀ k, q = some k → k < 100) :
    match ff ([(nwo t b1 e1 m q, b1), (nmw t b2' e2, b2'), (btw (whw t b3 e3) 1 1000, b3), (btw (whw t b4 e4) 1 1000, b4), (ptw t b5 e5, b5)] ++ [(smc t b6 e6, b6)]) with
    | some p => ∃ X, f6_readRow F md = some X ∧ Fl (mS md N 2) N X p
    | none => f6_readRow F md = some (mFin (mX (mS md N 2) N (lN (nmc t b1 e1)) (lN (nmc t b2' e2)) (nI (gz (whw t b3 e3))) (nI (gz (whw t b4 e4))) (mThr md (40 + N)) (wrP (mPat md) t (16 * (3 * (40 + N))) b5 (e5 - b5)) (upd (ps3 (mPs md) N) (3 * (40 + N)) (nI (e5 - b5))) (nI b1) (nI b2') (wb t n e6) (we t n (wb t n e6)) (nI 1)) N m true) := by
  obtain ⟨g1a, g1b, g1c⟩ := w_ok (t := t) hen
  rw [← hb1, ← he1] at g1b g1c
  obtain ⟨g2a, g2b, g2c⟩ := w_ok (t := t) g1c
  rw [← hb2, ← he2] at g2b g2c
  obtain ⟨g3a, g3b, g3c⟩ := w_ok (t := t) g2c
  rw [← hb3, ← he3] at g3b g3c
  obtain ⟨g4a, g4b, g4c⟩ := w_ok (t := t) g3c
  rw [← hb4, ← he4] at g4b g4c
  obtain ⟨g5a, g5b, g5c⟩ := w_ok (t := t) g4c
  rw [← hb5, ← he5] at g5b g5c
  obtain ⟨g6a, g6b, g6c⟩ := w_ok (t := t) g5c
  rw [← hb6, ← he6] at g6b g6c
  obtain ⟨w0, wn, sr⟩ := bnd_some hs
  have sr' : f6_sortOf F w0 = some (nI 2) := sr
  have tk := take_ok (b := b0) hF H hen hb he hr true
  rw [b2_t] at tk
  have tk' : f6_take F (nI 1) md = some (mW md (wb t n e0) (we t n (wb t n e0)) (nI 1)) := tk
  rw [← hb1, ← he1] at tk'
  obtain ⟨U, hU⟩ : ∃ x, x = mW md b1 e1 (nI 1) := ⟨_, rfl⟩
  rw [← hU] at tk'
  have u1 : U.2.2.2.1.2.2.1 = nI 1 := by rw [hU]; rfl
  have lp := rowLoop (s := 2) hF hnr hN hU
  have fs : ∀ j, j < 120 → ps3 (mPs md) N j = mPs md j := fun j hj => by unfold ps3; rw [pk_un (by omega), pk_un (by omega), pk_un (by omega)]
  obtain ⟨X, rx, hX⟩ := readDerived_x (md := mS md N 2) (c := (mNC md (40 + N))) (d := (mND md (40 + N))) (o := nI 0) (w := (mTwo md (40 + N))) (h := (mThr md (40 + N))) (pat := (mPat md)) (ps := (ps3 (mPs md) N)) (pC := (md.2.2.2.1.2.2.2.2.2.1 N)) (pD := (md.2.2.2.1.2.2.2.2.2.2 N)) hF H hen hnr hN hnc hm hb1 he1 hb2 he2 hb3 he3 hb4 he4 hb5 he5 (fun i _ => rfl) fs hq hq'
  rw [← hb6, ← he6] at hX
  have rx' : f6_readDerived F (nI (40 + N)) (mO md N 2 b1 e1) = some X := rx
  have rr : f6_readRow F md = tailF F (nI 2) X := by
    unfold f6_readRow tailF
    simp (disch := omega) only [li, ↓lim1, ↓bnd_m, ↓grd_m, ↓jn_e, ↓cas_m, ↓oc_m, inb_t, nI_add, pk_mul, sub_e, le_t, le_f, lt_t, lt_f, eq_t, eq_f, cl_e, m1_e, m1_e', m1_lt, m1_le, m1_m1, lt_m1, ↓reduceIte, Nat.add_zero, Nat.zero_add, wn, sr', hnr, tk', u1, lp, rx']
  cases hf : ff [(nwo t b1 e1 m q, b1), (nmw t b2' e2, b2'), (btw (whw t b3 e3) 1 1000, b3), (btw (whw t b4 e4) 1 1000, b4), (ptw t b5 e5, b5)] with
  | some p =>
    rw [ff_as hf]
    rw [hf] at hX
    exact ⟨X, by rw [rr]; exact tail_fail (fl_right hX), hX⟩
  | none =>
    rw [ff_an hf]
    rw [hf] at hX
    have tl := tail_ok (s := 2) hF H g6b g6c hnr hN hnc (fun _ => by
      cases h1 : nwo t b1 e1 m q with
      | false => rw [h1, ff_f] at hf; cases hf
      | true =>
        unfold nwo at h1
        rw [Bool.and_eq_true, Bool.and_eq_true] at h1
        exact of_decide_eq_true h1.1.2) hm (by omega) hX (fun i hi => wrP_old _ _ (by omega)) (fun j hj => by rw [pk_un (by omega)]; exact fs j hj)
    cases hg : ff [(smc t b6 e6, b6)] with
    | some p =>
      rw [hg] at tl
      obtain ⟨Y, y1, y2⟩ := tl
      exact ⟨Y, by rw [rr]; exact y1, y2⟩
    | none =>
      rw [hg] at tl
      rw [rr]
      exact tl
theorem mrow3 (hF : 5000 < F) (H : TpM md t n) (hb : md.2.2.2.1.1 = nI b0) (he : md.2.2.2.1.2.1 = nI e0) (hr : md.2.2.2.1.2.2.1 = nI 1) (hen : e0 ≤ n) (hnr : md.2.2.2.1.2.2.2.1 = nI N) (hN : N < 40) (hnc : md.2.2.2.1.2.2.2.2.1 = nI m) (hm : m ≤ 12) (hs : bnd (f6_wordName F md) (fun u => f6_sortOf F u) = some (nI 3))
    (hb1 : b1 = wb t n e0) (he1 : e1 = we t n b1) (hb2 : b2' = wb t n e1) (he2 : e2 = we t n b2') (hb3 : b3 = wb t n e2) (he3 : e3 = we t n b3) :
    match ff ([(nmw t b1 e1, b1), (nmw t b2' e2, b2')] ++ [(smc t b3 e3, b3)]) with
    | some p => ∃ X, f6_readRow F md = some X ∧ Fl (mS md N 3) N X p
    | none => f6_readRow F md = some (mFin (mX (mS md N 3) N (lN (nmc t b1 e1)) (lN (nmc t b2' e2)) (nI 0) (mTwo md (40 + N)) (mThr md (40 + N)) (mPat md) (ps3 (mPs md) N) (nI b1) (nI b2') (wb t n e3) (we t n (wb t n e3)) (nI 1)) N m false) := by
  obtain ⟨g1a, g1b, g1c⟩ := w_ok (t := t) hen
  rw [← hb1, ← he1] at g1b g1c
  obtain ⟨g2a, g2b, g2c⟩ := w_ok (t := t) g1c
  rw [← hb2, ← he2] at g2b g2c
  obtain ⟨g3a, g3b, g3c⟩ := w_ok (t := t) g2c
  rw [← hb3, ← he3] at g3b g3c
  obtain ⟨w0, wn, sr⟩ := bnd_some hs
  have sr' : f6_sortOf F w0 = some (nI 3) := sr
  have tk := take_ok (b := b0) hF H hen hb he hr true
  rw [b2_t] at tk
  have tk' : f6_take F (nI 1) md = some (mW md (wb t n e0) (we t n (wb t n e0)) (nI 1)) := tk
  rw [← hb1, ← he1] at tk'
  obtain ⟨U, hU⟩ : ∃ x, x = mW md b1 e1 (nI 1) := ⟨_, rfl⟩
  rw [← hU] at tk'
  have u1 : U.2.2.2.1.2.2.1 = nI 1 := by rw [hU]; rfl
  have lp := rowLoop (s := 3) hF hnr hN hU
  have fs : ∀ j, j < 120 → ps3 (mPs md) N j = mPs md j := fun j hj => by unfold ps3; rw [pk_un (by omega), pk_un (by omega), pk_un (by omega)]
  have to1 := takeOld_x (md := mS md N 3) (N := N) (c := (mNC md (40 + N))) (d := (mND md (40 + N))) (o := nI 0) (w := (mTwo md (40 + N))) (h := (mThr md (40 + N))) (pat := (mPat md)) (ps := (ps3 (mPs md) N)) (pC := (md.2.2.2.1.2.2.2.2.2.1 N)) (pD := (md.2.2.2.1.2.2.2.2.2.2 N)) (b := b1) (e := e1) hF H g1b g1c hnr hN true
  rw [if_pos rfl, b2_t] at to1
  have to1' : f6_takeOld F (nI (40 + N)) (nI 1) (mO md N 3 b1 e1) = _ := to1
  have to2 := takeOld_x (md := mS md N 3) (N := N) (c := lN (nmc t b1 e1)) (d := (mND md (40 + N))) (o := nI 0) (w := (mTwo md (40 + N))) (h := (mThr md (40 + N))) (pat := (mPat md)) (ps := (ps3 (mPs md) N)) (pC := nI b1) (pD := (md.2.2.2.1.2.2.2.2.2.2 N)) (b := b2') (e := e2) hF H g2b g2c hnr hN false
  rw [if_neg (by decide), b2_f] at to2
  have ex : ∃ X, f6_readRow F md = tailF F (nI 3) X ∧ (match ff [(nmw t b1 e1, b1), (nmw t b2' e2, b2')] with
      | some p => Fl (mS md N 3) N X p
      | none => X = mX (mS md N 3) N (lN (nmc t b1 e1)) (lN (nmc t b2' e2)) (nI 0) (mTwo md (40 + N)) (mThr md (40 + N)) (mPat md) (ps3 (mPs md) N) (nI b1) (nI b2') b3 e3 (nI 1)) := by
    cases h1 : nmw t b1 e1 with
    | false =>
      rw [ff_f]
      rw [h1, mXt0] at to1'
      obtain ⟨X, hX⟩ : ∃ x, x = mX (mS md N 3) N (lN (nmc t b1 e1)) (mND md (40 + N)) (nI 0) (mTwo md (40 + N)) (mThr md (40 + N)) (mPat md) (ps3 (mPs md) N) (nI b1) (md.2.2.2.1.2.2.2.2.2.2 N) b1 e1 (nI 0) := ⟨_, rfl⟩
      rw [← hX] at to1'
      have xr : X.2.2.2.1.2.2.1 = nI 0 := by rw [hX]; rfl
      refine ⟨X, ?_, ⟨_, _, _, _, _, _, _, _, _, _, hX, (fun i _ => rfl), fs⟩⟩
      unfold f6_readRow tailF
      simp (disch := omega) only [li, ↓lim1, ↓bnd_m, ↓grd_m, ↓jn_e, ↓cas_m, ↓oc_m, inb_t, nI_add, pk_mul, sub_e, le_t, le_f, lt_t, lt_f, eq_t, eq_f, cl_e, m1_e, m1_e', m1_lt, m1_le, m1_m1, lt_m1, ↓reduceIte, Nat.add_zero, Nat.zero_add, wn, sr', hnr, tk', u1, lp, to1', xr]
    | true =>
      rw [ff_t]
      rw [h1, mXt1, ← hb2, ← he2] at to1'
      obtain ⟨X1, hX1⟩ : ∃ x, x = mX (mS md N 3) N (lN (nmc t b1 e1)) (mND md (40 + N)) (nI 0) (mTwo md (40 + N)) (mThr md (40 + N)) (mPat md) (ps3 (mPs md) N) (nI b1) (md.2.2.2.1.2.2.2.2.2.2 N) b2' e2 (nI 1) := ⟨_, rfl⟩
      rw [← hX1] at to1' to2
      have xr1 : X1.2.2.2.1.2.2.1 = nI 1 := by rw [hX1]; rfl
      obtain ⟨X, hX⟩ : ∃ x, x = mXk (mS md N 3) N (lN (nmc t b1 e1)) (lN (nmc t b2' e2)) (nI 0) (mTwo md (40 + N)) (mThr md (40 + N)) (mPat md) (ps3 (mPs md) N) (nI b1) (nI b2') t n b2' e2 (nmw t b2' e2) := ⟨_, rfl⟩
      rw [← hX] at to2
      refine ⟨X, ?_, ?_⟩
      · unfold f6_readRow tailF
        simp (disch := omega) only [li, ↓lim1, ↓bnd_m, ↓grd_m, ↓jn_e, ↓cas_m, ↓oc_m, inb_t, nI_add, pk_mul, sub_e, le_t, le_f, lt_t, lt_f, eq_t, eq_f, cl_e, m1_e, m1_e', m1_lt, m1_le, m1_m1, lt_m1, ↓reduceIte, Nat.add_zero, Nat.zero_add, wn, sr', hnr, tk', u1, lp, to1', xr1, to2]
      · cases h2 : nmw t b2' e2 with
        | false =>
          rw [ff_f]
          rw [h2, mXt0] at hX
          exact ⟨_, _, _, _, _, _, _, _, _, _, hX, (fun i _ => rfl), fs⟩
        | true =>
          rw [h2, mXt1, ← hb3, ← he3] at hX
          exact hX
  obtain ⟨X, rr, hX⟩ := ex
  cases hf : ff [(nmw t b1 e1, b1), (nmw t b2' e2, b2')] with
  | some p =>
    rw [ff_as hf]
    rw [hf] at hX
    exact ⟨X, by rw [rr]; exact tail_fail (fl_right hX), hX⟩
  | none =>
    rw [ff_an hf]
    rw [hf] at hX
    have tl := tail_ok (s := 3) hF H g3b g3c hnr hN hnc (fun h => by omega) hm (by omega) hX (fun i _ => rfl) fs
    cases hg : ff [(smc t b3 e3, b3)] with
    | some p =>
      rw [hg] at tl
      obtain ⟨Y, y1, y2⟩ := tl
      exact ⟨Y, by rw [rr]; exact y1, y2⟩
    | none =>
      rw [hg] at tl
      rw [rr]
      exact tl
theorem mrow4 (hF : 5000 < F) (H : TpM md t n) (hb : md.2.2.2.1.1 = nI b0) (he : md.2.2.2.1.2.1 = nI e0) (hr : md.2.2.2.1.2.2.1 = nI 1) (hen : e0 ≤ n) (hnr : md.2.2.2.1.2.2.2.1 = nI N) (hN : N < 40) (hnc : md.2.2.2.1.2.2.2.2.1 = nI m) (hm : m ≤ 12) (hs : bnd (f6_wordName F md) (fun u => f6_sortOf F u) = some (nI 4))
    (hb1 : b1 = wb t n e0) (he1 : e1 = we t n b1) (hb2 : b2' = wb t n e1) (he2 : e2 = we t n b2') (hb3 : b3 = wb t n e2) (he3 : e3 = we t n b3) (hb4 : b4 = wb t n e3) (he4 : e4 = we t n b4) :
    match ff ([(pto t b1 e1 true, b1), (pto t b2' e2 true, b2'), (c3o t b1 e1 b2' e2 b3 e3, b3)] ++ [(smc t b4 e4, b4)]) with
    | some p => ∃ X, f6_readRow F md = some X ∧ Fl (mS md N 4) N X p
    | none => f6_readRow F md = some (mFin (mX (mS md N 4) N (mNC md (40 + N)) (mND md (40 + N)) (nI 0) (mTwo md (40 + N)) (mThr md (40 + N)) (wrP (wrP (wrP (mPat md) t (16 * (3 * (40 + N))) b1 (pnl t b1 e1)) t (16 * (3 * (40 + N) + 1)) b2' (pnl t b2' e2)) t (16 * (3 * (40 + N) + 2)) b3 (pnl t b3 e3)) (upd (upd (upd (ps3 (mPs md) N) (3 * (40 + N)) (nI (pnl t b1 e1))) (3 * (40 + N) + 1) (nI (pnl t b2' e2))) (3 * (40 + N) + 2) (nI (pnl t b3 e3))) (md.2.2.2.1.2.2.2.2.2.1 N) (md.2.2.2.1.2.2.2.2.2.2 N) (wb t n e4) (we t n (wb t n e4)) (nI 1)) N m false) := by
  obtain ⟨g1a, g1b, g1c⟩ := w_ok (t := t) hen
  rw [← hb1, ← he1] at g1b g1c
  obtain ⟨g2a, g2b, g2c⟩ := w_ok (t := t) g1c
  rw [← hb2, ← he2] at g2b g2c
  obtain ⟨g3a, g3b, g3c⟩ := w_ok (t := t) g2c
  rw [← hb3, ← he3] at g3b g3c
  obtain ⟨g4a, g4b, g4c⟩ := w_ok (t := t) g3c
  rw [← hb4, ← he4] at g4b g4c
  obtain ⟨w0, wn, sr⟩ := bnd_some hs
  have sr' : f6_sortOf F w0 = some (nI 4) := sr
  have tk := take_ok (b := b0) hF H hen hb he hr true
  rw [b2_t] at tk
  have tk' : f6_take F (nI 1) md = some (mW md (wb t n e0) (we t n (wb t n e0)) (nI 1)) := tk
  rw [← hb1, ← he1] at tk'
  obtain ⟨U, hU⟩ : ∃ x, x = mW md b1 e1 (nI 1) := ⟨_, rfl⟩
  rw [← hU] at tk'
  have u1 : U.2.2.2.1.2.2.1 = nI 1 := by rw [hU]; rfl
  have lp := rowLoop (s := 4) hF hnr hN hU
  have fs : ∀ j, j < 120 → ps3 (mPs md) N j = mPs md j := fun j hj => by unfold ps3; rw [pk_un (by omega), pk_un (by omega), pk_un (by omega)]
  obtain ⟨X, rx, hX⟩ := readException_x (md := mS md N 4) (c := (mNC md (40 + N))) (d := (mND md (40 + N))) (o := nI 0) (w := (mTwo md (40 + N))) (h := (mThr md (40 + N))) (pat := (mPat md)) (ps := (ps3 (mPs md) N)) (pC := (md.2.2.2.1.2.2.2.2.2.1 N)) (pD := (md.2.2.2.1.2.2.2.2.2.2 N)) hF H hen hN hb1 he1 hb2 he2 hb3 he3 (fun i _ => rfl) fs
  rw [← hb4, ← he4] at hX
  have rx' : f6_readException F (nI (40 + N)) (mO md N 4 b1 e1) = some X := rx
  have rr : f6_readRow F md = tailF F (nI 4) X := by
    unfold f6_readRow tailF
    simp (disch := omega) only [li, ↓lim1, ↓bnd_m, ↓grd_m, ↓jn_e, ↓cas_m, ↓oc_m, inb_t, nI_add, pk_mul, sub_e, le_t, le_f, lt_t, lt_f, eq_t, eq_f, cl_e, m1_e, m1_e', m1_lt, m1_le, m1_m1, lt_m1, ↓reduceIte, Nat.add_zero, Nat.zero_add, wn, sr', hnr, tk', u1, lp, rx']
  cases hf : ff [(pto t b1 e1 true, b1), (pto t b2' e2 true, b2'), (c3o t b1 e1 b2' e2 b3 e3, b3)] with
  | some p =>
    rw [ff_as hf]
    rw [hf] at hX
    exact ⟨X, by rw [rr]; exact tail_fail (fl_right hX), hX⟩
  | none =>
    rw [ff_an hf]
    rw [hf] at hX
    have tl := tail_ok (s := 4) hF H g4b g4c hnr hN hnc (fun h => by omega) hm (by omega) hX (fun i hi => by rw [wrP_old _ _ (by omega), wrP_old _ _ (by omega), wrP_old _ _ (by omega)]) (fun j hj => by rw [pk_un (by omega), pk_un (by omega), pk_un (by omega)]; exact fs j hj)
    cases hg : ff [(smc t b4 e4, b4)] with
    | some p =>
      rw [hg] at tl
      obtain ⟨Y, y1, y2⟩ := tl
      exact ⟨Y, by rw [rr]; exact y1, y2⟩
    | none =>
      rw [hg] at tl
      rw [rr]
      exact tl
theorem mrow5 (hF : 5000 < F) (H : TpM md t n) (hb : md.2.2.2.1.1 = nI b0) (he : md.2.2.2.1.2.1 = nI e0) (hr : md.2.2.2.1.2.2.1 = nI 1) (hen : e0 ≤ n) (hnr : md.2.2.2.1.2.2.2.1 = nI N) (hN : N < 40) (hnc : md.2.2.2.1.2.2.2.2.1 = nI m) (hm : m ≤ 12) (hs : bnd (f6_wordName F md) (fun u => f6_sortOf F u) = some (nI 5))
    (hb1 : b1 = wb t n e0) (he1 : e1 = we t n b1) (hb2 : b2' = wb t n e1) (he2 : e2 = we t n b2') (hb3 : b3 = wb t n e2) (he3 : e3 = we t n b3) (hb4 : b4 = wb t n e3) (he4 : e4 = we t n b4) (hb5 : b5 = wb t n e4) (he5 : e5 = we t n b5) :
    match ff (((btw (whw t b1 e1) 2 100, b1) :: [(pto t b2' e2 true, b2'), (pto t b3 e3 true, b3), (c3o t b2' e2 b3 e3 b4 e4, b4)]) ++ [(smc t b5 e5, b5)]) with
    | some p => ∃ X, f6_readRow F md = some X ∧ Fl (mS md N 5) N X p
    | none => f6_readRow F md = some (mFin (mX (mS md N 5) N (mNC md (40 + N)) (mND md (40 + N)) (nI (gz (whw t b1 e1))) (mTwo md (40 + N)) (mThr md (40 + N)) (wrP (wrP (wrP (mPat md) t (16 * (3 * (40 + N))) b2' (pnl t b2' e2)) t (16 * (3 * (40 + N) + 1)) b3 (pnl t b3 e3)) t (16 * (3 * (40 + N) + 2)) b4 (pnl t b4 e4)) (upd (upd (upd (ps3 (mPs md) N) (3 * (40 + N)) (nI (pnl t b2' e2))) (3 * (40 + N) + 1) (nI (pnl t b3 e3))) (3 * (40 + N) + 2) (nI (pnl t b4 e4))) (md.2.2.2.1.2.2.2.2.2.1 N) (md.2.2.2.1.2.2.2.2.2.2 N) (wb t n e5) (we t n (wb t n e5)) (nI 1)) N m false) := by
  obtain ⟨g1a, g1b, g1c⟩ := w_ok (t := t) hen
  rw [← hb1, ← he1] at g1b g1c
  obtain ⟨g2a, g2b, g2c⟩ := w_ok (t := t) g1c
  rw [← hb2, ← he2] at g2b g2c
  obtain ⟨g3a, g3b, g3c⟩ := w_ok (t := t) g2c
  rw [← hb3, ← he3] at g3b g3c
  obtain ⟨g4a, g4b, g4c⟩ := w_ok (t := t) g3c
  rw [← hb4, ← he4] at g4b g4c
  obtain ⟨g5a, g5b, g5c⟩ := w_ok (t := t) g4c
  rw [← hb5, ← he5] at g5b g5c
  obtain ⟨w0, wn, sr⟩ := bnd_some hs
  have sr' : f6_sortOf F w0 = some (nI 5) := sr
  have tk := take_ok (b := b0) hF H hen hb he hr true
  rw [b2_t] at tk
  have tk' : f6_take F (nI 1) md = some (mW md (wb t n e0) (we t n (wb t n e0)) (nI 1)) := tk
  rw [← hb1, ← he1] at tk'
  obtain ⟨U, hU⟩ : ∃ x, x = mW md b1 e1 (nI 1) := ⟨_, rfl⟩
  rw [← hU] at tk'
  have u1 : U.2.2.2.1.2.2.1 = nI 1 := by rw [hU]; rfl
  have lp := rowLoop (s := 5) hF hnr hN hU
  have fs : ∀ j, j < 120 → ps3 (mPs md) N j = mPs md j := fun j hj => by unfold ps3; rw [pk_un (by omega), pk_un (by omega), pk_un (by omega)]
  have tw := takeWhole_x (md := mS md N 5) (N := N) (c := (mNC md (40 + N))) (d := (mND md (40 + N))) (o := nI 0) (w := (mTwo md (40 + N))) (h := (mThr md (40 + N))) (pat := (mPat md)) (ps := (ps3 (mPs md) N)) (pC := (md.2.2.2.1.2.2.2.2.2.1 N)) (pD := (md.2.2.2.1.2.2.2.2.2.2 N)) (b := b1) (e := e1) hF H g1b g1c (lo := 2) (hi := 100) (by omega) (by omega)
  have tw' : f6_takeWhole F (nI 2) (nI 100) (mO md N 5 b1 e1) = _ := tw
  obtain ⟨u, hu⟩ : ∃ x : Int32, x = nI 5 := ⟨_, rfl⟩
  have x0 : (u = nI 0) = False := eq_false (by rw [hu]; decide)
  have x1 : (u = nI 1) = False := eq_false (by rw [hu]; decide)
  have x2 : (u = nI 2) = False := eq_false (by rw [hu]; decide)
  have x3 : (u = nI 3) = False := eq_false (by rw [hu]; decide)
  have x4 : (u = nI 4) = False := eq_false (by rw [hu]; decide)
  have x5 : (u = nI 5) = True := eq_true hu
  have x8 : (u = nI 8) = False := eq_false (by rw [hu]; decide)
  have x9 : (u = nI 9) = False := eq_false (by rw [hu]; decide)
  have xm : (u = im1) = False := eq_false (by rw [hu]; decide)
  have xl : (nI 2 < u) = True := eq_true (by rw [hu]; decide)
  rw [← hu] at sr' lp
  have ex : ∃ X, f6_readRow F md = tailF F u X ∧ (match ff ((btw (whw t b1 e1) 2 100, b1) :: [(pto t b2' e2 true, b2'), (pto t b3 e3 true, b3), (c3o t b2' e2 b3 e3 b4 e4, b4)]) with
      | some p => Fl (mS md N 5) N X p
      | none => X = mX (mS md N 5) N (mNC md (40 + N)) (mND md (40 + N)) (nI (gz (whw t b1 e1))) (mTwo md (40 + N)) (mThr md (40 + N)) (wrP (wrP (wrP (mPat md) t (16 * (3 * (40 + N))) b2' (pnl t b2' e2)) t (16 * (3 * (40 + N) + 1)) b3 (pnl t b3 e3)) t (16 * (3 * (40 + N) + 2)) b4 (pnl t b4 e4)) (upd (upd (upd (ps3 (mPs md) N) (3 * (40 + N)) (nI (pnl t b2' e2))) (3 * (40 + N) + 1) (nI (pnl t b3 e3))) (3 * (40 + N) + 2) (nI (pnl t b4 e4))) (md.2.2.2.1.2.2.2.2.2.1 N) (md.2.2.2.1.2.2.2.2.2.2 N) b5 e5 (nI 1)) := by
    cases h1 : btw (whw t b1 e1) 2 100 with
    | false =>
      rw [ff_f]
      rw [h1, mXt0] at tw'
      obtain ⟨X, hX⟩ : ∃ x, x = mX (mS md N 5) N (mNC md (40 + N)) (mND md (40 + N)) (pI (whw t b1 e1)) (mTwo md (40 + N)) (mThr md (40 + N)) (mPat md) (ps3 (mPs md) N) (md.2.2.2.1.2.2.2.2.2.1 N) (md.2.2.2.1.2.2.2.2.2.2 N) b1 e1 (nI 0) := ⟨_, rfl⟩
      have r0 : X.2.2.2.1.2.2.1 = nI 0 := by rw [hX]; rfl
      have rx := readException_0 (N := N) hF r0
      refine ⟨X, ?_, ⟨_, _, _, _, _, _, _, _, _, _, hX, (fun i _ => rfl), fs⟩⟩
      rw [hX] at rx ⊢
      unfold f6_readRow tailF
      unfold mX at tw' rx ⊢
      simp (disch := omega) only [li, ↓lim1, ↓bnd_m, ↓grd_m, ↓jn_e, ↓cas_m, ↓oc_m, inb_t, nI_add, pk_mul, sub_e, le_t, le_f, lt_t, lt_f, eq_t, eq_f, cl_e, m1_e, m1_e', m1_lt, m1_le, m1_m1, lt_m1, ↓reduceIte, Nat.add_zero, Nat.zero_add, wn, sr', hnr, tk', u1, lp, tw', upd_uu, x0, x1, x2, x3, x4, x5, x8, x9, xm, xl]
      simp (disch := omega) only [li, ↓lim1, ↓bnd_m, ↓grd_m, ↓jn_e, ↓cas_m, ↓oc_m, inb_t, nI_add, pk_mul, sub_e, le_t, le_f, lt_t, lt_f, eq_t, eq_f, cl_e, m1_e, m1_e', m1_lt, m1_le, m1_m1, lt_m1, ↓reduceIte, Nat.add_zero, Nat.zero_add, rx, xl]
    | true =>
      rw [ff_t]
      obtain ⟨v1, q1, l1, u1'⟩ := btw_some h1
      have pv : pI (some v1) = nI v1 := rfl
      have gv : gz (some v1) = v1 := rfl
      rw [h1, mXt1, ← hb2, ← he2, q1, pv] at tw'
      rw [q1, gv]
      obtain ⟨X, rx, hX⟩ := readException_x (md := mS md N 5) (c := (mNC md (40 + N))) (d := (mND md (40 + N))) (o := nI v1) (w := (mTwo md (40 + N))) (h := (mThr md (40 + N))) (pat := (mPat md)) (ps := (ps3 (mPs md) N)) (pC := (md.2.2.2.1.2.2.2.2.2.1 N)) (pD := (md.2.2.2.1.2.2.2.2.2.2 N)) hF H g1c hN hb2 he2 hb3 he3 hb4 he4 (fun i _ => rfl) fs
      rw [← hb5, ← he5] at hX
      refine ⟨X, ?_, hX⟩
      unfold f6_readRow tailF
      unfold mX at tw' rx
      simp (disch := omega) only [li, ↓lim1, ↓bnd_m, ↓grd_m, ↓jn_e, ↓cas_m, ↓oc_m, inb_t, nI_add, pk_mul, sub_e, le_t, le_f, lt_t, lt_f, eq_t, eq_f, cl_e, m1_e, m1_e', m1_lt, m1_le, m1_m1, lt_m1, ↓reduceIte, Nat.add_zero, Nat.zero_add, wn, sr', hnr, tk', u1, lp, tw', upd_uu, rx, x0, x1, x2, x3, x4, x5, x8, x9, xm, xl]
  rw [hu] at ex
  obtain ⟨X, rr, hX⟩ := ex
  cases hf : ff ((btw (whw t b1 e1) 2 100, b1) :: [(pto t b2' e2 true, b2'), (pto t b3 e3 true, b3), (c3o t b2' e2 b3 e3 b4 e4, b4)]) with
  | some p =>
    rw [ff_as hf]
    rw [hf] at hX
    exact ⟨X, by rw [rr]; exact tail_fail (fl_right hX), hX⟩
  | none =>
    rw [ff_an hf]
    rw [hf] at hX
    have tl := tail_ok (s := 5) hF H g5b g5c hnr hN hnc (fun h => by omega) hm (by omega) hX (fun i hi => by rw [wrP_old _ _ (by omega), wrP_old _ _ (by omega), wrP_old _ _ (by omega)]) (fun j hj => by rw [pk_un (by omega), pk_un (by omega), pk_un (by omega)]; exact fs j hj)
    cases hg : ff [(smc t b5 e5, b5)] with
    | some p =>
      rw [hg] at tl
      obtain ⟨Y, y1, y2⟩ := tl
      exact ⟨Y, by rw [rr]; exact y1, y2⟩
    | none =>
      rw [hg] at tl
      rw [rr]
      exact tl
theorem mrow6 (hF : 5000 < F) (H : TpM md t n) (hb : md.2.2.2.1.1 = nI b0) (he : md.2.2.2.1.2.1 = nI e0) (hr : md.2.2.2.1.2.2.1 = nI 1) (hen : e0 ≤ n) (hnr : md.2.2.2.1.2.2.2.1 = nI N) (hN : N < 40) (hnc : md.2.2.2.1.2.2.2.2.1 = nI m) (hm : m ≤ 12) (hs : bnd (f6_wordName F md) (fun u => f6_sortOf F u) = some (nI 6))
    (hb1 : b1 = wb t n e0) (he1 : e1 = we t n b1) (hb2 : b2' = wb t n e1) (he2 : e2 = we t n b2') (hb3 : b3 = wb t n e2) (he3 : e3 = we t n b3) (hb4 : b4 = wb t n e3) (he4 : e4 = we t n b4) (hb5 : b5 = wb t n e4) (he5 : e5 = we t n b5) :
    match ff (((btw (whw t b1 e1) 0 999999, b1) :: [(pto t b2' e2 true, b2'), (pto t b3 e3 true, b3), (c3o t b2' e2 b3 e3 b4 e4, b4)]) ++ [(smc t b5 e5, b5)]) with
    | some p => ∃ X, f6_readRow F md = some X ∧ Fl (mS md N 6) N X p
    | none => f6_readRow F md = some (mFin (mX (mS md N 6) N (mNC md (40 + N)) (mND md (40 + N)) (nI (gz (whw t b1 e1))) (mTwo md (40 + N)) (mThr md (40 + N)) (wrP (wrP (wrP (mPat md) t (16 * (3 * (40 + N))) b2' (pnl t b2' e2)) t (16 * (3 * (40 + N) + 1)) b3 (pnl t b3 e3)) t (16 * (3 * (40 + N) + 2)) b4 (pnl t b4 e4)) (upd (upd (upd (ps3 (mPs md) N) (3 * (40 + N)) (nI (pnl t b2' e2))) (3 * (40 + N) + 1) (nI (pnl t b3 e3))) (3 * (40 + N) + 2) (nI (pnl t b4 e4))) (md.2.2.2.1.2.2.2.2.2.1 N) (md.2.2.2.1.2.2.2.2.2.2 N) (wb t n e5) (we t n (wb t n e5)) (nI 1)) N m false) := by
  obtain ⟨g1a, g1b, g1c⟩ := w_ok (t := t) hen
  rw [← hb1, ← he1] at g1b g1c
  obtain ⟨g2a, g2b, g2c⟩ := w_ok (t := t) g1c
  rw [← hb2, ← he2] at g2b g2c
  obtain ⟨g3a, g3b, g3c⟩ := w_ok (t := t) g2c
  rw [← hb3, ← he3] at g3b g3c
  obtain ⟨g4a, g4b, g4c⟩ := w_ok (t := t) g3c
  rw [← hb4, ← he4] at g4b g4c
  obtain ⟨g5a, g5b, g5c⟩ := w_ok (t := t) g4c
  rw [← hb5, ← he5] at g5b g5c
  obtain ⟨w0, wn, sr⟩ := bnd_some hs
  have sr' : f6_sortOf F w0 = some (nI 6) := sr
  have tk := take_ok (b := b0) hF H hen hb he hr true
  rw [b2_t] at tk
  have tk' : f6_take F (nI 1) md = some (mW md (wb t n e0) (we t n (wb t n e0)) (nI 1)) := tk
  rw [← hb1, ← he1] at tk'
  obtain ⟨U, hU⟩ : ∃ x, x = mW md b1 e1 (nI 1) := ⟨_, rfl⟩
  rw [← hU] at tk'
  have u1 : U.2.2.2.1.2.2.1 = nI 1 := by rw [hU]; rfl
  have lp := rowLoop (s := 6) hF hnr hN hU
  have fs : ∀ j, j < 120 → ps3 (mPs md) N j = mPs md j := fun j hj => by unfold ps3; rw [pk_un (by omega), pk_un (by omega), pk_un (by omega)]
  have tw := takeWhole_x (md := mS md N 6) (N := N) (c := (mNC md (40 + N))) (d := (mND md (40 + N))) (o := nI 0) (w := (mTwo md (40 + N))) (h := (mThr md (40 + N))) (pat := (mPat md)) (ps := (ps3 (mPs md) N)) (pC := (md.2.2.2.1.2.2.2.2.2.1 N)) (pD := (md.2.2.2.1.2.2.2.2.2.2 N)) (b := b1) (e := e1) hF H g1b g1c (lo := 0) (hi := 999999) (by omega) (by omega)
  have tw' : f6_takeWhole F (nI 0) (nI 999999) (mO md N 6 b1 e1) = _ := tw
  have ex : ∃ X, f6_readRow F md = tailF F (nI 6) X ∧ (match ff ((btw (whw t b1 e1) 0 999999, b1) :: [(pto t b2' e2 true, b2'), (pto t b3 e3 true, b3), (c3o t b2' e2 b3 e3 b4 e4, b4)]) with
      | some p => Fl (mS md N 6) N X p
      | none => X = mX (mS md N 6) N (mNC md (40 + N)) (mND md (40 + N)) (nI (gz (whw t b1 e1))) (mTwo md (40 + N)) (mThr md (40 + N)) (wrP (wrP (wrP (mPat md) t (16 * (3 * (40 + N))) b2' (pnl t b2' e2)) t (16 * (3 * (40 + N) + 1)) b3 (pnl t b3 e3)) t (16 * (3 * (40 + N) + 2)) b4 (pnl t b4 e4)) (upd (upd (upd (ps3 (mPs md) N) (3 * (40 + N)) (nI (pnl t b2' e2))) (3 * (40 + N) + 1) (nI (pnl t b3 e3))) (3 * (40 + N) + 2) (nI (pnl t b4 e4))) (md.2.2.2.1.2.2.2.2.2.1 N) (md.2.2.2.1.2.2.2.2.2.2 N) b5 e5 (nI 1)) := by
    cases h1 : btw (whw t b1 e1) 0 999999 with
    | false =>
      rw [ff_f]
      rw [h1, mXt0] at tw'
      obtain ⟨X, hX⟩ : ∃ x, x = mX (mS md N 6) N (mNC md (40 + N)) (mND md (40 + N)) (pI (whw t b1 e1)) (mTwo md (40 + N)) (mThr md (40 + N)) (mPat md) (ps3 (mPs md) N) (md.2.2.2.1.2.2.2.2.2.1 N) (md.2.2.2.1.2.2.2.2.2.2 N) b1 e1 (nI 0) := ⟨_, rfl⟩
      have r0 : X.2.2.2.1.2.2.1 = nI 0 := by rw [hX]; rfl
      have rx := readException_0 (N := N) hF r0
      refine ⟨X, ?_, ⟨_, _, _, _, _, _, _, _, _, _, hX, (fun i _ => rfl), fs⟩⟩
      rw [hX] at rx ⊢
      unfold f6_readRow tailF
      unfold mX at tw' rx ⊢
      simp (disch := omega) only [li, ↓lim1, ↓bnd_m, ↓grd_m, ↓jn_e, ↓cas_m, ↓oc_m, inb_t, nI_add, pk_mul, sub_e, le_t, le_f, lt_t, lt_f, eq_t, eq_f, cl_e, m1_e, m1_e', m1_lt, m1_le, m1_m1, lt_m1, ↓reduceIte, Nat.add_zero, Nat.zero_add, wn, sr', hnr, tk', u1, lp, tw', upd_uu]
      simp (disch := omega) only [li, ↓lim1, ↓bnd_m, ↓grd_m, ↓jn_e, ↓cas_m, ↓oc_m, inb_t, nI_add, pk_mul, sub_e, le_t, le_f, lt_t, lt_f, eq_t, eq_f, cl_e, m1_e, m1_e', m1_lt, m1_le, m1_m1, lt_m1, ↓reduceIte, Nat.add_zero, Nat.zero_add, rx]
    | true =>
      rw [ff_t]
      obtain ⟨v1, q1, l1, u1'⟩ := btw_some h1
      have pv : pI (some v1) = nI v1 := rfl
      have gv : gz (some v1) = v1 := rfl
      rw [h1, mXt1, ← hb2, ← he2, q1, pv] at tw'
      rw [q1, gv]
      obtain ⟨X, rx, hX⟩ := readException_x (md := mS md N 6) (c := (mNC md (40 + N))) (d := (mND md (40 + N))) (o := nI v1) (w := (mTwo md (40 + N))) (h := (mThr md (40 + N))) (pat := (mPat md)) (ps := (ps3 (mPs md) N)) (pC := (md.2.2.2.1.2.2.2.2.2.1 N)) (pD := (md.2.2.2.1.2.2.2.2.2.2 N)) hF H g1c hN hb2 he2 hb3 he3 hb4 he4 (fun i _ => rfl) fs
      rw [← hb5, ← he5] at hX
      refine ⟨X, ?_, hX⟩
      unfold f6_readRow tailF
      unfold mX at tw' rx
      simp (disch := omega) only [li, ↓lim1, ↓bnd_m, ↓grd_m, ↓jn_e, ↓cas_m, ↓oc_m, inb_t, nI_add, pk_mul, sub_e, le_t, le_f, lt_t, lt_f, eq_t, eq_f, cl_e, m1_e, m1_e', m1_lt, m1_le, m1_m1, lt_m1, ↓reduceIte, Nat.add_zero, Nat.zero_add, wn, sr', hnr, tk', u1, lp, tw', upd_uu, rx]
  obtain ⟨X, rr, hX⟩ := ex
  cases hf : ff ((btw (whw t b1 e1) 0 999999, b1) :: [(pto t b2' e2 true, b2'), (pto t b3 e3 true, b3), (c3o t b2' e2 b3 e3 b4 e4, b4)]) with
  | some p =>
    rw [ff_as hf]
    rw [hf] at hX
    exact ⟨X, by rw [rr]; exact tail_fail (fl_right hX), hX⟩
  | none =>
    rw [ff_an hf]
    rw [hf] at hX
    have tl := tail_ok (s := 6) hF H g5b g5c hnr hN hnc (fun h => by omega) hm (by omega) hX (fun i hi => by rw [wrP_old _ _ (by omega), wrP_old _ _ (by omega), wrP_old _ _ (by omega)]) (fun j hj => by rw [pk_un (by omega), pk_un (by omega), pk_un (by omega)]; exact fs j hj)
    cases hg : ff [(smc t b5 e5, b5)] with
    | some p =>
      rw [hg] at tl
      obtain ⟨Y, y1, y2⟩ := tl
      exact ⟨Y, by rw [rr]; exact y1, y2⟩
    | none =>
      rw [hg] at tl
      rw [rr]
      exact tl
theorem mrow7 (hF : 5000 < F) (H : TpM md t n) (hb : md.2.2.2.1.1 = nI b0) (he : md.2.2.2.1.2.1 = nI e0) (hr : md.2.2.2.1.2.2.1 = nI 1) (hen : e0 ≤ n) (hnr : md.2.2.2.1.2.2.2.1 = nI N) (hN : N < 40) (hnc : md.2.2.2.1.2.2.2.2.1 = nI m) (hm : m ≤ 12) (hs : bnd (f6_wordName F md) (fun u => f6_sortOf F u) = some (nI 7))
    (hb1 : b1 = wb t n e0) (he1 : e1 = we t n b1) (hb2 : b2' = wb t n e1) (he2 : e2 = we t n b2') (hb3 : b3 = wb t n e2) (he3 : e3 = we t n b3) (hb4 : b4 = wb t n e3) (he4 : e4 = we t n b4) (hb5 : b5 = wb t n e4) (he5 : e5 = we t n b5) :
    match ff (((btw (whw t b1 e1) 0 999999, b1) :: [(pto t b2' e2 true, b2'), (pto t b3 e3 true, b3), (c3o t b2' e2 b3 e3 b4 e4, b4)]) ++ [(smc t b5 e5, b5)]) with
    | some p => ∃ X, f6_readRow F md = some X ∧ Fl (mS md N 7) N X p
    | none => f6_readRow F md = some (mFin (mX (mS md N 7) N (mNC md (40 + N)) (mND md (40 + N)) (nI (gz (whw t b1 e1))) (mTwo md (40 + N)) (mThr md (40 + N)) (wrP (wrP (wrP (mPat md) t (16 * (3 * (40 + N))) b2' (pnl t b2' e2)) t (16 * (3 * (40 + N) + 1)) b3 (pnl t b3 e3)) t (16 * (3 * (40 + N) + 2)) b4 (pnl t b4 e4)) (upd (upd (upd (ps3 (mPs md) N) (3 * (40 + N)) (nI (pnl t b2' e2))) (3 * (40 + N) + 1) (nI (pnl t b3 e3))) (3 * (40 + N) + 2) (nI (pnl t b4 e4))) (md.2.2.2.1.2.2.2.2.2.1 N) (md.2.2.2.1.2.2.2.2.2.2 N) (wb t n e5) (we t n (wb t n e5)) (nI 1)) N m false) := by
  obtain ⟨g1a, g1b, g1c⟩ := w_ok (t := t) hen
  rw [← hb1, ← he1] at g1b g1c
  obtain ⟨g2a, g2b, g2c⟩ := w_ok (t := t) g1c
  rw [← hb2, ← he2] at g2b g2c
  obtain ⟨g3a, g3b, g3c⟩ := w_ok (t := t) g2c
  rw [← hb3, ← he3] at g3b g3c
  obtain ⟨g4a, g4b, g4c⟩ := w_ok (t := t) g3c
  rw [← hb4, ← he4] at g4b g4c
  obtain ⟨g5a, g5b, g5c⟩ := w_ok (t := t) g4c
  rw [← hb5, ← he5] at g5b g5c
  obtain ⟨w0, wn, sr⟩ := bnd_some hs
  have sr' : f6_sortOf F w0 = some (nI 7) := sr
  have tk := take_ok (b := b0) hF H hen hb he hr true
  rw [b2_t] at tk
  have tk' : f6_take F (nI 1) md = some (mW md (wb t n e0) (we t n (wb t n e0)) (nI 1)) := tk
  rw [← hb1, ← he1] at tk'
  obtain ⟨U, hU⟩ : ∃ x, x = mW md b1 e1 (nI 1) := ⟨_, rfl⟩
  rw [← hU] at tk'
  have u1 : U.2.2.2.1.2.2.1 = nI 1 := by rw [hU]; rfl
  have lp := rowLoop (s := 7) hF hnr hN hU
  have fs : ∀ j, j < 120 → ps3 (mPs md) N j = mPs md j := fun j hj => by unfold ps3; rw [pk_un (by omega), pk_un (by omega), pk_un (by omega)]
  have tw := takeWhole_x (md := mS md N 7) (N := N) (c := (mNC md (40 + N))) (d := (mND md (40 + N))) (o := nI 0) (w := (mTwo md (40 + N))) (h := (mThr md (40 + N))) (pat := (mPat md)) (ps := (ps3 (mPs md) N)) (pC := (md.2.2.2.1.2.2.2.2.2.1 N)) (pD := (md.2.2.2.1.2.2.2.2.2.2 N)) (b := b1) (e := e1) hF H g1b g1c (lo := 0) (hi := 999999) (by omega) (by omega)
  have tw' : f6_takeWhole F (nI 0) (nI 999999) (mO md N 7 b1 e1) = _ := tw
  have ex : ∃ X, f6_readRow F md = tailF F (nI 7) X ∧ (match ff ((btw (whw t b1 e1) 0 999999, b1) :: [(pto t b2' e2 true, b2'), (pto t b3 e3 true, b3), (c3o t b2' e2 b3 e3 b4 e4, b4)]) with
      | some p => Fl (mS md N 7) N X p
      | none => X = mX (mS md N 7) N (mNC md (40 + N)) (mND md (40 + N)) (nI (gz (whw t b1 e1))) (mTwo md (40 + N)) (mThr md (40 + N)) (wrP (wrP (wrP (mPat md) t (16 * (3 * (40 + N))) b2' (pnl t b2' e2)) t (16 * (3 * (40 + N) + 1)) b3 (pnl t b3 e3)) t (16 * (3 * (40 + N) + 2)) b4 (pnl t b4 e4)) (upd (upd (upd (ps3 (mPs md) N) (3 * (40 + N)) (nI (pnl t b2' e2))) (3 * (40 + N) + 1) (nI (pnl t b3 e3))) (3 * (40 + N) + 2) (nI (pnl t b4 e4))) (md.2.2.2.1.2.2.2.2.2.1 N) (md.2.2.2.1.2.2.2.2.2.2 N) b5 e5 (nI 1)) := by
    cases h1 : btw (whw t b1 e1) 0 999999 with
    | false =>
      rw [ff_f]
      rw [h1, mXt0] at tw'
      obtain ⟨X, hX⟩ : ∃ x, x = mX (mS md N 7) N (mNC md (40 + N)) (mND md (40 + N)) (pI (whw t b1 e1)) (mTwo md (40 + N)) (mThr md (40 + N)) (mPat md) (ps3 (mPs md) N) (md.2.2.2.1.2.2.2.2.2.1 N) (md.2.2.2.1.2.2.2.2.2.2 N) b1 e1 (nI 0) := ⟨_, rfl⟩
      have r0 : X.2.2.2.1.2.2.1 = nI 0 := by rw [hX]; rfl
      have rx := readException_0 (N := N) hF r0
      refine ⟨X, ?_, ⟨_, _, _, _, _, _, _, _, _, _, hX, (fun i _ => rfl), fs⟩⟩
      rw [hX] at rx ⊢
      unfold f6_readRow tailF
      unfold mX at tw' rx ⊢
      simp (disch := omega) only [li, ↓lim1, ↓bnd_m, ↓grd_m, ↓jn_e, ↓cas_m, ↓oc_m, inb_t, nI_add, pk_mul, sub_e, le_t, le_f, lt_t, lt_f, eq_t, eq_f, cl_e, m1_e, m1_e', m1_lt, m1_le, m1_m1, lt_m1, ↓reduceIte, Nat.add_zero, Nat.zero_add, wn, sr', hnr, tk', u1, lp, tw', upd_uu]
      simp (disch := omega) only [li, ↓lim1, ↓bnd_m, ↓grd_m, ↓jn_e, ↓cas_m, ↓oc_m, inb_t, nI_add, pk_mul, sub_e, le_t, le_f, lt_t, lt_f, eq_t, eq_f, cl_e, m1_e, m1_e', m1_lt, m1_le, m1_m1, lt_m1, ↓reduceIte, Nat.add_zero, Nat.zero_add, rx]
    | true =>
      rw [ff_t]
      obtain ⟨v1, q1, l1, u1'⟩ := btw_some h1
      have pv : pI (some v1) = nI v1 := rfl
      have gv : gz (some v1) = v1 := rfl
      rw [h1, mXt1, ← hb2, ← he2, q1, pv] at tw'
      rw [q1, gv]
      obtain ⟨X, rx, hX⟩ := readException_x (md := mS md N 7) (c := (mNC md (40 + N))) (d := (mND md (40 + N))) (o := nI v1) (w := (mTwo md (40 + N))) (h := (mThr md (40 + N))) (pat := (mPat md)) (ps := (ps3 (mPs md) N)) (pC := (md.2.2.2.1.2.2.2.2.2.1 N)) (pD := (md.2.2.2.1.2.2.2.2.2.2 N)) hF H g1c hN hb2 he2 hb3 he3 hb4 he4 (fun i _ => rfl) fs
      rw [← hb5, ← he5] at hX
      refine ⟨X, ?_, hX⟩
      unfold f6_readRow tailF
      unfold mX at tw' rx
      simp (disch := omega) only [li, ↓lim1, ↓bnd_m, ↓grd_m, ↓jn_e, ↓cas_m, ↓oc_m, inb_t, nI_add, pk_mul, sub_e, le_t, le_f, lt_t, lt_f, eq_t, eq_f, cl_e, m1_e, m1_e', m1_lt, m1_le, m1_m1, lt_m1, ↓reduceIte, Nat.add_zero, Nat.zero_add, wn, sr', hnr, tk', u1, lp, tw', upd_uu, rx]
  obtain ⟨X, rr, hX⟩ := ex
  cases hf : ff ((btw (whw t b1 e1) 0 999999, b1) :: [(pto t b2' e2 true, b2'), (pto t b3 e3 true, b3), (c3o t b2' e2 b3 e3 b4 e4, b4)]) with
  | some p =>
    rw [ff_as hf]
    rw [hf] at hX
    exact ⟨X, by rw [rr]; exact tail_fail (fl_right hX), hX⟩
  | none =>
    rw [ff_an hf]
    rw [hf] at hX
    have tl := tail_ok (s := 7) hF H g5b g5c hnr hN hnc (fun h => by omega) hm (by omega) hX (fun i hi => by rw [wrP_old _ _ (by omega), wrP_old _ _ (by omega), wrP_old _ _ (by omega)]) (fun j hj => by rw [pk_un (by omega), pk_un (by omega), pk_un (by omega)]; exact fs j hj)
    cases hg : ff [(smc t b5 e5, b5)] with
    | some p =>
      rw [hg] at tl
      obtain ⟨Y, y1, y2⟩ := tl
      exact ⟨Y, by rw [rr]; exact y1, y2⟩
    | none =>
      rw [hg] at tl
      rw [rr]
      exact tl
theorem mrow8 (hF : 5000 < F) (H : TpM md t n) (hb : md.2.2.2.1.1 = nI b0) (he : md.2.2.2.1.2.1 = nI e0) (hr : md.2.2.2.1.2.2.1 = nI 1) (hen : e0 ≤ n) (hnr : md.2.2.2.1.2.2.2.1 = nI N) (hN : N < 40) (hnc : md.2.2.2.1.2.2.2.2.1 = nI m) (hm : m ≤ 12) (hs : bnd (f6_wordName F md) (fun u => f6_sortOf F u) = some (nI 8))
    (hb1 : b1 = wb t n e0) (he1 : e1 = we t n b1) (hb2 : b2' = wb t n e1) (he2 : e2 = we t n b2') (hb3 : b3 = wb t n e2) (he3 : e3 = we t n b3) :
    match ff ([(btw (whw t b1 e1) 0 999999, b1), (ptw t b2' e2, b2')] ++ [(smc t b3 e3, b3)]) with
    | some p => ∃ X, f6_readRow F md = some X ∧ Fl (mS md N 8) N X p
    | none => f6_readRow F md = some (mFin (mX (mS md N 8) N (mNC md (40 + N)) (mND md (40 + N)) (nI (gz (whw t b1 e1))) (mTwo md (40 + N)) (mThr md (40 + N)) (wrP (mPat md) t (16 * (3 * (40 + N))) b2' (e2 - b2')) (upd (ps3 (mPs md) N) (3 * (40 + N)) (nI (e2 - b2'))) (md.2.2.2.1.2.2.2.2.2.1 N) (md.2.2.2.1.2.2.2.2.2.2 N) (wb t n e3) (we t n (wb t n e3)) (nI 1)) N m false) := by
  obtain ⟨g1a, g1b, g1c⟩ := w_ok (t := t) hen
  rw [← hb1, ← he1] at g1b g1c
  obtain ⟨g2a, g2b, g2c⟩ := w_ok (t := t) g1c
  rw [← hb2, ← he2] at g2b g2c
  obtain ⟨g3a, g3b, g3c⟩ := w_ok (t := t) g2c
  rw [← hb3, ← he3] at g3b g3c
  obtain ⟨w0, wn, sr⟩ := bnd_some hs
  have sr' : f6_sortOf F w0 = some (nI 8) := sr
  have tk := take_ok (b := b0) hF H hen hb he hr true
  rw [b2_t] at tk
  have tk' : f6_take F (nI 1) md = some (mW md (wb t n e0) (we t n (wb t n e0)) (nI 1)) := tk
  rw [← hb1, ← he1] at tk'
  obtain ⟨U, hU⟩ : ∃ x, x = mW md b1 e1 (nI 1) := ⟨_, rfl⟩
  rw [← hU] at tk'
  have u1 : U.2.2.2.1.2.2.1 = nI 1 := by rw [hU]; rfl
  have lp := rowLoop (s := 8) hF hnr hN hU
  have fs : ∀ j, j < 120 → ps3 (mPs md) N j = mPs md j := fun j hj => by unfold ps3; rw [pk_un (by omega), pk_un (by omega), pk_un (by omega)]
  have tw := takeWhole_x (md := mS md N 8) (N := N) (c := (mNC md (40 + N))) (d := (mND md (40 + N))) (o := nI 0) (w := (mTwo md (40 + N))) (h := (mThr md (40 + N))) (pat := (mPat md)) (ps := (ps3 (mPs md) N)) (pC := (md.2.2.2.1.2.2.2.2.2.1 N)) (pD := (md.2.2.2.1.2.2.2.2.2.2 N)) (b := b1) (e := e1) hF H g1b g1c (lo := 0) (hi := 999999) (by omega) (by omega)
  have tw' : f6_takeWhole F (nI 0) (nI 999999) (mO md N 8 b1 e1) = _ := tw
  have ex : ∃ X, f6_readRow F md = tailF F (nI 8) X ∧ (match ff [(btw (whw t b1 e1) 0 999999, b1), (ptw t b2' e2, b2')] with
      | some p => Fl (mS md N 8) N X p
      | none => X = mX (mS md N 8) N (mNC md (40 + N)) (mND md (40 + N)) (nI (gz (whw t b1 e1))) (mTwo md (40 + N)) (mThr md (40 + N)) (wrP (mPat md) t (16 * (3 * (40 + N))) b2' (e2 - b2')) (upd (ps3 (mPs md) N) (3 * (40 + N)) (nI (e2 - b2'))) (md.2.2.2.1.2.2.2.2.2.1 N) (md.2.2.2.1.2.2.2.2.2.2 N) b3 e3 (nI 1)) := by
    cases h1 : btw (whw t b1 e1) 0 999999 with
    | false =>
      rw [ff_f]
      rw [h1, mXt0] at tw'
      refine ⟨mX (mS md N 8) N (mNC md (40 + N)) (mND md (40 + N)) (pI (whw t b1 e1)) (mTwo md (40 + N)) (mThr md (40 + N)) (mPat md) (ps3 (mPs md) N) (md.2.2.2.1.2.2.2.2.2.1 N) (md.2.2.2.1.2.2.2.2.2.2 N) b1 e1 (nI 0), ?_, ⟨_, _, _, _, _, _, _, _, _, _, rfl, (fun i _ => rfl), fs⟩⟩
      unfold f6_readRow tailF
      unfold mX at tw' ⊢
      simp (disch := omega) only [li, ↓lim1, ↓bnd_m, ↓grd_m, ↓jn_e, ↓cas_m, ↓oc_m, inb_t, nI_add, pk_mul, sub_e, le_t, le_f, lt_t, lt_f, eq_t, eq_f, cl_e, m1_e, m1_e', m1_lt, m1_le, m1_m1, lt_m1, ↓reduceIte, Nat.add_zero, Nat.zero_add, wn, sr', hnr, tk', u1, lp, tw', upd_uu]
    | true =>
      rw [ff_t]
      obtain ⟨v1, q1, l1, u1'⟩ := btw_some h1
      have pv : pI (some v1) = nI v1 := rfl
      have gv : gz (some v1) = v1 := rfl
      rw [h1, mXt1, ← hb2, ← he2, q1, pv] at tw'
      rw [q1, gv]
      have tp2 := takePattern_x (md := mS md N 8) (N := N) (c := (mNC md (40 + N))) (d := (mND md (40 + N))) (o := nI v1) (w := (mTwo md (40 + N))) (h := (mThr md (40 + N))) (pat := (mPat md)) (ps := (ps3 (mPs md) N)) (pC := (md.2.2.2.1.2.2.2.2.2.1 N)) (pD := (md.2.2.2.1.2.2.2.2.2.2 N)) (b := b2') (e := e2) hF H g2b g2c hN (s := 0) (by omega) false
      rw [Nat.add_zero, b2_f] at tp2
      have e5' : pto t b2' e2 false = ptw t b2' e2 := rfl
      rw [e5'] at tp2
      obtain ⟨X, hX⟩ : ∃ x, x = mXk (mS md N 8) N (mNC md (40 + N)) (mND md (40 + N)) (nI v1) (mTwo md (40 + N)) (mThr md (40 + N)) (wrP (mPat md) t (16 * (3 * (40 + N))) b2' (pnl t b2' e2)) (upd (ps3 (mPs md) N) (3 * (40 + N)) (nI (pnl t b2' e2))) (md.2.2.2.1.2.2.2.2.2.1 N) (md.2.2.2.1.2.2.2.2.2.2 N) t n b2' e2 (ptw t b2' e2) := ⟨_, rfl⟩
      rw [← hX] at tp2
      refine ⟨X, ?_, ?_⟩
      · unfold f6_readRow tailF
        unfold mX at tw' tp2
        simp (disch := omega) only [li, ↓lim1, ↓bnd_m, ↓grd_m, ↓jn_e, ↓cas_m, ↓oc_m, inb_t, nI_add, pk_mul, sub_e, le_t, le_f, lt_t, lt_f, eq_t, eq_f, cl_e, m1_e, m1_e', m1_lt, m1_le, m1_m1, lt_m1, ↓reduceIte, Nat.add_zero, Nat.zero_add, wn, sr', hnr, tk', u1, lp, tw', upd_uu, tp2]
      · cases h2 : ptw t b2' e2 with
        | false =>
          rw [ff_f]
          rw [h2, mXt0] at hX
          exact ⟨_, _, _, _, _, _, _, _, _, _, hX, (fun i hi => wrP_old _ _ (by omega)), (fun j hj => by rw [pk_un (by omega)]; exact fs j hj)⟩
        | true =>
          have e6 : pnl t b2' e2 = e2 - b2' := by unfold pnl; rw [if_pos h2]
          rw [h2, mXt1, ← hb3, ← he3, e6] at hX
          exact hX
  obtain ⟨X, rr, hX⟩ := ex
  cases hf : ff [(btw (whw t b1 e1) 0 999999, b1), (ptw t b2' e2, b2')] with
  | some p =>
    rw [ff_as hf]
    rw [hf] at hX
    exact ⟨X, by rw [rr]; exact tail_fail (fl_right hX), hX⟩
  | none =>
    rw [ff_an hf]
    rw [hf] at hX
    have tl := tail_ok (s := 8) hF H g3b g3c hnr hN hnc (fun h => by omega) hm (by omega) hX (fun i hi => wrP_old _ _ (by omega)) (fun j hj => by rw [pk_un (by omega)]; exact fs j hj)
    cases hg : ff [(smc t b3 e3, b3)] with
    | some p =>
      rw [hg] at tl
      obtain ⟨Y, y1, y2⟩ := tl
      exact ⟨Y, by rw [rr]; exact y1, y2⟩
    | none =>
      rw [hg] at tl
      rw [rr]
      exact tl
theorem mrow9 (hF : 5000 < F) (H : TpM md t n) (hb : md.2.2.2.1.1 = nI b0) (he : md.2.2.2.1.2.1 = nI e0) (hr : md.2.2.2.1.2.2.1 = nI 1) (hen : e0 ≤ n) (hnr : md.2.2.2.1.2.2.2.1 = nI N) (hN : N < 40) (hnc : md.2.2.2.1.2.2.2.2.1 = nI m) (hm : m ≤ 12) (hs : bnd (f6_wordName F md) (fun u => f6_sortOf F u) = some (nI 9))
    (hb1 : b1 = wb t n e0) (he1 : e1 = we t n b1) (hb2 : b2' = wb t n e1) (he2 : e2 = we t n b2') (hb3 : b3 = wb t n e2) (he3 : e3 = we t n b3) :
    match ff ([(btw (whw t b1 e1) 0 999999, b1), (ptw t b2' e2, b2')] ++ [(smc t b3 e3, b3)]) with
    | some p => ∃ X, f6_readRow F md = some X ∧ Fl (mS md N 9) N X p
    | none => f6_readRow F md = some (mFin (mX (mS md N 9) N (mNC md (40 + N)) (mND md (40 + N)) (nI (gz (whw t b1 e1))) (mTwo md (40 + N)) (mThr md (40 + N)) (wrP (mPat md) t (16 * (3 * (40 + N))) b2' (e2 - b2')) (upd (ps3 (mPs md) N) (3 * (40 + N)) (nI (e2 - b2'))) (md.2.2.2.1.2.2.2.2.2.1 N) (md.2.2.2.1.2.2.2.2.2.2 N) (wb t n e3) (we t n (wb t n e3)) (nI 1)) N m false) := by
  obtain ⟨g1a, g1b, g1c⟩ := w_ok (t := t) hen
  rw [← hb1, ← he1] at g1b g1c
  obtain ⟨g2a, g2b, g2c⟩ := w_ok (t := t) g1c
  rw [← hb2, ← he2] at g2b g2c
  obtain ⟨g3a, g3b, g3c⟩ := w_ok (t := t) g2c
  rw [← hb3, ← he3] at g3b g3c
  obtain ⟨w0, wn, sr⟩ := bnd_some hs
  have sr' : f6_sortOf F w0 = some (nI 9) := sr
  have tk := take_ok (b := b0) hF H hen hb he hr true
  rw [b2_t] at tk
  have tk' : f6_take F (nI 1) md = some (mW md (wb t n e0) (we t n (wb t n e0)) (nI 1)) := tk
  rw [← hb1, ← he1] at tk'
  obtain ⟨U, hU⟩ : ∃ x, x = mW md b1 e1 (nI 1) := ⟨_, rfl⟩
  rw [← hU] at tk'
  have u1 : U.2.2.2.1.2.2.1 = nI 1 := by rw [hU]; rfl
  have lp := rowLoop (s := 9) hF hnr hN hU
  have fs : ∀ j, j < 120 → ps3 (mPs md) N j = mPs md j := fun j hj => by unfold ps3; rw [pk_un (by omega), pk_un (by omega), pk_un (by omega)]
  have tw := takeWhole_x (md := mS md N 9) (N := N) (c := (mNC md (40 + N))) (d := (mND md (40 + N))) (o := nI 0) (w := (mTwo md (40 + N))) (h := (mThr md (40 + N))) (pat := (mPat md)) (ps := (ps3 (mPs md) N)) (pC := (md.2.2.2.1.2.2.2.2.2.1 N)) (pD := (md.2.2.2.1.2.2.2.2.2.2 N)) (b := b1) (e := e1) hF H g1b g1c (lo := 0) (hi := 999999) (by omega) (by omega)
  have tw' : f6_takeWhole F (nI 0) (nI 999999) (mO md N 9 b1 e1) = _ := tw
  have ex : ∃ X, f6_readRow F md = tailF F (nI 9) X ∧ (match ff [(btw (whw t b1 e1) 0 999999, b1), (ptw t b2' e2, b2')] with
      | some p => Fl (mS md N 9) N X p
      | none => X = mX (mS md N 9) N (mNC md (40 + N)) (mND md (40 + N)) (nI (gz (whw t b1 e1))) (mTwo md (40 + N)) (mThr md (40 + N)) (wrP (mPat md) t (16 * (3 * (40 + N))) b2' (e2 - b2')) (upd (ps3 (mPs md) N) (3 * (40 + N)) (nI (e2 - b2'))) (md.2.2.2.1.2.2.2.2.2.1 N) (md.2.2.2.1.2.2.2.2.2.2 N) b3 e3 (nI 1)) := by
    cases h1 : btw (whw t b1 e1) 0 999999 with
    | false =>
      rw [ff_f]
      rw [h1, mXt0] at tw'
      refine ⟨mX (mS md N 9) N (mNC md (40 + N)) (mND md (40 + N)) (pI (whw t b1 e1)) (mTwo md (40 + N)) (mThr md (40 + N)) (mPat md) (ps3 (mPs md) N) (md.2.2.2.1.2.2.2.2.2.1 N) (md.2.2.2.1.2.2.2.2.2.2 N) b1 e1 (nI 0), ?_, ⟨_, _, _, _, _, _, _, _, _, _, rfl, (fun i _ => rfl), fs⟩⟩
      unfold f6_readRow tailF
      unfold mX at tw' ⊢
      simp (disch := omega) only [li, ↓lim1, ↓bnd_m, ↓grd_m, ↓jn_e, ↓cas_m, ↓oc_m, inb_t, nI_add, pk_mul, sub_e, le_t, le_f, lt_t, lt_f, eq_t, eq_f, cl_e, m1_e, m1_e', m1_lt, m1_le, m1_m1, lt_m1, ↓reduceIte, Nat.add_zero, Nat.zero_add, wn, sr', hnr, tk', u1, lp, tw', upd_uu]
    | true =>
      rw [ff_t]
      obtain ⟨v1, q1, l1, u1'⟩ := btw_some h1
      have pv : pI (some v1) = nI v1 := rfl
      have gv : gz (some v1) = v1 := rfl
      rw [h1, mXt1, ← hb2, ← he2, q1, pv] at tw'
      rw [q1, gv]
      have tp2 := takePattern_x (md := mS md N 9) (N := N) (c := (mNC md (40 + N))) (d := (mND md (40 + N))) (o := nI v1) (w := (mTwo md (40 + N))) (h := (mThr md (40 + N))) (pat := (mPat md)) (ps := (ps3 (mPs md) N)) (pC := (md.2.2.2.1.2.2.2.2.2.1 N)) (pD := (md.2.2.2.1.2.2.2.2.2.2 N)) (b := b2') (e := e2) hF H g2b g2c hN (s := 0) (by omega) false
      rw [Nat.add_zero, b2_f] at tp2
      have e5' : pto t b2' e2 false = ptw t b2' e2 := rfl
      rw [e5'] at tp2
      obtain ⟨X, hX⟩ : ∃ x, x = mXk (mS md N 9) N (mNC md (40 + N)) (mND md (40 + N)) (nI v1) (mTwo md (40 + N)) (mThr md (40 + N)) (wrP (mPat md) t (16 * (3 * (40 + N))) b2' (pnl t b2' e2)) (upd (ps3 (mPs md) N) (3 * (40 + N)) (nI (pnl t b2' e2))) (md.2.2.2.1.2.2.2.2.2.1 N) (md.2.2.2.1.2.2.2.2.2.2 N) t n b2' e2 (ptw t b2' e2) := ⟨_, rfl⟩
      rw [← hX] at tp2
      refine ⟨X, ?_, ?_⟩
      · unfold f6_readRow tailF
        unfold mX at tw' tp2
        simp (disch := omega) only [li, ↓lim1, ↓bnd_m, ↓grd_m, ↓jn_e, ↓cas_m, ↓oc_m, inb_t, nI_add, pk_mul, sub_e, le_t, le_f, lt_t, lt_f, eq_t, eq_f, cl_e, m1_e, m1_e', m1_lt, m1_le, m1_m1, lt_m1, ↓reduceIte, Nat.add_zero, Nat.zero_add, wn, sr', hnr, tk', u1, lp, tw', upd_uu, tp2]
      · cases h2 : ptw t b2' e2 with
        | false =>
          rw [ff_f]
          rw [h2, mXt0] at hX
          exact ⟨_, _, _, _, _, _, _, _, _, _, hX, (fun i hi => wrP_old _ _ (by omega)), (fun j hj => by rw [pk_un (by omega)]; exact fs j hj)⟩
        | true =>
          have e6 : pnl t b2' e2 = e2 - b2' := by unfold pnl; rw [if_pos h2]
          rw [h2, mXt1, ← hb3, ← he3, e6] at hX
          exact hX
  obtain ⟨X, rr, hX⟩ := ex
  cases hf : ff [(btw (whw t b1 e1) 0 999999, b1), (ptw t b2' e2, b2')] with
  | some p =>
    rw [ff_as hf]
    rw [hf] at hX
    exact ⟨X, by rw [rr]; exact tail_fail (fl_right hX), hX⟩
  | none =>
    rw [ff_an hf]
    rw [hf] at hX
    have tl := tail_ok (s := 9) hF H g3b g3c hnr hN hnc (fun h => by omega) hm (by omega) hX (fun i hi => wrP_old _ _ (by omega)) (fun j hj => by rw [pk_un (by omega)]; exact fs j hj)
    cases hg : ff [(smc t b3 e3, b3)] with
    | some p =>
      rw [hg] at tl
      obtain ⟨Y, y1, y2⟩ := tl
      exact ⟨Y, by rw [rr]; exact y1, y2⟩
    | none =>
      rw [hg] at tl
      rw [rr]
      exact tl
end Mt
