/-! ===== the model's rows ===== -/
/-- the first that does not hold, by its place -/
def ff : List (Bool × Nat) → Option Nat
  | [] => none
  | (true, _) :: r => ff r
  | (false, p) :: _ => some p
theorem ff_t (p : Nat) (r : List (Bool × Nat)) : ff ((true, p) :: r) = ff r := rfl
theorem ff_f (p : Nat) (r : List (Bool × Nat)) : ff ((false, p) :: r) = some p := rfl
/-- the model at a fault -/
def Fl (md : T6) (N : Nat) (X : T6) (p : Nat) : Prop := ∃ c d o w h pat ps pC pD e, X = mX md N c d o w h pat ps pC pD p e (nI 0) ∧ (∀ i, i < 1920 → pat i = mPat md i) ∧ (∀ j, j < 120 → ps j = mPs md j)
theorem btw_some {q : Option Nat} {lo hi : Nat} (h : btw q lo hi = true) : ∃ v, q = some v ∧ lo ≤ v ∧ v ≤ hi := by
  cases q with
  | none => cases h
  | some v => exact ⟨v, rfl, of_decide_eq_true h⟩
def gz (q : Option Nat) : Nat := match q with
  | none => 0
  | some v => v
section Mr
variable {F n N m b e : Nat} {t cr ns nl : Nat → Nat} {tp : T4} {md : T6} {rd : T2} {sh : T3} {ck : T0}
variable {c d : Int64} {o w h : Int32} {pat ps : Nat → Int32} {pC pD : Int32}
theorem take_x0 : f6_take F (nI 0) (mX md N c d o w h pat ps pC pD b e (nI 0)) = some (mX md N c d o w h pat ps pC pD b e (nI 0)) := by
  have i0 : isB (nI 0) = true := by decide
  unfold f6_take mX
  simp (disch := omega) only [li, ↓lim1, ↓bnd_m, ↓grd_m, ↓jn_e, ↓cas_m, ↓oc_m, inb_t, nI_add, pk_mul, sub_e, le_t, le_f, lt_t, lt_f, eq_t, eq_f, cl_e, m1_e, m1_e', m1_lt, m1_le, m1_m1, lt_m1, ↓reduceIte, Nat.add_zero, Nat.zero_add, i0]
theorem mXt1 : mXk md N c d o w h pat ps pC pD t n b e true = mX md N c d o w h pat ps pC pD (wb t n e) (we t n (wb t n e)) (nI 1) := rfl
theorem mXt0 : mXk md N c d o w h pat ps pC pD t n b e false = mX md N c d o w h pat ps pC pD b e (nI 0) := rfl
theorem w_ok {e : Nat} (h : e ≤ n) : e ≤ wb t n e ∧ wb t n e ≤ we t n (wb t n e) ∧ we t n (wb t n e) ≤ n := by
  obtain ⟨a1, a2, a3⟩ := wb_spec t n e h
  obtain ⟨c1, c2, _⟩ := we_spec t n (wb t n e) a2 a3
  exact ⟨a1, c1, c2⟩
/-- the next two ends -/
abbrev eW (t : Nat → Nat) (n e : Nat) : Nat := we t n (wb t n e)
theorem readClock_x (hF : 5000 < F) (H : TpM md t n) {e0 : Nat} (he0 : e0 ≤ n) (hnr : md.2.2.2.1.2.2.2.1 = nI N) (hN : N < 40) (hnc : md.2.2.2.1.2.2.2.2.1 = nI m) (hm : m ≤ 12)
    {b1 e1 b2' e2 b3 e3 b4 e4 b5 e5 : Nat} (hb1 : b1 = wb t n e0) (he1 : e1 = we t n b1) (hb2 : b2' = wb t n e1) (he2 : e2 = we t n b2') (hb3 : b3 = wb t n e2) (he3 : e3 = we t n b3) (hb4 : b4 = wb t n e3) (he4 : e4 = we t n b4) (hb5 : b5 = wb t n e4) (he5 : e5 = we t n b5)
    (fp : ∀ i, i < 1920 → pat i = mPat md i) (fs : ∀ j, j < 120 → ps j = mPs md j)
    {q : Option Nat} (hq : nmw t b1 e1 = true → ∀ pC, f6_clockOf F (lN (nmc t b1 e1)) (mX md N c d o w h pat ps pC pD b1 e1 (nI 1)) = some (pI q)) (hq' : ∀ k, q = some k → k < 100) :
    ∃ X, f6_readClock F (nI (40 + N)) (mX md N c d o w h pat ps pC pD b1 e1 (nI 1)) = some X ∧
      (match ff [(nwo t b1 e1 m q, b1), (btw (whw t b2' e2) 1 999999, b2'), (btw (whw t b3 e3) 0 (gz (whw t b2' e2) - 1), b3), (btw (whw t b4 e4) 0 (gz (whw t b2' e2) - 1) && decide (¬ whw t b4 e4 = whw t b3 e3), b4), (ptw t b5 e5, b5)] with
        | some p => Fl md N X p
        | none => X = mX md N (lN (nmc t b1 e1)) d (nI (gz (whw t b2' e2))) (nI (gz (whw t b3 e3))) (nI (gz (whw t b4 e4))) (wrP pat t (16 * (3 * (40 + N))) b5 (e5 - b5)) (upd ps (3 * (40 + N)) (nI (e5 - b5))) (nI b1) pD (wb t n e5) (we t n (wb t n e5)) (nI 1)) := by
  obtain ⟨g1a, g1b, g1c⟩ := w_ok (t := t) he0
  rw [← hb1, ← he1] at g1b g1c
  obtain ⟨g2a, g2b, g2c⟩ := w_ok (t := t) g1c
  rw [← hb2, ← he2] at g2b g2c
  obtain ⟨g3a, g3b, g3c⟩ := w_ok (t := t) g2c
  rw [← hb3, ← he3] at g3b g3c
  obtain ⟨g4a, g4b, g4c⟩ := w_ok (t := t) g3c
  rw [← hb4, ← he4] at g4b g4c
  obtain ⟨g5a, g5b, g5c⟩ := w_ok (t := t) g4c
  rw [← hb5, ← he5] at g5b g5c
  have tn := takeNew_x (c := c) (pC := pC) hF H g1b g1c hnr hN hnc hm hq hq'
  unfold f6_readClock
  cases h1 : nwo t b1 e1 m q with
  | false =>
    rw [ff_f]
    rw [h1, mXt0] at tn
    have tk := fun c o w => take_x0 (F := F) (md := md) (N := N) (c := c) (d := d) (o := o) (w := w) (h := h) (pat := pat) (ps := ps) (pC := nI b1) (pD := pD) (b := b1) (e := e1)
    refine ⟨mX md N (lN (nmc t b1 e1)) d (nI 0) (nI 0) im1 pat ps (nI b1) pD b1 e1 (nI 0), ?_, ⟨_, _, _, _, _, _, _, _, _, _, rfl, fp, fs⟩⟩
    rw [bnd_e tn]
    unfold mX at tk ⊢
    simp (disch := omega) only [li, ↓lim1, ↓bnd_m, ↓grd_m, ↓jn_e, ↓cas_m, ↓oc_m, inb_t, nI_add, pk_mul, sub_e, le_t, le_f, lt_t, lt_f, eq_t, eq_f, cl_e, m1_e, m1_e', m1_lt, m1_le, m1_m1, lt_m1, ↓reduceIte, Nat.add_zero, Nat.zero_add, upd_uu, updL_uu, tk]
  | true =>
    rw [ff_t]
    rw [h1, mXt1, ← hb2, ← he2] at tn
    have tw2 := takeWhole_x (md := md) (N := N) (c := lN (nmc t b1 e1)) (d := d) (o := o) (w := w) (h := h) (pat := pat) (ps := ps) (pC := nI b1) (pD := pD) (b := b2') (e := e2) hF H g2b g2c (lo := 1) (hi := 999999) (by omega) (by omega)
    rw [bnd_e tn]
    cases h2 : btw (whw t b2' e2) 1 999999 with
    | false =>
      rw [ff_f]
      rw [h2, mXt0] at tw2
      have tk := fun o w => take_x0 (F := F) (md := md) (N := N) (c := lN (nmc t b1 e1)) (d := d) (o := o) (w := w) (h := h) (pat := pat) (ps := ps) (pC := nI b1) (pD := pD) (b := b2') (e := e2)
      refine ⟨mX md N (lN (nmc t b1 e1)) d (pI (whw t b2' e2)) (nI 0) im1 pat ps (nI b1) pD b2' e2 (nI 0), ?_, ⟨_, _, _, _, _, _, _, _, _, _, rfl, fp, fs⟩⟩
      unfold mX at tw2 tk ⊢
      simp (disch := omega) only [li, ↓lim1, ↓bnd_m, ↓grd_m, ↓jn_e, ↓cas_m, ↓oc_m, inb_t, nI_add, pk_mul, sub_e, le_t, le_f, lt_t, lt_f, eq_t, eq_f, cl_e, m1_e, m1_e', m1_lt, m1_le, m1_m1, lt_m1, ↓reduceIte, Nat.add_zero, Nat.zero_add, tw2, upd_uu, updL_uu, tk]
    | true =>
      rw [ff_t]
      obtain ⟨v2, q2, l2, u2⟩ := btw_some h2
      rw [h2, mXt1, ← hb3, ← he3, q2] at tw2
      rw [q2]
      have pv2 : pI (some v2) = nI v2 := rfl
      have gv2 : gz (some v2) = v2 := rfl
      rw [pv2] at tw2
      rw [gv2]
      have tw3 := takeWhole_x (md := md) (N := N) (c := lN (nmc t b1 e1)) (d := d) (o := nI v2) (w := w) (h := h) (pat := pat) (ps := ps) (pC := nI b1) (pD := pD) (b := b3) (e := e3) hF H g3b g3c (lo := 0) (hi := v2 - 1) (by omega) (by omega)
      cases h3 : btw (whw t b3 e3) 0 (v2 - 1) with
      | false =>
        rw [ff_f]
        rw [h3, mXt0] at tw3
        have tk := fun o w => take_x0 (F := F) (md := md) (N := N) (c := lN (nmc t b1 e1)) (d := d) (o := o) (w := w) (h := h) (pat := pat) (ps := ps) (pC := nI b1) (pD := pD) (b := b3) (e := e3)
        refine ⟨mX md N (lN (nmc t b1 e1)) d (nI v2) (pI (whw t b3 e3)) im1 pat ps (nI b1) pD b3 e3 (nI 0), ?_, ⟨_, _, _, _, _, _, _, _, _, _, rfl, fp, fs⟩⟩
        unfold mX at tw2 tw3 tk ⊢
        simp (disch := omega) only [li, ↓lim1, ↓bnd_m, ↓grd_m, ↓jn_e, ↓cas_m, ↓oc_m, inb_t, nI_add, pk_mul, sub_e, le_t, le_f, lt_t, lt_f, eq_t, eq_f, cl_e, m1_e, m1_e', m1_lt, m1_le, m1_m1, lt_m1, ↓reduceIte, Nat.add_zero, Nat.zero_add, tw2, tw3, pk_us, upd_uu, updL_uu, tk]
      | true =>
        rw [ff_t]
        obtain ⟨v3, q3, l3, u3⟩ := btw_some h3
        rw [h3, mXt1, ← hb4, ← he4, q3] at tw3
        rw [q3]
        have pv3 : pI (some v3) = nI v3 := rfl
        have gv3 : gz (some v3) = v3 := rfl
        rw [pv3] at tw3
        rw [gv3]
        have wh := whole_x (md := md) (N := N) (c := lN (nmc t b1 e1)) (d := d) (o := nI v2) (w := nI v3) (h := h) (pat := pat) (ps := ps) (pC := nI b1) (pD := pD) (b := b4) (e := e4) (r := nI 1) hF H g4b g4c
        have tk1 : ∀ h : Int32, f6_take F (nI 1) (mX md N (lN (nmc t b1 e1)) d (nI v2) (nI v3) h pat ps (nI b1) pD b4 e4 (nI 1)) = some (mX md N (lN (nmc t b1 e1)) d (nI v2) (nI v3) h pat ps (nI b1) pD b5 e5 (nI 1)) := fun h => by rw [hb5] at he5; rw [hb5, he5]; exact take_x hF H g4c true
        have tk0 : ∀ h : Int32, f6_take F (nI 0) (mX md N (lN (nmc t b1 e1)) d (nI v2) (nI v3) h pat ps (nI b1) pD b4 e4 (nI 1)) = some (mX md N (lN (nmc t b1 e1)) d (nI v2) (nI v3) h pat ps (nI b1) pD b4 e4 (nI 0)) := fun h => take_x hF H g4c false
        cases h4 : btw (whw t b4 e4) 0 (v2 - 1) && decide (¬ whw t b4 e4 = some v3) with
        | false =>
          rw [ff_f]
          refine ⟨mX md N (lN (nmc t b1 e1)) d (nI v2) (nI v3) (pI (whw t b4 e4)) pat ps (nI b1) pD b4 e4 (nI 0), ?_, ⟨_, _, _, _, _, _, _, _, _, _, rfl, fp, fs⟩⟩
          cases q4 : whw t b4 e4 with
          | none =>
            rw [q4] at wh
            have pn : pI none = im1 := rfl
            rw [pn] at wh
            rw [pn]
            unfold mX at tw2 tw3 wh tk0 ⊢
            simp (disch := omega) only [li, ↓lim1, ↓bnd_m, ↓grd_m, ↓jn_e, ↓cas_m, ↓oc_m, inb_t, nI_add, pk_mul, sub_e, le_t, le_f, lt_t, lt_f, eq_t, eq_f, cl_e, m1_e, m1_e', m1_lt, m1_le, m1_m1, lt_m1, ↓reduceIte, Nat.add_zero, Nat.zero_add, tw2, tw3, wh, pk_us, upd_uu, updL_uu, tk0]
          | some v4 =>
            have hv4 := (whw_spec q4).2.2.2.2.2
            rw [q4] at wh h4
            have pv4 : pI (some v4) = nI v4 := rfl
            rw [pv4] at wh
            rw [pv4]
            unfold mX at tw2 tw3 wh tk0 ⊢
            by_cases c1 : v2 ≤ v4
            · simp (disch := omega) only [li, ↓lim1, ↓bnd_m, ↓grd_m, ↓jn_e, ↓cas_m, ↓oc_m, inb_t, nI_add, pk_mul, sub_e, le_t, le_f, lt_t, lt_f, eq_t, eq_f, cl_e, m1_e, m1_e', m1_lt, m1_le, m1_m1, lt_m1, ↓reduceIte, Nat.add_zero, Nat.zero_add, tw2, tw3, wh, pk_us, upd_uu, updL_uu, tk0]
            · have c2 : v4 = v3 := by
                have b1' : btw (some v4) 0 (v2 - 1) = true := decide_eq_true ⟨by omega, by omega⟩
                rw [b1', Bool.true_and] at h4
                have := of_decide_eq_false h4
                by_cases c3 : v4 = v3
                · exact c3
                · exact absurd (fun h => c3 (Option.some.inj h)) this
              simp (disch := omega) only [li, ↓lim1, ↓bnd_m, ↓grd_m, ↓jn_e, ↓cas_m, ↓oc_m, inb_t, nI_add, pk_mul, sub_e, le_t, le_f, lt_t, lt_f, eq_t, eq_f, cl_e, m1_e, m1_e', m1_lt, m1_le, m1_m1, lt_m1, ↓reduceIte, Nat.add_zero, Nat.zero_add, tw2, tw3, wh, pk_us, upd_uu, updL_uu, tk0]
        | true =>
          rw [ff_t]
          rw [Bool.and_eq_true] at h4
          obtain ⟨v4, q4, l4, u4⟩ := btw_some h4.1
          have n4 : ¬ v4 = v3 := fun h => of_decide_eq_true h4.2 (by rw [q4, h])
          rw [q4] at wh
          rw [q4]
          have pv4 : pI (some v4) = nI v4 := rfl
          have gv4 : gz (some v4) = v4 := rfl
          rw [pv4] at wh
          rw [gv4]
          have tp5 := takePattern_x (md := md) (N := N) (c := lN (nmc t b1 e1)) (d := d) (o := nI v2) (w := nI v3) (h := nI v4) (pat := pat) (ps := ps) (pC := nI b1) (pD := pD) (b := b5) (e := e5) hF H g5b g5c hN (s := 0) (by omega) false
          rw [Nat.add_zero, b2_f] at tp5
          have e5' : pto t b5 e5 false = ptw t b5 e5 := rfl
          rw [e5'] at tp5
          cases h5 : ptw t b5 e5 with
          | false =>
            rw [ff_f]
            rw [h5, mXt0] at tp5
            refine ⟨_, ?_, ⟨lN (nmc t b1 e1), d, nI v2, nI v3, nI v4, wrP pat t (16 * (3 * (40 + N))) b5 (pnl t b5 e5), upd ps (3 * (40 + N)) (nI (pnl t b5 e5)), nI b1, pD, e5, rfl, fun i hi => by rw [wrP_old _ _ (by omega)]; exact fp i hi, fun j hj => by rw [pk_un (by omega)]; exact fs j hj⟩⟩
            unfold mX at tw2 tw3 wh tk1 tp5 ⊢
            simp (disch := omega) only [li, ↓lim1, ↓bnd_m, ↓grd_m, ↓jn_e, ↓cas_m, ↓oc_m, inb_t, nI_add, pk_mul, sub_e, le_t, le_f, lt_t, lt_f, eq_t, eq_f, cl_e, m1_e, m1_e', m1_lt, m1_le, m1_m1, lt_m1, ↓reduceIte, Nat.add_zero, Nat.zero_add, tw2, tw3, wh, pk_us, upd_uu, updL_uu, tk1, tp5]
          | true =>
            rw [h5, mXt1] at tp5
            have e6 : pnl t b5 e5 = e5 - b5 := by unfold pnl; rw [if_pos h5]
            rw [e6] at tp5
            refine ⟨_, ?_, rfl⟩
            unfold mX at tw2 tw3 wh tk1 tp5 ⊢
            simp (disch := omega) only [li, ↓lim1, ↓bnd_m, ↓grd_m, ↓jn_e, ↓cas_m, ↓oc_m, inb_t, nI_add, pk_mul, sub_e, le_t, le_f, lt_t, lt_f, eq_t, eq_f, cl_e, m1_e, m1_e', m1_lt, m1_le, m1_m1, lt_m1, ↓reduceIte, Nat.add_zero, Nat.zero_add, tw2, tw3, wh, pk_us, upd_uu, updL_uu, tk1, tp5]
theorem readDerived_x (hF : 5000 < F) (H : TpM md t n) {e0 : Nat} (he0 : e0 ≤ n) (hnr : md.2.2.2.1.2.2.2.1 = nI N) (hN : N < 40) (hnc : md.2.2.2.1.2.2.2.2.1 = nI m) (hm : m ≤ 12)
    {b1 e1 b2' e2 b3 e3 b4 e4 b5 e5 : Nat} (hb1 : b1 = wb t n e0) (he1 : e1 = we t n b1) (hb2 : b2' = wb t n e1) (he2 : e2 = we t n b2') (hb3 : b3 = wb t n e2) (he3 : e3 = we t n b3) (hb4 : b4 = wb t n e3) (he4 : e4 = we t n b4) (hb5 : b5 = wb t n e4) (he5 : e5 = we t n b5)
    (fp : ∀ i, i < 1920 → pat i = mPat md i) (fs : ∀ j, j < 120 → ps j = mPs md j)
    {q : Option Nat} (hq : nmw t b1 e1 = true → ∀ pC, f6_clockOf F (lN (nmc t b1 e1)) (mX md N c d o w h pat ps pC pD b1 e1 (nI 1)) = some (pI q)) (hq' : ∀ k, q = some k → k < 100) :
    ∃ X, f6_readDerived F (nI (40 + N)) (mX md N c d o w h pat ps pC pD b1 e1 (nI 1)) = some X ∧
      (match ff [(nwo t b1 e1 m q, b1), (nmw t b2' e2, b2'), (btw (whw t b3 e3) 1 1000, b3), (btw (whw t b4 e4) 1 1000, b4), (ptw t b5 e5, b5)] with
        | some p => Fl md N X p
        | none => X = mX md N (lN (nmc t b1 e1)) (lN (nmc t b2' e2)) (nI (gz (whw t b3 e3))) (nI (gz (whw t b4 e4))) h (wrP pat t (16 * (3 * (40 + N))) b5 (e5 - b5)) (upd ps (3 * (40 + N)) (nI (e5 - b5))) (nI b1) (nI b2') (wb t n e5) (we t n (wb t n e5)) (nI 1)) := by
  obtain ⟨g1a, g1b, g1c⟩ := w_ok (t := t) he0
  rw [← hb1, ← he1] at g1b g1c
  obtain ⟨g2a, g2b, g2c⟩ := w_ok (t := t) g1c
  rw [← hb2, ← he2] at g2b g2c
  obtain ⟨g3a, g3b, g3c⟩ := w_ok (t := t) g2c
  rw [← hb3, ← he3] at g3b g3c
  obtain ⟨g4a, g4b, g4c⟩ := w_ok (t := t) g3c
  rw [← hb4, ← he4] at g4b g4c
  obtain ⟨g5a, g5b, g5c⟩ := w_ok (t := t) g4c
  rw [← hb5, ← he5] at g5b g5c
  have tn := takeNew_x (c := c) (pC := pC) hF H g1b g1c hnr hN hnc hm hq hq'
  unfold f6_readDerived
  cases h1 : nwo t b1 e1 m q with
  | false =>
    rw [ff_f]
    rw [h1, mXt0] at tn
    refine ⟨mX md N (lN (nmc t b1 e1)) d (nI 0) (nI 0) h pat ps (nI b1) pD b1 e1 (nI 0), ?_, ⟨_, _, _, _, _, _, _, _, _, _, rfl, fp, fs⟩⟩
    rw [bnd_e tn]
    unfold mX
    simp (disch := omega) only [li, ↓lim1, ↓bnd_m, ↓grd_m, ↓jn_e, ↓cas_m, ↓oc_m, inb_t, nI_add, pk_mul, sub_e, le_t, le_f, lt_t, lt_f, eq_t, eq_f, cl_e, m1_e, m1_e', m1_lt, m1_le, m1_m1, lt_m1, ↓reduceIte, Nat.add_zero, Nat.zero_add, upd_uu, updL_uu]
  | true =>
    rw [ff_t]
    rw [h1, mXt1, ← hb2, ← he2] at tn
    have to2 := takeOld_x (md := md) (N := N) (c := lN (nmc t b1 e1)) (d := d) (o := o) (w := w) (h := h) (pat := pat) (ps := ps) (pC := nI b1) (pD := pD) (b := b2') (e := e2) hF H g2b g2c hnr hN false
    rw [if_neg (by decide), b2_f] at to2
    rw [bnd_e tn]
    cases h2 : nmw t b2' e2 with
    | false =>
      rw [ff_f]
      rw [h2, mXt0] at to2
      refine ⟨mX md N (lN (nmc t b1 e1)) (lN (nmc t b2' e2)) (nI 0) (nI 0) h pat ps (nI b1) (nI b2') b2' e2 (nI 0), ?_, ⟨_, _, _, _, _, _, _, _, _, _, rfl, fp, fs⟩⟩
      unfold mX at to2 ⊢
      simp (disch := omega) only [li, ↓lim1, ↓bnd_m, ↓grd_m, ↓jn_e, ↓cas_m, ↓oc_m, inb_t, nI_add, pk_mul, sub_e, le_t, le_f, lt_t, lt_f, eq_t, eq_f, cl_e, m1_e, m1_e', m1_lt, m1_le, m1_m1, lt_m1, ↓reduceIte, Nat.add_zero, Nat.zero_add, to2, upd_uu, updL_uu]
    | true =>
      rw [ff_t]
      rw [h2, mXt1, ← hb3, ← he3] at to2
      have tw3 := takeWhole_x (md := md) (N := N) (c := lN (nmc t b1 e1)) (d := lN (nmc t b2' e2)) (o := o) (w := w) (h := h) (pat := pat) (ps := ps) (pC := nI b1) (pD := nI b2') (b := b3) (e := e3) hF H g3b g3c (lo := 1) (hi := 1000) (by omega) (by omega)
      cases h3 : btw (whw t b3 e3) 1 1000 with
      | false =>
        rw [ff_f]
        rw [h3, mXt0] at tw3
        refine ⟨mX md N (lN (nmc t b1 e1)) (lN (nmc t b2' e2)) (pI (whw t b3 e3)) (nI 0) h pat ps (nI b1) (nI b2') b3 e3 (nI 0), ?_, ⟨_, _, _, _, _, _, _, _, _, _, rfl, fp, fs⟩⟩
        unfold mX at to2 tw3 ⊢
        simp (disch := omega) only [li, ↓lim1, ↓bnd_m, ↓grd_m, ↓jn_e, ↓cas_m, ↓oc_m, inb_t, nI_add, pk_mul, sub_e, le_t, le_f, lt_t, lt_f, eq_t, eq_f, cl_e, m1_e, m1_e', m1_lt, m1_le, m1_m1, lt_m1, ↓reduceIte, Nat.add_zero, Nat.zero_add, to2, tw3, pk_us, upd_uu, updL_uu]
      | true =>
        rw [ff_t]
        obtain ⟨v3, q3, l3, u3⟩ := btw_some h3
        rw [h3, mXt1, ← hb4, ← he4, q3] at tw3
        rw [q3]
        have pv3 : pI (some v3) = nI v3 := rfl
        have gv3 : gz (some v3) = v3 := rfl
        rw [pv3] at tw3
        rw [gv3]
        have tw4 := takeWhole_x (md := md) (N := N) (c := lN (nmc t b1 e1)) (d := lN (nmc t b2' e2)) (o := nI v3) (w := w) (h := h) (pat := pat) (ps := ps) (pC := nI b1) (pD := nI b2') (b := b4) (e := e4) hF H g4b g4c (lo := 1) (hi := 1000) (by omega) (by omega)
        cases h4 : btw (whw t b4 e4) 1 1000 with
        | false =>
          rw [ff_f]
          rw [h4, mXt0] at tw4
          refine ⟨mX md N (lN (nmc t b1 e1)) (lN (nmc t b2' e2)) (nI v3) (pI (whw t b4 e4)) h pat ps (nI b1) (nI b2') b4 e4 (nI 0), ?_, ⟨_, _, _, _, _, _, _, _, _, _, rfl, fp, fs⟩⟩
          unfold mX at to2 tw3 tw4 ⊢
          simp (disch := omega) only [li, ↓lim1, ↓bnd_m, ↓grd_m, ↓jn_e, ↓cas_m, ↓oc_m, inb_t, nI_add, pk_mul, sub_e, le_t, le_f, lt_t, lt_f, eq_t, eq_f, cl_e, m1_e, m1_e', m1_lt, m1_le, m1_m1, lt_m1, ↓reduceIte, Nat.add_zero, Nat.zero_add, to2, tw3, tw4, pk_us, upd_uu, updL_uu]
        | true =>
          rw [ff_t]
          obtain ⟨v4, q4, l4, u4⟩ := btw_some h4
          rw [h4, mXt1, ← hb5, ← he5, q4] at tw4
          rw [q4]
          have pv4 : pI (some v4) = nI v4 := rfl
          have gv4 : gz (some v4) = v4 := rfl
          rw [pv4] at tw4
          rw [gv4]
          have tp5 := takePattern_x (md := md) (N := N) (c := lN (nmc t b1 e1)) (d := lN (nmc t b2' e2)) (o := nI v3) (w := nI v4) (h := h) (pat := pat) (ps := ps) (pC := nI b1) (pD := nI b2') (b := b5) (e := e5) hF H g5b g5c hN (s := 0) (by omega) false
          rw [Nat.add_zero, b2_f] at tp5
          have e5' : pto t b5 e5 false = ptw t b5 e5 := rfl
          rw [e5'] at tp5
          cases h5 : ptw t b5 e5 with
          | false =>
            rw [ff_f]
            rw [h5, mXt0] at tp5
            refine ⟨_, ?_, ⟨lN (nmc t b1 e1), lN (nmc t b2' e2), nI v3, nI v4, h, wrP pat t (16 * (3 * (40 + N))) b5 (pnl t b5 e5), upd ps (3 * (40 + N)) (nI (pnl t b5 e5)), nI b1, nI b2', e5, rfl, fun i hi => by rw [wrP_old _ _ (by omega)]; exact fp i hi, fun j hj => by rw [pk_un (by omega)]; exact fs j hj⟩⟩
            unfold mX at to2 tw3 tw4 tp5 ⊢
            simp (disch := omega) only [li, ↓lim1, ↓bnd_m, ↓grd_m, ↓jn_e, ↓cas_m, ↓oc_m, inb_t, nI_add, pk_mul, sub_e, le_t, le_f, lt_t, lt_f, eq_t, eq_f, cl_e, m1_e, m1_e', m1_lt, m1_le, m1_m1, lt_m1, ↓reduceIte, Nat.add_zero, Nat.zero_add, to2, tw3, tw4, pk_us, upd_uu, updL_uu, tp5]
          | true =>
            rw [h5, mXt1] at tp5
            have e6 : pnl t b5 e5 = e5 - b5 := by unfold pnl; rw [if_pos h5]
            rw [e6] at tp5
            refine ⟨_, ?_, rfl⟩
            unfold mX at to2 tw3 tw4 tp5 ⊢
            simp (disch := omega) only [li, ↓lim1, ↓bnd_m, ↓grd_m, ↓jn_e, ↓cas_m, ↓oc_m, inb_t, nI_add, pk_mul, sub_e, le_t, le_f, lt_t, lt_f, eq_t, eq_f, cl_e, m1_e, m1_e', m1_lt, m1_le, m1_m1, lt_m1, ↓reduceIte, Nat.add_zero, Nat.zero_add, to2, tw3, tw4, pk_us, upd_uu, updL_uu, tp5]
/-- a path's three words -/
def c3o (t : Nat → Nat) (b1 e1 b2' e2 b3 e3 : Nat) : Bool := pto t b3 e3 (decide (0 < pnl t b1 e1 + pnl t b2' e2))
theorem pnl_le (t : Nat → Nat) (b e : Nat) : pnl t b e ≤ 16 := by
  unfold pnl
  by_cases hp : ptw t b e = true
  · rw [if_pos hp]
    unfold ptw at hp
    rw [Bool.and_eq_true] at hp
    have := of_decide_eq_true hp.1
    omega
  · rw [if_neg hp]; omega
theorem readException_x (hF : 5000 < F) (H : TpM md t n) {e0 : Nat} (he0 : e0 ≤ n) (hN : N < 40)
    {b1 e1 b2' e2 b3 e3 : Nat} (hb1 : b1 = wb t n e0) (he1 : e1 = we t n b1) (hb2 : b2' = wb t n e1) (he2 : e2 = we t n b2') (hb3 : b3 = wb t n e2) (he3 : e3 = we t n b3)
    (fp : ∀ i, i < 1920 → pat i = mPat md i) (fs : ∀ j, j < 120 → ps j = mPs md j) :
    ∃ X, f6_readException F (nI (40 + N)) (mX md N c d o w h pat ps pC pD b1 e1 (nI 1)) = some X ∧
      (match ff [(pto t b1 e1 true, b1), (pto t b2' e2 true, b2'), (c3o t b1 e1 b2' e2 b3 e3, b3)] with
        | some p => Fl md N X p
        | none => X = mX md N c d o w h (wrP (wrP (wrP pat t (16 * (3 * (40 + N))) b1 (pnl t b1 e1)) t (16 * (3 * (40 + N) + 1)) b2' (pnl t b2' e2)) t (16 * (3 * (40 + N) + 2)) b3 (pnl t b3 e3)) (upd (upd (upd ps (3 * (40 + N)) (nI (pnl t b1 e1))) (3 * (40 + N) + 1) (nI (pnl t b2' e2))) (3 * (40 + N) + 2) (nI (pnl t b3 e3))) pC pD (wb t n e3) (we t n (wb t n e3)) (nI 1)) := by
  obtain ⟨g1a, g1b, g1c⟩ := w_ok (t := t) he0
  rw [← hb1, ← he1] at g1b g1c
  obtain ⟨g2a, g2b, g2c⟩ := w_ok (t := t) g1c
  rw [← hb2, ← he2] at g2b g2c
  obtain ⟨g3a, g3b, g3c⟩ := w_ok (t := t) g2c
  rw [← hb3, ← he3] at g3b g3c
  have L1 := pnl_le t b1 e1
  have L2 := pnl_le t b2' e2
  obtain ⟨G, hG⟩ : ∃ G, F = G + 1 + 1 + 1 + 1 := ⟨F - 4, by omega⟩
  have tp1 := takePattern_x (md := md) (N := N) (c := c) (d := d) (o := o) (w := w) (h := h) (pat := pat) (ps := ps) (pC := pC) (pD := pD) (b := b1) (e := e1) hF H g1b g1c hN (s := 0) (by omega) true
  rw [Nat.add_zero, b2_t] at tp1
  -- the loop stops at a fault
  have stop : ∀ (k : Nat) (G : Nat) (Y : T6), k < 4 → Y.2.2.2.1.2.2.1 = nI 0 → iter (f6_readException_L2 F (nI (40 + N))) (G + 1) (nI k, Y) = some Y := by
    intro k G Y hk hr
    apply iter_stop
    unfold f6_readException_L2
    by_cases c3 : 3 ≤ k
    · simp (disch := omega) only [li, ↓lim1, ↓bnd_m, ↓grd_m, ↓jn_e, ↓cas_m, ↓oc_m, inb_t, nI_add, pk_mul, sub_e, le_t, le_f, lt_t, lt_f, eq_t, eq_f, cl_e, m1_e, m1_e', m1_lt, m1_le, m1_m1, lt_m1, ↓reduceIte, Nat.add_zero, Nat.zero_add]
    · simp (disch := omega) only [li, ↓lim1, ↓bnd_m, ↓grd_m, ↓jn_e, ↓cas_m, ↓oc_m, inb_t, nI_add, pk_mul, sub_e, le_t, le_f, lt_t, lt_f, eq_t, eq_f, cl_e, m1_e, m1_e', m1_lt, m1_le, m1_m1, lt_m1, ↓reduceIte, Nat.add_zero, Nat.zero_add, hr]
  unfold f6_readException
  cases h1 : pto t b1 e1 true with
  | false =>
    rw [ff_f]
    rw [h1, mXt0] at tp1
    refine ⟨_, ?_, ⟨c, d, o, w, h, wrP pat t (16 * (3 * (40 + N))) b1 (pnl t b1 e1), upd ps (3 * (40 + N)) (nI (pnl t b1 e1)), pC, pD, e1, rfl, fun i hi => by rw [wrP_old _ _ (by omega)]; exact fp i hi, fun j hj => by rw [pk_un (by omega)]; exact fs j hj⟩⟩
    have k1 : iter (f6_readException_L2 F (nI (40 + N))) F (nI 0, mX md N c d o w h pat ps pC pD b1 e1 (nI 1)) = some (mX md N c d o w h (wrP pat t (16 * (3 * (40 + N))) b1 (pnl t b1 e1)) (upd ps (3 * (40 + N)) (nI (pnl t b1 e1))) pC pD b1 e1 (nI 0)) := by
      conv => lhs; arg 2; rw [hG]
      rw [iter_step (y := (nI 1, mX md N c d o w h (wrP pat t (16 * (3 * (40 + N))) b1 (pnl t b1 e1)) (upd ps (3 * (40 + N)) (nI (pnl t b1 e1))) pC pD b1 e1 (nI 0))), stop 1 _ _ (by omega) rfl]
      unfold f6_readException_L2
      unfold mX at tp1 ⊢
      simp (disch := omega) only [li, ↓lim1, ↓bnd_m, ↓grd_m, ↓jn_e, ↓cas_m, ↓oc_m, inb_t, nI_add, pk_mul, sub_e, le_t, le_f, lt_t, lt_f, eq_t, eq_f, cl_e, m1_e, m1_e', m1_lt, m1_le, m1_m1, lt_m1, ↓reduceIte, Nat.add_zero, Nat.zero_add, tp1]
    have k1' : iter (f6_readException_L2 F (nI (40 + N))) F ((0 : Int32), mX md N c d o w h pat ps pC pD b1 e1 (nI 1)) = _ := k1
    rw [bnd_e k1']
  | true =>
    rw [ff_t]
    rw [h1, mXt1, ← hb2, ← he2] at tp1
    have s1 : f6_readException_L2 F (nI (40 + N)) (nI 0, mX md N c d o w h pat ps pC pD b1 e1 (nI 1)) = some (.inl (nI 1, mX md N c d o w h (wrP pat t (16 * (3 * (40 + N))) b1 (pnl t b1 e1)) (upd ps (3 * (40 + N)) (nI (pnl t b1 e1))) pC pD b2' e2 (nI 1))) := by
      unfold f6_readException_L2
      unfold mX at tp1 ⊢
      simp (disch := omega) only [li, ↓lim1, ↓bnd_m, ↓grd_m, ↓jn_e, ↓cas_m, ↓oc_m, inb_t, nI_add, pk_mul, sub_e, le_t, le_f, lt_t, lt_f, eq_t, eq_f, cl_e, m1_e, m1_e', m1_lt, m1_le, m1_m1, lt_m1, ↓reduceIte, Nat.add_zero, Nat.zero_add, tp1]
    have tp2 := takePattern_x (md := md) (N := N) (c := c) (d := d) (o := o) (w := w) (h := h) (pat := wrP pat t (16 * (3 * (40 + N))) b1 (pnl t b1 e1)) (ps := upd ps (3 * (40 + N)) (nI (pnl t b1 e1))) (pC := pC) (pD := pD) (b := b2') (e := e2) hF H g2b g2c hN (s := 1) (by omega) true
    rw [b2_t] at tp2
    obtain ⟨pat1, hp1⟩ : ∃ x, x = wrP pat t (16 * (3 * (40 + N))) b1 (pnl t b1 e1) := ⟨_, rfl⟩
    obtain ⟨ps1, hs1⟩ : ∃ x, x = upd ps (3 * (40 + N)) (nI (pnl t b1 e1)) := ⟨_, rfl⟩
    have fp1 : ∀ i, i < 1920 → pat1 i = mPat md i := fun i hi => by rw [hp1, wrP_old _ _ (by omega)]; exact fp i hi
    have fs1 : ∀ j, j < 120 → ps1 j = mPs md j := fun j hj => by rw [hs1, pk_un (by omega)]; exact fs j hj
    have v1 : ps1 (3 * (40 + N)) = nI (pnl t b1 e1) := by rw [hs1, pk_us]
    rw [← hp1, ← hs1] at s1 tp2 ⊢
    cases h2 : pto t b2' e2 true with
    | false =>
      rw [ff_f]
      rw [h2, mXt0] at tp2
      refine ⟨_, ?_, ⟨c, d, o, w, h, wrP pat1 t (16 * (3 * (40 + N) + 1)) b2' (pnl t b2' e2), upd ps1 (3 * (40 + N) + 1) (nI (pnl t b2' e2)), pC, pD, e2, rfl, fun i hi => by rw [wrP_old _ _ (by omega)]; exact fp1 i hi, fun j hj => by rw [pk_un (by omega)]; exact fs1 j hj⟩⟩
      have k1 : iter (f6_readException_L2 F (nI (40 + N))) F (nI 0, mX md N c d o w h pat ps pC pD b1 e1 (nI 1)) = some (mX md N c d o w h (wrP pat1 t (16 * (3 * (40 + N) + 1)) b2' (pnl t b2' e2)) (upd ps1 (3 * (40 + N) + 1) (nI (pnl t b2' e2))) pC pD b2' e2 (nI 0)) := by
        conv => lhs; arg 2; rw [hG]
        rw [iter_step s1, iter_step (y := (nI 2, mX md N c d o w h (wrP pat1 t (16 * (3 * (40 + N) + 1)) b2' (pnl t b2' e2)) (upd ps1 (3 * (40 + N) + 1) (nI (pnl t b2' e2))) pC pD b2' e2 (nI 0))), stop 2 _ _ (by omega) rfl]
        unfold f6_readException_L2
        unfold mX at tp2 ⊢
        simp (disch := omega) only [li, ↓lim1, ↓bnd_m, ↓grd_m, ↓jn_e, ↓cas_m, ↓oc_m, inb_t, nI_add, pk_mul, sub_e, le_t, le_f, lt_t, lt_f, eq_t, eq_f, cl_e, m1_e, m1_e', m1_lt, m1_le, m1_m1, lt_m1, ↓reduceIte, Nat.add_zero, Nat.zero_add, tp2]
      have k1' : iter (f6_readException_L2 F (nI (40 + N))) F ((0 : Int32), mX md N c d o w h pat ps pC pD b1 e1 (nI 1)) = _ := k1
      rw [bnd_e k1']
    | true =>
      rw [ff_t]
      rw [h2, mXt1, ← hb3, ← he3] at tp2
      have s2 : f6_readException_L2 F (nI (40 + N)) (nI 1, mX md N c d o w h pat1 ps1 pC pD b2' e2 (nI 1)) = some (.inl (nI 2, mX md N c d o w h (wrP pat1 t (16 * (3 * (40 + N) + 1)) b2' (pnl t b2' e2)) (upd ps1 (3 * (40 + N) + 1) (nI (pnl t b2' e2))) pC pD b3 e3 (nI 1))) := by
        unfold f6_readException_L2
        unfold mX at tp2 ⊢
        simp (disch := omega) only [li, ↓lim1, ↓bnd_m, ↓grd_m, ↓jn_e, ↓cas_m, ↓oc_m, inb_t, nI_add, pk_mul, sub_e, le_t, le_f, lt_t, lt_f, eq_t, eq_f, cl_e, m1_e, m1_e', m1_lt, m1_le, m1_m1, lt_m1, ↓reduceIte, Nat.add_zero, Nat.zero_add, tp2]
      obtain ⟨pat2, hp2⟩ : ∃ x, x = wrP pat1 t (16 * (3 * (40 + N) + 1)) b2' (pnl t b2' e2) := ⟨_, rfl⟩
      obtain ⟨ps2, hs2⟩ : ∃ x, x = upd ps1 (3 * (40 + N) + 1) (nI (pnl t b2' e2)) := ⟨_, rfl⟩
      have fp2 : ∀ i, i < 1920 → pat2 i = mPat md i := fun i hi => by rw [hp2, wrP_old _ _ (by omega)]; exact fp1 i hi
      have fs2 : ∀ j, j < 120 → ps2 j = mPs md j := fun j hj => by rw [hs2, pk_un (by omega)]; exact fs1 j hj
      have w1 : ps2 (3 * (40 + N)) = nI (pnl t b1 e1) := by rw [hs2, pk_un (by omega), v1]
      have w2 : ps2 (3 * (40 + N) + 1) = nI (pnl t b2' e2) := by rw [hs2, pk_us]
      have tp3 := takePattern_x (md := md) (N := N) (c := c) (d := d) (o := o) (w := w) (h := h) (pat := pat2) (ps := ps2) (pC := pC) (pD := pD) (b := b3) (e := e3) hF H g3b g3c hN (s := 2) (by omega) (decide (0 < pnl t b1 e1 + pnl t b2' e2))
      have e3' : pto t b3 e3 (decide (0 < pnl t b1 e1 + pnl t b2' e2)) = c3o t b1 e1 b2' e2 b3 e3 := rfl
      rw [e3'] at tp3
      rw [← hp2, ← hs2] at s2 ⊢
      obtain ⟨Y, hY⟩ : ∃ x, x = mXk md N c d o w h (wrP pat2 t (16 * (3 * (40 + N) + 2)) b3 (pnl t b3 e3)) (upd ps2 (3 * (40 + N) + 2) (nI (pnl t b3 e3))) pC pD t n b3 e3 (c3o t b1 e1 b2' e2 b3 e3) := ⟨_, rfl⟩
      rw [← hY] at tp3
      have s3 : f6_readException_L2 F (nI (40 + N)) (nI 2, mX md N c d o w h pat2 ps2 pC pD b3 e3 (nI 1)) = some (.inl (nI 3, Y)) := by
        unfold f6_readException_L2
        by_cases hz : 0 < pnl t b1 e1 + pnl t b2' e2
        · rw [decide_eq_true hz, b2_t] at tp3
          unfold mX at tp3 ⊢
          simp (disch := omega) only [li, ↓lim1, ↓bnd_m, ↓grd_m, ↓jn_e, ↓cas_m, ↓oc_m, inb_t, nI_add, pk_mul, sub_e, le_t, le_f, lt_t, lt_f, eq_t, eq_f, cl_e, m1_e, m1_e', m1_lt, m1_le, m1_m1, lt_m1, ↓reduceIte, Nat.add_zero, Nat.zero_add, w1, w2, tp3]
        · rw [decide_eq_false hz, b2_f] at tp3
          unfold mX at tp3 ⊢
          simp (disch := omega) only [li, ↓lim1, ↓bnd_m, ↓grd_m, ↓jn_e, ↓cas_m, ↓oc_m, inb_t, nI_add, pk_mul, sub_e, le_t, le_f, lt_t, lt_f, eq_t, eq_f, cl_e, m1_e, m1_e', m1_lt, m1_le, m1_m1, lt_m1, ↓reduceIte, Nat.add_zero, Nat.zero_add, w1, w2, tp3]
      have k1 : iter (f6_readException_L2 F (nI (40 + N))) F (nI 0, mX md N c d o w h pat ps pC pD b1 e1 (nI 1)) = some Y := by
        conv => lhs; arg 2; rw [hG]
        rw [iter_step s1, iter_step s2, iter_step s3]
        apply iter_stop
        unfold f6_readException_L2
        simp (disch := omega) only [li, ↓lim1, ↓bnd_m, ↓grd_m, ↓jn_e, ↓cas_m, ↓oc_m, inb_t, nI_add, pk_mul, sub_e, le_t, le_f, lt_t, lt_f, eq_t, eq_f, cl_e, m1_e, m1_e', m1_lt, m1_le, m1_m1, lt_m1, ↓reduceIte, Nat.add_zero, Nat.zero_add]
      have k1' : iter (f6_readException_L2 F (nI (40 + N))) F ((0 : Int32), mX md N c d o w h pat ps pC pD b1 e1 (nI 1)) = some Y := k1
      refine ⟨Y, by rw [bnd_e k1'], ?_⟩
      cases h3 : c3o t b1 e1 b2' e2 b3 e3 with
      | false =>
        rw [ff_f]
        rw [h3, mXt0] at hY
        exact ⟨c, d, o, w, h, wrP pat2 t (16 * (3 * (40 + N) + 2)) b3 (pnl t b3 e3), upd ps2 (3 * (40 + N) + 2) (nI (pnl t b3 e3)), pC, pD, e3, hY, fun i hi => by rw [wrP_old _ _ (by omega)]; exact fp2 i hi, fun j hj => by rw [pk_un (by omega)]; exact fs2 j hj⟩
      | true =>
        rw [h3, mXt1] at hY
        exact hY
theorem readException_0 (hF : 5000 < F) {X : T6} (h0 : X.2.2.2.1.2.2.1 = nI 0) : f6_readException F (nI (40 + N)) X = some X := by
  obtain ⟨G, hG⟩ : ∃ G, F = G + 1 := ⟨F - 1, by omega⟩
  have k1 : iter (f6_readException_L2 F (nI (40 + N))) F (nI 0, X) = some X := by
    conv => lhs; arg 2; rw [hG]
    apply iter_stop
    unfold f6_readException_L2
    simp (disch := omega) only [li, ↓lim1, ↓bnd_m, ↓grd_m, ↓jn_e, ↓cas_m, ↓oc_m, inb_t, nI_add, pk_mul, sub_e, le_t, le_f, lt_t, lt_f, eq_t, eq_f, cl_e, m1_e, m1_e', m1_lt, m1_le, m1_m1, lt_m1, ↓reduceIte, Nat.add_zero, Nat.zero_add, h0]
  have k1' : iter (f6_readException_L2 F (nI (40 + N))) F ((0 : Int32), X) = some X := k1
  unfold f6_readException
  rw [bnd_e k1']
end Mr
/-! ===== the class's items ===== -/
/-- a text that is within a row -/
def opn (L : List Nat) : Prop := ∃ (M : List Nat) (x : Nat), L = M ++ [x] ∧ ¬ x = 10
theorem opn_gap {L : List Nat} (h : opn L) : gp1 L = [32] := by
  obtain ⟨M, x, rfl, hx⟩ := h
  unfold gp1
  have e1 : (M ++ [x]).length = M.length + 1 := by rw [List.length_append]; rfl
  have e2 : (M ++ [x]).getD M.length 0 = x := by rw [gd_r (Nat.le_refl _), Nat.sub_self]; rfl
  rw [e1, Nat.add_sub_cancel, e2, if_neg]
  rintro (h | h)
  · omega
  · exact hx h
theorem opn_app {L M : List Nat} (h : opn M) : opn (L ++ M) := by
  obtain ⟨K, x, rfl, hx⟩ := h
  exact ⟨L ++ K, x, by rw [List.append_assoc], hx⟩
theorem opn_wl {t : Nat → Nat} {b k : Nat} (hk : 0 < k) (h : ∀ i, i < k → ¬ t (b + i) = 10) : opn (wl t b k) := by
  obtain ⟨j, rfl⟩ : ∃ j, k = j + 1 := ⟨k - 1, by omega⟩
  exact ⟨wl t b j, t (b + j), rw1_s _ _, h j (by omega)⟩
theorem opn_dt (v : Nat) : opn (dt v) := by
  unfold dt
  by_cases h : v < 10
  · rw [dg_lt h]; exact ⟨[], v + 48, rfl, by omega⟩
  · rw [dg_ge (by omega) (by omega), List.map_append]
    exact ⟨_, v % 10 + 48, rfl, by omega⟩
theorem chs_dt {v : Nat} : chs (dt v) := by
  intro i hi
  have hm : ∀ x, x ∈ dt v → x < 128 := by
    have hd : ∀ (n w : Nat), w ≤ n → ∀ x, x ∈ dg 10 w → x < 10 := by
      intro n
      induction n with
      | zero => intro w hw x hx; rw [dg_lt (by omega)] at hx; have := List.mem_singleton.mp hx; omega
      | succ n ih =>
        intro w hw x hx
        by_cases c : w < 10
        · rw [dg_lt c] at hx; have := List.mem_singleton.mp hx; omega
        · rw [dg_ge (by omega) (by omega)] at hx
          rcases List.mem_append.mp hx with hx | hx
          · exact ih (w / 10) (by omega) x hx
          · have := List.mem_singleton.mp hx
            omega
    intro x hx
    unfold dt at hx
    obtain ⟨y, hy, rfl⟩ := List.mem_map.mp hx
    have := hd v v (Nat.le_refl _) y hy
    omega
  rw [List.getD_eq_getElem?_getD, List.getElem?_eq_getElem hi]
  exact hm _ (List.getElem_mem hi)
/-- e is where a word ends that is no end of a row -/
def Wd (t : Nat → Nat) (n e : Nat) : Prop := ∃ b, b < n ∧ e = we t n b ∧ (¬ t b = 32 ∧ ¬ t b = 10) ∧ ¬ t b = 59
theorem Wd.le {t : Nat → Nat} {n e : Nat} (h : Wd t n e) : e ≤ n := by
  obtain ⟨b, h1, rfl, h2, h3⟩ := h
  exact (we_spec t n b (by omega) (fun _ => h2)).2.1
/-- the next word -/
theorem Wd.next {t : Nat → Nat} {n e0 b e : Nat} (h : Wd t n e0) (hb : b = wb t n e0) (he : e = we t n b) (hbe : b < e) (h59 : ¬ t b = 59) : e0 + 1 ≤ b ∧ Wd t n e ∧ ∀ i, b ≤ i → i < e → ¬ t i = 10 := by
  have hle := h.le
  obtain ⟨b0, h1, rfl, h2, h3⟩ := h
  obtain ⟨a1, a2, a3⟩ := wb_spec t n (we t n b0) hle
  rw [← hb] at a1 a2 a3
  have hbn : b < n := by
    by_cases c : b < n
    · exact c
    · have : b = n := by omega
      have h5 := we_spec t n b a2 a3
      omega
  refine ⟨?_, ⟨b, hbn, he, a3 hbn, h59⟩, fun i hi1 hi2 => ?_⟩
  · have := w_gap (t := t) h1 h2 h3 (by rw [← hb]; exact hbn) (by rw [← hb]; exact h59)
    rw [← hb] at this
    exact this
  · have h5 := (we_spec t n b a2 a3).2.2.2.2 hbn h59
    rw [← he] at h5
    have h6 := of_decide_eq_true (h5.1 i hi1 hi2)
    exact h6.2.1
/-- the sheet within a row -/
def RC (sh : T3) (N : Nat) (so va pl : Nat → Nat) (pc : Nat → Nat → Nat) (L : List Nat) (e : Nat) : Prop := ShP sh (N + 1) so va pl pc L ∧ chs L ∧ opn L ∧ L.length ≤ e + N
theorem nmw_c {t : Nat → Nat} {b e : Nat} (h : nmw t b e = true) : b < e ∧ ¬ t b = 59 := by
  obtain ⟨h1, h2, h3, _⟩ := nmw_spec h
  have := of_decide_eq_true (alb_t h3 0 (by omega))
  rw [Nat.add_zero] at this
  omega
theorem whw_c {t : Nat → Nat} {b e v : Nat} (h : whw t b e = some v) : b < e ∧ ¬ t b = 59 := by
  obtain ⟨h1, h2, h3, _⟩ := whw_spec h
  have := of_decide_eq_true (alb_t h3 0 (by omega))
  rw [Nat.add_zero] at this
  omega
theorem ptw_c {t : Nat → Nat} {b e : Nat} (h : ptw t b e = true) : b < e ∧ ¬ t b = 59 ∧ e ≤ b + 16 := by
  unfold ptw at h
  rw [Bool.and_eq_true] at h
  have h1 := of_decide_eq_true h.1
  have := of_decide_eq_true (alb_t h.2 0 (by omega))
  rw [Nat.add_zero] at this
  omega
theorem anw_c {t : Nat → Nat} {b e : Nat} (h : anw t b e = true) : b < e ∧ ¬ t b = 59 ∧ e = b + 1 ∧ t b = 45 := by
  have h1 : e = b + 1 ∧ t b = 45 := of_decide_eq_true h
  omega
section Ci
variable {F N n m b e e0 : Nat} {so va pl : Nat → Nat} {pc : Nat → Nat → Nat} {L : List Nat} {t : Nat → Nat} {tp : T4} {sh : T3} {rd : T2} {ck : T0}
theorem word_c (hF : 5000 < F) (HT : TpC tp t n) (hW : Wd t n e0) (hb : b = wb t n e0) (he : e = we t n b) (hbe : b < e) (h59 : ¬ t b = 59) (H : RC sh N so va pl pc L e0) (hN : N < 40) (rd : T2) : ∃ sh', f2_printWord F (rW rd b e) sh tp = some sh' ∧ RC sh' N so va pl pc (L ++ [32] ++ wl t b (e - b)) e ∧ Wd t n e := by
  obtain ⟨h1, h2, h3, h4⟩ := H
  obtain ⟨w1, w2, w3⟩ := hW.next hb he hbe h59
  have hen := w2.le
  have hn := HT.1
  have gp := opn_gap h3
  obtain ⟨sh', r1, r2⟩ := printWord_sh (b := b) (e := e) (rd := rd) hF HT (by omega) hen h1 h2 (by rw [gp]; show _ + 1 + _ ≤ _; omega)
  rw [gp] at r2
  refine ⟨sh', r1, ⟨r2, chs_app (chs_app h2 (chs_1 (by omega))) (chs_wl (fun i hi => (HT.2.2 (b + i) (by omega)).2)), opn_app (opn_wl (by omega) (fun i hi => w3 (b + i) (by omega) (by omega))), ?_⟩, w2⟩
  rw [List.length_append, List.length_append, wl_len]
  show _ + 1 + _ ≤ _
  omega
theorem takeWhole_c0 (hF : 5000 < F) (HT : TpC tp t n) (he0 : e0 ≤ n) (hr : rd.2.2.2.2.2 = nI e0) (hb : b = wb t n e0) (he : e = we t n b) {lo hi : Nat} (hlo : lo < 2000000) (hhi : hi < 2000000) (h : btw (whw t b e) lo hi = false) : f2_takeWhole F (nI lo) (nI hi) rd tp sh = some (im1, rW rd b e, sh) := by
  obtain ⟨g1, g2, g3⟩ := w_ok (t := t) he0
  rw [← hb, ← he] at g2 g3
  have tw := takeWord_ok hF HT he0 hr
  rw [← hb, ← he] at tw
  have wi := wholeIn_ok (rd := rd) hF HT g2 g3
  unfold f2_takeWhole
  cases hq : whw t b e with
  | none =>
    rw [hq] at wi
    have pn : pI none = im1 := rfl
    rw [pn] at wi
    simp (disch := omega) only [li, ↓lim1, ↓bnd_m, ↓grd_m, ↓jn_e, ↓cas_m, ↓oc_m, inb_t, nI_add, pk_mul, sub_e, le_t, le_f, lt_t, lt_f, eq_t, eq_f, cl_e, m1_e, m1_e', m1_lt, m1_le, m1_m1, lt_m1, ↓reduceIte, Nat.add_zero, Nat.zero_add, tw, wi]
  | some v =>
    have hv := (whw_spec hq).2.2.2.2.2
    rw [hq] at wi h
    have pn : pI (some v) = nI v := rfl
    rw [pn] at wi
    have h' : ¬ (lo ≤ v ∧ v ≤ hi) := of_decide_eq_false h
    by_cases c : v < lo
    · simp (disch := omega) only [li, ↓lim1, ↓bnd_m, ↓grd_m, ↓jn_e, ↓cas_m, ↓oc_m, inb_t, nI_add, pk_mul, sub_e, le_t, le_f, lt_t, lt_f, eq_t, eq_f, cl_e, m1_e, m1_e', m1_lt, m1_le, m1_m1, lt_m1, ↓reduceIte, Nat.add_zero, Nat.zero_add, tw, wi]
    · simp (disch := omega) only [li, ↓lim1, ↓bnd_m, ↓grd_m, ↓jn_e, ↓cas_m, ↓oc_m, inb_t, nI_add, pk_mul, sub_e, le_t, le_f, lt_t, lt_f, eq_t, eq_f, cl_e, m1_e, m1_e', m1_lt, m1_le, m1_m1, lt_m1, ↓reduceIte, Nat.add_zero, Nat.zero_add, tw, wi]
theorem takeWhole_c1 (hF : 5000 < F) (HT : TpC tp t n) (hW : Wd t n e0) (hr : rd.2.2.2.2.2 = nI e0) (hb : b = wb t n e0) (he : e = we t n b) {lo hi v : Nat} (hlo : lo < 2000000) (hhi : hi < 2000000) (hq : whw t b e = some v) (h1 : lo ≤ v) (h2 : v ≤ hi) (H : RC sh N so va pl pc L e0) (hN : N < 40) : ∃ sh', f2_takeWhole F (nI lo) (nI hi) rd tp sh = some (nI v, rW rd b e, sh') ∧ RC sh' N so va pl pc (L ++ [32] ++ dt v) e ∧ Wd t n e := by
  have he0 := hW.le
  obtain ⟨g1, g2, g3⟩ := w_ok (t := t) he0
  rw [← hb, ← he] at g2 g3
  have tw := takeWord_ok hF HT he0 hr
  rw [← hb, ← he] at tw
  have wi := wholeIn_ok (rd := rd) hF HT g2 g3
  obtain ⟨s1, s2, s3, s4, s5, hv⟩ := whw_spec hq
  rw [hq] at wi
  have pn : pI (some v) = nI v := rfl
  rw [pn] at wi
  obtain ⟨k1, k2⟩ := whw_c hq
  obtain ⟨w1, w2, w3⟩ := hW.next hb he k1 k2
  obtain ⟨p1, p2, p3, p4⟩ := H
  have gp := opn_gap p3
  have dl := dt_len (k := e - b) (by omega) s5
  have hn := HT.1
  obtain ⟨sh', r1, r2⟩ := printWhole_sh hF p1 p2 hv (by rw [gp]; show _ + 1 + _ ≤ _; omega)
  rw [gp] at r2
  refine ⟨sh', ?_, ⟨r2, chs_app (chs_app p2 (chs_1 (by omega))) chs_dt, opn_app (opn_dt v), ?_⟩, w2⟩
  · unfold f2_takeWhole
    simp (disch := omega) only [li, ↓lim1, ↓bnd_m, ↓grd_m, ↓jn_e, ↓cas_m, ↓oc_m, inb_t, nI_add, pk_mul, sub_e, le_t, le_f, lt_t, lt_f, eq_t, eq_f, cl_e, m1_e, m1_e', m1_lt, m1_le, m1_m1, lt_m1, ↓reduceIte, Nat.add_zero, Nat.zero_add, tw, wi, r1]
  · rw [List.length_append, List.length_append]
    show _ + 1 + _ ≤ _
    omega
/-- the clocks with one more -/
def ckO (ck : T0) (m N : Nat) : T0 := (upd ck.1 m (nI (N + 1)), upd ck.2.1 m im1, ck.2.2.1, ck.2.2.2.1, ck.2.2.2.2.1, ck.2.2.2.2.2.1, ck.2.2.2.2.2.2.1, ck.2.2.2.2.2.2.2.1, ck.2.2.2.2.2.2.2.2.1, upd ck.2.2.2.2.2.2.2.2.2.1 m (nI 0), upd ck.2.2.2.2.2.2.2.2.2.2.1 m (nI 0), nI (m + 1))
theorem nrB0 : vp_nar .boolean (nI 0) = nI 0 := by decide
theorem nrB1 : vp_nar .boolean (nI 1) = nI 1 := by decide
theorem takeNewClock_c (hF : 5000 < F) (HT : TpC tp t n) (hW : Wd t n e0) (hr : rd.2.2.2.2.2 = nI e0) (hb : b = wb t n e0) (he : e = we t n b) (hsz : kSiz ck = nI m) (hm : m ≤ 12) {q : Option Nat} (hq : nmw t b e = true → f2_clockNamed F (nI b) (nI (e - b)) (rW rd b e) sh ck tp = some (pI q)) (hq' : ∀ k, q = some k → k < 100) (H : RC sh N so va pl pc L e0) (hN : N < 40) :
    (nwo t b e m q = false → f2_takeNewClock F rd tp sh ck = some (nI 0, rW rd b e, sh, ck)) ∧
    (nwo t b e m q = true → ∃ sh', f2_takeNewClock F rd tp sh ck = some (nI 1, (upd rd.1 m (nI b), upd rd.2.1 m (nI (e - b)), rd.2.2.1, rd.2.2.2.1, nI b, nI e), sh', ckO ck m N) ∧ RC sh' N so va pl pc (L ++ [32] ++ wl t b (e - b)) e ∧ Wd t n e) := by
  have he0 := hW.le
  have hn := HT.1
  obtain ⟨g1, g2, g3⟩ := w_ok (t := t) he0
  rw [← hb, ← he] at g2 g3
  have tw := takeWord_ok hF HT he0 hr
  rw [← hb, ← he] at tw
  have ni := nameIn_ok (rd := rd) hF HT g2 g3
  have hsz' : ck.2.2.2.2.2.2.2.2.2.2.2 = nI m := hsz
  have hrc : sh.2.2.2.2.2.2.2.1 = nI (N + 1) := H.1.1.2.1
  unfold f2_takeNewClock
  constructor
  · intro h
    cases hv : nmw t b e with
    | false =>
      rw [hv, b2_f] at ni
      simp (disch := omega) only [li, ↓lim1, ↓bnd_m, ↓grd_m, ↓jn_e, ↓cas_m, ↓oc_m, inb_t, nI_add, pk_mul, sub_e, le_t, le_f, lt_t, lt_f, eq_t, eq_f, cl_e, m1_e, m1_e', m1_lt, m1_le, m1_m1, lt_m1, ↓reduceIte, Nat.add_zero, Nat.zero_add, tw, ni]
    | true =>
      rw [hv, b2_t] at ni
      by_cases h12 : 12 ≤ m
      · simp (disch := omega) only [li, ↓lim1, ↓bnd_m, ↓grd_m, ↓jn_e, ↓cas_m, ↓oc_m, inb_t, nI_add, pk_mul, sub_e, le_t, le_f, lt_t, lt_f, eq_t, eq_f, cl_e, m1_e, m1_e', m1_lt, m1_le, m1_m1, lt_m1, ↓reduceIte, Nat.add_zero, Nat.zero_add, tw, ni, hsz']
      · have hq2 := hq hv
        cases q with
        | none =>
          unfold nwo at h
          rw [hv, decide_eq_true (show m < 12 by omega)] at h
          cases h
        | some k =>
          have hk := hq' k rfl
          have pk : pI (some k) = nI k := rfl
          rw [pk] at hq2
          simp (disch := omega) only [li, ↓lim1, ↓bnd_m, ↓grd_m, ↓jn_e, ↓cas_m, ↓oc_m, inb_t, nI_add, pk_mul, sub_e, le_t, le_f, lt_t, lt_f, eq_t, eq_f, cl_e, m1_e, m1_e', m1_lt, m1_le, m1_m1, lt_m1, ↓reduceIte, Nat.add_zero, Nat.zero_add, tw, ni, hsz', rWb, rWe, hq2]
  · intro h
    unfold nwo at h
    rw [Bool.and_eq_true, Bool.and_eq_true] at h
    obtain ⟨⟨hv, h12⟩, hqn⟩ := h
    have h12 := of_decide_eq_true h12
    cases q with
    | some k => cases hqn
    | none =>
      have hq2 := hq hv
      have pk : pI none = im1 := rfl
      rw [pk] at hq2
      rw [hv, b2_t] at ni
      obtain ⟨k1, k2⟩ := nmw_c hv
      obtain ⟨sh', r1, r2, r3⟩ := word_c hF HT hW hb he k1 k2 H hN (upd rd.1 m (nI b), upd rd.2.1 m (nI (e - b)), rd.2.2.1, rd.2.2.2.1, nI b, nI e)
      have op : f0_open (nI (N + 1)) ck = some (ckO ck m N) := by
        unfold f0_open
        simp (disch := omega) only [li, ↓lim1, ↓bnd_m, ↓grd_m, ↓jn_e, ↓cas_m, ↓oc_m, inb_t, nI_add, pk_mul, sub_e, le_t, le_f, lt_t, lt_f, eq_t, eq_f, cl_e, m1_e, m1_e', m1_lt, m1_le, m1_m1, lt_m1, ↓reduceIte, Nat.add_zero, Nat.zero_add, hsz', nrB0]
        rfl
      refine ⟨sh', ?_, r2, r3⟩
      unfold rW at tw ni hq2 r1
      simp (disch := omega) only [li, ↓lim1, ↓bnd_m, ↓grd_m, ↓jn_e, ↓cas_m, ↓oc_m, inb_t, nI_add, pk_mul, sub_e, le_t, le_f, lt_t, lt_f, eq_t, eq_f, cl_e, m1_e, m1_e', m1_lt, m1_le, m1_m1, lt_m1, ↓reduceIte, Nat.add_zero, Nat.zero_add, tw, ni, hsz', hq2, hrc, op, r1]
theorem takeLink_c (hF : 5000 < F) (HT : TpC tp t n) (hW : Wd t n e0) (hr : rd.2.2.2.2.2 = nI e0) (hb : b = wb t n e0) (he : e = we t n b) {s : Nat} (hs : s < 2) (H : RC sh N so va pl pc L e0) (hN : N < 40) :
    (nmw t b e = false → f2_takeLink F (nI s) rd tp sh = some (nI 0, rW rd b e, sh)) ∧
    (nmw t b e = true → ∃ sh', f2_takeLink F (nI s) rd tp sh = some (nI 1, (rd.1, rd.2.1, upd rd.2.2.1 (2 * N + s) (nI b), upd rd.2.2.2.1 (2 * N + s) (nI (e - b)), nI b, nI e), sh') ∧ RC sh' N so va pl pc (L ++ [32] ++ wl t b (e - b)) e ∧ Wd t n e) := by
  have he0 := hW.le
  have hn := HT.1
  obtain ⟨g1, g2, g3⟩ := w_ok (t := t) he0
  rw [← hb, ← he] at g2 g3
  have tw := takeWord_ok hF HT he0 hr
  rw [← hb, ← he] at tw
  have ni := nameIn_ok (rd := rd) hF HT g2 g3
  have hrc : sh.2.2.2.2.2.2.2.1 = nI (N + 1) := H.1.1.2.1
  unfold f2_takeLink
  constructor
  · intro hv
    rw [hv, b2_f] at ni
    simp (disch := omega) only [li, ↓lim1, ↓bnd_m, ↓grd_m, ↓jn_e, ↓cas_m, ↓oc_m, inb_t, nI_add, pk_mul, sub_e, le_t, le_f, lt_t, lt_f, eq_t, eq_f, cl_e, m1_e, m1_e', m1_lt, m1_le, m1_m1, lt_m1, ↓reduceIte, Nat.add_zero, Nat.zero_add, tw, ni]
  · intro hv
    rw [hv, b2_t] at ni
    obtain ⟨k1, k2⟩ := nmw_c hv
    obtain ⟨sh', r1, r2, r3⟩ := word_c hF HT hW hb he k1 k2 H hN (rd.1, rd.2.1, upd rd.2.2.1 (2 * N + s) (nI b), upd rd.2.2.2.1 (2 * N + s) (nI (e - b)), nI b, nI e)
    refine ⟨sh', ?_, r2, r3⟩
    have e1 : N * 2 + s = 2 * N + s := by omega
    unfold rW at tw ni r1
    simp (disch := omega) only [li, ↓lim1, ↓bnd_m, ↓grd_m, ↓jn_e, ↓cas_m, ↓oc_m, inb_t, nI_add, pk_mul, sub_e, le_t, le_f, lt_t, lt_f, eq_t, eq_f, cl_e, m1_e, m1_e', m1_lt, m1_le, m1_m1, lt_m1, ↓reduceIte, Nat.add_zero, Nat.zero_add, tw, ni, hrc, Nat.add_sub_cancel, e1, r1]
theorem takePattern_c (hF : 5000 < F) (HT : TpC tp t n) (hW : Wd t n e0) (hr : rd.2.2.2.2.2 = nI e0) (hb : b = wb t n e0) (he : e = we t n b) {s : Nat} (hs : s < 3) (H : RC sh N so va pl pc L e0) (hN : N < 40) :
    (ptw t b e = false → f2_keepPattern F (nI s) (rW rd b e) tp sh = some (nI 0, sh) ∧ f2_takePattern F (nI s) rd tp sh = some (nI 0, rW rd b e, sh)) ∧
    (ptw t b e = true → ∃ sh', f2_keepPattern F (nI s) (rW rd b e) tp sh = some (nI 1, sh') ∧ f2_takePattern F (nI s) rd tp sh = some (nI 1, rW rd b e, sh') ∧ RC sh' N so va (gu pl (3 * N + s) (e - b)) (gu pc (3 * N + s) (fun i => t (b + i))) (L ++ [32] ++ wl t b (e - b)) e ∧ Wd t n e) := by
  have he0 := hW.le
  have hn := HT.1
  obtain ⟨g1, g2, g3⟩ := w_ok (t := t) he0
  rw [← hb, ← he] at g2 g3
  have tw := takeWord_ok hF HT he0 hr
  rw [← hb, ← he] at tw
  have ni := patIn_ok (rd := rd) hF HT g2 g3
  have i0 : isB (nI 0) = true := by decide
  have i1 : isB (nI 1) = true := by decide
  constructor
  · intro hv
    rw [hv, b2_f] at ni
    have k : f2_keepPattern F (nI s) (rW rd b e) tp sh = some (nI 0, sh) := by
      unfold f2_keepPattern
      simp (disch := omega) only [li, ↓lim1, ↓bnd_m, ↓grd_m, ↓jn_e, ↓cas_m, ↓oc_m, inb_t, nI_add, pk_mul, sub_e, le_t, le_f, lt_t, lt_f, eq_t, eq_f, cl_e, m1_e, m1_e', m1_lt, m1_le, m1_m1, lt_m1, ↓reduceIte, Nat.add_zero, Nat.zero_add, ni]
    refine ⟨k, ?_⟩
    unfold f2_takePattern
    simp (disch := omega) only [li, ↓lim1, ↓bnd_m, ↓grd_m, ↓jn_e, ↓cas_m, ↓oc_m, inb_t, nI_add, pk_mul, sub_e, le_t, le_f, lt_t, lt_f, eq_t, eq_f, cl_e, m1_e, m1_e', m1_lt, m1_le, m1_m1, lt_m1, ↓reduceIte, Nat.add_zero, Nat.zero_add, tw, k, i0]
  · intro hv
    rw [hv, b2_t] at ni
    obtain ⟨k1, k2, k3⟩ := ptw_c hv
    obtain ⟨s1, r1, ⟨r2, r2b, r2c, r2d⟩, r3⟩ := word_c hF HT hW hb he k1 k2 H hN rd
    obtain ⟨s2, q1, q2⟩ := setPattern_sh r2 hs (by omega) (fun i hi => (HT.2.2 (b + i) (by omega)).2)
    have k : f2_keepPattern F (nI s) (rW rd b e) tp sh = some (nI 1, s2) := by
      unfold f2_keepPattern
      simp (disch := omega) only [li, ↓lim1, ↓bnd_m, ↓grd_m, ↓jn_e, ↓cas_m, ↓oc_m, inb_t, nI_add, pk_mul, sub_e, le_t, le_f, lt_t, lt_f, eq_t, eq_f, cl_e, m1_e, m1_e', m1_lt, m1_le, m1_m1, lt_m1, ↓reduceIte, Nat.add_zero, Nat.zero_add, ni, r1, rWb, rWe, q1]
    refine ⟨s2, k, ?_, ⟨q2, r2b, r2c, r2d⟩, r3⟩
    unfold f2_takePattern
    simp (disch := omega) only [li, ↓lim1, ↓bnd_m, ↓grd_m, ↓jn_e, ↓cas_m, ↓oc_m, inb_t, nI_add, pk_mul, sub_e, le_t, le_f, lt_t, lt_f, eq_t, eq_f, cl_e, m1_e, m1_e', m1_lt, m1_le, m1_m1, lt_m1, ↓reduceIte, Nat.add_zero, Nat.zero_add, tw, k, i1]
theorem takeValue_c (hF : 5000 < F) (HT : TpC tp t n) (hW : Wd t n e0) (hr : rd.2.2.2.2.2 = nI e0) (hb : b = wb t n e0) (he : e = we t n b) {lo hi : Nat} (hlo : lo < 2000000) (hhi : hi < 2000000) (H : RC sh N so va pl pc L e0) (hN : N < 40) :
    (btw (whw t b e) lo hi = false → f2_takeValue F (nI lo) (nI hi) rd tp sh = some (nI 0, rW rd b e, sh)) ∧
    (btw (whw t b e) lo hi = true → ∃ sh', f2_takeValue F (nI lo) (nI hi) rd tp sh = some (nI 1, rW rd b e, sh') ∧ RC sh' N so (gu va N (gz (whw t b e))) pl pc (L ++ [32] ++ dt (gz (whw t b e))) e ∧ Wd t n e) := by
  have he0 := hW.le
  constructor
  · intro hv
    have q := takeWhole_c0 (sh := sh) hF HT he0 hr hb he hlo hhi hv
    unfold f2_takeValue
    simp (disch := omega) only [li, ↓lim1, ↓bnd_m, ↓grd_m, ↓jn_e, ↓cas_m, ↓oc_m, inb_t, nI_add, pk_mul, sub_e, le_t, le_f, lt_t, lt_f, eq_t, eq_f, cl_e, m1_e, m1_e', m1_lt, m1_le, m1_m1, lt_m1, ↓reduceIte, Nat.add_zero, Nat.zero_add, q]
  · intro hv
    obtain ⟨v, q1, q2, q3⟩ := btw_some hv
    obtain ⟨s1, r1, ⟨r2, r2b, r2c, r2d⟩, r3⟩ := takeWhole_c1 hF HT hW hr hb he hlo hhi q1 q2 q3 H hN
    have hv' := (whw_spec q1).2.2.2.2.2
    obtain ⟨s2, p1, p2⟩ := setValue_sh r2 hv'
    rw [q1]
    refine ⟨s2, ?_, ⟨p2, r2b, r2c, r2d⟩, r3⟩
    unfold f2_takeValue
    simp (disch := omega) only [li, ↓lim1, ↓bnd_m, ↓grd_m, ↓jn_e, ↓cas_m, ↓oc_m, inb_t, nI_add, pk_mul, sub_e, le_t, le_f, lt_t, lt_f, eq_t, eq_f, cl_e, m1_e, m1_e', m1_lt, m1_le, m1_m1, lt_m1, ↓reduceIte, Nat.add_zero, Nat.zero_add, r1, p1]
/-- the end of a row -/
def smc (t : Nat → Nat) (b e : Nat) : Bool := decide (e = b + 1 ∧ t b = 59)
theorem takeEnd_c (hF : 5000 < F) (HT : TpC tp t n) (he0 : e0 ≤ n) (hr : rd.2.2.2.2.2 = nI e0) (hb : b = wb t n e0) (he : e = we t n b) (H : RC sh N so va pl pc L e0) (hN : N < 40) :
    (smc t b e = false → f2_takeEnd F rd tp sh = some (nI 0, rW rd b e, sh)) ∧
    (smc t b e = true → b < n ∧ ∃ sh', f2_takeEnd F rd tp sh = some (nI 1, rW rd b e, sh') ∧ ShP sh' (N + 1) so va pl pc (L ++ [59, 10]) ∧ chs (L ++ [59, 10]) ∧ (L ++ [59, 10]).length ≤ e + (N + 1)) := by
  have hn := HT.1
  obtain ⟨g1, g2, g3⟩ := w_ok (t := t) he0
  rw [← hb, ← he] at g2 g3
  rw [← hb] at g1
  have tw := takeWord_ok hF HT he0 hr
  rw [← hb, ← he] at tw
  obtain ⟨h1, h2, h3, h4⟩ := H
  have sp := wb_spec t n e0 he0
  rw [← hb] at sp
  have sp2 := we_spec t n b sp.2.1 sp.2.2
  rw [← he] at sp2
  unfold f2_takeEnd
  constructor
  · intro hv
    by_cases c : b < n
    · have hc : ¬ t b = 59 := fun h => by
        have : smc t b e = true := decide_eq_true ⟨sp2.2.2.2.1 c h, h⟩
        rw [hv] at this; cases this
      have ht := (HT.2.2 b c).2
      simp (disch := omega) only [li, ↓lim1, ↓bnd_m, ↓grd_m, ↓jn_e, ↓cas_m, ↓oc_m, inb_t, nI_add, pk_mul, sub_e, le_t, le_f, lt_t, lt_f, eq_t, eq_f, cl_e, m1_e, m1_e', m1_lt, m1_le, m1_m1, lt_m1, ↓reduceIte, Nat.add_zero, Nat.zero_add, tw, rWb, at_n HT c]
    · have hbn : b = n := by omega
      have := at_end HT
      rw [← hbn] at this
      simp (disch := omega) only [li, ↓lim1, ↓bnd_m, ↓grd_m, ↓jn_e, ↓cas_m, ↓oc_m, inb_t, nI_add, pk_mul, sub_e, le_t, le_f, lt_t, lt_f, eq_t, eq_f, cl_e, m1_e, m1_e', m1_lt, m1_le, m1_m1, lt_m1, ↓reduceIte, Nat.add_zero, Nat.zero_add, tw, rWb, this]
  · intro hv
    have hv' : e = b + 1 ∧ t b = 59 := of_decide_eq_true hv
    have c : b < n := by omega
    refine ⟨c, ?_⟩
    obtain ⟨s1, p1, p2⟩ := print_sh h1 (show L.length < 1240 by omega) (show 59 < 128 by omega)
    have l1 : (L ++ [59]).length = L.length + 1 := by rw [List.length_append]; rfl
    obtain ⟨s2, q1, q2⟩ := print_sh p2 (show (L ++ [59]).length < 1240 by omega) (show 10 < 128 by omega)
    have e1 : L ++ [59] ++ [10] = L ++ [59, 10] := by rw [List.append_assoc]; rfl
    rw [e1] at q2
    refine ⟨s2, ?_, q2, chs_app h2 (fun i hi => ?_), ?_⟩
    · simp (disch := omega) only [li, ↓lim1, ↓bnd_m, ↓grd_m, ↓jn_e, ↓cas_m, ↓oc_m, inb_t, nI_add, pk_mul, sub_e, le_t, le_f, lt_t, lt_f, eq_t, eq_f, cl_e, m1_e, m1_e', m1_lt, m1_le, m1_m1, lt_m1, ↓reduceIte, Nat.add_zero, Nat.zero_add, tw, rWb, at_n HT c, hv'.2, p1, q1]
    · have : i < 2 := hi
      rcases (show i = 0 ∨ i = 1 by omega) with rfl | rfl
      · show 59 < 128; omega
      · show 10 < 128; omega
    · rw [List.length_append]
      show _ + 2 ≤ _
      omega
end Ci
