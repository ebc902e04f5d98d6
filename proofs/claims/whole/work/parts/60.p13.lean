/-! ===== a row, the class ===== -/
theorem ff_as {l r : List (Bool × Nat)} {p : Nat} (h : ff l = some p) : ff (l ++ r) = some p := by
  induction l with
  | nil => cases h
  | cons x l ih =>
    obtain ⟨b, k⟩ := x
    cases b with
    | true => exact ih h
    | false => exact h
theorem ff_an {l r : List (Bool × Nat)} (h : ff l = none) : ff (l ++ r) = ff r := by
  induction l with
  | nil => rfl
  | cons x l ih =>
    obtain ⟨b, k⟩ := x
    cases b with
    | true => exact ih h
    | false => cases h
section Ct
variable {F N n m b0 e0 s : Nat} {so va pl : Nat → Nat} {pc : Nat → Nat → Nat} {L : List Nat} {t : Nat → Nat} {tp : T4} {sh s1 s2 : T3} {rd : T2} {ck : T0}
/-- the class at a fault -/
def FlC (r : Option (Int32 × T2 × T3 × T0)) (p : Nat) : Prop := ∃ rd' sh' ck', r = some (nI 0, rd', sh', ck') ∧ rd'.2.2.2.2.1 = nI p
theorem openRow (hF : 5000 < F) (HT : TpC tp t n) (H : ShP sh N so va pl pc L) (hc : chs L) (hg : gp1 L = []) {x : Nat} (hx : L.length ≤ x + N) (hxb : x ≤ b0) (hb : b0 < n) (h32 : ¬ t b0 = 32 ∧ ¬ t b0 = 10) (h59 : ¬ t b0 = 59) (he : e0 = we t n b0) (hs : s < 10) (hN : N < 40) : ∃ s1 s2, f3_open F (nI s) sh = some s1 ∧ f2_printWord F (rW rd b0 e0) s1 tp = some s2 ∧ RC s2 N (gu so N s) (gu va N 0) (cut0 pl (3 * N)) pc (L ++ wl t b0 (e0 - b0)) e0 ∧ Wd t n e0 := by
  have sp := we_spec t n b0 (by omega) (fun _ => h32)
  rw [← he] at sp
  obtain ⟨a1, a2, a3, a4, a5⟩ := sp
  have hn := HT.1
  obtain ⟨s1, p1, p2⟩ := open_sh hF H hN hs
  obtain ⟨s2, q1, q2⟩ := printWord_sh (b := b0) (e := e0) (rd := rd) hF HT a1 a2 p2 hc (by rw [hg]; show _ + 0 + _ ≤ _; omega)
  rw [hg, List.append_nil] at q2
  refine ⟨s1, s2, p1, q1, ⟨q2, chs_app hc (chs_wl (fun i hi => (HT.2.2 (b0 + i) (by omega)).2)), opn_app (opn_wl (by have := a3 hb; omega) (fun i hi => ?_)), ?_⟩, ⟨b0, hb, he, h32, h59⟩⟩
  · have := of_decide_eq_true ((a5 hb h59).1 (b0 + i) (by omega) (by omega))
    exact this.2.1
  · rw [List.length_append, wl_len]
    omega
section R0
variable {b1 e1 b2' e2 b3 e3 b4 e4 b5 e5 b6 e6 : Nat}
theorem crow0 (hF : 5000 < F) (HT : TpC tp t n) (si : f2_sortInHand F (rW rd b0 e0) tp = some (nI 0)) (op : f3_open F (nI 0) sh = some s1) (pw : f2_printWord F (rW rd b0 e0) s1 tp = some s2) (H : RC s2 N so va pl pc L e0) (hW : Wd t n e0) (hN : N < 40) (hsz : kSiz ck = nI m) (hm : m ≤ 12)
    (hb1 : b1 = wb t n e0) (he1 : e1 = we t n b1) (hb2 : b2' = wb t n e1) (he2 : e2 = we t n b2') (hb3 : b3 = wb t n e2) (he3 : e3 = we t n b3) (hb4 : b4 = wb t n e3) (he4 : e4 = we t n b4) (hb5 : b5 = wb t n e4) (he5 : e5 = we t n b5) (hb6 : b6 = wb t n e5) (he6 : e6 = we t n b6)
    {q : Option Nat} (hq : nmw t b1 e1 = true → ∀ sh, f2_clockNamed F (nI b1) (nI (e1 - b1)) (rW rd b1 e1) sh ck tp = some (pI q)) (hq' : ∀ k, q = some k → k < 100) :
    match ff [(nwo t b1 e1 m q, b1), (btw (whw t b2' e2) 1 999999, b2'), (btw (whw t b3 e3) 0 (gz (whw t b2' e2) - 1), b3), (btw (whw t b4 e4) 0 (gz (whw t b2' e2) - 1) && decide (¬ whw t b4 e4 = whw t b3 e3), b4), (ptw t b5 e5, b5), (smc t b6 e6, b6)] with
    | some p => FlC (f2_takeRow F (rW rd b0 e0) tp sh ck) p
    | none => ∃ sh', f2_takeRow F (rW rd b0 e0) tp sh ck = some (nI 1, (upd rd.1 m (nI b1), upd rd.2.1 m (nI (e1 - b1)), rd.2.2.1, rd.2.2.2.1, nI b6, nI e6), sh', ckT (ckO ck m N) m (gz (whw t b2' e2)) (gz (whw t b3 e3)) (gz (whw t b4 e4))) ∧ ShP sh' (N + 1) so va (gu pl (3 * N) (e5 - b5)) (gu pc (3 * N) (fun i => t (b5 + i))) (L ++ [32] ++ wl t b1 (e1 - b1) ++ [32] ++ dt (gz (whw t b2' e2)) ++ [32] ++ dt (gz (whw t b3 e3)) ++ [32] ++ dt (gz (whw t b4 e4)) ++ [32] ++ wl t b5 (e5 - b5) ++ [59, 10]) ∧ chs (L ++ [32] ++ wl t b1 (e1 - b1) ++ [32] ++ dt (gz (whw t b2' e2)) ++ [32] ++ dt (gz (whw t b3 e3)) ++ [32] ++ dt (gz (whw t b4 e4)) ++ [32] ++ wl t b5 (e5 - b5) ++ [59, 10]) ∧ (L ++ [32] ++ wl t b1 (e1 - b1) ++ [32] ++ dt (gz (whw t b2' e2)) ++ [32] ++ dt (gz (whw t b3 e3)) ++ [32] ++ dt (gz (whw t b4 e4)) ++ [32] ++ wl t b5 (e5 - b5) ++ [59, 10]).length ≤ e6 + (N + 1) ∧ e6 ≤ n := by
  unfold f2_takeRow
  obtain ⟨n0, n1⟩ := takeNewClock_c (rd := rW rd b0 e0) hF HT hW rfl hb1 he1 hsz hm (fun h => hq h s2) hq' H hN
  cases h1 : nwo t b1 e1 m q with
  | false =>
    have nf := n0 h1
    rw [ff_f]
    refine ⟨rW rd b1 e1, s2, ck, ?_, rfl⟩
    simp (disch := omega) only [li, ↓lim1, ↓bnd_m, ↓grd_m, ↓jn_e, ↓cas_m, ↓oc_m, inb_t, nI_add, pk_mul, sub_e, le_t, le_f, lt_t, lt_f, eq_t, eq_f, cl_e, m1_e, m1_e', m1_lt, m1_le, m1_m1, lt_m1, ↓reduceIte, Nat.add_zero, Nat.zero_add, si, op, pw, nf, rW_rW]
  | true =>
    rw [ff_t]
    obtain ⟨s3, nt1, R1, W1⟩ := n1 h1
    have hm1 : m < 12 := by
      unfold nwo at h1
      rw [Bool.and_eq_true, Bool.and_eq_true] at h1
      exact of_decide_eq_true h1.1.2
    obtain ⟨rd1, hrd1⟩ : ∃ x : T2, x = (upd rd.1 m (nI b1), upd rd.2.1 m (nI (e1 - b1)), rd.2.2.1, rd.2.2.2.1, nI b1, nI e1) := ⟨_, rfl⟩
    have nt2 : f2_takeNewClock F (rW rd b0 e0) tp s2 ck = some (nI 1, rd1, s3, ckO ck m N) := by rw [hrd1]; exact nt1
    have tt := takeTimes_c (ck := ckO ck m N) (rd := rd1) (m := m) hF HT W1 (by rw [hrd1]) hb2 he2 hb3 he3 hb4 he4 rfl hm1 R1 hN
    show match ff ([(btw (whw t b2' e2) 1 999999, b2'), (btw (whw t b3 e3) 0 (gz (whw t b2' e2) - 1), b3), (btw (whw t b4 e4) 0 (gz (whw t b2' e2) - 1) && decide (¬ whw t b4 e4 = whw t b3 e3), b4)] ++ [(ptw t b5 e5, b5), (smc t b6 e6, b6)]) with
      | some p => _
      | none => _
    cases hf : ff [(btw (whw t b2' e2) 1 999999, b2'), (btw (whw t b3 e3) 0 (gz (whw t b2' e2) - 1), b3), (btw (whw t b4 e4) 0 (gz (whw t b2' e2) - 1) && decide (¬ whw t b4 e4 = whw t b3 e3), b4)] with
    | some p =>
      rw [ff_as hf]
      rw [hf] at tt
      obtain ⟨rd', sh', ck', t1, t2⟩ := tt
      refine ⟨rd', sh', ck', ?_, t2⟩
      simp (disch := omega) only [li, ↓lim1, ↓bnd_m, ↓grd_m, ↓jn_e, ↓cas_m, ↓oc_m, inb_t, nI_add, pk_mul, sub_e, le_t, le_f, lt_t, lt_f, eq_t, eq_f, cl_e, m1_e, m1_e', m1_lt, m1_le, m1_m1, lt_m1, ↓reduceIte, Nat.add_zero, Nat.zero_add, si, op, pw, nt2, t1]
    | none =>
      rw [ff_an hf]
      rw [hf] at tt
      obtain ⟨s4, t1, R2, W2⟩ := tt
      obtain ⟨p0, p1⟩ := takePattern_c (s := 0) (rd := rW rd1 b4 e4) hF HT W2 rfl hb5 he5 (by omega) R2 hN
      cases h5 : ptw t b5 e5 with
      | false =>
        have pf := (p0 h5).2
        rw [ff_f]
        refine ⟨rW rd1 b5 e5, s4, ckT (ckO ck m N) m (gz (whw t b2' e2)) (gz (whw t b3 e3)) (gz (whw t b4 e4)), ?_, rfl⟩
        simp (disch := omega) only [li, ↓lim1, ↓bnd_m, ↓grd_m, ↓jn_e, ↓cas_m, ↓oc_m, inb_t, nI_add, pk_mul, sub_e, le_t, le_f, lt_t, lt_f, eq_t, eq_f, cl_e, m1_e, m1_e', m1_lt, m1_le, m1_m1, lt_m1, ↓reduceIte, Nat.add_zero, Nat.zero_add, si, op, pw, nt2, t1, pf, rW_rW]
      | true =>
        rw [ff_t]
        obtain ⟨s5, _, pf, R3, W3⟩ := p1 h5
        rw [Nat.add_zero] at R3
        obtain ⟨q0, q1⟩ := takeEnd_c (rd := rW rd1 b5 e5) hF HT W3.le rfl hb6 he6 R3 hN
        cases h6 : smc t b6 e6 with
        | false =>
          have ef := q0 h6
          rw [ff_f]
          refine ⟨rW rd1 b6 e6, s5, ckT (ckO ck m N) m (gz (whw t b2' e2)) (gz (whw t b3 e3)) (gz (whw t b4 e4)), ?_, rfl⟩
          simp (disch := omega) only [li, ↓lim1, ↓bnd_m, ↓grd_m, ↓jn_e, ↓cas_m, ↓oc_m, inb_t, nI_add, pk_mul, sub_e, le_t, le_f, lt_t, lt_f, eq_t, eq_f, cl_e, m1_e, m1_e', m1_lt, m1_le, m1_m1, lt_m1, ↓reduceIte, Nat.add_zero, Nat.zero_add, si, op, pw, nt2, t1, pf, ef, rW_rW]
        | true =>
          obtain ⟨hbn, s6, ef, Q1, Q2, Q3⟩ := q1 h6
          have h6' : e6 = b6 + 1 ∧ t b6 = 59 := of_decide_eq_true h6
          refine ⟨s6, ?_, Q1, Q2, Q3, by omega⟩
          simp (disch := omega) only [li, ↓lim1, ↓bnd_m, ↓grd_m, ↓jn_e, ↓cas_m, ↓oc_m, inb_t, nI_add, pk_mul, sub_e, le_t, le_f, lt_t, lt_f, eq_t, eq_f, cl_e, m1_e, m1_e', m1_lt, m1_le, m1_m1, lt_m1, ↓reduceIte, Nat.add_zero, Nat.zero_add, si, op, pw, nt2, t1, pf, ef, rW_rW]
          rw [hrd1]
          rfl
theorem crow1 (hF : 5000 < F) (HT : TpC tp t n) (si : f2_sortInHand F (rW rd b0 e0) tp = some (nI 1)) (op : f3_open F (nI 1) sh = some s1) (pw : f2_printWord F (rW rd b0 e0) s1 tp = some s2) (H : RC s2 N so va pl pc L e0) (hW : Wd t n e0) (hN : N < 40)
    (hb1 : b1 = wb t n e0) (he1 : e1 = we t n b1) (hb2 : b2' = wb t n e1) (he2 : e2 = we t n b2') (hb3 : b3 = wb t n e2) (he3 : e3 = we t n b3) (hb4 : b4 = wb t n e3) (he4 : e4 = we t n b4) (hb5 : b5 = wb t n e4) (he5 : e5 = we t n b5) (hb6 : b6 = wb t n e5) (he6 : e6 = we t n b6) (hsz : kSiz ck = nI m) (hm : m ≤ 12)
    {q : Option Nat} (hq : nmw t b1 e1 = true → ∀ sh, f2_clockNamed F (nI b1) (nI (e1 - b1)) (rW rd b1 e1) sh ck tp = some (pI q)) (hq' : ∀ k, q = some k → k < 100) :
    match ff [(nwo t b1 e1 m q, b1), (nmw t b2' e2, b2'), (btw (whw t b3 e3) 1 1000, b3), (btw (whw t b4 e4) 1 1000, b4), (ptw t b5 e5, b5), (smc t b6 e6, b6)] with
    | some p => FlC (f2_takeRow F (rW rd b0 e0) tp sh ck) p
    | none => ∃ sh', f2_takeRow F (rW rd b0 e0) tp sh ck = some (nI 1, (upd rd.1 m (nI b1), upd rd.2.1 m (nI (e1 - b1)), upd rd.2.2.1 (2 * N) (nI b2'), upd rd.2.2.2.1 (2 * N) (nI (e2 - b2')), nI b6, nI e6), sh', ckR (ckO ck m N) m (gz (whw t b3 e3)) (gz (whw t b4 e4)) false) ∧ ShP sh' (N + 1) so va (gu pl (3 * N) (e5 - b5)) (gu pc (3 * N) (fun i => t (b5 + i))) (L ++ [32] ++ wl t b1 (e1 - b1) ++ [32] ++ wl t b2' (e2 - b2') ++ [32] ++ dt (gz (whw t b3 e3)) ++ [32] ++ dt (gz (whw t b4 e4)) ++ [32] ++ wl t b5 (e5 - b5) ++ [59, 10]) ∧ chs (L ++ [32] ++ wl t b1 (e1 - b1) ++ [32] ++ wl t b2' (e2 - b2') ++ [32] ++ dt (gz (whw t b3 e3)) ++ [32] ++ dt (gz (whw t b4 e4)) ++ [32] ++ wl t b5 (e5 - b5) ++ [59, 10]) ∧ (L ++ [32] ++ wl t b1 (e1 - b1) ++ [32] ++ wl t b2' (e2 - b2') ++ [32] ++ dt (gz (whw t b3 e3)) ++ [32] ++ dt (gz (whw t b4 e4)) ++ [32] ++ wl t b5 (e5 - b5) ++ [59, 10]).length ≤ e6 + (N + 1) ∧ e6 ≤ n := by
  unfold f2_takeRow
  obtain ⟨n0, n1⟩ := takeNewClock_c (rd := rW rd b0 e0) hF HT hW rfl hb1 he1 hsz hm (fun h => hq h s2) hq' H hN
  cases h1 : nwo t b1 e1 m q with
  | false =>
    have nf := n0 h1
    rw [ff_f]
    refine ⟨rW rd b1 e1, s2, ck, ?_, rfl⟩
    simp (disch := omega) only [li, ↓lim1, ↓bnd_m, ↓grd_m, ↓jn_e, ↓cas_m, ↓oc_m, inb_t, nI_add, pk_mul, sub_e, le_t, le_f, lt_t, lt_f, eq_t, eq_f, cl_e, m1_e, m1_e', m1_lt, m1_le, m1_m1, lt_m1, ↓reduceIte, Nat.add_zero, Nat.zero_add, si, op, pw, nf, rW_rW]
  | true =>
    rw [ff_t]
    obtain ⟨s3, nt1, R1, W1⟩ := n1 h1
    have hm1 : m < 12 := by
      unfold nwo at h1
      rw [Bool.and_eq_true, Bool.and_eq_true] at h1
      exact of_decide_eq_true h1.1.2
    obtain ⟨rd1, hrd1⟩ : ∃ x : T2, x = (upd rd.1 m (nI b1), upd rd.2.1 m (nI (e1 - b1)), rd.2.2.1, rd.2.2.2.1, nI b1, nI e1) := ⟨_, rfl⟩
    have nt2 : f2_takeNewClock F (rW rd b0 e0) tp s2 ck = some (nI 1, rd1, s3, ckO ck m N) := by rw [hrd1]; exact nt1
    obtain ⟨l0, l1⟩ := takeLink_c (s := 0) (rd := rd1) hF HT W1 (by rw [hrd1]) hb2 he2 (by omega) R1 hN
    cases h2 : nmw t b2' e2 with
    | false =>
      have lf := l0 h2
      rw [ff_f]
      refine ⟨rW rd1 b2' e2, s3, ckO ck m N, ?_, rfl⟩
      simp (disch := omega) only [li, ↓lim1, ↓bnd_m, ↓grd_m, ↓jn_e, ↓cas_m, ↓oc_m, inb_t, nI_add, pk_mul, sub_e, le_t, le_f, lt_t, lt_f, eq_t, eq_f, cl_e, m1_e, m1_e', m1_lt, m1_le, m1_m1, lt_m1, ↓reduceIte, Nat.add_zero, Nat.zero_add, si, op, pw, nt2, lf]
    | true =>
      rw [ff_t]
      obtain ⟨s4, lt1, R2, W2⟩ := l1 h2
      rw [Nat.add_zero] at lt1
      obtain ⟨rd2, hrd2⟩ : ∃ x : T2, x = (rd1.1, rd1.2.1, upd rd1.2.2.1 (2 * N) (nI b2'), upd rd1.2.2.2.1 (2 * N) (nI (e2 - b2')), nI b2', nI e2) := ⟨_, rfl⟩
      rw [← hrd2] at lt1
      have tt := takeRatio_c (ck := ckO ck m N) (rd := rd2) (m := m) hF HT W2 (by rw [hrd2]) hb3 he3 hb4 he4 rfl hm1 R2 hN false
      rw [b2_f] at tt
      show match ff ([(btw (whw t b3 e3) 1 1000, b3), (btw (whw t b4 e4) 1 1000, b4)] ++ [(ptw t b5 e5, b5), (smc t b6 e6, b6)]) with
        | some p => _
        | none => _
      cases hf : ff [(btw (whw t b3 e3) 1 1000, b3), (btw (whw t b4 e4) 1 1000, b4)] with
      | some p =>
        rw [ff_as hf]
        rw [hf] at tt
        obtain ⟨rd', sh', ck', t1, t2⟩ := tt
        refine ⟨rd', sh', ck', ?_, t2⟩
        simp (disch := omega) only [li, ↓lim1, ↓bnd_m, ↓grd_m, ↓jn_e, ↓cas_m, ↓oc_m, inb_t, nI_add, pk_mul, sub_e, le_t, le_f, lt_t, lt_f, eq_t, eq_f, cl_e, m1_e, m1_e', m1_lt, m1_le, m1_m1, lt_m1, ↓reduceIte, Nat.add_zero, Nat.zero_add, si, op, pw, nt2, lt1, t1]
      | none =>
        rw [ff_an hf]
        rw [hf] at tt
        obtain ⟨s5, t1, R3, W3⟩ := tt
        obtain ⟨p0, p1⟩ := takePattern_c (s := 0) (rd := rW rd2 b4 e4) hF HT W3 rfl hb5 he5 (by omega) R3 hN
        cases h5 : ptw t b5 e5 with
        | false =>
          have pf := (p0 h5).2
          rw [ff_f]
          refine ⟨rW rd2 b5 e5, s5, ckR (ckO ck m N) m (gz (whw t b3 e3)) (gz (whw t b4 e4)) false, ?_, rfl⟩
          simp (disch := omega) only [li, ↓lim1, ↓bnd_m, ↓grd_m, ↓jn_e, ↓cas_m, ↓oc_m, inb_t, nI_add, pk_mul, sub_e, le_t, le_f, lt_t, lt_f, eq_t, eq_f, cl_e, m1_e, m1_e', m1_lt, m1_le, m1_m1, lt_m1, ↓reduceIte, Nat.add_zero, Nat.zero_add, si, op, pw, nt2, lt1, t1, pf, rW_rW]
        | true =>
          rw [ff_t]
          obtain ⟨s6, _, pf, R4, W4⟩ := p1 h5
          rw [Nat.add_zero] at R4
          obtain ⟨q0, q1⟩ := takeEnd_c (rd := rW rd2 b5 e5) hF HT W4.le rfl hb6 he6 R4 hN
          cases h6 : smc t b6 e6 with
          | false =>
            have ef := q0 h6
            rw [ff_f]
            refine ⟨rW rd2 b6 e6, s6, ckR (ckO ck m N) m (gz (whw t b3 e3)) (gz (whw t b4 e4)) false, ?_, rfl⟩
            simp (disch := omega) only [li, ↓lim1, ↓bnd_m, ↓grd_m, ↓jn_e, ↓cas_m, ↓oc_m, inb_t, nI_add, pk_mul, sub_e, le_t, le_f, lt_t, lt_f, eq_t, eq_f, cl_e, m1_e, m1_e', m1_lt, m1_le, m1_m1, lt_m1, ↓reduceIte, Nat.add_zero, Nat.zero_add, si, op, pw, nt2, lt1, t1, pf, ef, rW_rW]
          | true =>
            obtain ⟨hbn, s7, ef, Q1, Q2, Q3⟩ := q1 h6
            have h6' : e6 = b6 + 1 ∧ t b6 = 59 := of_decide_eq_true h6
            refine ⟨s7, ?_, Q1, Q2, Q3, by omega⟩
            simp (disch := omega) only [li, ↓lim1, ↓bnd_m, ↓grd_m, ↓jn_e, ↓cas_m, ↓oc_m, inb_t, nI_add, pk_mul, sub_e, le_t, le_f, lt_t, lt_f, eq_t, eq_f, cl_e, m1_e, m1_e', m1_lt, m1_le, m1_m1, lt_m1, ↓reduceIte, Nat.add_zero, Nat.zero_add, si, op, pw, nt2, lt1, t1, pf, ef, rW_rW]
            rw [hrd2, hrd1]
            rfl
theorem crow2 (hF : 5000 < F) (HT : TpC tp t n) (si : f2_sortInHand F (rW rd b0 e0) tp = some (nI 2)) (op : f3_open F (nI 2) sh = some s1) (pw : f2_printWord F (rW rd b0 e0) s1 tp = some s2) (H : RC s2 N so va pl pc L e0) (hW : Wd t n e0) (hN : N < 40)
    (hb1 : b1 = wb t n e0) (he1 : e1 = we t n b1) (hb2 : b2' = wb t n e1) (he2 : e2 = we t n b2') (hb3 : b3 = wb t n e2) (he3 : e3 = we t n b3) (hb4 : b4 = wb t n e3) (he4 : e4 = we t n b4) (hb5 : b5 = wb t n e4) (he5 : e5 = we t n b5) (hb6 : b6 = wb t n e5) (he6 : e6 = we t n b6) (hsz : kSiz ck = nI m) (hm : m ≤ 12)
    {q : Option Nat} (hq : nmw t b1 e1 = true → ∀ sh, f2_clockNamed F (nI b1) (nI (e1 - b1)) (rW rd b1 e1) sh ck tp = some (pI q)) (hq' : ∀ k, q = some k → k < 100) :
    match ff [(nwo t b1 e1 m q, b1), (nmw t b2' e2, b2'), (btw (whw t b3 e3) 1 1000, b3), (btw (whw t b4 e4) 1 1000, b4), (ptw t b5 e5, b5), (smc t b6 e6, b6)] with
    | some p => FlC (f2_takeRow F (rW rd b0 e0) tp sh ck) p
    | none => ∃ sh', f2_takeRow F (rW rd b0 e0) tp sh ck = some (nI 1, (upd rd.1 m (nI b1), upd rd.2.1 m (nI (e1 - b1)), upd rd.2.2.1 (2 * N) (nI b2'), upd rd.2.2.2.1 (2 * N) (nI (e2 - b2')), nI b6, nI e6), sh', ckR (ckO ck m N) m (gz (whw t b3 e3)) (gz (whw t b4 e4)) true) ∧ ShP sh' (N + 1) so va (gu pl (3 * N) (e5 - b5)) (gu pc (3 * N) (fun i => t (b5 + i))) (L ++ [32] ++ wl t b1 (e1 - b1) ++ [32] ++ wl t b2' (e2 - b2') ++ [32] ++ dt (gz (whw t b3 e3)) ++ [32] ++ dt (gz (whw t b4 e4)) ++ [32] ++ wl t b5 (e5 - b5) ++ [59, 10]) ∧ chs (L ++ [32] ++ wl t b1 (e1 - b1) ++ [32] ++ wl t b2' (e2 - b2') ++ [32] ++ dt (gz (whw t b3 e3)) ++ [32] ++ dt (gz (whw t b4 e4)) ++ [32] ++ wl t b5 (e5 - b5) ++ [59, 10]) ∧ (L ++ [32] ++ wl t b1 (e1 - b1) ++ [32] ++ wl t b2' (e2 - b2') ++ [32] ++ dt (gz (whw t b3 e3)) ++ [32] ++ dt (gz (whw t b4 e4)) ++ [32] ++ wl t b5 (e5 - b5) ++ [59, 10]).length ≤ e6 + (N + 1) ∧ e6 ≤ n := by
  unfold f2_takeRow
  obtain ⟨n0, n1⟩ := takeNewClock_c (rd := rW rd b0 e0) hF HT hW rfl hb1 he1 hsz hm (fun h => hq h s2) hq' H hN
  cases h1 : nwo t b1 e1 m q with
  | false =>
    have nf := n0 h1
    rw [ff_f]
    refine ⟨rW rd b1 e1, s2, ck, ?_, rfl⟩
    simp (disch := omega) only [li, ↓lim1, ↓bnd_m, ↓grd_m, ↓jn_e, ↓cas_m, ↓oc_m, inb_t, nI_add, pk_mul, sub_e, le_t, le_f, lt_t, lt_f, eq_t, eq_f, cl_e, m1_e, m1_e', m1_lt, m1_le, m1_m1, lt_m1, ↓reduceIte, Nat.add_zero, Nat.zero_add, si, op, pw, nf, rW_rW]
  | true =>
    rw [ff_t]
    obtain ⟨s3, nt1, R1, W1⟩ := n1 h1
    have hm1 : m < 12 := by
      unfold nwo at h1
      rw [Bool.and_eq_true, Bool.and_eq_true] at h1
      exact of_decide_eq_true h1.1.2
    obtain ⟨rd1, hrd1⟩ : ∃ x : T2, x = (upd rd.1 m (nI b1), upd rd.2.1 m (nI (e1 - b1)), rd.2.2.1, rd.2.2.2.1, nI b1, nI e1) := ⟨_, rfl⟩
    have nt2 : f2_takeNewClock F (rW rd b0 e0) tp s2 ck = some (nI 1, rd1, s3, ckO ck m N) := by rw [hrd1]; exact nt1
    obtain ⟨l0, l1⟩ := takeLink_c (s := 0) (rd := rd1) hF HT W1 (by rw [hrd1]) hb2 he2 (by omega) R1 hN
    cases h2 : nmw t b2' e2 with
    | false =>
      have lf := l0 h2
      rw [ff_f]
      refine ⟨rW rd1 b2' e2, s3, ckO ck m N, ?_, rfl⟩
      simp (disch := omega) only [li, ↓lim1, ↓bnd_m, ↓grd_m, ↓jn_e, ↓cas_m, ↓oc_m, inb_t, nI_add, pk_mul, sub_e, le_t, le_f, lt_t, lt_f, eq_t, eq_f, cl_e, m1_e, m1_e', m1_lt, m1_le, m1_m1, lt_m1, ↓reduceIte, Nat.add_zero, Nat.zero_add, si, op, pw, nt2, lf]
    | true =>
      rw [ff_t]
      obtain ⟨s4, lt1, R2, W2⟩ := l1 h2
      rw [Nat.add_zero] at lt1
      obtain ⟨rd2, hrd2⟩ : ∃ x : T2, x = (rd1.1, rd1.2.1, upd rd1.2.2.1 (2 * N) (nI b2'), upd rd1.2.2.2.1 (2 * N) (nI (e2 - b2')), nI b2', nI e2) := ⟨_, rfl⟩
      rw [← hrd2] at lt1
      have tt := takeRatio_c (ck := ckO ck m N) (rd := rd2) (m := m) hF HT W2 (by rw [hrd2]) hb3 he3 hb4 he4 rfl hm1 R2 hN true
      rw [b2_t] at tt
      show match ff ([(btw (whw t b3 e3) 1 1000, b3), (btw (whw t b4 e4) 1 1000, b4)] ++ [(ptw t b5 e5, b5), (smc t b6 e6, b6)]) with
        | some p => _
        | none => _
      cases hf : ff [(btw (whw t b3 e3) 1 1000, b3), (btw (whw t b4 e4) 1 1000, b4)] with
      | some p =>
        rw [ff_as hf]
        rw [hf] at tt
        obtain ⟨rd', sh', ck', t1, t2⟩ := tt
        refine ⟨rd', sh', ck', ?_, t2⟩
        simp (disch := omega) only [li, ↓lim1, ↓bnd_m, ↓grd_m, ↓jn_e, ↓cas_m, ↓oc_m, inb_t, nI_add, pk_mul, sub_e, le_t, le_f, lt_t, lt_f, eq_t, eq_f, cl_e, m1_e, m1_e', m1_lt, m1_le, m1_m1, lt_m1, ↓reduceIte, Nat.add_zero, Nat.zero_add, si, op, pw, nt2, lt1, t1]
      | none =>
        rw [ff_an hf]
        rw [hf] at tt
        obtain ⟨s5, t1, R3, W3⟩ := tt
        obtain ⟨p0, p1⟩ := takePattern_c (s := 0) (rd := rW rd2 b4 e4) hF HT W3 rfl hb5 he5 (by omega) R3 hN
        cases h5 : ptw t b5 e5 with
        | false =>
          have pf := (p0 h5).2
          rw [ff_f]
          refine ⟨rW rd2 b5 e5, s5, ckR (ckO ck m N) m (gz (whw t b3 e3)) (gz (whw t b4 e4)) true, ?_, rfl⟩
          simp (disch := omega) only [li, ↓lim1, ↓bnd_m, ↓grd_m, ↓jn_e, ↓cas_m, ↓oc_m, inb_t, nI_add, pk_mul, sub_e, le_t, le_f, lt_t, lt_f, eq_t, eq_f, cl_e, m1_e, m1_e', m1_lt, m1_le, m1_m1, lt_m1, ↓reduceIte, Nat.add_zero, Nat.zero_add, si, op, pw, nt2, lt1, t1, pf, rW_rW]
        | true =>
          rw [ff_t]
          obtain ⟨s6, _, pf, R4, W4⟩ := p1 h5
          rw [Nat.add_zero] at R4
          obtain ⟨q0, q1⟩ := takeEnd_c (rd := rW rd2 b5 e5) hF HT W4.le rfl hb6 he6 R4 hN
          cases h6 : smc t b6 e6 with
          | false =>
            have ef := q0 h6
            rw [ff_f]
            refine ⟨rW rd2 b6 e6, s6, ckR (ckO ck m N) m (gz (whw t b3 e3)) (gz (whw t b4 e4)) true, ?_, rfl⟩
            simp (disch := omega) only [li, ↓lim1, ↓bnd_m, ↓grd_m, ↓jn_e, ↓cas_m, ↓oc_m, inb_t, nI_add, pk_mul, sub_e, le_t, le_f, lt_t, lt_f, eq_t, eq_f, cl_e, m1_e, m1_e', m1_lt, m1_le, m1_m1, lt_m1, ↓reduceIte, Nat.add_zero, Nat.zero_add, si, op, pw, nt2, lt1, t1, pf, ef, rW_rW]
          | true =>
            obtain ⟨hbn, s7, ef, Q1, Q2, Q3⟩ := q1 h6
            have h6' : e6 = b6 + 1 ∧ t b6 = 59 := of_decide_eq_true h6
            refine ⟨s7, ?_, Q1, Q2, Q3, by omega⟩
            simp (disch := omega) only [li, ↓lim1, ↓bnd_m, ↓grd_m, ↓jn_e, ↓cas_m, ↓oc_m, inb_t, nI_add, pk_mul, sub_e, le_t, le_f, lt_t, lt_f, eq_t, eq_f, cl_e, m1_e, m1_e', m1_lt, m1_le, m1_m1, lt_m1, ↓reduceIte, Nat.add_zero, Nat.zero_add, si, op, pw, nt2, lt1, t1, pf, ef, rW_rW]
            rw [hrd2, hrd1]
            rfl
theorem crow3 (hF : 5000 < F) (HT : TpC tp t n) (si : f2_sortInHand F (rW rd b0 e0) tp = some (nI 3)) (op : f3_open F (nI 3) sh = some s1) (pw : f2_printWord F (rW rd b0 e0) s1 tp = some s2) (H : RC s2 N so va pl pc L e0) (hW : Wd t n e0) (hN : N < 40)
    (hb1 : b1 = wb t n e0) (he1 : e1 = we t n b1) (hb2 : b2' = wb t n e1) (he2 : e2 = we t n b2') (hb3 : b3 = wb t n e2) (he3 : e3 = we t n b3) :
    match ff [(nmw t b1 e1, b1), (nmw t b2' e2, b2'), (smc t b3 e3, b3)] with
    | some p => FlC (f2_takeRow F (rW rd b0 e0) tp sh ck) p
    | none => ∃ sh', f2_takeRow F (rW rd b0 e0) tp sh ck = some (nI 1, (rd.1, rd.2.1, upd (upd rd.2.2.1 (2 * N) (nI b1)) (2 * N + 1) (nI b2'), upd (upd rd.2.2.2.1 (2 * N) (nI (e1 - b1))) (2 * N + 1) (nI (e2 - b2')), nI b3, nI e3), sh', ck) ∧ ShP sh' (N + 1) so va pl pc (L ++ [32] ++ wl t b1 (e1 - b1) ++ [32] ++ wl t b2' (e2 - b2') ++ [59, 10]) ∧ chs (L ++ [32] ++ wl t b1 (e1 - b1) ++ [32] ++ wl t b2' (e2 - b2') ++ [59, 10]) ∧ (L ++ [32] ++ wl t b1 (e1 - b1) ++ [32] ++ wl t b2' (e2 - b2') ++ [59, 10]).length ≤ e3 + (N + 1) ∧ e3 ≤ n := by
  unfold f2_takeRow
  obtain ⟨l0, l1⟩ := takeLink_c (s := 0) (rd := rW rd b0 e0) hF HT hW rfl hb1 he1 (by omega) H hN
  cases h1 : nmw t b1 e1 with
  | false =>
    have lf := l0 h1
    rw [ff_f]
    refine ⟨rW rd b1 e1, s2, ck, ?_, rfl⟩
    simp (disch := omega) only [li, ↓lim1, ↓bnd_m, ↓grd_m, ↓jn_e, ↓cas_m, ↓oc_m, inb_t, nI_add, pk_mul, sub_e, le_t, le_f, lt_t, lt_f, eq_t, eq_f, cl_e, m1_e, m1_e', m1_lt, m1_le, m1_m1, lt_m1, ↓reduceIte, Nat.add_zero, Nat.zero_add, si, op, pw, lf, rW_rW]
  | true =>
    rw [ff_t]
    obtain ⟨s3, lt1, R1, W1⟩ := l1 h1
    rw [Nat.add_zero] at lt1
    obtain ⟨rd1, hrd1⟩ : ∃ x : T2, x = (rd.1, rd.2.1, upd rd.2.2.1 (2 * N) (nI b1), upd rd.2.2.2.1 (2 * N) (nI (e1 - b1)), nI b1, nI e1) := ⟨_, rfl⟩
    have lt2 : f2_takeLink F (nI 0) (rW rd b0 e0) tp s2 = some (nI 1, rd1, s3) := by rw [hrd1]; exact lt1
    obtain ⟨k0, k1⟩ := takeLink_c (s := 1) (rd := rd1) hF HT W1 (by rw [hrd1]) hb2 he2 (by omega) R1 hN
    cases h2 : nmw t b2' e2 with
    | false =>
      have lf := k0 h2
      rw [ff_f]
      refine ⟨rW rd1 b2' e2, s3, ck, ?_, rfl⟩
      simp (disch := omega) only [li, ↓lim1, ↓bnd_m, ↓grd_m, ↓jn_e, ↓cas_m, ↓oc_m, inb_t, nI_add, pk_mul, sub_e, le_t, le_f, lt_t, lt_f, eq_t, eq_f, cl_e, m1_e, m1_e', m1_lt, m1_le, m1_m1, lt_m1, ↓reduceIte, Nat.add_zero, Nat.zero_add, si, op, pw, lt2, lf]
    | true =>
      rw [ff_t]
      obtain ⟨s4, lt3, R2, W2⟩ := k1 h2
      obtain ⟨rd2, hrd2⟩ : ∃ x : T2, x = (rd1.1, rd1.2.1, upd rd1.2.2.1 (2 * N + 1) (nI b2'), upd rd1.2.2.2.1 (2 * N + 1) (nI (e2 - b2')), nI b2', nI e2) := ⟨_, rfl⟩
      rw [← hrd2] at lt3
      obtain ⟨q0, q1⟩ := takeEnd_c (rd := rd2) hF HT W2.le (by rw [hrd2]) hb3 he3 R2 hN
      cases h3 : smc t b3 e3 with
      | false =>
        have ef := q0 h3
        rw [ff_f]
        refine ⟨rW rd2 b3 e3, s4, ck, ?_, rfl⟩
        simp (disch := omega) only [li, ↓lim1, ↓bnd_m, ↓grd_m, ↓jn_e, ↓cas_m, ↓oc_m, inb_t, nI_add, pk_mul, sub_e, le_t, le_f, lt_t, lt_f, eq_t, eq_f, cl_e, m1_e, m1_e', m1_lt, m1_le, m1_m1, lt_m1, ↓reduceIte, Nat.add_zero, Nat.zero_add, si, op, pw, lt2, lt3, ef]
      | true =>
        obtain ⟨hbn, s7, ef, Q1, Q2, Q3⟩ := q1 h3
        have h6' : e3 = b3 + 1 ∧ t b3 = 59 := of_decide_eq_true h3
        refine ⟨s7, ?_, Q1, Q2, Q3, by omega⟩
        simp (disch := omega) only [li, ↓lim1, ↓bnd_m, ↓grd_m, ↓jn_e, ↓cas_m, ↓oc_m, inb_t, nI_add, pk_mul, sub_e, le_t, le_f, lt_t, lt_f, eq_t, eq_f, cl_e, m1_e, m1_e', m1_lt, m1_le, m1_m1, lt_m1, ↓reduceIte, Nat.add_zero, Nat.zero_add, si, op, pw, lt2, lt3, ef]
        rw [hrd2, hrd1]
        rfl
theorem crow4 (hF : 5000 < F) (HT : TpC tp t n) (si : f2_sortInHand F (rW rd b0 e0) tp = some (nI 4)) (op : f3_open F (nI 4) sh = some s1) (pw : f2_printWord F (rW rd b0 e0) s1 tp = some s2) (H : RC s2 N so va pl pc L e0) (hW : Wd t n e0) (hN : N < 40)
    (hb1 : b1 = wb t n e0) (he1 : e1 = we t n b1) (hb2 : b2' = wb t n e1) (he2 : e2 = we t n b2') (hb3 : b3 = wb t n e2) (he3 : e3 = we t n b3) (hb4 : b4 = wb t n e3) (he4 : e4 = we t n b4) (z0 : ∀ s, s < 3 → pl (3 * N + s) = 0) :
    match ff ([(pto t b1 e1 true, b1), (pto t b2' e2 true, b2'), (c3o t b1 e1 b2' e2 b3 e3, b3)] ++ [(smc t b4 e4, b4)]) with
    | some p => FlC (f2_takeRow F (rW rd b0 e0) tp sh ck) p
    | none => ∃ sh', f2_takeRow F (rW rd b0 e0) tp sh ck = some (nI 1, (rd.1, rd.2.1, rd.2.2.1, rd.2.2.2.1, nI b4, nI e4), sh', ck) ∧ ShP sh' (N + 1) so va (pln (pln (pln pl (3 * N) t b1 e1) (3 * N + 1) t b2' e2) (3 * N + 2) t b3 e3) (pcn (pcn (pcn pc (3 * N) t b1 e1) (3 * N + 1) t b2' e2) (3 * N + 2) t b3 e3) (L ++ [32] ++ wl t b1 (e1 - b1) ++ [32] ++ wl t b2' (e2 - b2') ++ [32] ++ wl t b3 (e3 - b3) ++ [59, 10]) ∧ chs (L ++ [32] ++ wl t b1 (e1 - b1) ++ [32] ++ wl t b2' (e2 - b2') ++ [32] ++ wl t b3 (e3 - b3) ++ [59, 10]) ∧ (L ++ [32] ++ wl t b1 (e1 - b1) ++ [32] ++ wl t b2' (e2 - b2') ++ [32] ++ wl t b3 (e3 - b3) ++ [59, 10]).length ≤ e4 + (N + 1) ∧ e4 ≤ n := by
  unfold f2_takeRow
  have tt := takePath_c (rd := rW rd b0 e0) hF HT hW rfl hb1 he1 hb2 he2 hb3 he3 H hN z0
  cases hf : ff [(pto t b1 e1 true, b1), (pto t b2' e2 true, b2'), (c3o t b1 e1 b2' e2 b3 e3, b3)] with
  | some p =>
    rw [ff_as hf]
    rw [hf] at tt
    obtain ⟨rd', sh', t1, t2⟩ := tt
    refine ⟨rd', sh', ck, ?_, t2⟩
    simp (disch := omega) only [li, ↓lim1, ↓bnd_m, ↓grd_m, ↓jn_e, ↓cas_m, ↓oc_m, inb_t, nI_add, pk_mul, sub_e, le_t, le_f, lt_t, lt_f, eq_t, eq_f, cl_e, m1_e, m1_e', m1_lt, m1_le, m1_m1, lt_m1, ↓reduceIte, Nat.add_zero, Nat.zero_add, si, op, pw, t1]
  | none =>
    rw [ff_an hf]
    rw [hf] at tt
    obtain ⟨s3, t1, R1, W1⟩ := tt
    rw [rW_rW] at t1
    obtain ⟨q0, q1⟩ := takeEnd_c (rd := rW rd b3 e3) hF HT W1.le rfl hb4 he4 R1 hN
    cases h3 : smc t b4 e4 with
    | false =>
      have ef := q0 h3
      rw [ff_f]
      refine ⟨rW rd b4 e4, s3, ck, ?_, rfl⟩
      simp (disch := omega) only [li, ↓lim1, ↓bnd_m, ↓grd_m, ↓jn_e, ↓cas_m, ↓oc_m, inb_t, nI_add, pk_mul, sub_e, le_t, le_f, lt_t, lt_f, eq_t, eq_f, cl_e, m1_e, m1_e', m1_lt, m1_le, m1_m1, lt_m1, ↓reduceIte, Nat.add_zero, Nat.zero_add, si, op, pw, t1, ef, rW_rW]
    | true =>
      obtain ⟨hbn, s7, ef, Q1, Q2, Q3⟩ := q1 h3
      have h6' : e4 = b4 + 1 ∧ t b4 = 59 := of_decide_eq_true h3
      refine ⟨s7, ?_, Q1, Q2, Q3, by omega⟩
      simp (disch := omega) only [li, ↓lim1, ↓bnd_m, ↓grd_m, ↓jn_e, ↓cas_m, ↓oc_m, inb_t, nI_add, pk_mul, sub_e, le_t, le_f, lt_t, lt_f, eq_t, eq_f, cl_e, m1_e, m1_e', m1_lt, m1_le, m1_m1, lt_m1, ↓reduceIte, Nat.add_zero, Nat.zero_add, si, op, pw, t1, ef, rW_rW]
      rfl
theorem crow5 (hF : 5000 < F) (HT : TpC tp t n) (si : f2_sortInHand F (rW rd b0 e0) tp = some (nI 5)) (op : f3_open F (nI 5) sh = some s1) (pw : f2_printWord F (rW rd b0 e0) s1 tp = some s2) (H : RC s2 N so va pl pc L e0) (hW : Wd t n e0) (hN : N < 40)
    (hb1 : b1 = wb t n e0) (he1 : e1 = we t n b1) (hb2 : b2' = wb t n e1) (he2 : e2 = we t n b2') (hb3 : b3 = wb t n e2) (he3 : e3 = we t n b3) (hb4 : b4 = wb t n e3) (he4 : e4 = we t n b4) (hb5 : b5 = wb t n e4) (he5 : e5 = we t n b5) (z0 : ∀ s, s < 3 → pl (3 * N + s) = 0) :
    match ff ((btw (whw t b1 e1) 2 100, b1) :: ([(pto t b2' e2 true, b2'), (pto t b3 e3 true, b3), (c3o t b2' e2 b3 e3 b4 e4, b4)] ++ [(smc t b5 e5, b5)])) with
    | some p => FlC (f2_takeRow F (rW rd b0 e0) tp sh ck) p
    | none => ∃ sh', f2_takeRow F (rW rd b0 e0) tp sh ck = some (nI 1, (rd.1, rd.2.1, rd.2.2.1, rd.2.2.2.1, nI b5, nI e5), sh', ck) ∧ ShP sh' (N + 1) so (gu va N (gz (whw t b1 e1))) (pln (pln (pln pl (3 * N) t b2' e2) (3 * N + 1) t b3 e3) (3 * N + 2) t b4 e4) (pcn (pcn (pcn pc (3 * N) t b2' e2) (3 * N + 1) t b3 e3) (3 * N + 2) t b4 e4) (L ++ [32] ++ dt (gz (whw t b1 e1)) ++ [32] ++ wl t b2' (e2 - b2') ++ [32] ++ wl t b3 (e3 - b3) ++ [32] ++ wl t b4 (e4 - b4) ++ [59, 10]) ∧ chs (L ++ [32] ++ dt (gz (whw t b1 e1)) ++ [32] ++ wl t b2' (e2 - b2') ++ [32] ++ wl t b3 (e3 - b3) ++ [32] ++ wl t b4 (e4 - b4) ++ [59, 10]) ∧ (L ++ [32] ++ dt (gz (whw t b1 e1)) ++ [32] ++ wl t b2' (e2 - b2') ++ [32] ++ wl t b3 (e3 - b3) ++ [32] ++ wl t b4 (e4 - b4) ++ [59, 10]).length ≤ e5 + (N + 1) ∧ e5 ≤ n := by
  unfold f2_takeRow
  obtain ⟨v0, v1⟩ := takeValue_c (lo := 2) (hi := 100) (rd := rW rd b0 e0) hF HT hW rfl hb1 he1 (by omega) (by omega) H hN
  cases h1 : btw (whw t b1 e1) 2 100 with
  | false =>
    have vf := v0 h1
    rw [ff_f]
    refine ⟨rW rd b1 e1, s2, ck, ?_, rfl⟩
    simp (disch := omega) only [li, ↓lim1, ↓bnd_m, ↓grd_m, ↓jn_e, ↓cas_m, ↓oc_m, inb_t, nI_add, pk_mul, sub_e, le_t, le_f, lt_t, lt_f, eq_t, eq_f, cl_e, m1_e, m1_e', m1_lt, m1_le, m1_m1, lt_m1, ↓reduceIte, Nat.add_zero, Nat.zero_add, si, op, pw, vf, rW_rW]
  | true =>
    rw [ff_t]
    obtain ⟨s3, vt, R0, W0⟩ := v1 h1
    rw [rW_rW] at vt
    have tt := takePath_c (rd := rW rd b1 e1) hF HT W0 rfl hb2 he2 hb3 he3 hb4 he4 R0 hN z0
    cases hf : ff [(pto t b2' e2 true, b2'), (pto t b3 e3 true, b3), (c3o t b2' e2 b3 e3 b4 e4, b4)] with
    | some p =>
      rw [ff_as hf]
      rw [hf] at tt
      obtain ⟨rd', sh', t1, t2⟩ := tt
      refine ⟨rd', sh', ck, ?_, t2⟩
      simp (disch := omega) only [li, ↓lim1, ↓bnd_m, ↓grd_m, ↓jn_e, ↓cas_m, ↓oc_m, inb_t, nI_add, pk_mul, sub_e, le_t, le_f, lt_t, lt_f, eq_t, eq_f, cl_e, m1_e, m1_e', m1_lt, m1_le, m1_m1, lt_m1, ↓reduceIte, Nat.add_zero, Nat.zero_add, si, op, pw, vt, t1]
    | none =>
      rw [ff_an hf]
      rw [hf] at tt
      obtain ⟨s4, t1, R1, W1⟩ := tt
      rw [rW_rW] at t1
      obtain ⟨q0, q1⟩ := takeEnd_c (rd := rW rd b4 e4) hF HT W1.le rfl hb5 he5 R1 hN
      cases h3 : smc t b5 e5 with
      | false =>
        have ef := q0 h3
        rw [ff_f]
        refine ⟨rW rd b5 e5, s4, ck, ?_, rfl⟩
        simp (disch := omega) only [li, ↓lim1, ↓bnd_m, ↓grd_m, ↓jn_e, ↓cas_m, ↓oc_m, inb_t, nI_add, pk_mul, sub_e, le_t, le_f, lt_t, lt_f, eq_t, eq_f, cl_e, m1_e, m1_e', m1_lt, m1_le, m1_m1, lt_m1, ↓reduceIte, Nat.add_zero, Nat.zero_add, si, op, pw, vt, t1, ef, rW_rW]
      | true =>
        obtain ⟨hbn, s7, ef, Q1, Q2, Q3⟩ := q1 h3
        have h6' : e5 = b5 + 1 ∧ t b5 = 59 := of_decide_eq_true h3
        refine ⟨s7, ?_, Q1, Q2, Q3, by omega⟩
        simp (disch := omega) only [li, ↓lim1, ↓bnd_m, ↓grd_m, ↓jn_e, ↓cas_m, ↓oc_m, inb_t, nI_add, pk_mul, sub_e, le_t, le_f, lt_t, lt_f, eq_t, eq_f, cl_e, m1_e, m1_e', m1_lt, m1_le, m1_m1, lt_m1, ↓reduceIte, Nat.add_zero, Nat.zero_add, si, op, pw, vt, t1, ef, rW_rW]
        rfl
theorem crow6 (hF : 5000 < F) (HT : TpC tp t n) (si : f2_sortInHand F (rW rd b0 e0) tp = some (nI 6)) (op : f3_open F (nI 6) sh = some s1) (pw : f2_printWord F (rW rd b0 e0) s1 tp = some s2) (H : RC s2 N so va pl pc L e0) (hW : Wd t n e0) (hN : N < 40)
    (hb1 : b1 = wb t n e0) (he1 : e1 = we t n b1) (hb2 : b2' = wb t n e1) (he2 : e2 = we t n b2') (hb3 : b3 = wb t n e2) (he3 : e3 = we t n b3) (hb4 : b4 = wb t n e3) (he4 : e4 = we t n b4) (hb5 : b5 = wb t n e4) (he5 : e5 = we t n b5) (z0 : ∀ s, s < 3 → pl (3 * N + s) = 0) :
    match ff ((btw (whw t b1 e1) 0 999999, b1) :: ([(pto t b2' e2 true, b2'), (pto t b3 e3 true, b3), (c3o t b2' e2 b3 e3 b4 e4, b4)] ++ [(smc t b5 e5, b5)])) with
    | some p => FlC (f2_takeRow F (rW rd b0 e0) tp sh ck) p
    | none => ∃ sh', f2_takeRow F (rW rd b0 e0) tp sh ck = some (nI 1, (rd.1, rd.2.1, rd.2.2.1, rd.2.2.2.1, nI b5, nI e5), sh', ck) ∧ ShP sh' (N + 1) so (gu va N (gz (whw t b1 e1))) (pln (pln (pln pl (3 * N) t b2' e2) (3 * N + 1) t b3 e3) (3 * N + 2) t b4 e4) (pcn (pcn (pcn pc (3 * N) t b2' e2) (3 * N + 1) t b3 e3) (3 * N + 2) t b4 e4) (L ++ [32] ++ dt (gz (whw t b1 e1)) ++ [32] ++ wl t b2' (e2 - b2') ++ [32] ++ wl t b3 (e3 - b3) ++ [32] ++ wl t b4 (e4 - b4) ++ [59, 10]) ∧ chs (L ++ [32] ++ dt (gz (whw t b1 e1)) ++ [32] ++ wl t b2' (e2 - b2') ++ [32] ++ wl t b3 (e3 - b3) ++ [32] ++ wl t b4 (e4 - b4) ++ [59, 10]) ∧ (L ++ [32] ++ dt (gz (whw t b1 e1)) ++ [32] ++ wl t b2' (e2 - b2') ++ [32] ++ wl t b3 (e3 - b3) ++ [32] ++ wl t b4 (e4 - b4) ++ [59, 10]).length ≤ e5 + (N + 1) ∧ e5 ≤ n := by
  unfold f2_takeRow
  obtain ⟨v0, v1⟩ := takeValue_c (lo := 0) (hi := 999999) (rd := rW rd b0 e0) hF HT hW rfl hb1 he1 (by omega) (by omega) H hN
  cases h1 : btw (whw t b1 e1) 0 999999 with
  | false =>
    have vf := v0 h1
    rw [ff_f]
    refine ⟨rW rd b1 e1, s2, ck, ?_, rfl⟩
    simp (disch := omega) only [li, ↓lim1, ↓bnd_m, ↓grd_m, ↓jn_e, ↓cas_m, ↓oc_m, inb_t, nI_add, pk_mul, sub_e, le_t, le_f, lt_t, lt_f, eq_t, eq_f, cl_e, m1_e, m1_e', m1_lt, m1_le, m1_m1, lt_m1, ↓reduceIte, Nat.add_zero, Nat.zero_add, si, op, pw, vf, rW_rW]
  | true =>
    rw [ff_t]
    obtain ⟨s3, vt, R0, W0⟩ := v1 h1
    rw [rW_rW] at vt
    have tt := takePath_c (rd := rW rd b1 e1) hF HT W0 rfl hb2 he2 hb3 he3 hb4 he4 R0 hN z0
    cases hf : ff [(pto t b2' e2 true, b2'), (pto t b3 e3 true, b3), (c3o t b2' e2 b3 e3 b4 e4, b4)] with
    | some p =>
      rw [ff_as hf]
      rw [hf] at tt
      obtain ⟨rd', sh', t1, t2⟩ := tt
      refine ⟨rd', sh', ck, ?_, t2⟩
      simp (disch := omega) only [li, ↓lim1, ↓bnd_m, ↓grd_m, ↓jn_e, ↓cas_m, ↓oc_m, inb_t, nI_add, pk_mul, sub_e, le_t, le_f, lt_t, lt_f, eq_t, eq_f, cl_e, m1_e, m1_e', m1_lt, m1_le, m1_m1, lt_m1, ↓reduceIte, Nat.add_zero, Nat.zero_add, si, op, pw, vt, t1]
    | none =>
      rw [ff_an hf]
      rw [hf] at tt
      obtain ⟨s4, t1, R1, W1⟩ := tt
      rw [rW_rW] at t1
      obtain ⟨q0, q1⟩ := takeEnd_c (rd := rW rd b4 e4) hF HT W1.le rfl hb5 he5 R1 hN
      cases h3 : smc t b5 e5 with
      | false =>
        have ef := q0 h3
        rw [ff_f]
        refine ⟨rW rd b5 e5, s4, ck, ?_, rfl⟩
        simp (disch := omega) only [li, ↓lim1, ↓bnd_m, ↓grd_m, ↓jn_e, ↓cas_m, ↓oc_m, inb_t, nI_add, pk_mul, sub_e, le_t, le_f, lt_t, lt_f, eq_t, eq_f, cl_e, m1_e, m1_e', m1_lt, m1_le, m1_m1, lt_m1, ↓reduceIte, Nat.add_zero, Nat.zero_add, si, op, pw, vt, t1, ef, rW_rW]
      | true =>
        obtain ⟨hbn, s7, ef, Q1, Q2, Q3⟩ := q1 h3
        have h6' : e5 = b5 + 1 ∧ t b5 = 59 := of_decide_eq_true h3
        refine ⟨s7, ?_, Q1, Q2, Q3, by omega⟩
        simp (disch := omega) only [li, ↓lim1, ↓bnd_m, ↓grd_m, ↓jn_e, ↓cas_m, ↓oc_m, inb_t, nI_add, pk_mul, sub_e, le_t, le_f, lt_t, lt_f, eq_t, eq_f, cl_e, m1_e, m1_e', m1_lt, m1_le, m1_m1, lt_m1, ↓reduceIte, Nat.add_zero, Nat.zero_add, si, op, pw, vt, t1, ef, rW_rW]
        rfl
theorem crow7 (hF : 5000 < F) (HT : TpC tp t n) (si : f2_sortInHand F (rW rd b0 e0) tp = some (nI 7)) (op : f3_open F (nI 7) sh = some s1) (pw : f2_printWord F (rW rd b0 e0) s1 tp = some s2) (H : RC s2 N so va pl pc L e0) (hW : Wd t n e0) (hN : N < 40)
    (hb1 : b1 = wb t n e0) (he1 : e1 = we t n b1) (hb2 : b2' = wb t n e1) (he2 : e2 = we t n b2') (hb3 : b3 = wb t n e2) (he3 : e3 = we t n b3) (hb4 : b4 = wb t n e3) (he4 : e4 = we t n b4) (hb5 : b5 = wb t n e4) (he5 : e5 = we t n b5) (z0 : ∀ s, s < 3 → pl (3 * N + s) = 0) :
    match ff ((btw (whw t b1 e1) 0 999999, b1) :: ([(pto t b2' e2 true, b2'), (pto t b3 e3 true, b3), (c3o t b2' e2 b3 e3 b4 e4, b4)] ++ [(smc t b5 e5, b5)])) with
    | some p => FlC (f2_takeRow F (rW rd b0 e0) tp sh ck) p
    | none => ∃ sh', f2_takeRow F (rW rd b0 e0) tp sh ck = some (nI 1, (rd.1, rd.2.1, rd.2.2.1, rd.2.2.2.1, nI b5, nI e5), sh', ck) ∧ ShP sh' (N + 1) so (gu va N (gz (whw t b1 e1))) (pln (pln (pln pl (3 * N) t b2' e2) (3 * N + 1) t b3 e3) (3 * N + 2) t b4 e4) (pcn (pcn (pcn pc (3 * N) t b2' e2) (3 * N + 1) t b3 e3) (3 * N + 2) t b4 e4) (L ++ [32] ++ dt (gz (whw t b1 e1)) ++ [32] ++ wl t b2' (e2 - b2') ++ [32] ++ wl t b3 (e3 - b3) ++ [32] ++ wl t b4 (e4 - b4) ++ [59, 10]) ∧ chs (L ++ [32] ++ dt (gz (whw t b1 e1)) ++ [32] ++ wl t b2' (e2 - b2') ++ [32] ++ wl t b3 (e3 - b3) ++ [32] ++ wl t b4 (e4 - b4) ++ [59, 10]) ∧ (L ++ [32] ++ dt (gz (whw t b1 e1)) ++ [32] ++ wl t b2' (e2 - b2') ++ [32] ++ wl t b3 (e3 - b3) ++ [32] ++ wl t b4 (e4 - b4) ++ [59, 10]).length ≤ e5 + (N + 1) ∧ e5 ≤ n := by
  unfold f2_takeRow
  obtain ⟨v0, v1⟩ := takeValue_c (lo := 0) (hi := 999999) (rd := rW rd b0 e0) hF HT hW rfl hb1 he1 (by omega) (by omega) H hN
  cases h1 : btw (whw t b1 e1) 0 999999 with
  | false =>
    have vf := v0 h1
    rw [ff_f]
    refine ⟨rW rd b1 e1, s2, ck, ?_, rfl⟩
    simp (disch := omega) only [li, ↓lim1, ↓bnd_m, ↓grd_m, ↓jn_e, ↓cas_m, ↓oc_m, inb_t, nI_add, pk_mul, sub_e, le_t, le_f, lt_t, lt_f, eq_t, eq_f, cl_e, m1_e, m1_e', m1_lt, m1_le, m1_m1, lt_m1, ↓reduceIte, Nat.add_zero, Nat.zero_add, si, op, pw, vf, rW_rW]
  | true =>
    rw [ff_t]
    obtain ⟨s3, vt, R0, W0⟩ := v1 h1
    rw [rW_rW] at vt
    have tt := takePath_c (rd := rW rd b1 e1) hF HT W0 rfl hb2 he2 hb3 he3 hb4 he4 R0 hN z0
    cases hf : ff [(pto t b2' e2 true, b2'), (pto t b3 e3 true, b3), (c3o t b2' e2 b3 e3 b4 e4, b4)] with
    | some p =>
      rw [ff_as hf]
      rw [hf] at tt
      obtain ⟨rd', sh', t1, t2⟩ := tt
      refine ⟨rd', sh', ck, ?_, t2⟩
      simp (disch := omega) only [li, ↓lim1, ↓bnd_m, ↓grd_m, ↓jn_e, ↓cas_m, ↓oc_m, inb_t, nI_add, pk_mul, sub_e, le_t, le_f, lt_t, lt_f, eq_t, eq_f, cl_e, m1_e, m1_e', m1_lt, m1_le, m1_m1, lt_m1, ↓reduceIte, Nat.add_zero, Nat.zero_add, si, op, pw, vt, t1]
    | none =>
      rw [ff_an hf]
      rw [hf] at tt
      obtain ⟨s4, t1, R1, W1⟩ := tt
      rw [rW_rW] at t1
      obtain ⟨q0, q1⟩ := takeEnd_c (rd := rW rd b4 e4) hF HT W1.le rfl hb5 he5 R1 hN
      cases h3 : smc t b5 e5 with
      | false =>
        have ef := q0 h3
        rw [ff_f]
        refine ⟨rW rd b5 e5, s4, ck, ?_, rfl⟩
        simp (disch := omega) only [li, ↓lim1, ↓bnd_m, ↓grd_m, ↓jn_e, ↓cas_m, ↓oc_m, inb_t, nI_add, pk_mul, sub_e, le_t, le_f, lt_t, lt_f, eq_t, eq_f, cl_e, m1_e, m1_e', m1_lt, m1_le, m1_m1, lt_m1, ↓reduceIte, Nat.add_zero, Nat.zero_add, si, op, pw, vt, t1, ef, rW_rW]
      | true =>
        obtain ⟨hbn, s7, ef, Q1, Q2, Q3⟩ := q1 h3
        have h6' : e5 = b5 + 1 ∧ t b5 = 59 := of_decide_eq_true h3
        refine ⟨s7, ?_, Q1, Q2, Q3, by omega⟩
        simp (disch := omega) only [li, ↓lim1, ↓bnd_m, ↓grd_m, ↓jn_e, ↓cas_m, ↓oc_m, inb_t, nI_add, pk_mul, sub_e, le_t, le_f, lt_t, lt_f, eq_t, eq_f, cl_e, m1_e, m1_e', m1_lt, m1_le, m1_m1, lt_m1, ↓reduceIte, Nat.add_zero, Nat.zero_add, si, op, pw, vt, t1, ef, rW_rW]
        rfl
theorem crow8 (hF : 5000 < F) (HT : TpC tp t n) (si : f2_sortInHand F (rW rd b0 e0) tp = some (nI 8)) (op : f3_open F (nI 8) sh = some s1) (pw : f2_printWord F (rW rd b0 e0) s1 tp = some s2) (H : RC s2 N so va pl pc L e0) (hW : Wd t n e0) (hN : N < 40)
    (hb1 : b1 = wb t n e0) (he1 : e1 = we t n b1) (hb2 : b2' = wb t n e1) (he2 : e2 = we t n b2') (hb3 : b3 = wb t n e2) (he3 : e3 = we t n b3) :
    match ff [(btw (whw t b1 e1) 0 999999, b1), (ptw t b2' e2, b2'), (smc t b3 e3, b3)] with
    | some p => FlC (f2_takeRow F (rW rd b0 e0) tp sh ck) p
    | none => ∃ sh', f2_takeRow F (rW rd b0 e0) tp sh ck = some (nI 1, (rd.1, rd.2.1, rd.2.2.1, rd.2.2.2.1, nI b3, nI e3), sh', ck) ∧ ShP sh' (N + 1) so (gu va N (gz (whw t b1 e1))) (gu pl (3 * N) (e2 - b2')) (gu pc (3 * N) (fun i => t (b2' + i))) (L ++ [32] ++ dt (gz (whw t b1 e1)) ++ [32] ++ wl t b2' (e2 - b2') ++ [59, 10]) ∧ chs (L ++ [32] ++ dt (gz (whw t b1 e1)) ++ [32] ++ wl t b2' (e2 - b2') ++ [59, 10]) ∧ (L ++ [32] ++ dt (gz (whw t b1 e1)) ++ [32] ++ wl t b2' (e2 - b2') ++ [59, 10]).length ≤ e3 + (N + 1) ∧ e3 ≤ n := by
  unfold f2_takeRow
  obtain ⟨v0, v1⟩ := takeValue_c (lo := 0) (hi := 999999) (rd := rW rd b0 e0) hF HT hW rfl hb1 he1 (by omega) (by omega) H hN
  cases h1 : btw (whw t b1 e1) 0 999999 with
  | false =>
    have vf := v0 h1
    rw [ff_f]
    refine ⟨rW rd b1 e1, s2, ck, ?_, rfl⟩
    simp (disch := omega) only [li, ↓lim1, ↓bnd_m, ↓grd_m, ↓jn_e, ↓cas_m, ↓oc_m, inb_t, nI_add, pk_mul, sub_e, le_t, le_f, lt_t, lt_f, eq_t, eq_f, cl_e, m1_e, m1_e', m1_lt, m1_le, m1_m1, lt_m1, ↓reduceIte, Nat.add_zero, Nat.zero_add, si, op, pw, vf, rW_rW]
  | true =>
    rw [ff_t]
    obtain ⟨s3, vt, R0, W0⟩ := v1 h1
    rw [rW_rW] at vt
    obtain ⟨p0, p1⟩ := takePattern_c (s := 0) (rd := rW rd b1 e1) hF HT W0 rfl hb2 he2 (by omega) R0 hN
    cases h2 : ptw t b2' e2 with
    | false =>
      have pf := (p0 h2).2
      rw [ff_f]
      refine ⟨rW rd b2' e2, s3, ck, ?_, rfl⟩
      simp (disch := omega) only [li, ↓lim1, ↓bnd_m, ↓grd_m, ↓jn_e, ↓cas_m, ↓oc_m, inb_t, nI_add, pk_mul, sub_e, le_t, le_f, lt_t, lt_f, eq_t, eq_f, cl_e, m1_e, m1_e', m1_lt, m1_le, m1_m1, lt_m1, ↓reduceIte, Nat.add_zero, Nat.zero_add, si, op, pw, vt, pf, rW_rW]
    | true =>
      rw [ff_t]
      obtain ⟨s4, _, pf, R1, W1⟩ := p1 h2
      rw [Nat.add_zero] at R1
      obtain ⟨q0, q1⟩ := takeEnd_c (rd := rW rd b2' e2) hF HT W1.le rfl hb3 he3 R1 hN
      cases h3 : smc t b3 e3 with
      | false =>
        have ef := q0 h3
        rw [ff_f]
        refine ⟨rW rd b3 e3, s4, ck, ?_, rfl⟩
        simp (disch := omega) only [li, ↓lim1, ↓bnd_m, ↓grd_m, ↓jn_e, ↓cas_m, ↓oc_m, inb_t, nI_add, pk_mul, sub_e, le_t, le_f, lt_t, lt_f, eq_t, eq_f, cl_e, m1_e, m1_e', m1_lt, m1_le, m1_m1, lt_m1, ↓reduceIte, Nat.add_zero, Nat.zero_add, si, op, pw, vt, pf, ef, rW_rW]
      | true =>
        obtain ⟨hbn, s7, ef, Q1, Q2, Q3⟩ := q1 h3
        have h6' : e3 = b3 + 1 ∧ t b3 = 59 := of_decide_eq_true h3
        refine ⟨s7, ?_, Q1, Q2, Q3, by omega⟩
        simp (disch := omega) only [li, ↓lim1, ↓bnd_m, ↓grd_m, ↓jn_e, ↓cas_m, ↓oc_m, inb_t, nI_add, pk_mul, sub_e, le_t, le_f, lt_t, lt_f, eq_t, eq_f, cl_e, m1_e, m1_e', m1_lt, m1_le, m1_m1, lt_m1, ↓reduceIte, Nat.add_zero, Nat.zero_add, si, op, pw, vt, pf, ef, rW_rW]
        rfl
theorem crow9 (hF : 5000 < F) (HT : TpC tp t n) (si : f2_sortInHand F (rW rd b0 e0) tp = some (nI 9)) (op : f3_open F (nI 9) sh = some s1) (pw : f2_printWord F (rW rd b0 e0) s1 tp = some s2) (H : RC s2 N so va pl pc L e0) (hW : Wd t n e0) (hN : N < 40)
    (hb1 : b1 = wb t n e0) (he1 : e1 = we t n b1) (hb2 : b2' = wb t n e1) (he2 : e2 = we t n b2') (hb3 : b3 = wb t n e2) (he3 : e3 = we t n b3) :
    match ff [(btw (whw t b1 e1) 0 999999, b1), (ptw t b2' e2, b2'), (smc t b3 e3, b3)] with
    | some p => FlC (f2_takeRow F (rW rd b0 e0) tp sh ck) p
    | none => ∃ sh', f2_takeRow F (rW rd b0 e0) tp sh ck = some (nI 1, (rd.1, rd.2.1, rd.2.2.1, rd.2.2.2.1, nI b3, nI e3), sh', ck) ∧ ShP sh' (N + 1) so (gu va N (gz (whw t b1 e1))) (gu pl (3 * N) (e2 - b2')) (gu pc (3 * N) (fun i => t (b2' + i))) (L ++ [32] ++ dt (gz (whw t b1 e1)) ++ [32] ++ wl t b2' (e2 - b2') ++ [59, 10]) ∧ chs (L ++ [32] ++ dt (gz (whw t b1 e1)) ++ [32] ++ wl t b2' (e2 - b2') ++ [59, 10]) ∧ (L ++ [32] ++ dt (gz (whw t b1 e1)) ++ [32] ++ wl t b2' (e2 - b2') ++ [59, 10]).length ≤ e3 + (N + 1) ∧ e3 ≤ n := by
  unfold f2_takeRow
  obtain ⟨v0, v1⟩ := takeValue_c (lo := 0) (hi := 999999) (rd := rW rd b0 e0) hF HT hW rfl hb1 he1 (by omega) (by omega) H hN
  cases h1 : btw (whw t b1 e1) 0 999999 with
  | false =>
    have vf := v0 h1
    rw [ff_f]
    refine ⟨rW rd b1 e1, s2, ck, ?_, rfl⟩
    simp (disch := omega) only [li, ↓lim1, ↓bnd_m, ↓grd_m, ↓jn_e, ↓cas_m, ↓oc_m, inb_t, nI_add, pk_mul, sub_e, le_t, le_f, lt_t, lt_f, eq_t, eq_f, cl_e, m1_e, m1_e', m1_lt, m1_le, m1_m1, lt_m1, ↓reduceIte, Nat.add_zero, Nat.zero_add, si, op, pw, vf, rW_rW]
  | true =>
    rw [ff_t]
    obtain ⟨s3, vt, R0, W0⟩ := v1 h1
    rw [rW_rW] at vt
    obtain ⟨p0, p1⟩ := takePattern_c (s := 0) (rd := rW rd b1 e1) hF HT W0 rfl hb2 he2 (by omega) R0 hN
    cases h2 : ptw t b2' e2 with
    | false =>
      have pf := (p0 h2).2
      rw [ff_f]
      refine ⟨rW rd b2' e2, s3, ck, ?_, rfl⟩
      simp (disch := omega) only [li, ↓lim1, ↓bnd_m, ↓grd_m, ↓jn_e, ↓cas_m, ↓oc_m, inb_t, nI_add, pk_mul, sub_e, le_t, le_f, lt_t, lt_f, eq_t, eq_f, cl_e, m1_e, m1_e', m1_lt, m1_le, m1_m1, lt_m1, ↓reduceIte, Nat.add_zero, Nat.zero_add, si, op, pw, vt, pf, rW_rW]
    | true =>
      rw [ff_t]
      obtain ⟨s4, _, pf, R1, W1⟩ := p1 h2
      rw [Nat.add_zero] at R1
      obtain ⟨q0, q1⟩ := takeEnd_c (rd := rW rd b2' e2) hF HT W1.le rfl hb3 he3 R1 hN
      cases h3 : smc t b3 e3 with
      | false =>
        have ef := q0 h3
        rw [ff_f]
        refine ⟨rW rd b3 e3, s4, ck, ?_, rfl⟩
        simp (disch := omega) only [li, ↓lim1, ↓bnd_m, ↓grd_m, ↓jn_e, ↓cas_m, ↓oc_m, inb_t, nI_add, pk_mul, sub_e, le_t, le_f, lt_t, lt_f, eq_t, eq_f, cl_e, m1_e, m1_e', m1_lt, m1_le, m1_m1, lt_m1, ↓reduceIte, Nat.add_zero, Nat.zero_add, si, op, pw, vt, pf, ef, rW_rW]
      | true =>
        obtain ⟨hbn, s7, ef, Q1, Q2, Q3⟩ := q1 h3
        have h6' : e3 = b3 + 1 ∧ t b3 = 59 := of_decide_eq_true h3
        refine ⟨s7, ?_, Q1, Q2, Q3, by omega⟩
        simp (disch := omega) only [li, ↓lim1, ↓bnd_m, ↓grd_m, ↓jn_e, ↓cas_m, ↓oc_m, inb_t, nI_add, pk_mul, sub_e, le_t, le_f, lt_t, lt_f, eq_t, eq_f, cl_e, m1_e, m1_e', m1_lt, m1_le, m1_m1, lt_m1, ↓reduceIte, Nat.add_zero, Nat.zero_add, si, op, pw, vt, pf, ef, rW_rW]
        rfl
end R0
end Ct
