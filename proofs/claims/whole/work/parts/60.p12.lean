/-! ===== the class's rows ===== -/
section Cr
variable {F N n m b e e0 : Nat} {so va pl : Nat → Nat} {pc : Nat → Nat → Nat} {L : List Nat} {t : Nat → Nat} {tp : T4} {sh : T3} {rd : T2} {ck : T0}
/-- the newest clock's times, its ratio -/
def ckT (ck : T0) (m p r f : Nat) : T0 := (ck.1, ck.2.1, ck.2.2.1, ck.2.2.2.1, ck.2.2.2.2.1, vp_updL ck.2.2.2.2.2.1 m (lN p), vp_updL ck.2.2.2.2.2.2.1 m (lN r), vp_updL ck.2.2.2.2.2.2.2.1 m (lN f), vp_updL ck.2.2.2.2.2.2.2.2.1 m (lN 1), upd ck.2.2.2.2.2.2.2.2.2.1 m (nI 1), ck.2.2.2.2.2.2.2.2.2.2.1, ck.2.2.2.2.2.2.2.2.2.2.2)
def ckR (ck : T0) (m u l : Nat) (f : Bool) : T0 := (ck.1, ck.2.1, upd ck.2.2.1 m (b2 f), upd ck.2.2.2.1 m (nI u), upd ck.2.2.2.2.1 m (nI l), ck.2.2.2.2.2.1, ck.2.2.2.2.2.2.1, ck.2.2.2.2.2.2.2.1, ck.2.2.2.2.2.2.2.2.1, ck.2.2.2.2.2.2.2.2.2.1, ck.2.2.2.2.2.2.2.2.2.2.1, ck.2.2.2.2.2.2.2.2.2.2.2)
theorem setTimes_c (hsz : kSiz ck = nI (m + 1)) (hm : m < 12) {p r f : Nat} (hp : p < 1000000) (hr : r < 1000000) (hf : f < 1000000) : f0_setTimes (nI p) (nI r) (nI f) ck = some (ckT ck m p r f) := by
  have hsz' : ck.2.2.2.2.2.2.2.2.2.2.2 = nI (m + 1) := hsz
  have hh := has_n (k := m) hsz (by omega) (by omega)
  rw [if_pos (by omega)] at hh
  unfold f0_setTimes ckT
  simp (disch := omega) only [li, ↓lim1, ↓bnd_m, ↓grd_m, ↓jn_e, ↓cas_m, ↓oc_m, inb_t, nI_add, pk_mul, sub_e, le_t, le_f, lt_t, lt_f, eq_t, eq_f, cl_e, m1_e, m1_e', m1_lt, m1_le, m1_m1, lt_m1, ↓reduceIte, Nat.add_zero, Nat.zero_add, div_e, rem_e, l_e, hsz', Nat.add_sub_cancel, hh, nrB1, liL]
theorem setRatio_c (hsz : kSiz ck = nI (m + 1)) (hm : m < 12) {u l : Nat} (f : Bool) : f0_setRatio (nI u) (nI l) (b2 f) ck = some (ckR ck m u l f) := by
  have hsz' : ck.2.2.2.2.2.2.2.2.2.2.2 = nI (m + 1) := hsz
  have hh := has_n (k := m) hsz (by omega) (by omega)
  rw [if_pos (by omega)] at hh
  have nb : vp_nar .boolean (b2 f) = b2 f := by cases f <;> decide
  unfold f0_setRatio ckR
  simp (disch := omega) only [li, ↓lim1, ↓bnd_m, ↓grd_m, ↓jn_e, ↓cas_m, ↓oc_m, inb_t, nI_add, pk_mul, sub_e, le_t, le_f, lt_t, lt_f, eq_t, eq_f, cl_e, m1_e, m1_e', m1_lt, m1_le, m1_m1, lt_m1, ↓reduceIte, Nat.add_zero, Nat.zero_add, div_e, rem_e, l_e, hsz', Nat.add_sub_cancel, hh, nb]
theorem takeTimes_c (hF : 5000 < F) (HT : TpC tp t n) (hW : Wd t n e0) (hr : rd.2.2.2.2.2 = nI e0)
    {b1 e1 b2' e2 b3 e3 : Nat} (hb1 : b1 = wb t n e0) (he1 : e1 = we t n b1) (hb2 : b2' = wb t n e1) (he2 : e2 = we t n b2') (hb3 : b3 = wb t n e2) (he3 : e3 = we t n b3)
    (hsz : kSiz ck = nI (m + 1)) (hm : m < 12) (H : RC sh N so va pl pc L e0) (hN : N < 40) :
    match ff [(btw (whw t b1 e1) 1 999999, b1), (btw (whw t b2' e2) 0 (gz (whw t b1 e1) - 1), b2'), (btw (whw t b3 e3) 0 (gz (whw t b1 e1) - 1) && decide (¬ whw t b3 e3 = whw t b2' e2), b3)] with
    | some p => ∃ rd' sh' ck', f2_takeTimes F rd tp sh ck = some (nI 0, rd', sh', ck') ∧ rd'.2.2.2.2.1 = nI p
    | none => ∃ sh', f2_takeTimes F rd tp sh ck = some (nI 1, rW rd b3 e3, sh', ckT ck m (gz (whw t b1 e1)) (gz (whw t b2' e2)) (gz (whw t b3 e3))) ∧ RC sh' N so va pl pc (L ++ [32] ++ dt (gz (whw t b1 e1)) ++ [32] ++ dt (gz (whw t b2' e2)) ++ [32] ++ dt (gz (whw t b3 e3))) e3 ∧ Wd t n e3 := by
  have he0 := hW.le
  unfold f2_takeTimes
  cases h1 : btw (whw t b1 e1) 1 999999 with
  | false =>
    have q := takeWhole_c0 (sh := sh) hF HT he0 hr hb1 he1 (lo := 1) (hi := 999999) (by omega) (by omega) h1
    rw [ff_f]
    refine ⟨rW rd b1 e1, sh, ck, ?_, rfl⟩
    simp (disch := omega) only [li, ↓lim1, ↓bnd_m, ↓grd_m, ↓jn_e, ↓cas_m, ↓oc_m, inb_t, nI_add, pk_mul, sub_e, le_t, le_f, lt_t, lt_f, eq_t, eq_f, cl_e, m1_e, m1_e', m1_lt, m1_le, m1_m1, lt_m1, ↓reduceIte, Nat.add_zero, Nat.zero_add, q]
  | true =>
    rw [ff_t]
    obtain ⟨v1, q1, l1, u1⟩ := btw_some h1
    obtain ⟨s1, r1, R1, W1⟩ := takeWhole_c1 hF HT hW hr hb1 he1 (by omega) (by omega) q1 l1 u1 H hN
    have g1 : gz (some v1) = v1 := rfl
    rw [q1, g1]
    cases h2 : btw (whw t b2' e2) 0 (v1 - 1) with
    | false =>
      have q := takeWhole_c0 (sh := s1) (rd := rW rd b1 e1) hF HT W1.le rfl hb2 he2 (lo := 0) (hi := v1 - 1) (by omega) (by omega) h2
      rw [ff_f]
      refine ⟨rW rd b2' e2, s1, ck, ?_, rfl⟩
      simp (disch := omega) only [li, ↓lim1, ↓bnd_m, ↓grd_m, ↓jn_e, ↓cas_m, ↓oc_m, inb_t, nI_add, pk_mul, sub_e, le_t, le_f, lt_t, lt_f, eq_t, eq_f, cl_e, m1_e, m1_e', m1_lt, m1_le, m1_m1, lt_m1, ↓reduceIte, Nat.add_zero, Nat.zero_add, r1, q, rW_rW]
    | true =>
      rw [ff_t]
      obtain ⟨v2, q2, l2, u2⟩ := btw_some h2
      obtain ⟨s2, r2, R2, W2⟩ := takeWhole_c1 (rd := rW rd b1 e1) hF HT W1 rfl hb2 he2 (by omega) (by omega) q2 l2 u2 R1 hN
      have g2 : gz (some v2) = v2 := rfl
      rw [q2, g2]
      cases h3 : btw (whw t b3 e3) 0 (v1 - 1) with
      | false =>
        have q := takeWhole_c0 (sh := s2) (rd := rW rd b2' e2) hF HT W2.le rfl hb3 he3 (lo := 0) (hi := v1 - 1) (by omega) (by omega) h3
        rw [Bool.false_and, ff_f]
        refine ⟨rW rd b3 e3, s2, ck, ?_, rfl⟩
        simp (disch := omega) only [li, ↓lim1, ↓bnd_m, ↓grd_m, ↓jn_e, ↓cas_m, ↓oc_m, inb_t, nI_add, pk_mul, sub_e, le_t, le_f, lt_t, lt_f, eq_t, eq_f, cl_e, m1_e, m1_e', m1_lt, m1_le, m1_m1, lt_m1, ↓reduceIte, Nat.add_zero, Nat.zero_add, r1, r2, q, rW_rW]
      | true =>
        obtain ⟨v3, q3, l3, u3⟩ := btw_some h3
        obtain ⟨s3, r3, R3, W3⟩ := takeWhole_c1 (rd := rW rd b2' e2) hF HT W2 rfl hb3 he3 (by omega) (by omega) q3 l3 u3 R2 hN
        have g3 : gz (some v3) = v3 := rfl
        rw [q3, g3, Bool.true_and]
        by_cases h4 : v3 = v2
        · rw [decide_eq_false (p := ¬ some v3 = some v2) (fun h => h (by rw [h4])), ff_f]
          refine ⟨rW rd b3 e3, s3, ck, ?_, rfl⟩
          simp (disch := omega) only [li, ↓lim1, ↓bnd_m, ↓grd_m, ↓jn_e, ↓cas_m, ↓oc_m, inb_t, nI_add, pk_mul, sub_e, le_t, le_f, lt_t, lt_f, eq_t, eq_f, cl_e, m1_e, m1_e', m1_lt, m1_le, m1_m1, lt_m1, ↓reduceIte, Nat.add_zero, Nat.zero_add, r1, r2, r3, rW_rW]
        · rw [decide_eq_true (p := ¬ some v3 = some v2) (fun h => h4 (Option.some.inj h)), ff_t]
          have st := setTimes_c (p := v1) (r := v2) (f := v3) hsz hm (by omega) (by omega) (by omega)
          refine ⟨s3, ?_, R3, W3⟩
          simp (disch := omega) only [li, ↓lim1, ↓bnd_m, ↓grd_m, ↓jn_e, ↓cas_m, ↓oc_m, inb_t, nI_add, pk_mul, sub_e, le_t, le_f, lt_t, lt_f, eq_t, eq_f, cl_e, m1_e, m1_e', m1_lt, m1_le, m1_m1, lt_m1, ↓reduceIte, Nat.add_zero, Nat.zero_add, r1, r2, r3, st, rW_rW]
theorem takeRatio_c (hF : 5000 < F) (HT : TpC tp t n) (hW : Wd t n e0) (hr : rd.2.2.2.2.2 = nI e0)
    {b1 e1 b2' e2 : Nat} (hb1 : b1 = wb t n e0) (he1 : e1 = we t n b1) (hb2 : b2' = wb t n e1) (he2 : e2 = we t n b2')
    (hsz : kSiz ck = nI (m + 1)) (hm : m < 12) (H : RC sh N so va pl pc L e0) (hN : N < 40) (f : Bool) :
    match ff [(btw (whw t b1 e1) 1 1000, b1), (btw (whw t b2' e2) 1 1000, b2')] with
    | some p => ∃ rd' sh' ck', f2_takeRatio F (b2 f) rd tp sh ck = some (nI 0, rd', sh', ck') ∧ rd'.2.2.2.2.1 = nI p
    | none => ∃ sh', f2_takeRatio F (b2 f) rd tp sh ck = some (nI 1, rW rd b2' e2, sh', ckR ck m (gz (whw t b1 e1)) (gz (whw t b2' e2)) f) ∧ RC sh' N so va pl pc (L ++ [32] ++ dt (gz (whw t b1 e1)) ++ [32] ++ dt (gz (whw t b2' e2))) e2 ∧ Wd t n e2 := by
  have he0 := hW.le
  unfold f2_takeRatio
  cases h1 : btw (whw t b1 e1) 1 1000 with
  | false =>
    have q := takeWhole_c0 (sh := sh) hF HT he0 hr hb1 he1 (lo := 1) (hi := 1000) (by omega) (by omega) h1
    rw [ff_f]
    refine ⟨rW rd b1 e1, sh, ck, ?_, rfl⟩
    simp (disch := omega) only [li, ↓lim1, ↓bnd_m, ↓grd_m, ↓jn_e, ↓cas_m, ↓oc_m, inb_t, nI_add, pk_mul, sub_e, le_t, le_f, lt_t, lt_f, eq_t, eq_f, cl_e, m1_e, m1_e', m1_lt, m1_le, m1_m1, lt_m1, ↓reduceIte, Nat.add_zero, Nat.zero_add, q]
  | true =>
    rw [ff_t]
    obtain ⟨v1, q1, l1, u1⟩ := btw_some h1
    obtain ⟨s1, r1, R1, W1⟩ := takeWhole_c1 hF HT hW hr hb1 he1 (by omega) (by omega) q1 l1 u1 H hN
    have g1 : gz (some v1) = v1 := rfl
    rw [q1, g1]
    cases h2 : btw (whw t b2' e2) 1 1000 with
    | false =>
      have q := takeWhole_c0 (sh := s1) (rd := rW rd b1 e1) hF HT W1.le rfl hb2 he2 (lo := 1) (hi := 1000) (by omega) (by omega) h2
      rw [ff_f]
      refine ⟨rW rd b2' e2, s1, ck, ?_, rfl⟩
      simp (disch := omega) only [li, ↓lim1, ↓bnd_m, ↓grd_m, ↓jn_e, ↓cas_m, ↓oc_m, inb_t, nI_add, pk_mul, sub_e, le_t, le_f, lt_t, lt_f, eq_t, eq_f, cl_e, m1_e, m1_e', m1_lt, m1_le, m1_m1, lt_m1, ↓reduceIte, Nat.add_zero, Nat.zero_add, r1, q, rW_rW]
    | true =>
      rw [ff_t]
      obtain ⟨v2, q2, l2, u2⟩ := btw_some h2
      obtain ⟨s2, r2, R2, W2⟩ := takeWhole_c1 (rd := rW rd b1 e1) hF HT W1 rfl hb2 he2 (by omega) (by omega) q2 l2 u2 R1 hN
      have g2 : gz (some v2) = v2 := rfl
      have st := setRatio_c (u := v1) (l := v2) hsz hm f
      rw [q2, g2]
      refine ⟨s2, ?_, R2, W2⟩
      simp (disch := omega) only [li, ↓lim1, ↓bnd_m, ↓grd_m, ↓jn_e, ↓cas_m, ↓oc_m, inb_t, nI_add, pk_mul, sub_e, le_t, le_f, lt_t, lt_f, eq_t, eq_f, cl_e, m1_e, m1_e', m1_lt, m1_le, m1_m1, lt_m1, ↓reduceIte, Nat.add_zero, Nat.zero_add, r1, r2, st, rW_rW]
/-- a word of a path -/
def pln (pl : Nat → Nat) (j : Nat) (t : Nat → Nat) (b e : Nat) : Nat → Nat := gu pl j (pnl t b e)
def pcn (pc : Nat → Nat → Nat) (j : Nat) (t : Nat → Nat) (b e : Nat) : Nat → Nat → Nat := gu pc j (fun i => t (b + i))
theorem ShP.congr {sh : T3} {N : Nat} {so va pl so' va' pl' : Nat → Nat} {pc pc' : Nat → Nat → Nat} {L : List Nat} (H : ShP sh N so va pl pc L) (h1 : ∀ r, r < N → so' r = so r) (h2 : ∀ r, r < N → va' r = va r) (h3 : ∀ j, j < 3 * N → pl' j = pl j) (h4 : ∀ j, j < 3 * N → 0 < pl j → ∀ i, i < pl j → pc' j i = pc j i) : ShP sh N so' va' pl' pc' L := by
  obtain ⟨⟨r1, r2, r3⟩, ⟨p1, p2, p3⟩, q3, q4, q5⟩ := H
  refine ⟨⟨r1, r2, fun r hr => by rw [h1 r hr, h2 r hr]; exact r3 r hr⟩, ⟨p1, p2, fun j hj => ?_⟩, q3, q4, q5⟩
  obtain ⟨a1, a2, a3, a4⟩ := p3 j hj
  rw [h3 j hj]
  refine ⟨a1, a2, a3, fun h0 => ?_⟩
  obtain ⟨ps, PL, c1, c2, c3, c4, c5⟩ := a4 h0
  exact ⟨ps, PL, c1, c2, c3, c4, fun i hi => by rw [h4 j hj h0 i hi]; exact c5 i hi⟩
theorem path_step (hF : 5000 < F) (HT : TpC tp t n) (hW : Wd t n e0) (hr : rd.2.2.2.2.2 = nI e0) (hb : b = wb t n e0) (he : e = we t n b) {s : Nat} (hs : s < 3) (H : RC sh N so va pl pc L e0) (hN : N < 40) (hz : pl (3 * N + s) = 0) :
    (pto t b e true = false → f2_takePath_L2 F tp (nI s, rd, sh) = some (.inr (.inl (rW rd b e, sh)))) ∧
    (pto t b e true = true → ∃ sh', f2_takePath_L2 F tp (nI s, rd, sh) = some (.inl (nI (s + 1), rW rd b e, sh')) ∧ RC sh' N so va (pln pl (3 * N + s) t b e) (pcn pc (3 * N + s) t b e) (L ++ [32] ++ wl t b (e - b)) e ∧ Wd t n e) := by
  have he0 := hW.le
  have hn := HT.1
  obtain ⟨g1, g2, g3⟩ := w_ok (t := t) he0
  rw [← hb, ← he] at g2 g3
  have tw := takeWord_ok hF HT he0 hr
  rw [← hb, ← he] at tw
  have ai := anyIn_ok (rd := rd) HT g2 g3
  obtain ⟨k0, k1⟩ := takePattern_c hF HT hW hr hb he hs H hN
  unfold f2_takePath_L2
  cases ha : anw t b e with
  | true =>
    have e1 : pto t b e true = true := by unfold pto; rw [ha]; rfl
    rw [e1]
    refine ⟨(fun h => by cases h), fun _ => ?_⟩
    rw [ha, b2_t] at ai
    obtain ⟨a1, a2, a3, a4⟩ := anw_c ha
    obtain ⟨s1, r1, r2, r3⟩ := word_c hF HT hW hb he a1 a2 H hN rd
    have e2 := any_not_pat ha
    have e3 : pnl t b e = 0 := by unfold pnl; rw [if_neg (by rw [e2]; decide)]
    refine ⟨s1, ?_, ⟨r2.1.congr (fun _ _ => rfl) (fun _ _ => rfl) (fun j hj => ?_) (fun j hj h0 i hi => ?_), r2.2⟩, r3⟩
    rotate_left
    · unfold pln
      by_cases c : j = 3 * N + s
      · rw [c, gu_s, e3, hz]
      · rw [gu_n c]
    · unfold pcn
      by_cases c : j = 3 * N + s
      · rw [c, hz] at h0; omega
      · rw [gu_n c]
    simp (disch := omega) only [li, ↓lim1, ↓bnd_m, ↓grd_m, ↓jn_e, ↓cas_m, ↓oc_m, inb_t, nI_add, pk_mul, sub_e, le_t, le_f, lt_t, lt_f, eq_t, eq_f, cl_e, m1_e, m1_e', m1_lt, m1_le, m1_m1, lt_m1, ↓reduceIte, Nat.add_zero, Nat.zero_add, tw, ai, r1]
  | false =>
    have e1 : pto t b e true = ptw t b e := by unfold pto; rw [ha]; rfl
    rw [e1]
    rw [ha, b2_f] at ai
    constructor
    · intro h
      have k := (k0 h).1
      simp (disch := omega) only [li, ↓lim1, ↓bnd_m, ↓grd_m, ↓jn_e, ↓cas_m, ↓oc_m, inb_t, nI_add, pk_mul, sub_e, le_t, le_f, lt_t, lt_f, eq_t, eq_f, cl_e, m1_e, m1_e', m1_lt, m1_le, m1_m1, lt_m1, ↓reduceIte, Nat.add_zero, Nat.zero_add, tw, ai, k]
    · intro h
      obtain ⟨s1, r1, _, r2, r3⟩ := k1 h
      have e3 : pnl t b e = e - b := by unfold pnl; rw [if_pos h]
      unfold pln pcn
      rw [e3]
      refine ⟨s1, ?_, r2, r3⟩
      simp (disch := omega) only [li, ↓lim1, ↓bnd_m, ↓grd_m, ↓jn_e, ↓cas_m, ↓oc_m, inb_t, nI_add, pk_mul, sub_e, le_t, le_f, lt_t, lt_f, eq_t, eq_f, cl_e, m1_e, m1_e', m1_lt, m1_le, m1_m1, lt_m1, ↓reduceIte, Nat.add_zero, Nat.zero_add, tw, ai, r1]
theorem takePath_c (hF : 5000 < F) (HT : TpC tp t n) (hW : Wd t n e0) (hr : rd.2.2.2.2.2 = nI e0)
    {b1 e1 b2' e2 b3 e3 : Nat} (hb1 : b1 = wb t n e0) (he1 : e1 = we t n b1) (hb2 : b2' = wb t n e1) (he2 : e2 = we t n b2') (hb3 : b3 = wb t n e2) (he3 : e3 = we t n b3)
    (H : RC sh N so va pl pc L e0) (hN : N < 40) (z0 : ∀ s, s < 3 → pl (3 * N + s) = 0) :
    match ff [(pto t b1 e1 true, b1), (pto t b2' e2 true, b2'), (c3o t b1 e1 b2' e2 b3 e3, b3)] with
    | some p => ∃ rd' sh', f2_takePath F rd sh tp = some (nI 0, rd', sh') ∧ rd'.2.2.2.2.1 = nI p
    | none => ∃ sh', f2_takePath F rd sh tp = some (nI 1, rW rd b3 e3, sh') ∧ RC sh' N so va (pln (pln (pln pl (3 * N) t b1 e1) (3 * N + 1) t b2' e2) (3 * N + 2) t b3 e3) (pcn (pcn (pcn pc (3 * N) t b1 e1) (3 * N + 1) t b2' e2) (3 * N + 2) t b3 e3) (L ++ [32] ++ wl t b1 (e1 - b1) ++ [32] ++ wl t b2' (e2 - b2') ++ [32] ++ wl t b3 (e3 - b3)) e3 ∧ Wd t n e3 := by
  obtain ⟨G, hG⟩ : ∃ G, F = G + 1 + 1 + 1 + 1 := ⟨F - 4, by omega⟩
  obtain ⟨p10, p11⟩ := path_step (s := 0) hF HT hW hr hb1 he1 (by omega) H hN (z0 0 (by omega))
  cases h1 : pto t b1 e1 true with
  | false =>
    rw [ff_f]
    refine ⟨rW rd b1 e1, sh, ?_, rfl⟩
    have k : iter (f2_takePath_L2 F tp) F (nI 0, rd, sh) = some (.inl (rW rd b1 e1, sh)) := by
      conv => lhs; arg 2; rw [hG]
      exact iter_stop (p10 h1)
    unfold f2_takePath
    simp (disch := omega) only [li, ↓lim1, ↓bnd_m, ↓grd_m, ↓jn_e, ↓cas_m, ↓oc_m, inb_t, nI_add, pk_mul, sub_e, le_t, le_f, lt_t, lt_f, eq_t, eq_f, cl_e, m1_e, m1_e', m1_lt, m1_le, m1_m1, lt_m1, ↓reduceIte, Nat.add_zero, Nat.zero_add, k]
  | true =>
    rw [ff_t]
    obtain ⟨s1, r1, R1, W1⟩ := p11 h1
    rw [Nat.add_zero] at R1
    obtain ⟨p20, p21⟩ := path_step (s := 1) (rd := rW rd b1 e1) hF HT W1 rfl hb2 he2 (by omega) R1 hN (by unfold pln; rw [gu_n (by omega)]; exact z0 1 (by omega))
    cases h2 : pto t b2' e2 true with
    | false =>
      rw [ff_f]
      refine ⟨rW rd b2' e2, s1, ?_, rfl⟩
      have k : iter (f2_takePath_L2 F tp) F (nI 0, rd, sh) = some (.inl (rW rd b2' e2, s1)) := by
        conv => lhs; arg 2; rw [hG]
        rw [iter_step r1]
        exact iter_stop (p20 h2)
      unfold f2_takePath
      simp (disch := omega) only [li, ↓lim1, ↓bnd_m, ↓grd_m, ↓jn_e, ↓cas_m, ↓oc_m, inb_t, nI_add, pk_mul, sub_e, le_t, le_f, lt_t, lt_f, eq_t, eq_f, cl_e, m1_e, m1_e', m1_lt, m1_le, m1_m1, lt_m1, ↓reduceIte, Nat.add_zero, Nat.zero_add, k, rW_rW]
    | true =>
      rw [ff_t]
      obtain ⟨s2, r2, R2, W2⟩ := p21 h2
      rw [rW_rW] at r2
      obtain ⟨p30, p31⟩ := path_step (s := 2) (rd := rW rd b2' e2) hF HT W2 rfl hb3 he3 (by omega) R2 hN (by unfold pln; rw [gu_n (by omega), gu_n (by omega)]; exact z0 2 (by omega))
      cases h3 : pto t b3 e3 true with
      | false =>
        have hc : c3o t b1 e1 b2' e2 b3 e3 = false := by
          unfold c3o pto
          unfold pto at h3
          rw [Bool.true_and] at h3
          rw [Bool.or_eq_false_iff] at h3 ⊢
          exact ⟨by rw [h3.1, Bool.and_false], h3.2⟩
        rw [hc, ff_f]
        refine ⟨rW rd b3 e3, s2, ?_, rfl⟩
        have k : iter (f2_takePath_L2 F tp) F (nI 0, rd, sh) = some (.inl (rW rd b3 e3, s2)) := by
          conv => lhs; arg 2; rw [hG]
          rw [iter_step r1, iter_step r2]
          exact iter_stop (p30 h3)
        unfold f2_takePath
        simp (disch := omega) only [li, ↓lim1, ↓bnd_m, ↓grd_m, ↓jn_e, ↓cas_m, ↓oc_m, inb_t, nI_add, pk_mul, sub_e, le_t, le_f, lt_t, lt_f, eq_t, eq_f, cl_e, m1_e, m1_e', m1_lt, m1_le, m1_m1, lt_m1, ↓reduceIte, Nat.add_zero, Nat.zero_add, k, rW_rW]
      | true =>
        obtain ⟨s3, r3, R3, W3⟩ := p31 h3
        rw [rW_rW] at r3
        have k : iter (f2_takePath_L2 F tp) F (nI 0, rd, sh) = some (.inr (rW rd b3 e3, s3)) := by
          conv => lhs; arg 2; rw [hG]
          rw [iter_step r1, iter_step r2, iter_step r3]
          apply iter_stop
          unfold f2_takePath_L2
          simp (disch := omega) only [li, ↓lim1, ↓bnd_m, ↓grd_m, ↓jn_e, ↓cas_m, ↓oc_m, inb_t, nI_add, pk_mul, sub_e, le_t, le_f, lt_t, lt_f, eq_t, eq_f, cl_e, m1_e, m1_e', m1_lt, m1_le, m1_m1, lt_m1, ↓reduceIte, Nat.add_zero, Nat.zero_add]
        have nw := newest_ok hF R3.1
        have v3 : pln (pln (pln pl (3 * N) t b1 e1) (3 * N + 1) t b2' e2) (3 * N + 2) t b3 e3 (3 * N + 2) = pnl t b3 e3 := gu_s
        have v2 : pln (pln (pln pl (3 * N) t b1 e1) (3 * N + 1) t b2' e2) (3 * N + 2) t b3 e3 (3 * N + 1) = pnl t b2' e2 := by unfold pln; rw [gu_n (by omega), gu_s]
        have v1 : pln (pln (pln pl (3 * N) t b1 e1) (3 * N + 1) t b2' e2) (3 * N + 2) t b3 e3 (3 * N) = pnl t b1 e1 := by unfold pln; rw [gu_n (by omega), gu_n (by omega), gu_s]
        rw [v1, v2, v3] at nw
        have i0 : isB (nI 0) = true := by decide
        have i1 : isB (nI 1) = true := by decide
        cases hc : c3o t b1 e1 b2' e2 b3 e3 with
        | true =>
          have hp : (decide (0 < pnl t b1 e1) || decide (0 < pnl t b2' e2) || decide (0 < pnl t b3 e3)) = true := by
            unfold c3o pto at hc
            rcases Bool.or_eq_true_iff.mp hc with h | h
            · have := of_decide_eq_true (Bool.and_eq_true_iff.mp h).1
              by_cases c1 : 0 < pnl t b1 e1
              · rw [decide_eq_true c1]; rfl
              · rw [decide_eq_true (show 0 < pnl t b2' e2 by omega), Bool.or_true]; rfl
            · have : 0 < pnl t b3 e3 := by
                unfold pnl
                rw [if_pos h]
                have := ptw_c h
                omega
              rw [decide_eq_true this, Bool.or_true]
          rw [hp, b2_t] at nw
          rw [ff_t]
          refine ⟨s3, ?_, R3, W3⟩
          unfold f2_takePath
          simp (disch := omega) only [li, ↓lim1, ↓bnd_m, ↓grd_m, ↓jn_e, ↓cas_m, ↓oc_m, inb_t, nI_add, pk_mul, sub_e, le_t, le_f, lt_t, lt_f, eq_t, eq_f, cl_e, m1_e, m1_e', m1_lt, m1_le, m1_m1, lt_m1, ↓reduceIte, Nat.add_zero, Nat.zero_add, k, nw, i1, rW_rW]
        | false =>
          have hp : (decide (0 < pnl t b1 e1) || decide (0 < pnl t b2' e2) || decide (0 < pnl t b3 e3)) = false := by
            unfold c3o pto at hc
            unfold pto at h3
            rw [Bool.true_and] at h3
            obtain ⟨hc1, hc2⟩ := Bool.or_eq_false_iff.mp hc
            have ha : anw t b3 e3 = true := by
              rcases Bool.or_eq_true_iff.mp h3 with h | h
              · exact h
              · rw [hc2] at h; cases h
            rw [ha, Bool.and_true] at hc1
            have hz := of_decide_eq_false hc1
            have z3 : pnl t b3 e3 = 0 := by unfold pnl; rw [if_neg (by rw [hc2]; decide)]
            rw [decide_eq_false (show ¬ 0 < pnl t b1 e1 by omega), decide_eq_false (show ¬ 0 < pnl t b2' e2 by omega), decide_eq_false (show ¬ 0 < pnl t b3 e3 by omega)]
            rfl
          rw [hp, b2_f] at nw
          rw [ff_f]
          refine ⟨rW rd b3 e3, s3, ?_, rfl⟩
          unfold f2_takePath
          simp (disch := omega) only [li, ↓lim1, ↓bnd_m, ↓grd_m, ↓jn_e, ↓cas_m, ↓oc_m, inb_t, nI_add, pk_mul, sub_e, le_t, le_f, lt_t, lt_f, eq_t, eq_f, cl_e, m1_e, m1_e', m1_lt, m1_le, m1_m1, lt_m1, ↓reduceIte, Nat.add_zero, Nat.zero_add, k, nw, i0, rW_rW]
end Cr
