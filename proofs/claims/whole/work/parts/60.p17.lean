/-! ===== the text's rows: both loops ===== -/
theorem TpM.lv {md0 md : T6} {t : Nat → Nat} {n : Nat} (H : TpM md0 t n) (h : LV md0 md) : TpM md t n := by
  obtain ⟨h1, h2, h3⟩ := H
  have e := h.1
  refine ⟨h1, ?_, fun i hi => ?_⟩
  · show md.1.2.2.2.2 = _
    rw [e]; exact h2
  · show md.1.2.2.2.1 i = _ ∧ _
    rw [e]; exact h3 i hi
section Lo
variable {F n N b0 e0 e : Nat} {t : Nat → Nat} {tp : T4} {sh : T3} {rd : T2} {ck : T0} {md0 md : T6}
theorem rowStep (hF : 5000 < F) (HT : TpC tp t n) (HM : TpM md0 t n) (H : IVx t n e N rd sh ck md0 md) (hN : N < 40) (hb0 : b0 = wb t n e) (he0 : e0 = we t n b0) (hbn : b0 < n) : SR F t n N b0 e0 tp rd sh ck md0 md := by
  obtain ⟨m, so, va, cc, dd, oo, ww, hh, cr, ns, nl, ls, ll, pl, pc, I⟩ := H
  obtain ⟨HG, HS, hc, hlen, hre, hen, HR, HK, h0, HW, mb, me, mr⟩ := id I
  have HM' := HM.lv h0
  obtain ⟨g1, g2, g3⟩ := w_ok (t := t) hen
  rw [← hb0, ← he0] at g2 g3
  rw [← hb0] at mb me
  rw [← he0] at me
  obtain ⟨o, so1, so2, so3⟩ := sort_ok (rd := rd) hF HT HM' g2 g3 mb me
  cases o with
  | none =>
    have pn : pI none = im1 := rfl
    rw [pn] at so1
    have r := readRow_no hF HM' mb me mr g3 HW.2.2.2.2.1 (by omega) so2 (fun s h => by cases h)
    refine Or.inl ⟨b0, ⟨rW rd b0 e0, sh, ck, ?_, rfl⟩, by omega, _, r, h0.trans ⟨rfl, rfl, fun _ _ => ⟨rfl, rfl, rfl, rfl, rfl, rfl⟩, fun _ _ => rfl, fun _ _ => rfl, rfl, fun _ _ => ⟨rfl, rfl, rfl, rfl, rfl, rfl⟩⟩, rfl, rfl⟩
    unfold f2_takeRow
    simp (disch := omega) only [li, ↓lim1, ↓bnd_m, ↓grd_m, ↓jn_e, ↓cas_m, ↓oc_m, inb_t, nI_add, pk_mul, sub_e, le_t, le_f, lt_t, lt_f, eq_t, eq_f, cl_e, m1_e, m1_e', m1_lt, m1_le, m1_m1, lt_m1, ↓reduceIte, Nat.add_zero, Nat.zero_add, so1]
  | some s =>
    obtain ⟨s1, s2, s3⟩ := so3 s rfl
    rcases (show s = 0 ∨ s = 1 ∨ s = 2 ∨ s = 3 ∨ s = 4 ∨ s = 5 ∨ s = 6 ∨ s = 7 ∨ s = 8 ∨ s = 9 by omega) with rfl | rfl | rfl | rfl | rfl | rfl | rfl | rfl | rfl | rfl
    · exact step0 hF HT HM' I hN hb0 he0 hbn so1 so2 s2 s3
    · exact step1 hF HT HM' I hN hb0 he0 hbn so1 so2 s2 s3
    · exact step2 hF HT HM' I hN hb0 he0 hbn so1 so2 s2 s3
    · exact step3 hF HT HM' I hN hb0 he0 hbn so1 so2 s2 s3
    · exact step4 hF HT HM' I hN hb0 he0 hbn so1 so2 s2 s3
    · exact step5 hF HT HM' I hN hb0 he0 hbn so1 so2 s2 s3
    · exact step6 hF HT HM' I hN hb0 he0 hbn so1 so2 s2 s3
    · exact step7 hF HT HM' I hN hb0 he0 hbn so1 so2 s2 s3
    · exact step8 hF HT HM' I hN hb0 he0 hbn so1 so2 s2 s3
    · exact step9 hF HT HM' I hN hb0 he0 hbn so1 so2 s2 s3
def LO (F : Nat) (t : Nat → Nat) (n : Nat) (tp : T4) (Fc Fm : Nat) (s : Int32 × T2 × T3 × T0) (md0 md : T6) : Prop :=
  (∃ p rd' sh' ck' X, p ≤ n ∧ iter (f2_faultOfTape_L27 F tp) Fc s = some (.inr (.inl (rd', sh', ck'))) ∧ rd'.2.2.2.2.1 = nI p ∧ iter (f6_read_L29 F) Fm md = some X ∧ FlM md0 X p) ∨
  (∃ N' rd' sh' ck' X, iter (f2_faultOfTape_L27 F tp) Fc s = some (.inl (rd', sh', ck')) ∧ iter (f6_read_L29 F) Fm md = some X ∧ IVx t n n N' rd' sh' ck' md0 X)
theorem loop_ok (hF : 5000 < F) (HT : TpC tp t n) (HM : TpM md0 t n) : ∀ (k N e : Nat) (rd : T2) (sh : T3) (ck : T0) (md : T6) (Fc Fm : Nat), N + k = 40 → k + 2 ≤ Fc → k + 3 ≤ Fm → IVx t n e N rd sh ck md0 md → LO F t n tp Fc Fm (nI N, rd, sh, ck) md0 md := by
  intro k
  induction k with
  | zero =>
    intro N e rd sh ck md Fc Fm hNk hFc hFm H
    obtain ⟨m, so, va, cc, dd, oo, ww, hh, cr, ns, nl, ls, ll, pl, pc, I⟩ := id H
    obtain ⟨HG, HS, hc, hlen, hre, hen, HR, HK, h0, HW, mb, me, mr⟩ := id I
    have HM' := HM.lv h0
    have ml : md.1.2.2.2.2 = nI n := HM'.2.1
    have tl : tp.2 = nI n := HT.2.1
    have hn := HT.1
    obtain ⟨Gc, rfl⟩ : ∃ G, Fc = G + 1 := ⟨Fc - 1, by omega⟩
    obtain ⟨Gm, rfl⟩ : ∃ G, Fm = G + 1 + 1 := ⟨Fm - 2, by omega⟩
    have tw := takeWord_ok hF HT hen hre
    obtain ⟨b0, hb0⟩ : ∃ x, x = wb t n e := ⟨_, rfl⟩
    obtain ⟨e0, he0⟩ : ∃ x, x = we t n b0 := ⟨_, rfl⟩
    obtain ⟨g1, g2, g3⟩ := w_ok (t := t) hen
    rw [← hb0, ← he0] at g2 g3
    rw [← hb0] at mb me tw
    rw [← he0] at me tw
    have hN : N = 40 := by omega
    by_cases hbn : b0 < n
    · left
      have so1 : ∃ o, bnd (f6_wordName F md) (fun u => f6_sortOf F u) = some (pI o) ∧ ∀ s, o = some s → s < 10 ∧ N = 40 := by
        obtain ⟨o, _, a2, a3⟩ := sort_ok (rd := rd) hF HT HM' g2 g3 mb me
        exact ⟨o, a2, fun s h => ⟨(a3 s h).1, hN⟩⟩
      obtain ⟨o, a2, a3⟩ := so1
      have r := readRow_no hF HM' mb me mr g3 HW.2.2.2.2.1 (by omega) a2 a3
      refine ⟨b0, rW rd b0 e0, sh, ck, mW md b0 e0 (nI 0), by omega, ?_, rfl, ?_, h0.trans ⟨rfl, rfl, fun _ _ => ⟨rfl, rfl, rfl, rfl, rfl, rfl⟩, fun _ _ => rfl, fun _ _ => rfl, rfl, fun _ _ => ⟨rfl, rfl, rfl, rfl, rfl, rfl⟩⟩, rfl, rfl⟩
      · apply iter_stop
        unfold f2_faultOfTape_L27
        simp (disch := omega) only [li, ↓lim1, ↓bnd_m, ↓grd_m, ↓jn_e, ↓cas_m, ↓oc_m, inb_t, nI_add, pk_mul, sub_e, le_t, le_f, lt_t, lt_f, eq_t, eq_f, cl_e, m1_e, m1_e', m1_lt, m1_le, m1_m1, lt_m1, ↓reduceIte, Nat.add_zero, Nat.zero_add, tw, rWb, tl]
      · have r0 : (mW md b0 e0 (nI 0)).2.2.2.1.2.2.1 = nI 0 := rfl
        rw [iter_step (y := mW md b0 e0 (nI 0))]
        · apply iter_stop
          unfold f6_read_L29
          simp (disch := omega) only [li, ↓lim1, ↓bnd_m, ↓grd_m, ↓jn_e, ↓cas_m, ↓oc_m, inb_t, nI_add, pk_mul, sub_e, le_t, le_f, lt_t, lt_f, eq_t, eq_f, cl_e, m1_e, m1_e', m1_lt, m1_le, m1_m1, lt_m1, ↓reduceIte, Nat.add_zero, Nat.zero_add, r0]
        · unfold f6_read_L29
          simp (disch := omega) only [li, ↓lim1, ↓bnd_m, ↓grd_m, ↓jn_e, ↓cas_m, ↓oc_m, inb_t, nI_add, pk_mul, sub_e, le_t, le_f, lt_t, lt_f, eq_t, eq_f, cl_e, m1_e, m1_e', m1_lt, m1_le, m1_m1, lt_m1, ↓reduceIte, Nat.add_zero, Nat.zero_add, mr, ml, mb, r]
    · right
      have hb : b0 = n := by omega
      have hee : e0 = n := by omega
      have wn : wb t n n = n := skw_end (Nat.le_refl n)
      have wen : we t n n = n := by unfold we; rw [if_neg (by omega)]; exact skw_end (Nat.le_refl n)
      refine ⟨N, rW rd b0 e0, sh, ck, md, ?_, ?_, m, so, va, cc, dd, oo, ww, hh, cr, ns, nl, ls, ll, pl, pc, HG, HS, hc, by omega, by rw [rWe, hee], Nat.le_refl n, HR, HK, h0, HW, by rw [mb, wn, hb], by rw [me, wn, wen, hee], mr⟩
      · apply iter_stop
        unfold f2_faultOfTape_L27
        simp (disch := omega) only [li, ↓lim1, ↓bnd_m, ↓grd_m, ↓jn_e, ↓cas_m, ↓oc_m, inb_t, nI_add, pk_mul, sub_e, le_t, le_f, lt_t, lt_f, eq_t, eq_f, cl_e, m1_e, m1_e', m1_lt, m1_le, m1_m1, lt_m1, ↓reduceIte, Nat.add_zero, Nat.zero_add, tw, rWb, tl]
      · apply iter_stop
        unfold f6_read_L29
        simp (disch := omega) only [li, ↓lim1, ↓bnd_m, ↓grd_m, ↓jn_e, ↓cas_m, ↓oc_m, inb_t, nI_add, pk_mul, sub_e, le_t, le_f, lt_t, lt_f, eq_t, eq_f, cl_e, m1_e, m1_e', m1_lt, m1_le, m1_m1, lt_m1, ↓reduceIte, Nat.add_zero, Nat.zero_add, mr, ml, mb]
  | succ k ih =>
    intro N e rd sh ck md Fc Fm hNk hFc hFm H
    obtain ⟨m, so, va, cc, dd, oo, ww, hh, cr, ns, nl, ls, ll, pl, pc, I⟩ := id H
    obtain ⟨HG, HS, hc, hlen, hre, hen, HR, HK, h0, HW, mb, me, mr⟩ := id I
    have HM' := HM.lv h0
    have ml : md.1.2.2.2.2 = nI n := HM'.2.1
    have tl : tp.2 = nI n := HT.2.1
    have hn := HT.1
    obtain ⟨Gc, rfl⟩ : ∃ G, Fc = G + 1 := ⟨Fc - 1, by omega⟩
    obtain ⟨Gm, rfl⟩ : ∃ G, Fm = G + 1 := ⟨Fm - 1, by omega⟩
    have tw := takeWord_ok hF HT hen hre
    obtain ⟨b0, hb0⟩ : ∃ x, x = wb t n e := ⟨_, rfl⟩
    obtain ⟨e0, he0⟩ : ∃ x, x = we t n b0 := ⟨_, rfl⟩
    obtain ⟨g1, g2, g3⟩ := w_ok (t := t) hen
    rw [← hb0, ← he0] at g2 g3
    rw [← hb0] at mb me tw
    rw [← he0] at me tw
    by_cases hbn : b0 < n
    · rcases rowStep hF HT HM H (by omega) hb0 he0 hbn with ⟨p, ⟨rd', sh', ck', t1, t2⟩, hp, X, x1, x2⟩ | ⟨rd', sh', ck', X, e', t1, x1, I'⟩
      · left
        have xr : X.2.2.2.1.2.2.1 = nI 0 := x2.2.2
        refine ⟨p, rd', sh', ck', X, hp, ?_, t2, ?_, x2⟩
        · apply iter_stop
          unfold f2_faultOfTape_L27
          simp (disch := omega) only [li, ↓lim1, ↓bnd_m, ↓grd_m, ↓jn_e, ↓cas_m, ↓oc_m, inb_t, nI_add, pk_mul, sub_e, le_t, le_f, lt_t, lt_f, eq_t, eq_f, cl_e, m1_e, m1_e', m1_lt, m1_le, m1_m1, lt_m1, ↓reduceIte, Nat.add_zero, Nat.zero_add, tw, rWb, tl, t1]
        · obtain ⟨Gm', rfl⟩ : ∃ G, Gm = G + 1 := ⟨Gm - 1, by omega⟩
          rw [iter_step (y := X)]
          · apply iter_stop
            unfold f6_read_L29
            simp (disch := omega) only [li, ↓lim1, ↓bnd_m, ↓grd_m, ↓jn_e, ↓cas_m, ↓oc_m, inb_t, nI_add, pk_mul, sub_e, le_t, le_f, lt_t, lt_f, eq_t, eq_f, cl_e, m1_e, m1_e', m1_lt, m1_le, m1_m1, lt_m1, ↓reduceIte, Nat.add_zero, Nat.zero_add, xr]
          · unfold f6_read_L29
            simp (disch := omega) only [li, ↓lim1, ↓bnd_m, ↓grd_m, ↓jn_e, ↓cas_m, ↓oc_m, inb_t, nI_add, pk_mul, sub_e, le_t, le_f, lt_t, lt_f, eq_t, eq_f, cl_e, m1_e, m1_e', m1_lt, m1_le, m1_m1, lt_m1, ↓reduceIte, Nat.add_zero, Nat.zero_add, mr, ml, mb, x1]
      · have s1 : f2_faultOfTape_L27 F tp (nI N, rd, sh, ck) = some (.inl (nI (N + 1), rd', sh', ck')) := by
          unfold f2_faultOfTape_L27
          simp (disch := omega) only [li, ↓lim1, ↓bnd_m, ↓grd_m, ↓jn_e, ↓cas_m, ↓oc_m, inb_t, nI_add, pk_mul, sub_e, le_t, le_f, lt_t, lt_f, eq_t, eq_f, cl_e, m1_e, m1_e', m1_lt, m1_le, m1_m1, lt_m1, ↓reduceIte, Nat.add_zero, Nat.zero_add, tw, rWb, tl, t1]
        have s2 : f6_read_L29 F md = some (.inl X) := by
          unfold f6_read_L29
          simp (disch := omega) only [li, ↓lim1, ↓bnd_m, ↓grd_m, ↓jn_e, ↓cas_m, ↓oc_m, inb_t, nI_add, pk_mul, sub_e, le_t, le_f, lt_t, lt_f, eq_t, eq_f, cl_e, m1_e, m1_e', m1_lt, m1_le, m1_m1, lt_m1, ↓reduceIte, Nat.add_zero, Nat.zero_add, mr, ml, mb, x1]
        have := ih (N + 1) e' rd' sh' ck' X Gc Gm (by omega) (by omega) (by omega) I'
        unfold LO at this ⊢
        rw [iter_step s1, iter_step s2]
        exact this
    · right
      have hb : b0 = n := by omega
      have hee : e0 = n := by omega
      have wn : wb t n n = n := skw_end (Nat.le_refl n)
      have wen : we t n n = n := by unfold we; rw [if_neg (by omega)]; exact skw_end (Nat.le_refl n)
      refine ⟨N, rW rd b0 e0, sh, ck, md, ?_, ?_, m, so, va, cc, dd, oo, ww, hh, cr, ns, nl, ls, ll, pl, pc, HG, HS, hc, by omega, by rw [rWe, hee], Nat.le_refl n, HR, HK, h0, HW, by rw [mb, wn, hb], by rw [me, wn, wen, hee], mr⟩
      · apply iter_stop
        unfold f2_faultOfTape_L27
        simp (disch := omega) only [li, ↓lim1, ↓bnd_m, ↓grd_m, ↓jn_e, ↓cas_m, ↓oc_m, inb_t, nI_add, pk_mul, sub_e, le_t, le_f, lt_t, lt_f, eq_t, eq_f, cl_e, m1_e, m1_e', m1_lt, m1_le, m1_m1, lt_m1, ↓reduceIte, Nat.add_zero, Nat.zero_add, tw, rWb, tl]
      · apply iter_stop
        unfold f6_read_L29
        simp (disch := omega) only [li, ↓lim1, ↓bnd_m, ↓grd_m, ↓jn_e, ↓cas_m, ↓oc_m, inb_t, nI_add, pk_mul, sub_e, le_t, le_f, lt_t, lt_f, eq_t, eq_f, cl_e, m1_e, m1_e', m1_lt, m1_le, m1_m1, lt_m1, ↓reduceIte, Nat.add_zero, Nat.zero_add, mr, ml, mb]
end Lo
/-! ===== names are bound ===== -/
/-- the clock of a name's number -/
def fcl (code : Nat → Nat) (w : Nat) : Nat → Option Nat
  | 0 => none
  | k + 1 => match fcl code w k with
    | some j => some j
    | none => if code k = w then some k else none
theorem fcl_some {code : Nat → Nat} {w : Nat} : ∀ m k, fcl code w m = some k → k < m ∧ code k = w := by
  intro m
  induction m with
  | zero => intro k h; cases h
  | succ m ih =>
    intro k h
    unfold fcl at h
    cases hf : fcl code w m with
    | some j =>
      rw [hf] at h
      have e : j = k := Option.some.inj h
      subst e
      have := ih j hf
      exact ⟨by omega, this.2⟩
    | none =>
      rw [hf] at h
      by_cases c : code m = w
      · have h' : (if code m = w then some m else none) = some k := h
        rw [if_pos c] at h'; cases h'; exact ⟨by omega, c⟩
      · have h' : (if code m = w then some m else none) = some k := h
        rw [if_neg c] at h'; cases h'
theorem fcl_none {code : Nat → Nat} {w : Nat} : ∀ m, fcl code w m = none → ∀ k, k < m → ¬ code k = w := by
  intro m
  induction m with
  | zero => intro _ k h; omega
  | succ m ih =>
    intro h k hk
    unfold fcl at h
    cases hf : fcl code w m with
    | some j => rw [hf] at h; cases h
    | none =>
      rw [hf] at h
      have h' : (if code m = w then some m else none) = none := h
      by_cases c : code m = w
      · rw [if_pos c] at h'; cases h'
      · by_cases e : k = m
        · rw [e]; exact c
        · exact ih hf k (by omega)
/-- the first that is so, if one is -/
theorem first_or (p : Nat → Prop) [DecidablePred p] : ∀ n, (∀ i, i < n → ¬ p i) ∨ ∃ i, i < n ∧ p i ∧ ∀ j, j < i → ¬ p j := by
  intro n
  induction n with
  | zero => exact Or.inl (fun i h => by omega)
  | succ n ih =>
    rcases ih with h | ⟨i, h1, h2, h3⟩
    · by_cases c : p n
      · exact Or.inr ⟨n, by omega, c, h⟩
      · refine Or.inl (fun i hi => ?_)
        by_cases e : i = n
        · rw [e]; exact c
        · exact h i (by omega)
    · exact Or.inr ⟨i, by omega, h2, h3⟩
/-- a sheet with other links; clocks with other sources -/
def shL (sh : T3) (l : Nat → Int32) : T3 := (sh.1, sh.2.1, l, sh.2.2.2.1, sh.2.2.2.2.1, sh.2.2.2.2.2.1, sh.2.2.2.2.2.2.1, sh.2.2.2.2.2.2.2.1, sh.2.2.2.2.2.2.2.2)
def ckS (ck : T0) (l : Nat → Int32) : T0 := (ck.1, l, ck.2.2.1, ck.2.2.2.1, ck.2.2.2.2.1, ck.2.2.2.2.2.1, ck.2.2.2.2.2.2.1, ck.2.2.2.2.2.2.2.1, ck.2.2.2.2.2.2.2.2.1, ck.2.2.2.2.2.2.2.2.2.1, ck.2.2.2.2.2.2.2.2.2.2.1, ck.2.2.2.2.2.2.2.2.2.2.2)
def mF (md : T6) (l : Nat → Int32) : T6 := (md.1, md.2.1, (md.2.2.1.1, md.2.2.1.2.1, l, md.2.2.1.2.2.2.1, md.2.2.1.2.2.2.2.1, md.2.2.1.2.2.2.2.2.1, md.2.2.1.2.2.2.2.2.2.1, md.2.2.1.2.2.2.2.2.2.2), md.2.2.2.1, md.2.2.2.2)
section Li
variable {F n N m : Nat} {t : Nat → Nat} {tp : T4} {sh : T3} {rd : T2} {ck : T0} {md : T6} {so va cc dd oo ww hh cr ns nl ls ll pl : Nat → Nat} {pc : Nat → Nat → Nat} {L : List Nat}
def ncd (t ns nl : Nat → Nat) (k : Nat) : Nat := cdw t (ns k) (nl k)
/-- the clock that link i names -/
def lk (t ns nl ls ll : Nat → Nat) (m i : Nat) : Option Nat := fcl (ncd t ns nl) (cdw t (ls i) (ll i)) m
def bad (t ns nl ls ll : Nat → Nat) (m i : Nat) : Prop := 0 < ll i ∧ lk t ns nl ls ll m i = none
abbrev badD (t ns nl ls ll : Nat → Nat) (m : Nat) : DecidablePred (bad t ns nl ls ll m) := fun i => inferInstanceAs (Decidable (0 < ll i ∧ lk t ns nl ls ll m i = none))
theorem named (hF : 5000 < F) (HT : TpC tp t n) (HN : NmR t n N rd md m cr ns nl) (hN : N ≤ 40) (hsz : kSiz ck = nI m) (hnc : md.2.2.2.1.2.2.2.2.1 = nI m) {st ln : Nat} (h0 : 0 < ln) (hl : st + ln ≤ n) (hv : nmw t st (st + ln) = true) :
    (∀ sh, f2_clockNamed F (nI st) (nI ln) rd sh ck tp = some (pI (fcl (ncd t ns nl) (cdw t st ln) m))) ∧ (∀ l, f6_clockOf F (lN (cdw t st ln)) (mF md l) = some (pI (fcl (ncd t ns nl) (cdw t st ln) m))) ∧ f6_clockOf F (lN (cdw t st ln)) md = some (pI (fcl (ncd t ns nl) (cdw t st ln) m)) := by
  obtain ⟨z1, z2, z3, z4, z5⟩ := nmw_spec hv
  rw [nmw_len] at z3 z4 z5
  obtain ⟨q, a1, a2, a3, a4⟩ := clockNamed_all hF HT HN hN hsz h0 hl z3 z4
  have e : q = fcl (ncd t ns nl) (cdw t st ln) m := by
    cases q with
    | none =>
      cases hf : fcl (ncd t ns nl) (cdw t st ln) m with
      | none => rfl
      | some k => exact absurd (fcl_some m k hf).2 (a4 rfl k (fcl_some m k hf).1)
    | some k' =>
      cases hf : fcl (ncd t ns nl) (cdw t st ln) m with
      | none => exact absurd (a3 k' rfl).2 (fcl_none m hf k' (a3 k' rfl).1)
      | some k => rw [HN.2.2 k' k (a3 k' rfl).1 (fcl_some m k hf).1 (by rw [(a3 k' rfl).2]; exact (fcl_some m k hf).2.symm)]
  rw [← e]
  have nm3 : ∀ k, k < m → md.2.1.2.2.1 (40 + cr k) = lN (cdw t (ns k) (nl k)) := fun k hk => (HN.2.1 k hk).2.2.2.2.2.2
  refine ⟨fun sh => a1 sh _ _, fun l => ?_, a2 md rfl hnc nm3⟩
  -- the clock rows are the same
  obtain ⟨Y, hY⟩ : ∃ x, x = mF md l := ⟨_, rfl⟩
  have : ∀ s : Int32 × Int32, f6_clockOf_L5 (lN (cdw t st ln)) (mF md l) s = f6_clockOf_L5 (lN (cdw t st ln)) md s := fun s => rfl
  have e2 : f6_clockOf_L5 (lN (cdw t st ln)) (mF md l) = f6_clockOf_L5 (lN (cdw t st ln)) md := funext this
  unfold f6_clockOf
  rw [e2]
  exact a2 md rfl hnc nm3
/-- links that stand in a row -/
theorem link_row (HG : GG t n N m so va cc dd oo ww hh cr ns nl ls ll) {i : Nat} (hi : i < 2 * N) (h0 : 0 < ll i) : nmw t (ls i) (ls i + ll i) = true ∧ ls i + ll i ≤ n := by
  have hr := HG.2.2.1 (i / 2) (by omega)
  obtain ⟨r1, r2, r3, r4, r5, r6, r7⟩ := hr
  rcases (show i = 2 * (i / 2) ∨ i = 2 * (i / 2) + 1 by omega) with e | e
  · by_cases c : so (i / 2) = 1 ∨ so (i / 2) = 2
    · obtain ⟨_, _, _, _, _, _, a1, a2, _⟩ := r5 c
      rw [← e] at a1 a2
      exact ⟨a1, a2⟩
    · by_cases c3 : so (i / 2) = 3
      · obtain ⟨_, _, a1, a2, _⟩ := r6 c3
        rw [← e] at a1 a2
        exact ⟨a1, a2⟩
      · have := (r7 (fun h => c (Or.inl h)) (fun h => c (Or.inr h)) c3).1
        rw [← e] at this
        omega
  · by_cases c3 : so (i / 2) = 3
    · obtain ⟨_, _, _, _, _, _, a1, a2⟩ := r6 c3
      rw [← e] at a1 a2
      exact ⟨a1, a2⟩
    · by_cases c : so (i / 2) = 1 ∨ so (i / 2) = 2
      · have := (r5 c).2.2.2.2.2.2.2.2
        rw [← e] at this
        omega
      · have := (r7 (fun h => c (Or.inl h)) (fun h => c (Or.inr h)) c3).2
        rw [← e] at this
        omega
/-- the links as they are bound up to place i -/
def lkA (t ns nl ls ll : Nat → Nat) (m : Nat) (l : Nat → Int32) : Nat → (Nat → Int32)
  | 0 => l
  | i + 1 => if 0 < ll i then upd (lkA t ns nl ls ll m l i) i (pI (lk t ns nl ls ll m i)) else lkA t ns nl ls ll m l i
theorem lkA_v {l : Nat → Int32} : ∀ k j, lkA t ns nl ls ll m l k j = if j < k ∧ 0 < ll j then pI (lk t ns nl ls ll m j) else l j := by
  intro k
  induction k with
  | zero => intro j; rw [if_neg (by omega)]; rfl
  | succ k ih =>
    intro j
    show (if 0 < ll k then upd (lkA t ns nl ls ll m l k) k (pI (lk t ns nl ls ll m k)) else lkA t ns nl ls ll m l k) j = _
    by_cases c : 0 < ll k
    · rw [if_pos c]
      by_cases e : j = k
      · subst e; rw [pk_us, if_pos ⟨by omega, c⟩]
      · rw [pk_un e, ih j]
        by_cases c2 : j < k ∧ 0 < ll j
        · rw [if_pos c2, if_pos ⟨by omega, c2.2⟩]
        · rw [if_neg c2, if_neg (fun h => c2 ⟨by omega, h.2⟩)]
    · rw [if_neg c, ih j]
      by_cases c2 : j < k ∧ 0 < ll j
      · rw [if_pos c2, if_pos ⟨by omega, c2.2⟩]
      · rw [if_neg c2, if_neg (fun h => c2 ⟨by
          by_cases e : j = k
          · rw [e] at h; exact absurd h.2 c
          · omega, h.2⟩)]
theorem bind_step (hF : 5000 < F) (HT : TpC tp t n) (HG : GG t n N m so va cc dd oo ww hh cr ns nl ls ll) (HR : RdI rd N m ns nl ls ll) (HN : NmR t n N rd md m cr ns nl) (hsz : kSiz ck = nI m) (hnc : md.2.2.2.1.2.2.2.2.1 = nI m) (hrc : sRc sh = nI N) {i : Nat} (hi : i < 2 * N) :
    (bad t ns nl ls ll m i → ∀ l, f2_bindLinks_L2 F rd ck tp (nI i, shL sh l) = some (.inr (.inl (nI i, shL sh l)))) ∧
    (¬ bad t ns nl ls ll m i → f2_bindLinks_L2 F rd ck tp (nI i, shL sh (lkA t ns nl ls ll m (sLnk sh) i)) = some (.inl (nI (i + 1), shL sh (lkA t ns nl ls ll m (sLnk sh) (i + 1))))) := by
  have hN := HG.1
  have hm := HG.2.1
  have hrc' : ∀ l, (shL sh l).2.2.2.2.2.2.2.1 = nI N := fun _ => hrc
  obtain ⟨a1, a2⟩ := HR.2.1 i hi
  by_cases h0 : 0 < ll i
  · obtain ⟨b1, b2'⟩ := link_row HG hi h0
    have hll : ll i ≤ 1200 := by have := HT.1; omega
    have hls : ls i ≤ 1200 := by have := HT.1; omega
    obtain ⟨c1, _, _⟩ := named hF HT HN hN hsz hnc h0 b2' b1
    have a2' := a2 h0
    constructor
    · intro hb l
      have hk : fcl (ncd t ns nl) (cdw t (ls i) (ll i)) m = none := hb.2
      rw [hk] at c1
      have pn : pI none = im1 := rfl
      rw [pn] at c1
      unfold f2_bindLinks_L2
      simp (disch := omega) only [li, ↓lim1, ↓bnd_m, ↓grd_m, ↓jn_e, ↓cas_m, ↓oc_m, inb_t, nI_add, pk_mul, sub_e, le_t, le_f, lt_t, lt_f, eq_t, eq_f, cl_e, m1_e, m1_e', m1_lt, m1_le, m1_m1, lt_m1, ↓reduceIte, Nat.add_zero, Nat.zero_add, hrc', a1, a2', c1]
    · intro hb
      cases hk : fcl (ncd t ns nl) (cdw t (ls i) (ll i)) m with
      | none => exact absurd ⟨h0, hk⟩ hb
      | some k =>
        rw [hk] at c1
        have pn : pI (some k) = nI k := rfl
        rw [pn] at c1
        have hkm := (fcl_some m k hk).1
        have e1 : lkA t ns nl ls ll m (sLnk sh) (i + 1) = upd (lkA t ns nl ls ll m (sLnk sh) i) i (nI k) := by
          show (if 0 < ll i then upd (lkA t ns nl ls ll m (sLnk sh) i) i (pI (lk t ns nl ls ll m i)) else _) = _
          rw [if_pos h0]
          have : lk t ns nl ls ll m i = some k := hk
          rw [this]
          rfl
        rw [e1]
        unfold f2_bindLinks_L2
        simp (disch := omega) only [li, ↓lim1, ↓bnd_m, ↓grd_m, ↓jn_e, ↓cas_m, ↓oc_m, inb_t, nI_add, pk_mul, sub_e, le_t, le_f, lt_t, lt_f, eq_t, eq_f, cl_e, m1_e, m1_e', m1_lt, m1_le, m1_m1, lt_m1, ↓reduceIte, Nat.add_zero, Nat.zero_add, hrc', a1, a2', c1]
        rw [← hrc]
        rfl
  · have hz : ll i = 0 := by omega
    constructor
    · intro hb; exact absurd hb.1 h0
    · intro _
      have e1 : lkA t ns nl ls ll m (sLnk sh) (i + 1) = lkA t ns nl ls ll m (sLnk sh) i := if_neg h0
      rw [e1]
      rw [hz] at a1
      unfold f2_bindLinks_L2
      simp (disch := omega) only [li, ↓lim1, ↓bnd_m, ↓grd_m, ↓jn_e, ↓cas_m, ↓oc_m, inb_t, nI_add, pk_mul, sub_e, le_t, le_f, lt_t, lt_f, eq_t, eq_f, cl_e, m1_e, m1_e', m1_lt, m1_le, m1_m1, lt_m1, ↓reduceIte, Nat.add_zero, Nat.zero_add, hrc', a1]
/-- what the source of clock c is -/
def src (t ns nl ls ll so cr : Nat → Nat) (m c : Nat) : Option Nat := if so (cr c) = 0 then none else lk t ns nl ls ll m (2 * cr c)
def srcA (f : Nat → Option Nat) (l : Nat → Int32) (o : Nat) : Nat → (Nat → Int32)
  | 0 => l
  | c + 1 => upd (srcA f l o c) (o + c) (pI (f c))
theorem srcA_v {f : Nat → Option Nat} {l : Nat → Int32} {o : Nat} : ∀ k c, c < k → srcA f l o k (o + c) = pI (f c) := by
  intro k
  induction k with
  | zero => intro c h; omega
  | succ k ih =>
    intro c h
    show upd _ _ _ (o + c) = _
    by_cases e : c = k
    · subst e; rw [pk_us]
    · rw [pk_un (by omega)]; exact ih c (by omega)
theorem srcA_o {f : Nat → Option Nat} {l : Nat → Int32} {o : Nat} : ∀ k j, j < o → srcA f l o k j = l j := by
  intro k
  induction k with
  | zero => intro j _; rfl
  | succ k ih =>
    intro j h
    show upd _ _ _ j = _
    rw [pk_un (by omega)]; exact ih j h
/-- nothing is unknown: the class -/
theorem bind_ok (hF : 5000 < F) (HT : TpC tp t n) (HG : GG t n N m so va cc dd oo ww hh cr ns nl ls ll) (HR : RdI rd N m ns nl ls ll) (HN : NmR t n N rd md m cr ns nl) (HK : CkI ck m cr so oo ww hh) (hnc : md.2.2.2.1.2.2.2.2.1 = nI m) (HS : ShP sh N so va pl pc L) (hb : ∀ i, i < 2 * N → ¬ bad t ns nl ls ll m i) :
    f2_bindLinks F rd sh ck tp = some (nI 1, rd, shL sh (lkA t ns nl ls ll m (sLnk sh) (2 * N)), ckS ck (srcA (src t ns nl ls ll so cr m) (kSrc ck) 0 m)) := by
  have hN := HG.1
  have hm := HG.2.1
  have hrc : sRc sh = nI N := HS.1.2.1
  have k1 : iter (f2_bindLinks_L2 F rd ck tp) F (nI 0, shL sh (lkA t ns nl ls ll m (sLnk sh) 0)) = some (.inr (shL sh (lkA t ns nl ls ll m (sLnk sh) (2 * N)))) := by
    refine iter_up (fun i => (nI i, shL sh (lkA t ns nl ls ll m (sLnk sh) i))) _ (2 * N) (fun i hi => (bind_step hF HT HG HR HN HK.1 hnc hrc hi).2 (hb i hi)) ?_ F 0 (by omega) (by omega)
    have hrc' : ∀ l, (shL sh l).2.2.2.2.2.2.2.1 = nI N := fun _ => hrc
    unfold f2_bindLinks_L2
    simp (disch := omega) only [li, ↓lim1, ↓bnd_m, ↓grd_m, ↓jn_e, ↓cas_m, ↓oc_m, inb_t, nI_add, pk_mul, sub_e, le_t, le_f, lt_t, lt_f, eq_t, eq_f, cl_e, m1_e, m1_e', m1_lt, m1_le, m1_m1, lt_m1, ↓reduceIte, Nat.add_zero, Nat.zero_add, hrc']
  obtain ⟨S, hS⟩ : ∃ x, x = shL sh (lkA t ns nl ls ll m (sLnk sh) (2 * N)) := ⟨_, rfl⟩
  have hSr : sRc S = nI N := by rw [hS]; exact hrc
  have hSl : sLnk S = lkA t ns nl ls ll m (sLnk sh) (2 * N) := by rw [hS]; rfl
  have k2 : iter (f2_bindLinks_L76 S) F (nI 0, ckS ck (srcA (src t ns nl ls ll so cr m) (kSrc ck) 0 0)) = some (ckS ck (srcA (src t ns nl ls ll so cr m) (kSrc ck) 0 m)) := by
    refine iter_up (fun c => (nI c, ckS ck (srcA (src t ns nl ls ll so cr m) (kSrc ck) 0 c))) _ m (fun c hc => ?_) ?_ F 0 (by omega) (by omega)
    · have hsz' : ∀ l, (ckS ck l).2.2.2.2.2.2.2.2.2.2.2 = nI m := fun _ => HK.1
      have hrow : ∀ l, (ckS ck l).1 c = nI (cr c + 1) := fun _ => (HK.2 c hc).1
      obtain ⟨g1, g2, _⟩ := HG.2.2.2.1 c hc
      have hlo := linkOf_n (r := cr c) (s := 0) hSr hN g1 (by omega)
      rw [hSl, show 2 * cr c + 0 = 2 * cr c from rfl] at hlo
      have hv : lkA t ns nl ls ll m (sLnk sh) (2 * N) (2 * cr c) = pI (src t ns nl ls ll so cr m c) := by
        rw [lkA_v]
        unfold src
        obtain ⟨_, _, _, _, r5, _, r7⟩ := HG.2.2.1 (cr c) g1
        by_cases c0 : so (cr c) = 0
        · have := (r7 (by omega) (by omega) (by omega)).1
          rw [if_neg (by omega), if_pos c0]
          exact HS.2.2.2.1 (2 * cr c) (by omega)
        · have := (r5 (by omega)).2.2.2.2.1
          rw [if_pos ⟨by omega, this⟩, if_neg c0]
      rw [hv] at hlo
      have e1 : srcA (src t ns nl ls ll so cr m) (kSrc ck) 0 (c + 1) = upd (srcA (src t ns nl ls ll so cr m) (kSrc ck) 0 c) c (pI (src t ns nl ls ll so cr m c)) := by
        show upd _ (0 + c) _ = _
        rw [Nat.zero_add]
      rw [e1]
      unfold f2_bindLinks_L76
      simp (disch := omega) only [li, ↓lim1, ↓bnd_m, ↓grd_m, ↓jn_e, ↓cas_m, ↓oc_m, inb_t, nI_add, pk_mul, sub_e, le_t, le_f, lt_t, lt_f, eq_t, eq_f, cl_e, m1_e, m1_e', m1_lt, m1_le, m1_m1, lt_m1, ↓reduceIte, Nat.add_zero, Nat.zero_add, hsz', hrow, hlo]
      rw [← HK.1]
      rfl
    · have hsz' : ∀ l, (ckS ck l).2.2.2.2.2.2.2.2.2.2.2 = nI m := fun _ => HK.1
      unfold f2_bindLinks_L76
      simp (disch := omega) only [li, ↓lim1, ↓bnd_m, ↓grd_m, ↓jn_e, ↓cas_m, ↓oc_m, inb_t, nI_add, pk_mul, sub_e, le_t, le_f, lt_t, lt_f, eq_t, eq_f, cl_e, m1_e, m1_e', m1_lt, m1_le, m1_m1, lt_m1, ↓reduceIte, Nat.add_zero, Nat.zero_add, hsz']
  have k1' : iter (f2_bindLinks_L2 F rd ck tp) F (nI 0, sh) = some (.inr S) := by rw [hS]; exact k1
  have k2' : iter (f2_bindLinks_L76 S) F (nI 0, ck) = some (ckS ck (srcA (src t ns nl ls ll so cr m) (kSrc ck) 0 m)) := k2
  rw [← hS]
  unfold f2_bindLinks
  simp (disch := omega) only [li, ↓lim1, ↓bnd_m, ↓grd_m, ↓jn_e, ↓cas_m, ↓oc_m, inb_t, nI_add, pk_mul, sub_e, le_t, le_f, lt_t, lt_f, eq_t, eq_f, cl_e, m1_e, m1_e', m1_lt, m1_le, m1_m1, lt_m1, ↓reduceIte, Nat.add_zero, Nat.zero_add, k1', k2']
/-- a name that is unknown: the class -/
theorem bind_bad (hF : 5000 < F) (HT : TpC tp t n) (HG : GG t n N m so va cc dd oo ww hh cr ns nl ls ll) (HR : RdI rd N m ns nl ls ll) (HN : NmR t n N rd md m cr ns nl) (HK : CkI ck m cr so oo ww hh) (hnc : md.2.2.2.1.2.2.2.2.1 = nI m) (HS : ShP sh N so va pl pc L) {i0 : Nat} (hi : i0 < 2 * N) (hb : bad t ns nl ls ll m i0) (hf : ∀ j, j < i0 → ¬ bad t ns nl ls ll m j) :
    ∃ rd' sh', f2_bindLinks F rd sh ck tp = some (nI 0, rd', sh', ck) ∧ rd'.2.2.2.2.1 = nI (ls i0) := by
  have hN := HG.1
  have hm := HG.2.1
  have hrc : sRc sh = nI N := HS.1.2.1
  have k1 : iter (f2_bindLinks_L2 F rd ck tp) F (nI 0, shL sh (lkA t ns nl ls ll m (sLnk sh) 0)) = some (.inl (nI i0, shL sh (lkA t ns nl ls ll m (sLnk sh) i0))) := by
    refine iter_up (fun i => (nI i, shL sh (lkA t ns nl ls ll m (sLnk sh) i))) _ i0 (fun i hi' => (bind_step hF HT HG HR HN HK.1 hnc hrc (by omega)).2 (hf i hi')) ?_ F 0 (by omega) (by omega)
    exact (bind_step hF HT HG HR HN HK.1 hnc hrc hi).1 hb _
  have k1' : iter (f2_bindLinks_L2 F rd ck tp) F (nI 0, sh) = some (.inl (nI i0, shL sh (lkA t ns nl ls ll m (sLnk sh) i0))) := k1
  have a2 := (HR.2.1 i0 hi).2 hb.1
  refine ⟨(rd.1, rd.2.1, rd.2.2.1, rd.2.2.2.1, nI (ls i0), rd.2.2.2.2.2), shL sh (lkA t ns nl ls ll m (sLnk sh) i0), ?_, rfl⟩
  unfold f2_bindLinks
  simp (disch := omega) only [li, ↓lim1, ↓bnd_m, ↓grd_m, ↓jn_e, ↓cas_m, ↓oc_m, inb_t, nI_add, pk_mul, sub_e, le_t, le_f, lt_t, lt_f, eq_t, eq_f, cl_e, m1_e, m1_e', m1_lt, m1_le, m1_m1, lt_m1, ↓reduceIte, Nat.add_zero, Nat.zero_add, k1', a2]
/-! the model -/
theorem unk_step (hF : 5000 < F) (HT : TpC tp t n) (HG : GG t n N m so va cc dd oo ww hh cr ns nl ls ll) (HN : NmR t n N rd md m cr ns nl) (hsz : kSiz ck = nI m) (HW : NwM md N m so cc dd oo ww hh pl pc cr ns ls) {r : Nat} (hr : r < N) :
    (so r = 3 → bad t ns nl ls ll m (2 * r) → f6_unknown_L2 F md (nI r) = some (.inr (.inl (nI r)))) ∧
    (so r = 3 → ¬ bad t ns nl ls ll m (2 * r) → bad t ns nl ls ll m (2 * r + 1) → f6_unknown_L2 F md (nI r) = some (.inr (.inr (.inl (nI r))))) ∧
    (so r = 1 ∨ so r = 2 → bad t ns nl ls ll m (2 * r) → f6_unknown_L2 F md (nI r) = some (.inr (.inr (.inl (nI r))))) ∧
    (¬ bad t ns nl ls ll m (2 * r) → ¬ bad t ns nl ls ll m (2 * r + 1) → f6_unknown_L2 F md (nI r) = some (.inl (nI (r + 1)))) := by
  have hN := HG.1
  have hm := HG.2.1
  obtain ⟨w1, w2, w3, w4, hnr, hnc⟩ := HW
  obtain ⟨f1, f2, f3, f4, _⟩ := w1 r hr
  obtain ⟨r1, r2, r3, r4, r5, r6, r7⟩ := HG.2.2.1 r hr
  have nn : ∀ {i : Nat}, 0 < ll i → ls i + ll i ≤ n → nmw t (ls i) (ls i + ll i) = true → f6_clockOf F (lN (cdw t (ls i) (ll i))) md = some (pI (lk t ns nl ls ll m i)) := fun h0 h1 h2 => (named hF HT HN hN hsz hnc h0 h1 h2).2.2
  have nb : ∀ {i : Nat}, 0 < ll i → ¬ bad t ns nl ls ll m i → ∃ k, lk t ns nl ls ll m i = some k ∧ k < m := fun {i} h0 h => by
    cases hk : lk t ns nl ls ll m i with
    | none => exact absurd ⟨h0, hk⟩ h
    | some k => exact ⟨k, rfl, (fcl_some m k hk).1⟩
  have pn : pI none = im1 := rfl
  refine ⟨fun h3 hb => ?_, fun h3 hb hb2 => ?_, fun h12 hb => ?_, fun hb hb2 => ?_⟩
  · obtain ⟨a1, a2, a3, a4, a5, a6, a7, a8⟩ := r6 h3
    have c1 := nn a1 a4 a3
    rw [hb.2, pn, ← a2] at c1
    have f3' := (f3 (by omega)).1
    rw [h3] at f2
    unfold f6_unknown_L2
    simp (disch := omega) only [li, ↓lim1, ↓bnd_m, ↓grd_m, ↓jn_e, ↓cas_m, ↓oc_m, inb_t, nI_add, pk_mul, sub_e, le_t, le_f, lt_t, lt_f, eq_t, eq_f, cl_e, m1_e, m1_e', m1_lt, m1_le, m1_m1, lt_m1, ↓reduceIte, Nat.add_zero, Nat.zero_add, hnr, f2, f3', c1]
  · obtain ⟨a1, a2, a3, a4, a5, a6, a7, a8⟩ := r6 h3
    have c1 := nn a1 a4 a3
    obtain ⟨k, k1, k2⟩ := nb a1 hb
    have pk : pI (some k) = nI k := rfl
    rw [k1, pk, ← a2] at c1
    have c2 := nn a5 a8 a7
    rw [hb2.2, pn, ← a6] at c2
    have f3' := (f3 (by omega)).1
    have f4' := (f4 (by omega) (by omega)).1
    rw [h3] at f2
    unfold f6_unknown_L2
    simp (disch := omega) only [li, ↓lim1, ↓bnd_m, ↓grd_m, ↓jn_e, ↓cas_m, ↓oc_m, inb_t, nI_add, pk_mul, sub_e, le_t, le_f, lt_t, lt_f, eq_t, eq_f, cl_e, m1_e, m1_e', m1_lt, m1_le, m1_m1, lt_m1, ↓reduceIte, Nat.add_zero, Nat.zero_add, hnr, f2, f3', f4', c1, c2]
  · obtain ⟨_, _, _, _, a1, a2, a3, a4, _⟩ := r5 h12
    have c2 := nn a1 a4 a3
    rw [hb.2, pn, ← a2] at c2
    have f4' := (f4 (by omega) (by omega)).1
    unfold f6_unknown_L2
    simp (disch := omega) only [li, ↓lim1, ↓bnd_m, ↓grd_m, ↓jn_e, ↓cas_m, ↓oc_m, inb_t, nI_add, pk_mul, sub_e, le_t, le_f, lt_t, lt_f, eq_t, eq_f, cl_e, m1_e, m1_e', m1_lt, m1_le, m1_m1, lt_m1, ↓reduceIte, Nat.add_zero, Nat.zero_add, hnr, f2, f4', c2]
  · by_cases h3 : so r = 3
    · obtain ⟨a1, a2, a3, a4, a5, a6, a7, a8⟩ := r6 h3
      have c1 := nn a1 a4 a3
      obtain ⟨k, k1, k2⟩ := nb a1 hb
      have pk : pI (some k) = nI k := rfl
      rw [k1, pk, ← a2] at c1
      have c2 := nn a5 a8 a7
      obtain ⟨k', k1', k2'⟩ := nb a5 hb2
      have pk' : pI (some k') = nI k' := rfl
      rw [k1', pk', ← a6] at c2
      have f3' := (f3 (by omega)).1
      have f4' := (f4 (by omega) (by omega)).1
      rw [h3] at f2
      unfold f6_unknown_L2
      simp (disch := omega) only [li, ↓lim1, ↓bnd_m, ↓grd_m, ↓jn_e, ↓cas_m, ↓oc_m, inb_t, nI_add, pk_mul, sub_e, le_t, le_f, lt_t, lt_f, eq_t, eq_f, cl_e, m1_e, m1_e', m1_lt, m1_le, m1_m1, lt_m1, ↓reduceIte, Nat.add_zero, Nat.zero_add, hnr, f2, f3', f4', c1, c2]
    · by_cases h12 : so r = 1 ∨ so r = 2
      · obtain ⟨_, _, _, _, a1, a2, a3, a4, _⟩ := r5 h12
        have c2 := nn a1 a4 a3
        obtain ⟨k, k1, k2⟩ := nb a1 hb
        have pk : pI (some k) = nI k := rfl
        rw [k1, pk, ← a2] at c2
        have f4' := (f4 (by omega) (by omega)).1
        unfold f6_unknown_L2
        simp (disch := omega) only [li, ↓lim1, ↓bnd_m, ↓grd_m, ↓jn_e, ↓cas_m, ↓oc_m, inb_t, nI_add, pk_mul, sub_e, le_t, le_f, lt_t, lt_f, eq_t, eq_f, cl_e, m1_e, m1_e', m1_lt, m1_le, m1_m1, lt_m1, ↓reduceIte, Nat.add_zero, Nat.zero_add, hnr, f2, f4', c2]
      · unfold f6_unknown_L2
        by_cases h0 : so r = 0
        · simp (disch := omega) only [li, ↓lim1, ↓bnd_m, ↓grd_m, ↓jn_e, ↓cas_m, ↓oc_m, inb_t, nI_add, pk_mul, sub_e, le_t, le_f, lt_t, lt_f, eq_t, eq_f, cl_e, m1_e, m1_e', m1_lt, m1_le, m1_m1, lt_m1, ↓reduceIte, Nat.add_zero, Nat.zero_add, hnr, f2]
        · simp (disch := omega) only [li, ↓lim1, ↓bnd_m, ↓grd_m, ↓jn_e, ↓cas_m, ↓oc_m, inb_t, nI_add, pk_mul, sub_e, le_t, le_f, lt_t, lt_f, eq_t, eq_f, cl_e, m1_e, m1_e', m1_lt, m1_le, m1_m1, lt_m1, ↓reduceIte, Nat.add_zero, Nat.zero_add, hnr, f2]
theorem unk_ok (hF : 5000 < F) (HT : TpC tp t n) (HG : GG t n N m so va cc dd oo ww hh cr ns nl ls ll) (HN : NmR t n N rd md m cr ns nl) (hsz : kSiz ck = nI m) (HW : NwM md N m so cc dd oo ww hh pl pc cr ns ls) (hb : ∀ i, i < 2 * N → ¬ bad t ns nl ls ll m i) : f6_unknown F md = some im1 := by
  have hN := HG.1
  have hnr := HW.2.2.2.2.1
  have k : iter (f6_unknown_L2 F md) F (nI 0) = some (.inr (.inr ())) := by
    refine iter_up (fun r => nI r) _ N (fun r hr => (unk_step hF HT HG HN hsz HW hr).2.2.2 (hb _ (by omega)) (hb _ (by omega))) ?_ F 0 (by omega) (by omega)
    unfold f6_unknown_L2
    simp (disch := omega) only [li, ↓lim1, ↓bnd_m, ↓grd_m, ↓jn_e, ↓cas_m, ↓oc_m, inb_t, nI_add, pk_mul, sub_e, le_t, le_f, lt_t, lt_f, eq_t, eq_f, cl_e, m1_e, m1_e', m1_lt, m1_le, m1_m1, lt_m1, ↓reduceIte, Nat.add_zero, Nat.zero_add, hnr]
  unfold f6_unknown
  simp (disch := omega) only [li, ↓lim1, ↓bnd_m, ↓grd_m, ↓jn_e, ↓cas_m, ↓oc_m, inb_t, nI_add, pk_mul, sub_e, le_t, le_f, lt_t, lt_f, eq_t, eq_f, cl_e, m1_e, m1_e', m1_lt, m1_le, m1_m1, lt_m1, ↓reduceIte, Nat.add_zero, Nat.zero_add, k]
theorem unk_bad (hF : 5000 < F) (HT : TpC tp t n) (HG : GG t n N m so va cc dd oo ww hh cr ns nl ls ll) (HN : NmR t n N rd md m cr ns nl) (hsz : kSiz ck = nI m) (HW : NwM md N m so cc dd oo ww hh pl pc cr ns ls) {i0 : Nat} (hi : i0 < 2 * N) (hb : bad t ns nl ls ll m i0) (hf : ∀ j, j < i0 → ¬ bad t ns nl ls ll m j) : f6_unknown F md = some (nI (ls i0)) := by
  have hN := HG.1
  have hnr := HW.2.2.2.2.1
  obtain ⟨r0, hr0⟩ : ∃ r, r = i0 / 2 := ⟨_, rfl⟩
  have hr : r0 < N := by omega
  obtain ⟨u1, u2, u3, u4⟩ := unk_step hF HT HG HN hsz HW hr
  obtain ⟨p3, p1⟩ := HW.2.2.2.1 r0 hr
  obtain ⟨r1, r2, r3, r4, r5, r6, r7⟩ := HG.2.2.1 r0 hr
  have go : ∀ q, f6_unknown_L2 F md (nI r0) = some (.inr q) → iter (f6_unknown_L2 F md) F (nI 0) = some q := by
    intro q hq
    refine iter_up (fun r => nI r) _ r0 (fun r hr' => (unk_step hF HT HG HN hsz HW (by omega)).2.2.2 (hf _ (by omega)) (hf _ (by omega))) hq F 0 (by omega) (by omega)
  unfold f6_unknown
  rcases (show i0 = 2 * r0 ∨ i0 = 2 * r0 + 1 by omega) with e | e
  · subst e
    by_cases h3 : so r0 = 3
    · have k := go _ (u1 h3 hb)
      have pp := (p3 h3).1
      simp (disch := omega) only [li, ↓lim1, ↓bnd_m, ↓grd_m, ↓jn_e, ↓cas_m, ↓oc_m, inb_t, nI_add, pk_mul, sub_e, le_t, le_f, lt_t, lt_f, eq_t, eq_f, cl_e, m1_e, m1_e', m1_lt, m1_le, m1_m1, lt_m1, ↓reduceIte, Nat.add_zero, Nat.zero_add, k, pp]
    · by_cases h12 : so r0 = 1 ∨ so r0 = 2
      · have k := go _ (u3 h12 hb)
        have pp := p1 h12
        simp (disch := omega) only [li, ↓lim1, ↓bnd_m, ↓grd_m, ↓jn_e, ↓cas_m, ↓oc_m, inb_t, nI_add, pk_mul, sub_e, le_t, le_f, lt_t, lt_f, eq_t, eq_f, cl_e, m1_e, m1_e', m1_lt, m1_le, m1_m1, lt_m1, ↓reduceIte, Nat.add_zero, Nat.zero_add, k, pp]
      · have := (r7 (fun h => h12 (Or.inl h)) (fun h => h12 (Or.inr h)) h3).1
        have := hb.1
        omega
  · subst e
    by_cases h3 : so r0 = 3
    · have k := go _ (u2 h3 (hf _ (by omega)) hb)
      have pp := (p3 h3).2
      simp (disch := omega) only [li, ↓lim1, ↓bnd_m, ↓grd_m, ↓jn_e, ↓cas_m, ↓oc_m, inb_t, nI_add, pk_mul, sub_e, le_t, le_f, lt_t, lt_f, eq_t, eq_f, cl_e, m1_e, m1_e', m1_lt, m1_le, m1_m1, lt_m1, ↓reduceIte, Nat.add_zero, Nat.zero_add, k, pp]
    · have hb1 := hb.1
      by_cases h12 : so r0 = 1 ∨ so r0 = 2
      · have := (r5 h12).2.2.2.2.2.2.2.2
        omega
      · have := (r7 (fun h => h12 (Or.inl h)) (fun h => h12 (Or.inr h)) h3).2
        omega
theorem findFrom_ok (hF : 5000 < F) (HT : TpC tp t n) (HG : GG t n N m so va cc dd oo ww hh cr ns nl ls ll) (HN : NmR t n N rd md m cr ns nl) (hsz : kSiz ck = nI m) (HW : NwM md N m so cc dd oo ww hh pl pc cr ns ls) : f6_findFrom F md = some (mF md (srcA (src t ns nl ls ll so cr m) (mFrom md) 12 m)) := by
  have hN := HG.1
  have hm := HG.2.1
  have hnc := HW.2.2.2.2.2
  have k : iter (f6_findFrom_L2 F) F (nI 0, mF md (srcA (src t ns nl ls ll so cr m) (mFrom md) 12 0)) = some (mF md (srcA (src t ns nl ls ll so cr m) (mFrom md) 12 m)) := by
    refine iter_up (fun c => (nI c, mF md (srcA (src t ns nl ls ll so cr m) (mFrom md) 12 c))) _ m (fun c hc => ?_) ?_ F 0 (by omega) (by omega)
    · have e1 : srcA (src t ns nl ls ll so cr m) (mFrom md) 12 (c + 1) = upd (srcA (src t ns nl ls ll so cr m) (mFrom md) 12 c) (12 + c) (pI (src t ns nl ls ll so cr m c)) := rfl
      rw [e1]
      have hnc' : ∀ l, (mF md l).2.2.2.1.2.2.2.2.1 = nI m := fun _ => hnc
      have hcr' : ∀ l, (mF md l).2.2.1.2.1 (12 + c) = nI (cr c) := fun _ => (HW.2.2.1 c hc).1
      obtain ⟨g1, g2, _⟩ := HG.2.2.2.1 c hc
      obtain ⟨f1, f2, f3, f4, _⟩ := HW.1 (cr c) g1
      have f2' : ∀ l, (mF md l).2.1.2.1 (40 + cr c) = nI (so (cr c)) := fun _ => f2
      obtain ⟨_, _, _, _, r5, _, _⟩ := HG.2.2.1 (cr c) g1
      unfold f6_findFrom_L2
      by_cases c0 : so (cr c) = 0
      · have e2 : src t ns nl ls ll so cr m c = none := if_pos c0
        have pn : pI none = im1 := rfl
        rw [e2, pn]
        rw [c0] at f2'
        simp (disch := omega) only [li, ↓lim1, ↓bnd_m, ↓grd_m, ↓jn_e, ↓cas_m, ↓oc_m, inb_t, nI_add, pk_mul, sub_e, le_t, le_f, lt_t, lt_f, eq_t, eq_f, cl_e, m1_e, m1_e', m1_lt, m1_le, m1_m1, lt_m1, ↓reduceIte, Nat.add_zero, Nat.zero_add, hnc', hcr', f2']
        rfl
      · have e2 : src t ns nl ls ll so cr m c = lk t ns nl ls ll m (2 * cr c) := if_neg c0
        rw [e2]
        obtain ⟨_, _, _, _, a1, a2, a3, a4, _⟩ := r5 (by omega)
        have nn : ∀ l, f6_clockOf F (lN (cdw t (ls (2 * cr c)) (ll (2 * cr c)))) (mF md l) = some (pI (lk t ns nl ls ll m (2 * cr c))) := (named hF HT HN hN hsz hnc a1 a4 a3).2.1
        rw [← a2] at nn
        have f4' : ∀ l, (mF md l).2.1.2.2.2.1 (40 + cr c) = lN (dd (cr c)) := fun _ => (f4 (by omega) (by omega)).1
        simp (disch := omega) only [li, ↓lim1, ↓bnd_m, ↓grd_m, ↓jn_e, ↓cas_m, ↓oc_m, inb_t, nI_add, pk_mul, sub_e, le_t, le_f, lt_t, lt_f, eq_t, eq_f, cl_e, m1_e, m1_e', m1_lt, m1_le, m1_m1, lt_m1, ↓reduceIte, Nat.add_zero, Nat.zero_add, hnc', hcr', f2', f4', nn]
        rfl
    · have hnc' : ∀ l, (mF md l).2.2.2.1.2.2.2.2.1 = nI m := fun _ => hnc
      unfold f6_findFrom_L2
      simp (disch := omega) only [li, ↓lim1, ↓bnd_m, ↓grd_m, ↓jn_e, ↓cas_m, ↓oc_m, inb_t, nI_add, pk_mul, sub_e, le_t, le_f, lt_t, lt_f, eq_t, eq_f, cl_e, m1_e, m1_e', m1_lt, m1_le, m1_m1, lt_m1, ↓reduceIte, Nat.add_zero, Nat.zero_add, hnc']
  have k' : iter (f6_findFrom_L2 F) F (nI 0, md) = _ := k
  unfold f6_findFrom
  simp (disch := omega) only [li, ↓lim1, ↓bnd_m, ↓grd_m, ↓jn_e, ↓cas_m, ↓oc_m, inb_t, nI_add, pk_mul, sub_e, le_t, le_f, lt_t, lt_f, eq_t, eq_f, cl_e, m1_e, m1_e', m1_lt, m1_le, m1_m1, lt_m1, ↓reduceIte, Nat.add_zero, Nat.zero_add, k']
end Li
