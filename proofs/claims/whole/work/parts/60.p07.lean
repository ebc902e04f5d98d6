/-- the printed text of the class -/
def PrC (sh : T3) (L : List Nat) : Prop := L.length ≤ 1240 ∧ sPl sh = nI L.length ∧ ∀ i, i < L.length → sPr sh i = nI (L.getD i 0)
def TpC (tp : T4) (t : Nat → Nat) (n : Nat) : Prop := n ≤ 1200 ∧ tp.2 = nI n ∧ ∀ i, i < n → tp.1 i = nI (t i) ∧ t i < 128
def TpM (md : T6) (t : Nat → Nat) (n : Nat) : Prop := n ≤ 1200 ∧ mLen md = nI n ∧ ∀ i, i < n → mTape md i = nI (t i) ∧ t i < 128
section Tx
variable {F n m : Nat} {so va pl sz cc dd oo ww hh : Nat → Nat} {pc nm : Nat → Nat → Nat} {sh : T3} {ck : T0} {md : T6} {tp : T4}
variable {c : Int32} {g4 : Int32 × Int32 × Int32 × Int32 × Int32 × (Nat → Int32) × (Nat → Int32)} {rd0 : Nat → Int32} {wn : Int32}
theorem printAll_ok (hF : 5000 < F) (HM : RowM md n so va) (HP : PtsM md n pl pc) (HF : FldM md 0 n so cc dd oo ww hh) {g5 : (Nat → Int32) × Int32 × Int32 × Int32} : f6_printAll F wn (mC md c g4 g5) = some (mP md c g4 g5.1 wn (txt so cc dd oo ww hh pl pc n).length (tol wn 0 im1 (txt so cc dd oo ww hh pl pc n))) := by
  obtain ⟨hn, e2, h2⟩ := id HM
  have key := iter_rule (b := f6_printAll_L17 F)
    (fun d st => ∃ r : Nat, d + r = n ∧ st = (nI r, mP md c g4 g5.1 wn (txt so cc dd oo ww hh pl pc r).length (tol wn 0 im1 (txt so cc dd oo ww hh pl pc r))))
    (fun q => q = mP md c g4 g5.1 wn (txt so cc dd oo ww hh pl pc n).length (tol wn 0 im1 (txt so cc dd oo ww hh pl pc n)))
    (by
      rintro d st ⟨r, hd, rfl⟩
      have e2' : ∀ k t, mRows (mP md c g4 g5.1 wn k t) = nI n := fun _ _ => e2
      by_cases hr : n ≤ r
      · have : r = n := by omega
        subst this
        refine Or.inr ⟨_, ?_, rfl⟩
        unfold f6_printAll_L17
        simp (disch := omega) only [li, ↓lim1, ↓bnd_m, ↓grd_m, ↓jn_e, ↓cas_m, ↓oc_m, inb_t, nI_add, pk_mul, sub_e, le_t, le_f, lt_t, lt_f, eq_t, eq_f, cl_e, m1_e, m1_e', m1_lt, m1_le, m1_m1, lt_m1, ↓reduceIte, Nat.add_zero, Nat.zero_add, e2']
      · refine Or.inl ⟨_, d - 1, by omega, ?_, r + 1, by omega, rfl⟩
        have q := print_ok (c := c) (g4 := g4) (rd0 := g5.1) (wn := wn) (k := (txt so cc dd oo ww hh pl pc r).length) (t := tol wn 0 im1 (txt so cc dd oo ww hh pl pc r)) hF hn HP HF (show r < n by omega)
        unfold f6_printAll_L17
        simp (disch := omega) only [li, ↓lim1, ↓bnd_m, ↓grd_m, ↓jn_e, ↓cas_m, ↓oc_m, inb_t, nI_add, pk_mul, sub_e, le_t, le_f, lt_t, lt_f, eq_t, eq_f, cl_e, m1_e, m1_e', m1_lt, m1_le, m1_m1, lt_m1, ↓reduceIte, Nat.add_zero, Nat.zero_add, e2', q]
        have e : txt so cc dd oo ww hh pl pc (r + 1) = txt so cc dd oo ww hh pl pc r ++ txr so cc dd oo ww hh pl pc r := rfl
        rw [e, tol_app, List.length_append, Nat.zero_add])
    F n (nI 0, mP md c g4 g5.1 wn 0 im1) (by omega) ⟨0, by omega, rfl⟩
  obtain ⟨q, hq, rfl⟩ := key
  unfold f6_printAll
  have e0 : ((mC md c g4 g5).1, (mC md c g4 g5).2.1, (mC md c g4 g5).2.2.1, (mC md c g4 g5).2.2.2.1, ((mC md c g4 g5).2.2.2.2.1, wn, nI 0, im1)) = mP md c g4 g5.1 wn 0 im1 := rfl
  simp (disch := omega) only [li, ↓lim1, ↓bnd_m, ↓grd_m, ↓jn_e, ↓cas_m, ↓oc_m, inb_t, nI_add, pk_mul, sub_e, le_t, le_f, lt_t, lt_f, eq_t, eq_f, cl_e, m1_e, m1_e', m1_lt, m1_le, m1_m1, lt_m1, ↓reduceIte, Nat.add_zero, Nat.zero_add, e0, hq]
theorem write_ok (hF : 5000 < F) (HM : RowM md n so va) (HP : PtsM md n pl pc) (HF : FldM md 0 n so cc dd oo ww hh) (HR : PrC sh (txt so cc dd oo ww hh pl pc n)) (p1 : Int32) : ∃ ra rb md', f5_write p1 sh = some ra ∧ f6_write F p1 md = some (rb, md') ∧ An ra rb md md' := by
  obtain ⟨h1, h2, h3⟩ := HR
  rcases int_cases p1 with hx | ⟨i, hi, rfl⟩
  · have h0 := neg_ge hx (a := 0) (by omega)
    refine ⟨none, nI 0, mC md (nI 1) md.2.2.2.1 md.2.2.2.2, ?_, ?_, An.no⟩
    · unfold f5_write
      simp (disch := omega) only [li, ↓lim1, ↓bnd_m, ↓grd_m, ↓jn_e, ↓cas_m, ↓oc_m, inb_t, nI_add, pk_mul, sub_e, le_t, le_f, lt_t, lt_f, eq_t, eq_f, cl_e, m1_e, m1_e', m1_lt, m1_le, m1_m1, lt_m1, ↓reduceIte, Nat.add_zero, Nat.zero_add, h0]
    · unfold f6_write
      simp (disch := omega) only [li, ↓lim1, ↓bnd_m, ↓grd_m, ↓jn_e, ↓cas_m, ↓oc_m, inb_t, nI_add, pk_mul, sub_e, le_t, le_f, lt_t, lt_f, eq_t, eq_f, cl_e, m1_e, m1_e', m1_lt, m1_le, m1_m1, lt_m1, ↓reduceIte, Nat.add_zero, Nat.zero_add, h0, e0_md]
  · have pa := printAll_ok (F := F) (c := nI 0) (g4 := md.2.2.2.1) (g5 := md.2.2.2.2) (wn := nI i) hF HM HP HF
    have et : ∀ k t, (mP md (nI 0) md.2.2.2.1 md.2.2.2.2.1 (nI i) k t).2.2.2.2.2.2.2 = t := fun _ _ => rfl
    have tg := tol_get hi (txt so cc dd oo ww hh pl pc n) 0 im1 (by omega)
    have hm : f6_write F (nI i) md = some (tol (nI i) 0 im1 (txt so cc dd oo ww hh pl pc n), mP md (nI 0) md.2.2.2.1 md.2.2.2.2.1 (nI i) (txt so cc dd oo ww hh pl pc n).length (tol (nI i) 0 im1 (txt so cc dd oo ww hh pl pc n))) := by
      unfold f6_write
      simp (disch := omega) only [li, ↓lim1, ↓bnd_m, ↓grd_m, ↓jn_e, ↓cas_m, ↓oc_m, inb_t, nI_add, pk_mul, sub_e, le_t, le_f, lt_t, lt_f, eq_t, eq_f, cl_e, m1_e, m1_e', m1_lt, m1_le, m1_m1, lt_m1, ↓reduceIte, Nat.add_zero, Nat.zero_add, e0_md, pa, et]
    refine ⟨some (tol (nI i) 0 im1 (txt so cc dd oo ww hh pl pc n)), _, _, ?_, hm, ⟨⟨_, _, rfl⟩, fun a h => (Option.some.inj h).symm⟩⟩
    unfold f5_write
    rw [tg]
    by_cases hl : i < (txt so cc dd oo ww hh pl pc n).length
    · have q := printedAt_n h2 h1 hl
      rw [h3 i hl] at q
      rw [if_pos (show 0 ≤ i ∧ i < 0 + (txt so cc dd oo ww hh pl pc n).length by omega)]
      simp (disch := omega) only [li, ↓lim1, ↓bnd_m, ↓grd_m, ↓jn_e, ↓cas_m, ↓oc_m, inb_t, nI_add, pk_mul, sub_e, le_t, le_f, lt_t, lt_f, eq_t, eq_f, cl_e, m1_e, m1_e', m1_lt, m1_le, m1_m1, lt_m1, ↓reduceIte, Nat.add_zero, Nat.zero_add, h2, q, Nat.sub_zero]
    · rw [if_neg (show ¬ (0 ≤ i ∧ i < 0 + (txt so cc dd oo ww hh pl pc n).length) by omega)]
      simp (disch := omega) only [li, ↓lim1, ↓bnd_m, ↓grd_m, ↓jn_e, ↓cas_m, ↓oc_m, inb_t, nI_add, pk_mul, sub_e, le_t, le_f, lt_t, lt_f, eq_t, eq_f, cl_e, m1_e, m1_e', m1_lt, m1_le, m1_m1, lt_m1, ↓reduceIte, Nat.add_zero, Nat.zero_add, h2]
theorem count_ok (hF : 5000 < F) {t : Nat → Nat} {tn : Nat} (HC : RowC sh n so va) (HM : RowM md n so va) (HP : PtsM md n pl pc) (HF : FldM md 0 n so cc dd oo ww hh) (HR : PrC sh (txt so cc dd oo ww hh pl pc n)) (k1 : kSiz ck = nI m) (j1 : mClk md = nI m) (TC : TpC tp t tn) (TM : TpM md t tn) (p1 : Int32) : ∃ ra rb md', f5_count p1 sh tp ck = some ra ∧ f6_count F p1 md = some (rb, md') ∧ An ra rb md md' := by
  have c1 := HC.2.1
  have m1 := HM.2.1
  have c2 : tp.2 = nI tn := TC.2.1
  have m2 := TM.2.1
  have c3 := HR.2.1
  have res : f5_count p1 sh tp ck = some none → f6_count F p1 md = some (nI 0, mC md (nI 1) md.2.2.2.1 md.2.2.2.2) → ∃ ra rb md', f5_count p1 sh tp ck = some ra ∧ f6_count F p1 md = some (rb, md') ∧ An ra rb md md' := fun a b => ⟨none, nI 0, _, a, b, An.no⟩
  rcases int_cases p1 with hx | ⟨i, hi, rfl⟩
  · have h0 := neg_lta hx (a := 0) (by omega)
    have n0 := neg_ne hx (a := 0) (by omega)
    have n1 := neg_ne hx (a := 1) (by omega)
    have n2 := neg_ne hx (a := 2) (by omega)
    have n3 := neg_ne hx (a := 3) (by omega)
    apply res
    · unfold f5_count
      simp (disch := omega) only [li, ↓lim1, ↓bnd_m, ↓grd_m, ↓jn_e, ↓cas_m, ↓oc_m, inb_t, nI_add, pk_mul, sub_e, le_t, le_f, lt_t, lt_f, eq_t, eq_f, cl_e, m1_e, m1_e', m1_lt, m1_le, m1_m1, lt_m1, ↓reduceIte, Nat.add_zero, Nat.zero_add, n0, n1, n2, n3]
    · unfold f6_count
      simp (disch := omega) only [li, ↓lim1, ↓bnd_m, ↓grd_m, ↓jn_e, ↓cas_m, ↓oc_m, inb_t, nI_add, pk_mul, sub_e, le_t, le_f, lt_t, lt_f, eq_t, eq_f, cl_e, m1_e, m1_e', m1_lt, m1_le, m1_m1, lt_m1, ↓reduceIte, Nat.add_zero, Nat.zero_add, h0, e0_md]
  · by_cases hi3 : 3 < i
    · apply res
      · unfold f5_count
        simp (disch := omega) only [li, ↓lim1, ↓bnd_m, ↓grd_m, ↓jn_e, ↓cas_m, ↓oc_m, inb_t, nI_add, pk_mul, sub_e, le_t, le_f, lt_t, lt_f, eq_t, eq_f, cl_e, m1_e, m1_e', m1_lt, m1_le, m1_m1, lt_m1, ↓reduceIte, Nat.add_zero, Nat.zero_add]
      · unfold f6_count
        simp (disch := omega) only [li, ↓lim1, ↓bnd_m, ↓grd_m, ↓jn_e, ↓cas_m, ↓oc_m, inb_t, nI_add, pk_mul, sub_e, le_t, le_f, lt_t, lt_f, eq_t, eq_f, cl_e, m1_e, m1_e', m1_lt, m1_le, m1_m1, lt_m1, ↓reduceIte, Nat.add_zero, Nat.zero_add, e0_md]
    · rcases (show i = 0 ∨ i = 1 ∨ i = 2 ∨ i = 3 by omega) with e | e | e | e
      · subst e
        refine ⟨some (nI n), nI n, mC md (nI 0) md.2.2.2.1 md.2.2.2.2, ?_, ?_, An.yes⟩
        · unfold f5_count
          simp (disch := omega) only [li, ↓lim1, ↓bnd_m, ↓grd_m, ↓jn_e, ↓cas_m, ↓oc_m, inb_t, nI_add, pk_mul, sub_e, le_t, le_f, lt_t, lt_f, eq_t, eq_f, cl_e, m1_e, m1_e', m1_lt, m1_le, m1_m1, lt_m1, ↓reduceIte, Nat.add_zero, Nat.zero_add, c1]
        · unfold f6_count
          simp (disch := omega) only [li, ↓lim1, ↓bnd_m, ↓grd_m, ↓jn_e, ↓cas_m, ↓oc_m, inb_t, nI_add, pk_mul, sub_e, le_t, le_f, lt_t, lt_f, eq_t, eq_f, cl_e, m1_e, m1_e', m1_lt, m1_le, m1_m1, lt_m1, ↓reduceIte, Nat.add_zero, Nat.zero_add, e0_md, m1]
      · subst e
        refine ⟨some (nI m), nI m, mC md (nI 0) md.2.2.2.1 md.2.2.2.2, ?_, ?_, An.yes⟩
        · unfold f5_count
          simp (disch := omega) only [li, ↓lim1, ↓bnd_m, ↓grd_m, ↓jn_e, ↓cas_m, ↓oc_m, inb_t, nI_add, pk_mul, sub_e, le_t, le_f, lt_t, lt_f, eq_t, eq_f, cl_e, m1_e, m1_e', m1_lt, m1_le, m1_m1, lt_m1, ↓reduceIte, Nat.add_zero, Nat.zero_add, k1]
        · unfold f6_count
          simp (disch := omega) only [li, ↓lim1, ↓bnd_m, ↓grd_m, ↓jn_e, ↓cas_m, ↓oc_m, inb_t, nI_add, pk_mul, sub_e, le_t, le_f, lt_t, lt_f, eq_t, eq_f, cl_e, m1_e, m1_e', m1_lt, m1_le, m1_m1, lt_m1, ↓reduceIte, Nat.add_zero, Nat.zero_add, e0_md, j1]
      · subst e
        refine ⟨some (nI tn), nI tn, mC md (nI 0) md.2.2.2.1 md.2.2.2.2, ?_, ?_, An.yes⟩
        · unfold f5_count
          simp (disch := omega) only [li, ↓lim1, ↓bnd_m, ↓grd_m, ↓jn_e, ↓cas_m, ↓oc_m, inb_t, nI_add, pk_mul, sub_e, le_t, le_f, lt_t, lt_f, eq_t, eq_f, cl_e, m1_e, m1_e', m1_lt, m1_le, m1_m1, lt_m1, ↓reduceIte, Nat.add_zero, Nat.zero_add, c2]
        · unfold f6_count
          have e0 : (((nI 0, md.1.2.1, md.1.2.2.1, md.1.2.2.2.1, nI tn), md.2.1, md.2.2.1, md.2.2.2.1, md.2.2.2.2) : T6) = mC md (nI 0) md.2.2.2.1 md.2.2.2.2 := by rw [← m2]; rfl
          simp (disch := omega) only [li, ↓lim1, ↓bnd_m, ↓grd_m, ↓jn_e, ↓cas_m, ↓oc_m, inb_t, nI_add, pk_mul, sub_e, le_t, le_f, lt_t, lt_f, eq_t, eq_f, cl_e, m1_e, m1_e', m1_lt, m1_le, m1_m1, lt_m1, ↓reduceIte, Nat.add_zero, Nat.zero_add, m2, e0]
      · subst e
        have pa := printAll_ok (F := F) (c := nI 0) (g4 := md.2.2.2.1) (g5 := md.2.2.2.2) (wn := im1) hF HM HP HF
        have et : ∀ k t, (mP md (nI 0) md.2.2.2.1 md.2.2.2.2.1 im1 k t).2.2.2.2.2.2.1 = nI k := fun _ _ => rfl
        have hm : f6_count F (nI 3) md = some (nI (txt so cc dd oo ww hh pl pc n).length, mP md (nI 0) md.2.2.2.1 md.2.2.2.2.1 im1 (txt so cc dd oo ww hh pl pc n).length (tol im1 0 im1 (txt so cc dd oo ww hh pl pc n))) := by
          unfold f6_count
          simp (disch := omega) only [li, ↓lim1, ↓bnd_m, ↓grd_m, ↓jn_e, ↓cas_m, ↓oc_m, inb_t, nI_add, pk_mul, sub_e, le_t, le_f, lt_t, lt_f, eq_t, eq_f, cl_e, m1_e, m1_e', m1_lt, m1_le, m1_m1, lt_m1, ↓reduceIte, Nat.add_zero, Nat.zero_add, e0_md, pa, et]
        refine ⟨some (nI (txt so cc dd oo ww hh pl pc n).length), _, _, ?_, hm, ⟨⟨_, _, rfl⟩, fun a h => (Option.some.inj h).symm⟩⟩
        unfold f5_count
        simp (disch := omega) only [li, ↓lim1, ↓bnd_m, ↓grd_m, ↓jn_e, ↓cas_m, ↓oc_m, inb_t, nI_add, pk_mul, sub_e, le_t, le_f, lt_t, lt_f, eq_t, eq_f, cl_e, m1_e, m1_e', m1_lt, m1_le, m1_m1, lt_m1, ↓reduceIte, Nat.add_zero, Nat.zero_add, c3]
/-! ===== the tape ===== -/
theorem takes_ok (u : Int32) : f4_takes u = f6_isCharacter u := rfl
theorem ch_dec (u : Int32) : (f4_takes u = some (nI 0)) ∨ (f4_takes u = some (nI 1) ∧ ∃ k : Nat, k < 128 ∧ u = nI k) := by
  unfold f4_takes
  rcases int_cases u with hx | ⟨k, hk, rfl⟩
  · have h0 := neg_lta hx (a := 32) (by omega)
    have n0 := neg_ne hx (a := 10) (by omega)
    left
    simp (disch := omega) only [li, ↓lim1, ↓bnd_m, ↓grd_m, ↓jn_e, ↓cas_m, ↓oc_m, inb_t, nI_add, pk_mul, sub_e, le_t, le_f, lt_t, lt_f, eq_t, eq_f, cl_e, m1_e, m1_e', m1_lt, m1_le, m1_m1, lt_m1, ↓reduceIte, Nat.add_zero, Nat.zero_add, h0, n0]
  · by_cases h1 : 32 ≤ k ∧ k ≤ 126
    · right
      refine ⟨?_, k, by omega, rfl⟩
      simp (disch := omega) only [li, ↓lim1, ↓bnd_m, ↓grd_m, ↓jn_e, ↓cas_m, ↓oc_m, inb_t, nI_add, pk_mul, sub_e, le_t, le_f, lt_t, lt_f, eq_t, eq_f, cl_e, m1_e, m1_e', m1_lt, m1_le, m1_m1, lt_m1, ↓reduceIte, Nat.add_zero, Nat.zero_add]
    · by_cases h2 : k = 10
      · right
        refine ⟨?_, k, by omega, rfl⟩
        simp (disch := omega) only [li, ↓lim1, ↓bnd_m, ↓grd_m, ↓jn_e, ↓cas_m, ↓oc_m, inb_t, nI_add, pk_mul, sub_e, le_t, le_f, lt_t, lt_f, eq_t, eq_f, cl_e, m1_e, m1_e', m1_lt, m1_le, m1_m1, lt_m1, ↓reduceIte, Nat.add_zero, Nat.zero_add]
      · left
        by_cases h3 : k < 32
        · simp (disch := omega) only [li, ↓lim1, ↓bnd_m, ↓grd_m, ↓jn_e, ↓cas_m, ↓oc_m, inb_t, nI_add, pk_mul, sub_e, le_t, le_f, lt_t, lt_f, eq_t, eq_f, cl_e, m1_e, m1_e', m1_lt, m1_le, m1_m1, lt_m1, ↓reduceIte, Nat.add_zero, Nat.zero_add]
        · simp (disch := omega) only [li, ↓lim1, ↓bnd_m, ↓grd_m, ↓jn_e, ↓cas_m, ↓oc_m, inb_t, nI_add, pk_mul, sub_e, le_t, le_f, lt_t, lt_f, eq_t, eq_f, cl_e, m1_e, m1_e', m1_lt, m1_le, m1_m1, lt_m1, ↓reduceIte, Nat.add_zero, Nat.zero_add]
/-- one character more -/
def tpu (t : Nat → Nat) (n u : Nat) : Nat → Nat := fun i => if i = n then u else t i
/-- the model with another tape -/
def mT (md : T6) (c : Int32) (ta : Nat → Int32) (ln : Int32) : T6 := ((c, md.1.2.1, md.1.2.2.1, ta, ln), md.2.1, md.2.2.1, md.2.2.2.1, md.2.2.2.2)
theorem tpu_C {t : Nat → Nat} {n u : Nat} (H : TpC tp t n) (hn : n < 1200) (hu : u < 128) : TpC (upd tp.1 n (nI u), nI (n + 1)) (tpu t n u) (n + 1) := by
  refine ⟨by omega, rfl, fun i hi => ?_⟩
  show upd tp.1 n (nI u) i = nI (tpu t n u i) ∧ tpu t n u i < 128
  unfold tpu
  by_cases e : i = n
  · subst e
    rw [pk_us, if_pos rfl]
    exact ⟨rfl, hu⟩
  · rw [pk_un e, if_neg e]
    exact H.2.2 i (by omega)
theorem tpu_M {t : Nat → Nat} {n u : Nat} (H : TpM md t n) (hn : n < 1200) (hu : u < 128) : TpM (mT md (nI 0) (upd (mTape md) n (nI u)) (nI (n + 1))) (tpu t n u) (n + 1) := by
  refine ⟨by omega, rfl, fun i hi => ?_⟩
  show upd (mTape md) n (nI u) i = nI (tpu t n u i) ∧ tpu t n u i < 128
  unfold tpu
  by_cases e : i = n
  · subst e
    rw [pk_us, if_pos rfl]
    exact ⟨rfl, hu⟩
  · rw [pk_un e, if_neg e]
    exact H.2.2 i (by omega)
theorem unit_ok {t : Nat → Nat} (TC : TpC tp t n) (TM : TpM md t n) (u : Int32) : ∃ b tp' md' t' n', f5_unit u tp = some (b, tp') ∧ f6_unit u md = some (b, md') ∧ TpC tp' t' n' ∧ TpM md' t' n' ∧ ∃ ta ln, md' = mT md (nI 0) ta ln := by
  obtain ⟨hn, e1, h1⟩ := id TC
  obtain ⟨_, e2, h2⟩ := id TM
  have e1' : tp.2 = nI n := e1
  have idm : (((nI 0, md.1.2.1, md.1.2.2.1, md.1.2.2.2.1, md.1.2.2.2.2), md.2.1, md.2.2.1, md.2.2.2.1, md.2.2.2.2) : T6) = mT md (nI 0) (mTape md) (mLen md) := rfl
  rcases ch_dec u with h | ⟨h, k, hk, rfl⟩
  · refine ⟨nI 0, tp, mT md (nI 0) (mTape md) (mLen md), t, n, ?_, ?_, TC, TM, _, _, rfl⟩
    · unfold f5_unit
      simp (disch := omega) only [li, ↓lim1, ↓bnd_m, ↓grd_m, ↓jn_e, ↓cas_m, ↓oc_m, inb_t, nI_add, pk_mul, sub_e, le_t, le_f, lt_t, lt_f, eq_t, eq_f, cl_e, m1_e, m1_e', m1_lt, m1_le, m1_m1, lt_m1, ↓reduceIte, Nat.add_zero, Nat.zero_add, h]
    · rw [takes_ok] at h
      unfold f6_unit
      simp (disch := omega) only [li, ↓lim1, ↓bnd_m, ↓grd_m, ↓jn_e, ↓cas_m, ↓oc_m, inb_t, nI_add, pk_mul, sub_e, le_t, le_f, lt_t, lt_f, eq_t, eq_f, cl_e, m1_e, m1_e', m1_lt, m1_le, m1_m1, lt_m1, ↓reduceIte, Nat.add_zero, Nat.zero_add, h, idm]
  · by_cases hf : n = 1200
    · refine ⟨nI 0, tp, mT md (nI 0) (mTape md) (mLen md), t, n, ?_, ?_, TC, TM, _, _, rfl⟩
      · unfold f5_unit f4_room
        simp (disch := omega) only [li, ↓lim1, ↓bnd_m, ↓grd_m, ↓jn_e, ↓cas_m, ↓oc_m, inb_t, nI_add, pk_mul, sub_e, le_t, le_f, lt_t, lt_f, eq_t, eq_f, cl_e, m1_e, m1_e', m1_lt, m1_le, m1_m1, lt_m1, ↓reduceIte, Nat.add_zero, Nat.zero_add, h, e1']
      · rw [takes_ok] at h
        have e2' : md.1.2.2.2.2 = nI 1200 := by rw [← hf]; exact e2
        unfold f6_unit
        simp (disch := omega) only [li, ↓lim1, ↓bnd_m, ↓grd_m, ↓jn_e, ↓cas_m, ↓oc_m, inb_t, nI_add, pk_mul, sub_e, le_t, le_f, lt_t, lt_f, eq_t, eq_f, cl_e, m1_e, m1_e', m1_lt, m1_le, m1_m1, lt_m1, ↓reduceIte, Nat.add_zero, Nat.zero_add, h, e2']
        rw [← e2']
        rfl
    · refine ⟨nI 1, _, _, tpu t n k, n + 1, ?_, ?_, tpu_C TC (by omega) hk, tpu_M TM (by omega) hk, _, _, rfl⟩
      · have cid : vp_nar .char (xi2c (nI k)) = nI k := c_id (by omega)
        unfold f5_unit f4_room f4_append
        simp (disch := omega) only [li, ↓lim1, ↓bnd_m, ↓grd_m, ↓jn_e, ↓cas_m, ↓oc_m, inb_t, nI_add, pk_mul, sub_e, le_t, le_f, lt_t, lt_f, eq_t, eq_f, cl_e, m1_e, m1_e', m1_lt, m1_le, m1_m1, lt_m1, ↓reduceIte, Nat.add_zero, Nat.zero_add, h, e1', cid]
      · rw [takes_ok] at h
        unfold f6_unit
        simp (disch := omega) only [li, ↓lim1, ↓bnd_m, ↓grd_m, ↓jn_e, ↓cas_m, ↓oc_m, inb_t, nI_add, pk_mul, sub_e, le_t, le_f, lt_t, lt_f, eq_t, eq_f, cl_e, m1_e, m1_e', m1_lt, m1_le, m1_m1, lt_m1, ↓reduceIte, Nat.add_zero, Nat.zero_add, h, e2]
        rfl
end Tx
def im8 : Int32 := -8
theorem lim8 : (-8 : Int32) = im8 := rfl
/-- the byte at a shift; the shift of the j bytes that are left -/
def byt (p : Int32) (j : Nat) : Int32 := (xiushr p (nI (8 * j))) &&& nI 255
def shf : Nat → Int32
  | 0 => im8
  | j + 1 => nI (8 * j)
theorem shf_s : ∀ j : Nat, j < 4 → nI (8 * j) + im8 = shf j := fun j h => co_dec (N := 4) (P := fun j => nI (8 * j) + im8 = shf j) (by decide +kernel) h
theorem shf_0 : (im8 < nI 0) = True := by decide
/-- how many characters they are; none if one isn't -/
def csa (p : Int32) : Nat → Nat → Option Nat
  | acc, 0 => some acc
  | acc, j + 1 => if byt p j = nI 0 then csa p acc j else if f4_takes (byt p j) = some (nI 1) then csa p (acc + 1) j else none
theorem csa_le (p : Int32) : ∀ j acc x, csa p acc j = some x → acc ≤ x ∧ x ≤ acc + j := by
  intro j
  induction j with
  | zero => intro acc x h; cases h; omega
  | succ j ih =>
    intro acc x h
    unfold csa at h
    split at h
    · have := ih _ _ h; omega
    · split at h
      · have := ih _ _ h; omega
      · cases h
theorem csa_acc (p : Int32) : ∀ j acc x, csa p acc j = some x → csa p 0 j = some (x - acc) := by
  intro j
  induction j with
  | zero => intro acc x h; cases h; show some 0 = _; rw [Nat.sub_self]
  | succ j ih =>
    intro acc x h
    unfold csa at h ⊢
    split at h
    · rename_i h0
      rw [if_pos h0]
      exact ih _ _ h
    · rename_i h0
      rw [if_neg h0]
      split at h
      · rename_i h1
        rw [if_pos h1]
        have h2 := ih _ _ h
        have h3 := csa_le _ _ _ _ h
        have h4 : ∀ b y, csa p 0 j = some y → csa p b j = some (b + y) := by
          clear ih h h0 h1 h2 h3
          induction j with
          | zero => intro b y h; cases h; rfl
          | succ j ih2 =>
            intro b y h
            unfold csa at h ⊢
            split at h
            · rename_i h0
              rw [if_pos h0]
              exact ih2 b y h
            · rename_i h0
              rw [if_neg h0]
              split at h
              · rename_i h1
                rw [if_pos h1]
                -- from 1 on
                have h5 : ∃ z, csa p 0 j = some z ∧ y = 1 + z := by
                  cases hz : csa p 0 j with
                  | none =>
                    exfalso
                    have : ∀ (i : Nat) (a b : Nat), csa p a i = none → csa p b i = none := by
                      intro i
                      induction i with
                      | zero => intro a b h; cases h
                      | succ i ih3 =>
                        intro a b h
                        unfold csa at h ⊢
                        split at h
                        · rename_i q; rw [if_pos q]; exact ih3 _ _ h
                        · rename_i q
                          rw [if_neg q]
                          split at h
                          · rename_i q1; rw [if_pos q1]; exact ih3 _ _ h
                          · rename_i q1; rw [if_neg q1]
                    rw [this j 0 (0 + 1) hz] at h
                    cases h
                  | some z =>
                    have := ih2 (0 + 1) z hz
                    rw [this] at h
                    cases h
                    exact ⟨z, rfl, by omega⟩
                obtain ⟨z, hz, rfl⟩ := h5
                rw [ih2 (b + 1) z hz]
                congr 1
                omega
              · cases h
        rw [h4 (0 + 1) _ h2]
        congr 1
        omega
      · cases h
section Tx
variable {F n m : Nat} {so va pl sz cc dd oo ww hh : Nat → Nat} {pc nm : Nat → Nat → Nat} {sh : T3} {ck : T0} {md : T6} {tp : T4}
theorem byt_e (p : Int32) (j : Nat) : (xiushr p (nI (8 * j))) &&& nI 255 = byt p j := rfl
theorem L5_ok (p : Int32) : ∀ (j : Nat), j ≤ 4 → ∀ (F acc : Nat), j < F → iter (f5_units_L5 p) F (nI acc, shf j) = some (match csa p acc j with | none => .inl () | some x => .inr (nI x)) := by
  intro j
  induction j with
  | zero =>
    intro _ F acc hF
    obtain ⟨G, rfl⟩ : ∃ G, F = G + 1 := ⟨F - 1, by omega⟩
    apply iter_stop
    unfold f5_units_L5 shf csa
    simp (disch := omega) only [li, ↓lim1, ↓bnd_m, ↓grd_m, ↓jn_e, ↓cas_m, ↓oc_m, inb_t, nI_add, pk_mul, sub_e, le_t, le_f, lt_t, lt_f, eq_t, eq_f, cl_e, m1_e, m1_e', m1_lt, m1_le, m1_m1, lt_m1, ↓reduceIte, Nat.add_zero, Nat.zero_add, ↓lim8, shf_0]
  | succ j ih =>
    intro hj F acc hF
    obtain ⟨G, rfl⟩ : ∃ G, F = G + 1 := ⟨F - 1, by omega⟩
    have es : shf (j + 1) = nI (8 * j) := rfl
    have en := shf_s j (by omega)
    unfold csa
    rw [es]
    by_cases h0 : byt p j = nI 0
    · rw [if_pos h0, iter_step (y := (nI acc, shf j))]
      · exact ih (by omega) G acc (by omega)
      · unfold f5_units_L5
        simp (disch := omega) only [li, ↓lim1, ↓bnd_m, ↓grd_m, ↓jn_e, ↓cas_m, ↓oc_m, inb_t, nI_add, pk_mul, sub_e, le_t, le_f, lt_t, lt_f, eq_t, eq_f, cl_e, m1_e, m1_e', m1_lt, m1_le, m1_m1, lt_m1, ↓reduceIte, Nat.add_zero, Nat.zero_add, ↓lim8, byt_e, h0, en]
    · rw [if_neg h0]
      rcases ch_dec (byt p j) with h | ⟨h, k, hk, e⟩
      · rw [if_neg (by rw [h]; decide)]
        apply iter_stop
        unfold f5_units_L5
        simp (disch := omega) only [li, ↓lim1, ↓bnd_m, ↓grd_m, ↓jn_e, ↓cas_m, ↓oc_m, inb_t, nI_add, pk_mul, sub_e, le_t, le_f, lt_t, lt_f, eq_t, eq_f, cl_e, m1_e, m1_e', m1_lt, m1_le, m1_m1, lt_m1, ↓reduceIte, Nat.add_zero, Nat.zero_add, ↓lim8, byt_e, h0, h]
      · rw [if_pos h, iter_step (y := (nI (acc + 1), shf j))]
        · exact ih (by omega) G (acc + 1) (by omega)
        · unfold f5_units_L5
          simp (disch := omega) only [li, ↓lim1, ↓bnd_m, ↓grd_m, ↓jn_e, ↓cas_m, ↓oc_m, inb_t, nI_add, pk_mul, sub_e, le_t, le_f, lt_t, lt_f, eq_t, eq_f, cl_e, m1_e, m1_e', m1_lt, m1_le, m1_m1, lt_m1, ↓reduceIte, Nat.add_zero, Nat.zero_add, ↓lim8, byt_e, h0, h, en]
theorem L10_ok (p : Int32) : ∀ (j : Nat), j ≤ 4 → ∀ (F acc : Nat), j < F → iter (f6_units_L10 p) F (nI acc, shf j) = some (match csa p acc j with | none => .inl () | some x => .inr (nI x)) := by
  intro j
  induction j with
  | zero =>
    intro _ F acc hF
    obtain ⟨G, rfl⟩ : ∃ G, F = G + 1 := ⟨F - 1, by omega⟩
    apply iter_stop
    unfold f6_units_L10 shf csa
    simp (disch := omega) only [li, ↓lim1, ↓bnd_m, ↓grd_m, ↓jn_e, ↓cas_m, ↓oc_m, inb_t, nI_add, pk_mul, sub_e, le_t, le_f, lt_t, lt_f, eq_t, eq_f, cl_e, m1_e, m1_e', m1_lt, m1_le, m1_m1, lt_m1, ↓reduceIte, Nat.add_zero, Nat.zero_add, ↓lim8, shf_0]
  | succ j ih =>
    intro hj F acc hF
    obtain ⟨G, rfl⟩ : ∃ G, F = G + 1 := ⟨F - 1, by omega⟩
    have es : shf (j + 1) = nI (8 * j) := rfl
    have en := shf_s j (by omega)
    unfold csa
    rw [es]
    by_cases h0 : byt p j = nI 0
    · rw [if_pos h0, iter_step (y := (nI acc, shf j))]
      · exact ih (by omega) G acc (by omega)
      · unfold f6_units_L10
        simp (disch := omega) only [li, ↓lim1, ↓bnd_m, ↓grd_m, ↓jn_e, ↓cas_m, ↓oc_m, inb_t, nI_add, pk_mul, sub_e, le_t, le_f, lt_t, lt_f, eq_t, eq_f, cl_e, m1_e, m1_e', m1_lt, m1_le, m1_m1, lt_m1, ↓reduceIte, Nat.add_zero, Nat.zero_add, ↓lim8, byt_e, h0, en]
    · rw [if_neg h0]
      rcases ch_dec (byt p j) with h | ⟨h, k, hk, e⟩
      · rw [if_neg (by rw [h]; decide)]
        rw [takes_ok] at h
        apply iter_stop
        unfold f6_units_L10
        simp (disch := omega) only [li, ↓lim1, ↓bnd_m, ↓grd_m, ↓jn_e, ↓cas_m, ↓oc_m, inb_t, nI_add, pk_mul, sub_e, le_t, le_f, lt_t, lt_f, eq_t, eq_f, cl_e, m1_e, m1_e', m1_lt, m1_le, m1_m1, lt_m1, ↓reduceIte, Nat.add_zero, Nat.zero_add, ↓lim8, byt_e, h0, h]
      · rw [if_pos h, iter_step (y := (nI (acc + 1), shf j))]
        · exact ih (by omega) G (acc + 1) (by omega)
        · rw [takes_ok] at h
          unfold f6_units_L10
          simp (disch := omega) only [li, ↓lim1, ↓bnd_m, ↓grd_m, ↓jn_e, ↓cas_m, ↓oc_m, inb_t, nI_add, pk_mul, sub_e, le_t, le_f, lt_t, lt_f, eq_t, eq_f, cl_e, m1_e, m1_e', m1_lt, m1_le, m1_m1, lt_m1, ↓reduceIte, Nat.add_zero, Nat.zero_add, ↓lim8, byt_e, h0, h, en]
theorem app_ok (p : Int32) : ∀ (j : Nat), j ≤ 4 → ∀ (F : Nat), j < F → ∀ (tp : T4) (md : T6) (t : Nat → Nat) (n x : Nat), TpC tp t n → TpM md t n → mCode md = nI 0 → csa p 0 j = some x → n + x ≤ 1200 →
    ∃ tp' md' t' n', iter (f5_units_L58 p) F (shf j, tp) = some tp' ∧ iter (f6_units_L74 p) F (shf j, md) = some md' ∧ TpC tp' t' n' ∧ TpM md' t' n' ∧ ∃ ta ln, md' = mT md (nI 0) ta ln := by
  intro j
  induction j with
  | zero =>
    intro _ F hF tp md t n x TC TM hc hx hr
    obtain ⟨G, rfl⟩ : ∃ G, F = G + 1 := ⟨F - 1, by omega⟩
    refine ⟨tp, md, t, n, ?_, ?_, TC, TM, mTape md, mLen md, by rw [← hc]; rfl⟩
    · apply iter_stop
      unfold f5_units_L58 shf
      simp (disch := omega) only [li, ↓lim1, ↓bnd_m, ↓grd_m, ↓jn_e, ↓cas_m, ↓oc_m, inb_t, nI_add, pk_mul, sub_e, le_t, le_f, lt_t, lt_f, eq_t, eq_f, cl_e, m1_e, m1_e', m1_lt, m1_le, m1_m1, lt_m1, ↓reduceIte, Nat.add_zero, Nat.zero_add, ↓lim8, shf_0]
    · apply iter_stop
      unfold f6_units_L74 shf
      simp (disch := omega) only [li, ↓lim1, ↓bnd_m, ↓grd_m, ↓jn_e, ↓cas_m, ↓oc_m, inb_t, nI_add, pk_mul, sub_e, le_t, le_f, lt_t, lt_f, eq_t, eq_f, cl_e, m1_e, m1_e', m1_lt, m1_le, m1_m1, lt_m1, ↓reduceIte, Nat.add_zero, Nat.zero_add, ↓lim8, shf_0]
  | succ j ih =>
    intro hj F hF tp md t n x TC TM hc hx hr
    obtain ⟨G, rfl⟩ : ∃ G, F = G + 1 := ⟨F - 1, by omega⟩
    have es : shf (j + 1) = nI (8 * j) := rfl
    have en := shf_s j (by omega)
    unfold csa at hx
    rw [es]
    by_cases h0 : byt p j = nI 0
    · rw [if_pos h0] at hx
      rw [iter_step (y := (shf j, tp)), iter_step (y := (shf j, md))]
      · exact ih (by omega) G (by omega) tp md t n x TC TM hc hx hr
      · unfold f6_units_L74
        simp (disch := omega) only [li, ↓lim1, ↓bnd_m, ↓grd_m, ↓jn_e, ↓cas_m, ↓oc_m, inb_t, nI_add, pk_mul, sub_e, le_t, le_f, lt_t, lt_f, eq_t, eq_f, cl_e, m1_e, m1_e', m1_lt, m1_le, m1_m1, lt_m1, ↓reduceIte, Nat.add_zero, Nat.zero_add, ↓lim8, byt_e, h0, en]
      · unfold f5_units_L58
        simp (disch := omega) only [li, ↓lim1, ↓bnd_m, ↓grd_m, ↓jn_e, ↓cas_m, ↓oc_m, inb_t, nI_add, pk_mul, sub_e, le_t, le_f, lt_t, lt_f, eq_t, eq_f, cl_e, m1_e, m1_e', m1_lt, m1_le, m1_m1, lt_m1, ↓reduceIte, Nat.add_zero, Nat.zero_add, ↓lim8, byt_e, h0, en]
    · rw [if_neg h0] at hx
      rcases ch_dec (byt p j) with h | ⟨h, k, hk, e⟩
      · rw [if_neg (by rw [h]; decide)] at hx
        cases hx
      · rw [if_pos h] at hx
        have h1 := csa_le _ _ _ _ hx
        have h2 := csa_acc _ _ _ _ hx
        have hn : n < 1200 := by omega
        have e1 : tp.2 = nI n := TC.2.1
        have e2 := TM.2.1
        have cid : vp_nar .char (xi2c (nI k)) = nI k := c_id (by omega)
        have hk0 : ¬ nI k = nI 0 := by rw [← e]; exact h0
        obtain ⟨tp', md', t', n', i1, i2, i3, i4, ta, ln, i5⟩ := ih (by omega) G (by omega) _ _ _ (n + 1) (x - 1) (tpu_C TC hn hk) (tpu_M TM hn hk) rfl h2 (by omega)
        refine ⟨tp', md', t', n', ?_, ?_, i3, i4, ta, ln, i5⟩
        · rw [iter_step (y := (shf j, (upd tp.1 n (nI k), nI (n + 1))))]
          · exact i1
          · unfold f5_units_L58 f4_append
            simp (disch := omega) only [li, ↓lim1, ↓bnd_m, ↓grd_m, ↓jn_e, ↓cas_m, ↓oc_m, inb_t, nI_add, pk_mul, sub_e, le_t, le_f, lt_t, lt_f, eq_t, eq_f, cl_e, m1_e, m1_e', m1_lt, m1_le, m1_m1, lt_m1, ↓reduceIte, Nat.add_zero, Nat.zero_add, ↓lim8, byt_e, e, hk0, e1, cid, en]
        · rw [iter_step (y := (shf j, mT md (nI 0) (upd (mTape md) n (nI k)) (nI (n + 1))))]
          · exact i2
          · have idm : (((md.1.1, md.1.2.1, md.1.2.2.1, upd md.1.2.2.2.1 n (nI k), nI (n + 1)), md.2.1, md.2.2.1, md.2.2.2.1, md.2.2.2.2) : T6) = mT md (nI 0) (upd (mTape md) n (nI k)) (nI (n + 1)) := by rw [← hc]; rfl
            unfold f6_units_L74
            simp (disch := omega) only [li, ↓lim1, ↓bnd_m, ↓grd_m, ↓jn_e, ↓cas_m, ↓oc_m, inb_t, nI_add, pk_mul, sub_e, le_t, le_f, lt_t, lt_f, eq_t, eq_f, cl_e, m1_e, m1_e', m1_lt, m1_le, m1_m1, lt_m1, ↓reduceIte, Nat.add_zero, Nat.zero_add, ↓lim8, byt_e, e, hk0, e2, en, idm]
theorem units_ok (hF : 5000 < F) {t : Nat → Nat} (TC : TpC tp t n) (TM : TpM md t n) (p : Int32) : ∃ b tp' md' t' n', f5_units F p tp = some (b, tp') ∧ f6_units F p md = some (b, md') ∧ TpC tp' t' n' ∧ TpM md' t' n' ∧ ∃ ta ln, md' = mT md (nI 0) ta ln := by
  have l1 := L5_ok p 4 (Nat.le_refl 4) F 0 (by omega)
  have l2 := L10_ok p 4 (Nat.le_refl 4) F 0 (by omega)
  have es : shf 4 = nI 24 := rfl
  rw [es] at l1 l2
  have e1 : tp.2 = nI n := TC.2.1
  have e2 := TM.2.1
  have hn := TC.1
  have idm : (((nI 0, md.1.2.1, md.1.2.2.1, md.1.2.2.2.1, md.1.2.2.2.2), md.2.1, md.2.2.1, md.2.2.2.1, md.2.2.2.2) : T6) = mT md (nI 0) (mTape md) (mLen md) := rfl
  have idm2 : (((nI 0, md.1.2.1, md.1.2.2.1, md.1.2.2.2.1, nI n), md.2.1, md.2.2.1, md.2.2.2.1, md.2.2.2.2) : T6) = mT md (nI 0) (mTape md) (mLen md) := by rw [← e2]; rfl
  cases hx : csa p 0 4 with
  | none =>
    rw [hx] at l1 l2
    refine ⟨nI 0, tp, mT md (nI 0) (mTape md) (mLen md), t, n, ?_, ?_, TC, TM, _, _, rfl⟩
    · unfold f5_units
      simp (disch := omega) only [li, ↓lim1, ↓bnd_m, ↓grd_m, ↓jn_e, ↓cas_m, ↓oc_m, inb_t, nI_add, pk_mul, sub_e, le_t, le_f, lt_t, lt_f, eq_t, eq_f, cl_e, m1_e, m1_e', m1_lt, m1_le, m1_m1, lt_m1, ↓reduceIte, Nat.add_zero, Nat.zero_add, l1]
    · unfold f6_units
      simp (disch := omega) only [li, ↓lim1, ↓bnd_m, ↓grd_m, ↓jn_e, ↓cas_m, ↓oc_m, inb_t, nI_add, pk_mul, sub_e, le_t, le_f, lt_t, lt_f, eq_t, eq_f, cl_e, m1_e, m1_e', m1_lt, m1_le, m1_m1, lt_m1, ↓reduceIte, Nat.add_zero, Nat.zero_add, l2, idm]
  | some x =>
    rw [hx] at l1 l2
    have hx4 := csa_le _ _ _ _ hx
    by_cases hr : n + x ≤ 1200
    · obtain ⟨tp', md', t', n', i1, i2, i3, i4, ta, ln, i5⟩ := app_ok p 4 (Nat.le_refl 4) F (by omega) tp (mT md (nI 0) (mTape md) (mLen md)) t n x TC TM rfl hx hr
      rw [es] at i1 i2
      refine ⟨nI 1, tp', md', t', n', ?_, ?_, i3, i4, ta, ln, i5⟩
      · unfold f5_units f4_room
        simp (disch := omega) only [li, ↓lim1, ↓bnd_m, ↓grd_m, ↓jn_e, ↓cas_m, ↓oc_m, inb_t, nI_add, pk_mul, sub_e, le_t, le_f, lt_t, lt_f, eq_t, eq_f, cl_e, m1_e, m1_e', m1_lt, m1_le, m1_m1, lt_m1, ↓reduceIte, Nat.add_zero, Nat.zero_add, l1, e1, i1]
      · unfold f6_units
        have idm3 : (((nI 0, md.1.2.1, md.1.2.2.1, md.1.2.2.2.1, nI n), md.2.1, md.2.2.1, md.2.2.2.1, md.2.2.2.2) : T6) = mT md (nI 0) (mTape md) (nI n) := rfl
        rw [e2] at i2
        simp (disch := omega) only [li, ↓lim1, ↓bnd_m, ↓grd_m, ↓jn_e, ↓cas_m, ↓oc_m, inb_t, nI_add, pk_mul, sub_e, le_t, le_f, lt_t, lt_f, eq_t, eq_f, cl_e, m1_e, m1_e', m1_lt, m1_le, m1_m1, lt_m1, ↓reduceIte, Nat.add_zero, Nat.zero_add, l2, e2, idm3, i2]
    · refine ⟨nI 0, tp, mT md (nI 0) (mTape md) (mLen md), t, n, ?_, ?_, TC, TM, _, _, rfl⟩
      · unfold f5_units f4_room
        simp (disch := omega) only [li, ↓lim1, ↓bnd_m, ↓grd_m, ↓jn_e, ↓cas_m, ↓oc_m, inb_t, nI_add, pk_mul, sub_e, le_t, le_f, lt_t, lt_f, eq_t, eq_f, cl_e, m1_e, m1_e', m1_lt, m1_le, m1_m1, lt_m1, ↓reduceIte, Nat.add_zero, Nat.zero_add, l1, e1]
      · unfold f6_units
        simp (disch := omega) only [li, ↓lim1, ↓bnd_m, ↓grd_m, ↓jn_e, ↓cas_m, ↓oc_m, inb_t, nI_add, pk_mul, sub_e, le_t, le_f, lt_t, lt_f, eq_t, eq_f, cl_e, m1_e, m1_e', m1_lt, m1_le, m1_m1, lt_m1, ↓reduceIte, Nat.add_zero, Nat.zero_add, l2, e2, idm2]
/-! ===== name ===== -/
theorem nm_dec (u : Int32) : (f5_isNameUnit u = some (nI 0) ∧ f6_isName u = some (nI 0)) ∨ (f5_isNameUnit u = some (nI 1) ∧ f6_isName u = some (nI 1) ∧ ∃ k : Nat, k < 128 ∧ u = nI k) := by
  unfold f5_isNameUnit f6_isName f5_isSmallLetter f5_isDigit
  rcases int_cases u with hx | ⟨k, hk, rfl⟩
  · have h0 := neg_lta hx (a := 97) (by omega)
    have h1 := neg_lta hx (a := 48) (by omega)
    have n0 := neg_ne hx (a := 95) (by omega)
    have n1 := neg_ne hx (a := 47) (by omega)
    left
    simp (disch := omega) only [li, ↓lim1, ↓bnd_m, ↓grd_m, ↓jn_e, ↓cas_m, ↓oc_m, inb_t, nI_add, pk_mul, sub_e, le_t, le_f, lt_t, lt_f, eq_t, eq_f, cl_e, m1_e, m1_e', m1_lt, m1_le, m1_m1, lt_m1, ↓reduceIte, Nat.add_zero, Nat.zero_add, h0, h1, n0, n1, and_self]
  · by_cases c1 : k < 48
    · by_cases c2 : k = 47
      · right
        refine ⟨?_, ?_, k, by omega, rfl⟩ <;> simp (disch := omega) only [li, ↓lim1, ↓bnd_m, ↓grd_m, ↓jn_e, ↓cas_m, ↓oc_m, inb_t, nI_add, pk_mul, sub_e, le_t, le_f, lt_t, lt_f, eq_t, eq_f, cl_e, m1_e, m1_e', m1_lt, m1_le, m1_m1, lt_m1, ↓reduceIte, Nat.add_zero, Nat.zero_add]
      · left
        constructor <;> simp (disch := omega) only [li, ↓lim1, ↓bnd_m, ↓grd_m, ↓jn_e, ↓cas_m, ↓oc_m, inb_t, nI_add, pk_mul, sub_e, le_t, le_f, lt_t, lt_f, eq_t, eq_f, cl_e, m1_e, m1_e', m1_lt, m1_le, m1_m1, lt_m1, ↓reduceIte, Nat.add_zero, Nat.zero_add]
    · by_cases c2 : k ≤ 57
      · right
        refine ⟨?_, ?_, k, by omega, rfl⟩ <;> simp (disch := omega) only [li, ↓lim1, ↓bnd_m, ↓grd_m, ↓jn_e, ↓cas_m, ↓oc_m, inb_t, nI_add, pk_mul, sub_e, le_t, le_f, lt_t, lt_f, eq_t, eq_f, cl_e, m1_e, m1_e', m1_lt, m1_le, m1_m1, lt_m1, ↓reduceIte, Nat.add_zero, Nat.zero_add]
      · by_cases c3 : k < 97
        · by_cases c4 : k = 95
          · right
            refine ⟨?_, ?_, k, by omega, rfl⟩ <;> simp (disch := omega) only [li, ↓lim1, ↓bnd_m, ↓grd_m, ↓jn_e, ↓cas_m, ↓oc_m, inb_t, nI_add, pk_mul, sub_e, le_t, le_f, lt_t, lt_f, eq_t, eq_f, cl_e, m1_e, m1_e', m1_lt, m1_le, m1_m1, lt_m1, ↓reduceIte, Nat.add_zero, Nat.zero_add]
          · left
            constructor <;> simp (disch := omega) only [li, ↓lim1, ↓bnd_m, ↓grd_m, ↓jn_e, ↓cas_m, ↓oc_m, inb_t, nI_add, pk_mul, sub_e, le_t, le_f, lt_t, lt_f, eq_t, eq_f, cl_e, m1_e, m1_e', m1_lt, m1_le, m1_m1, lt_m1, ↓reduceIte, Nat.add_zero, Nat.zero_add]
        · by_cases c4 : k ≤ 122
          · right
            refine ⟨?_, ?_, k, by omega, rfl⟩ <;> simp (disch := omega) only [li, ↓lim1, ↓bnd_m, ↓grd_m, ↓jn_e, ↓cas_m, ↓oc_m, inb_t, nI_add, pk_mul, sub_e, le_t, le_f, lt_t, lt_f, eq_t, eq_f, cl_e, m1_e, m1_e', m1_lt, m1_le, m1_m1, lt_m1, ↓reduceIte, Nat.add_zero, Nat.zero_add]
          · left
            constructor <;> simp (disch := omega) only [li, ↓lim1, ↓bnd_m, ↓grd_m, ↓jn_e, ↓cas_m, ↓oc_m, inb_t, nI_add, pk_mul, sub_e, le_t, le_f, lt_t, lt_f, eq_t, eq_f, cl_e, m1_e, m1_e', m1_lt, m1_le, m1_m1, lt_m1, ↓reduceIte, Nat.add_zero, Nat.zero_add]
/-- the model with another pin -/
def mN (md : T6) (le si : Nat → Int32) (c : Int32) : T6 := ((c, le, si, md.1.2.2.2.1, md.1.2.2.2.2), md.2.1, md.2.2.1, md.2.2.2.1, md.2.2.2.2)
theorem name_ok (hF : 5000 < F) {pn : T1} (PC : PnC pn sz nm) (PM : PnM md sz nm) (HPC : PtsC sh n pl pc) (HH : HitC sh n pl pc sz nm) (p1 p2 : Int32) :
    (f5_name F p1 p2 pn sh = some none ∧ ∃ rb md', f6_name p1 p2 md = some (rb, md') ∧ md' = mN md (mLet md) (mSiz md) (nI 1)) ∨
    ∃ b pn' h' sz' nm' md' le si, f5_name F p1 p2 pn sh = some (some (b2 b, pn', shH sh h')) ∧ f6_name p1 p2 md = some (b2 b, md') ∧ md' = mN md le si (nI 0) ∧ PnC pn' sz' nm' ∧ PnM md' sz' nm' ∧ HitC (shH sh h') n pl pc sz' nm' := by
  have bad : f1_has p1 = some (nI 0) → (p1 < nI 0 ∨ (¬ p1 < nI 0 ∧ ¬ p1 < nI 40)) → (f5_name F p1 p2 pn sh = some none ∧ ∃ rb md', f6_name p1 p2 md = some (rb, md') ∧ md' = mN md (mLet md) (mSiz md) (nI 1)) := by
    intro h h2
    refine ⟨?_, nI 0, _, ?_, rfl⟩
    · unfold f5_name
      simp (disch := omega) only [li, ↓lim1, ↓bnd_m, ↓grd_m, ↓jn_e, ↓cas_m, ↓oc_m, inb_t, nI_add, pk_mul, sub_e, le_t, le_f, lt_t, lt_f, eq_t, eq_f, cl_e, m1_e, m1_e', m1_lt, m1_le, m1_m1, lt_m1, ↓reduceIte, Nat.add_zero, Nat.zero_add, h]
    · unfold f6_name
      rcases h2 with h2 | ⟨h2, h3⟩
      · simp (disch := omega) only [li, ↓lim1, ↓bnd_m, ↓grd_m, ↓jn_e, ↓cas_m, ↓oc_m, inb_t, nI_add, pk_mul, sub_e, le_t, le_f, lt_t, lt_f, eq_t, eq_f, cl_e, m1_e, m1_e', m1_lt, m1_le, m1_m1, lt_m1, ↓reduceIte, Nat.add_zero, Nat.zero_add, h2]
        rfl
      · simp (disch := omega) only [li, ↓lim1, ↓bnd_m, ↓grd_m, ↓jn_e, ↓cas_m, ↓oc_m, inb_t, nI_add, pk_mul, sub_e, le_t, le_f, lt_t, lt_f, eq_t, eq_f, cl_e, m1_e, m1_e', m1_lt, m1_le, m1_m1, lt_m1, ↓reduceIte, Nat.add_zero, Nat.zero_add, h2, h3]
        rfl
  rcases int_cases p1 with hx | ⟨x, hx, rfl⟩
  · left
    have h0 := neg_lta hx (a := 0) (by omega)
    refine bad ?_ (Or.inl h0)
    unfold f1_has
    simp (disch := omega) only [li, ↓lim1, ↓bnd_m, ↓grd_m, ↓jn_e, ↓cas_m, ↓oc_m, inb_t, nI_add, pk_mul, sub_e, le_t, le_f, lt_t, lt_f, eq_t, eq_f, cl_e, m1_e, m1_e', m1_lt, m1_le, m1_m1, lt_m1, ↓reduceIte, Nat.add_zero, Nat.zero_add, h0]
  · by_cases hx4 : 40 ≤ x
    · left
      refine bad ?_ (Or.inr ⟨nI_pos (by omega), nI_nlt hx4 hx⟩)
      unfold f1_has
      simp (disch := omega) only [li, ↓lim1, ↓bnd_m, ↓grd_m, ↓jn_e, ↓cas_m, ↓oc_m, inb_t, nI_add, pk_mul, sub_e, le_t, le_f, lt_t, lt_f, eq_t, eq_f, cl_e, m1_e, m1_e', m1_lt, m1_le, m1_m1, lt_m1, ↓reduceIte, Nat.add_zero, Nat.zero_add]
    · right
      have hx40 : x < 40 := by omega
      obtain ⟨q1, q2, q3⟩ := PC x hx40
      obtain ⟨r1, r2, r3⟩ := PM x hx40
      have idm : (((nI 0, md.1.2.1, md.1.2.2.1, md.1.2.2.2.1, md.1.2.2.2.2), md.2.1, md.2.2.1, md.2.2.2.1, md.2.2.2.2) : T6) = mN md (mLet md) (mSiz md) (nI 0) := rfl
      have same : PnM (mN md (mLet md) (mSiz md) (nI 0)) sz nm := PM
      rcases nm_dec p2 with ⟨h1, h2⟩ | ⟨h1, h2, k, hk, rfl⟩
      · refine ⟨false, pn, sHit sh, sz, nm, mN md (mLet md) (mSiz md) (nI 0), _, _, ?_, ?_, rfl, PC, same, HH⟩
        · unfold f5_name
          simp (disch := omega) only [li, ↓lim1, ↓bnd_m, ↓grd_m, ↓jn_e, ↓cas_m, ↓oc_m, inb_t, nI_add, pk_mul, sub_e, le_t, le_f, lt_t, lt_f, eq_t, eq_f, cl_e, m1_e, m1_e', m1_lt, m1_le, m1_m1, lt_m1, ↓reduceIte, Nat.add_zero, Nat.zero_add, pins_has hx40, h1]
          rfl
        · unfold f6_name
          simp (disch := omega) only [li, ↓lim1, ↓bnd_m, ↓grd_m, ↓jn_e, ↓cas_m, ↓oc_m, inb_t, nI_add, pk_mul, sub_e, le_t, le_f, lt_t, lt_f, eq_t, eq_f, cl_e, m1_e, m1_e', m1_lt, m1_le, m1_m1, lt_m1, ↓reduceIte, Nat.add_zero, Nat.zero_add, h2, idm]
          rfl
      · by_cases hf : sz x = 16
        · refine ⟨false, pn, sHit sh, sz, nm, mN md (mLet md) (mSiz md) (nI 0), _, _, ?_, ?_, rfl, PC, same, HH⟩
          · unfold f5_name f1_grow
            simp (disch := omega) only [li, ↓lim1, ↓bnd_m, ↓grd_m, ↓jn_e, ↓cas_m, ↓oc_m, inb_t, nI_add, pk_mul, sub_e, le_t, le_f, lt_t, lt_f, eq_t, eq_f, cl_e, m1_e, m1_e', m1_lt, m1_le, m1_m1, lt_m1, ↓reduceIte, Nat.add_zero, Nat.zero_add, pins_has hx40, pins_len PC hx40, h1]
            rfl
          · unfold f6_name
            simp (disch := omega) only [li, ↓lim1, ↓bnd_m, ↓grd_m, ↓jn_e, ↓cas_m, ↓oc_m, inb_t, nI_add, pk_mul, sub_e, le_t, le_f, lt_t, lt_f, eq_t, eq_f, cl_e, m1_e, m1_e', m1_lt, m1_le, m1_m1, lt_m1, ↓reduceIte, Nat.add_zero, Nat.zero_add, h2, r2, idm]
            rfl
        · obtain ⟨sz', hsz⟩ : ∃ s : Nat → Nat, s = fun y => if y = x then sz x + 1 else sz y := ⟨_, rfl⟩
          obtain ⟨nm', hnm⟩ : ∃ s : Nat → Nat → Nat, s = fun y i => if y = x ∧ i = sz x then k else nm y i := ⟨_, rfl⟩
          have sx : sz' x = sz x + 1 := by rw [hsz]; simp
          have sy : ∀ y, y ≠ x → sz' y = sz y := fun y hy => by rw [hsz]; simp [hy]
          have ny : ∀ y, y ≠ x → nm' y = nm y := fun y hy => by rw [hnm]; funext i; simp [hy]
          have PC' : PnC (upd pn.1 (x * 16 + sz x) (nI k), upd pn.2 x (nI (sz x + 1))) sz' nm' := by
            intro y hy
            obtain ⟨y1, y2, y3⟩ := PC y hy
            by_cases e : y = x
            · subst e
              refine ⟨by rw [sx]; omega, by show upd pn.2 y _ y = _; rw [pk_us, sx], fun i hi => ?_⟩
              rw [sx] at hi
              show upd pn.1 _ _ _ = _ ∧ _
              rw [hnm]
              by_cases ei : i = sz y
              · subst ei
                simp only [pk_us, and_self, if_true]
                exact ⟨trivial, hk⟩
              · rw [pk_un (by omega)]
                simp only [ei, and_false, if_false]
                exact y3 i (by omega)
            · refine ⟨by rw [sy y e]; exact y1, by show upd pn.2 x _ y = _; rw [pk_un e, sy y e]; exact y2, fun i hi => ?_⟩
              rw [sy y e] at hi
              show upd pn.1 _ _ _ = _ ∧ _
              rw [pk_un (by omega), ny y e]
              exact y3 i hi
          have PM' : PnM (mN md (upd (mLet md) (16 * x + sz x) (nI k)) (upd (mSiz md) x (nI (sz x + 1))) (nI 0)) sz' nm' := by
            intro y hy
            obtain ⟨y1, y2, y3⟩ := PM y hy
            by_cases e : y = x
            · subst e
              refine ⟨by rw [sx]; omega, by show upd (mSiz md) y _ y = _; rw [pk_us, sx], fun i hi => ?_⟩
              rw [sx] at hi
              show upd (mLet md) _ _ _ = _ ∧ _
              rw [hnm]
              by_cases ei : i = sz y
              · subst ei
                simp only [pk_us, and_self, if_true]
                exact ⟨trivial, hk⟩
              · rw [pk_un (by omega)]
                simp only [ei, and_false, if_false]
                exact y3 i (by omega)
            · refine ⟨by rw [sy y e]; exact y1, by show upd (mSiz md) x _ y = _; rw [pk_un e, sy y e]; exact y2, fun i hi => ?_⟩
              rw [sy y e] at hi
              show upd (mLet md) _ _ _ = _ ∧ _
              rw [pk_un (by omega), ny y e]
              exact y3 i hi
          obtain ⟨h', m1, m2, m3⟩ := matchPin_ok (F := F) (by omega) HPC PC' hx40 HH (fun j hj hz b => by unfold mt mtc; rw [hz]; simp)
          refine ⟨true, _, h', sz', nm', _, _, _, ?_, ?_, rfl, PC', PM', ?_⟩
          · have cid : vp_nar .char (xi2c (nI k)) = nI k := c_id (by omega)
            unfold f5_name f1_grow
            simp (disch := omega) only [li, ↓lim1, ↓bnd_m, ↓grd_m, ↓jn_e, ↓cas_m, ↓oc_m, inb_t, nI_add, pk_mul, sub_e, le_t, le_f, lt_t, lt_f, eq_t, eq_f, cl_e, m1_e, m1_e', m1_lt, m1_le, m1_m1, lt_m1, ↓reduceIte, Nat.add_zero, Nat.zero_add, pins_has hx40, pins_len PC hx40, h1, cid, m1]
            rfl
          · unfold f6_name
            simp (disch := omega) only [li, ↓lim1, ↓bnd_m, ↓grd_m, ↓jn_e, ↓cas_m, ↓oc_m, inb_t, nI_add, pk_mul, sub_e, le_t, le_f, lt_t, lt_f, eq_t, eq_f, cl_e, m1_e, m1_e', m1_lt, m1_le, m1_m1, lt_m1, ↓reduceIte, Nat.add_zero, Nat.zero_add, h2, r2]
            rfl
          · intro j hj
            refine hOk_c (m2 j hj) (fun b hb => ?_)
            unfold mt
            by_cases e : b = x
            · subst e; simp
            · simp only [e, if_false]
              rw [sy b e, ny b e]
end Tx
