section Qs
variable {F n m : Nat} {so va pl sz : Nat → Nat} {pc nm : Nat → Nat → Nat} {sh : T3} {ck : T0} {md : T6} {tp : T4}
/-! ===== load ===== -/
def lv (so va pl sz : Nat → Nat) (pc nm : Nat → Nat → Nat) (q x : Nat) : Nat → Int32
  | 0 => im1
  | k + 1 => if so k = q ∧ mt pl pc sz nm (3 * k) x = true then nI (va k) else lv so va pl sz pc nm q x k
theorem latest_ok (hF : 5000 < F) (HC : RowC sh n so va) (HP : PtsC sh n pl pc) (HH : HitC sh n pl pc sz nm) {q x : Nat} (hq : q < 10) (hx : x < 40) : f3_latestValue F (nI q) (nI x) sh = some (lv so va pl sz pc nm q x n) := by
  obtain ⟨hn, e1, h1⟩ := HC
  have key := iter_rule (b := f3_latestValue_L5 (nI q) (nI x) sh)
    (fun d s => ∃ k : Nat, d = k ∧ k ≤ n ∧ s = nI k ∧ lv so va pl sz pc nm q x n = lv so va pl sz pc nm q x k)
    (fun r => (r = .inr () ∧ lv so va pl sz pc nm q x n = im1) ∨ ∃ k, k < n ∧ r = .inl (nI (k + 1)) ∧ lv so va pl sz pc nm q x n = nI (va k))
    (by
      rintro d s ⟨k, rfl, hk, rfl, hl⟩
      cases d with
      | zero =>
        refine Or.inr ⟨.inr (), ?_, Or.inl ⟨rfl, hl⟩⟩
        unfold f3_latestValue_L5
        simp (disch := omega) only [li, ↓lim1, bnd_s, jn_e, cas_el, cas_er, oc_n, oc_s, grd_in, grd_t, nI_add, pk_mul, sub_e, le_e, lt_e, eq_e, cl_e, m1_e, m1_e', m1_lt, m1_le, m1_eq, lt_m1, ↓reduceIte, not_true_eq_false, not_false_eq_true, decide_true, decide_false, Nat.add_zero, Nat.zero_add, if_pos, if_neg]
      | succ k =>
        obtain ⟨a1, a2, a3, a4⟩ := h1 k (by omega)
        have hm : f3_matches (nI (k + 1)) (nI 0) (nI x) sh = some (b2 (mt pl pc sz nm (3 * k) x)) := matches_n (s := 0) HP HH (show k < n by omega) (by omega) hx
        have e : lv so va pl sz pc nm q x (k + 1) = if so k = q ∧ mt pl pc sz nm (3 * k) x = true then nI (va k) else lv so va pl sz pc nm q x k := rfl
        have em : nI (k + 1) + im1 = nI k := pk_m1 k
        by_cases hc : so k = q ∧ mt pl pc sz nm (3 * k) x = true
        · refine Or.inr ⟨.inl (nI (k + 1)), ?_, Or.inr ⟨k, by omega, rfl, ?_⟩⟩
          · obtain ⟨c1, c2⟩ := hc
            unfold f3_latestValue_L5
            rw [c2, b2_t] at hm
            simp (disch := omega) only [li, ↓lim1, bnd_s, jn_e, cas_el, cas_er, oc_n, oc_s, grd_in, grd_t, nI_add, pk_mul, sub_e, le_e, lt_e, eq_e, cl_e, m1_e, m1_e', m1_lt, m1_le, m1_eq, lt_m1, ↓reduceIte, not_true_eq_false, not_false_eq_true, decide_true, decide_false, Nat.add_zero, Nat.zero_add, if_pos, if_neg, Nat.add_sub_cancel, a1, hm]
          · rw [hl, e, if_pos hc]
        · refine Or.inl ⟨nI k, k, by omega, ?_, k, rfl, by omega, rfl, ?_⟩
          · unfold f3_latestValue_L5
            by_cases c1 : so k = q
            · have c2 : mt pl pc sz nm (3 * k) x = false := by
                cases hb : mt pl pc sz nm (3 * k) x with
                | false => rfl
                | true => exact absurd ⟨c1, hb⟩ hc
              rw [c2, b2_f] at hm
              simp (disch := omega) only [li, ↓lim1, bnd_s, jn_e, cas_el, cas_er, oc_n, oc_s, grd_in, grd_t, nI_add, pk_mul, sub_e, le_e, lt_e, eq_e, cl_e, m1_e, m1_e', m1_lt, m1_le, m1_eq, lt_m1, ↓reduceIte, not_true_eq_false, not_false_eq_true, decide_true, decide_false, Nat.add_zero, Nat.zero_add, if_pos, if_neg, Nat.add_sub_cancel, a1, hm, em]
            · simp (disch := omega) only [li, ↓lim1, bnd_s, jn_e, cas_el, cas_er, oc_n, oc_s, grd_in, grd_t, nI_add, pk_mul, sub_e, le_e, lt_e, eq_e, cl_e, m1_e, m1_e', m1_lt, m1_le, m1_eq, lt_m1, ↓reduceIte, not_true_eq_false, not_false_eq_true, decide_true, decide_false, Nat.add_zero, Nat.zero_add, if_pos, if_neg, Nat.add_sub_cancel, a1, em]
          · rw [hl, e, if_neg hc])
    F n (nI n) (by omega) ⟨n, rfl, Nat.le_refl n, rfl, rfl⟩
  obtain ⟨r, hr, h⟩ := key
  unfold f3_latestValue
  have e1' : sh.2.2.2.2.2.2.2.1 = nI n := e1
  rw [e1', bnd_e hr]
  rcases h with ⟨rfl, h⟩ | ⟨k, hk, rfl, h⟩
  · rw [h]; rfl
  · obtain ⟨a1, a2, a3, a4⟩ := h1 k hk
    rw [h]
    simp (disch := omega) only [li, ↓lim1, bnd_s, jn_e, cas_el, cas_er, oc_n, oc_s, grd_in, grd_t, nI_add, pk_mul, sub_e, le_e, lt_e, eq_e, cl_e, m1_e, m1_e', m1_lt, m1_le, m1_eq, lt_m1, ↓reduceIte, not_true_eq_false, not_false_eq_true, decide_true, decide_false, Nat.add_zero, Nat.zero_add, if_pos, if_neg, Nat.add_sub_cancel, a3]
theorem mload_ok (hF : 5000 < F) (HM : RowM md n so va) (HP : PtsM md n pl pc) (HN : PnM md sz nm) {x w : Nat} (hx : x < 40) (hw : w < 2) {g4 : Int32 × Int32 × Int32 × Int32 × Int32 × (Nat → Int32) × (Nat → Int32)} {g5 : (Nat → Int32) × Int32 × Int32 × Int32} :
    ∃ g5', iter (f6_load_L33 F (nI x) (nI w)) F (im1, nI 0, mC md (nI 0) g4 g5) = some (lv so va pl sz pc nm (8 + w) x n, mC md (nI 0) g4 g5') := by
  obtain ⟨hn, e2, h2⟩ := HM
  have key := iter_rule (b := f6_load_L33 F (nI x) (nI w))
    (fun d s => ∃ (k : Nat) (g5 : (Nat → Int32) × Int32 × Int32 × Int32), d + k = n ∧ s = (lv so va pl sz pc nm (8 + w) x k, nI k, mC md (nI 0) g4 g5))
    (fun r => ∃ g5, r = (lv so va pl sz pc nm (8 + w) x n, mC md (nI 0) g4 g5))
    (by
      rintro d s ⟨k, g5, hd, rfl⟩
      have e2' : mRows (mC md (nI 0) g4 g5) = nI n := e2
      have ec : mCode (mC md (nI 0) g4 g5) = nI 0 := rfl
      by_cases hk : n ≤ k
      · have : k = n := by omega
        subst this
        refine Or.inr ⟨(lv so va pl sz pc nm (8 + w) x k, mC md (nI 0) g4 g5), ?_, g5, rfl⟩
        unfold f6_load_L33
        simp (disch := omega) only [li, ↓lim1, bnd_s, jn_e, cas_el, cas_er, oc_n, oc_s, grd_in, grd_t, nI_add, pk_mul, sub_e, le_e, lt_e, eq_e, cl_e, m1_e, m1_e', m1_lt, m1_le, m1_eq, lt_m1, ↓reduceIte, not_true_eq_false, not_false_eq_true, decide_true, decide_false, Nat.add_zero, Nat.zero_add, if_pos, if_neg, e2']
      · obtain ⟨b1, b2', b3, b4, b5⟩ := h2 k (by omega)
        have b1' : mSort (mC md (nI 0) g4 g5) k = nI (so k) := b1
        have HN' : PnM (mC md (nI 0) g4 g5) sz nm := HN
        have hp' : PtM (mC md (nI 0) g4 g5) (3 * k + 0) (pl (3 * k)) (pc (3 * k)) := HP (3 * k) (by omega)
        obtain ⟨r, hr⟩ := mmatch_ok (F := F) (by omega) (show k < 80 by omega) (show 0 < 3 by omega) hp' HN' hx
        have e : lv so va pl sz pc nm (8 + w) x (k + 1) = if so k = 8 + w ∧ mt pl pc sz nm (3 * k) x = true then nI (va k) else lv so va pl sz pc nm (8 + w) x k := rfl
        by_cases c1 : so k = 8 + w
        · refine Or.inl ⟨(lv so va pl sz pc nm (8 + w) x (k + 1), nI (k + 1), mC md (nI 0) g4 (r, g5.2)), d - 1, by omega, ?_, k + 1, _, by omega, rfl⟩
          have e3 : mR (mC md (nI 0) g4 g5) r = mC md (nI 0) g4 (r, g5.2) := rfl
          have b3' : mOne (mC md (nI 0) g4 (r, g5.2)) k = nI (va k) := b3 (by omega)
          have hm : mtc (pc (3 * k)) (pl (3 * k)) (nm x) (sz x) = mt pl pc sz nm (3 * k) x := rfl
          rw [hm, e3] at hr
          unfold f6_load_L33
          simp (disch := omega) only [li, ↓lim1, bnd_s, jn_e, cas_el, cas_er, oc_n, oc_s, grd_in, grd_t, nI_add, pk_mul, sub_e, le_e, lt_e, eq_e, cl_e, m1_e, m1_e', m1_lt, m1_le, m1_eq, lt_m1, ↓reduceIte, not_true_eq_false, not_false_eq_true, decide_true, decide_false, Nat.add_zero, Nat.zero_add, if_pos, if_neg, e2', ec, b1', hr, b2_0]
          rw [e]
          cases hb : mt pl pc sz nm (3 * k) x
          · simp only [if_true, Bool.false_eq_true, and_false, if_false]
          · simp (disch := omega) only [li, ↓lim1, bnd_s, jn_e, cas_el, cas_er, oc_n, oc_s, grd_in, grd_t, nI_add, pk_mul, sub_e, le_e, lt_e, eq_e, cl_e, m1_e, m1_e', m1_lt, m1_le, m1_eq, lt_m1, ↓reduceIte, not_true_eq_false, not_false_eq_true, decide_true, decide_false, Nat.add_zero, Nat.zero_add, if_pos, if_neg, reduceCtorEq, b3', and_true, c1]
        · refine Or.inl ⟨(lv so va pl sz pc nm (8 + w) x (k + 1), nI (k + 1), mC md (nI 0) g4 g5), d - 1, by omega, ?_, k + 1, _, by omega, rfl⟩
          unfold f6_load_L33
          rw [e, if_neg (show ¬ (so k = 8 + w ∧ mt pl pc sz nm (3 * k) x = true) from fun h => c1 h.1)]
          simp (disch := omega) only [li, ↓lim1, bnd_s, jn_e, cas_el, cas_er, oc_n, oc_s, grd_in, grd_t, nI_add, pk_mul, sub_e, le_e, lt_e, eq_e, cl_e, m1_e, m1_e', m1_lt, m1_le, m1_eq, lt_m1, ↓reduceIte, not_true_eq_false, not_false_eq_true, decide_true, decide_false, Nat.add_zero, Nat.zero_add, if_pos, if_neg, e2', ec, b1'])
    F n (im1, nI 0, mC md (nI 0) g4 g5) (by omega) ⟨0, g5, by omega, rfl⟩
  obtain ⟨r, hr, g5', rfl⟩ := key
  exact ⟨g5', hr⟩
theorem mload_no (hF : 5000 < F) (hr : mRows md = nI n) (hn : n ≤ 40) {p1 p2 : Int32} {g4 : Int32 × Int32 × Int32 × Int32 × Int32 × (Nat → Int32) × (Nat → Int32)} {g5 : (Nat → Int32) × Int32 × Int32 × Int32} :
    iter (f6_load_L33 F p1 p2) F (im1, nI 0, mC md (nI 1) g4 g5) = some (im1, mC md (nI 1) g4 g5) := by
  obtain ⟨F, rfl⟩ : ∃ f, F = f + 1 := ⟨F - 1, by omega⟩
  have e2' : mRows (mC md (nI 1) g4 g5) = nI n := hr
  have ec : mCode (mC md (nI 1) g4 g5) = nI 1 := rfl
  apply iter_stop
  unfold f6_load_L33
  by_cases h : n ≤ 0
  · simp (disch := omega) only [li, ↓lim1, bnd_s, jn_e, cas_el, cas_er, oc_n, oc_s, grd_in, grd_t, nI_add, pk_mul, sub_e, le_e, lt_e, eq_e, cl_e, m1_e, m1_e', m1_lt, m1_le, m1_eq, lt_m1, ↓reduceIte, not_true_eq_false, not_false_eq_true, decide_true, decide_false, Nat.add_zero, Nat.zero_add, if_pos, if_neg, e2']
  · simp (disch := omega) only [li, ↓lim1, bnd_s, jn_e, cas_el, cas_er, oc_n, oc_s, grd_in, grd_t, nI_add, pk_mul, sub_e, le_e, lt_e, eq_e, cl_e, m1_e, m1_e', m1_lt, m1_le, m1_eq, lt_m1, ↓reduceIte, not_true_eq_false, not_false_eq_true, decide_true, decide_false, Nat.add_zero, Nat.zero_add, if_pos, if_neg, e2', ec]
theorem load_ok (hF : 5000 < F) (HC : RowC sh n so va) (HPC : PtsC sh n pl pc) (HH : HitC sh n pl pc sz nm) (HM : RowM md n so va) (HP : PtsM md n pl pc) (HN : PnM md sz nm) (p1 p2 : Int32) : ∃ ra rb md', f5_load F p1 p2 sh = some ra ∧ f6_load F p1 p2 md = some (rb, md') ∧ An ra rb md md' := by
  have no : f5_load F p1 p2 sh = some none → f6_load F p1 p2 md = bnd (iter (f6_load_L33 F p1 p2) F (im1, nI 0, mC md (nI 1) md.2.2.2.1 md.2.2.2.2)) (fun x92 => if x92.2.1.1 ≤ nI 0 then some (x92.1, x92.2) else some (nI 0, x92.2)) → ∃ ra rb md', f5_load F p1 p2 sh = some ra ∧ f6_load F p1 p2 md = some (rb, md') ∧ An ra rb md md' := by
    intro h1 h2
    refine ⟨none, nI 0, mC md (nI 1) md.2.2.2.1 md.2.2.2.2, h1, ?_, An.no⟩
    rw [h2, bnd_e (mload_no hF HM.2.1 HM.1)]
    rfl
  rcases int_cases p1 with hx | ⟨j, hj, rfl⟩
  · have hlt := neg_lta hx (a := 0) (by omega)
    apply no
    · unfold f5_load f1_has
      simp (disch := omega) only [li, ↓lim1, bnd_s, jn_e, cas_el, cas_er, oc_n, oc_s, grd_in, grd_t, nI_add, pk_mul, sub_e, le_e, lt_e, eq_e, cl_e, m1_e, m1_e', m1_lt, m1_le, m1_eq, lt_m1, ↓reduceIte, not_true_eq_false, not_false_eq_true, decide_true, decide_false, Nat.add_zero, Nat.zero_add, if_pos, if_neg, hlt]
    · unfold f6_load
      simp (disch := omega) only [li, ↓lim1, bnd_s, jn_e, cas_el, cas_er, oc_n, oc_s, grd_in, grd_t, nI_add, pk_mul, sub_e, le_e, lt_e, eq_e, cl_e, m1_e, m1_e', m1_lt, m1_le, m1_eq, lt_m1, ↓reduceIte, not_true_eq_false, not_false_eq_true, decide_true, decide_false, Nat.add_zero, Nat.zero_add, if_pos, if_neg, hlt]
      rfl
  · by_cases hj4 : 40 ≤ j
    · apply no
      · unfold f5_load f1_has
        simp (disch := omega) only [li, ↓lim1, bnd_s, jn_e, cas_el, cas_er, oc_n, oc_s, grd_in, grd_t, nI_add, pk_mul, sub_e, le_e, lt_e, eq_e, cl_e, m1_e, m1_e', m1_lt, m1_le, m1_eq, lt_m1, ↓reduceIte, not_true_eq_false, not_false_eq_true, decide_true, decide_false, Nat.add_zero, Nat.zero_add, if_pos, if_neg]
      · unfold f6_load
        simp (disch := omega) only [li, ↓lim1, bnd_s, jn_e, cas_el, cas_er, oc_n, oc_s, grd_in, grd_t, nI_add, pk_mul, sub_e, le_e, lt_e, eq_e, cl_e, m1_e, m1_e', m1_lt, m1_le, m1_eq, lt_m1, ↓reduceIte, not_true_eq_false, not_false_eq_true, decide_true, decide_false, Nat.add_zero, Nat.zero_add, if_pos, if_neg]
        rfl
    · rcases int_cases p2 with hy | ⟨k, hk, rfl⟩
      · have hlt := neg_lta hy (a := 0) (by omega)
        apply no
        · unfold f5_load f1_has
          simp (disch := omega) only [li, ↓lim1, bnd_s, jn_e, cas_el, cas_er, oc_n, oc_s, grd_in, grd_t, nI_add, pk_mul, sub_e, le_e, lt_e, eq_e, cl_e, m1_e, m1_e', m1_lt, m1_le, m1_eq, lt_m1, ↓reduceIte, not_true_eq_false, not_false_eq_true, decide_true, decide_false, Nat.add_zero, Nat.zero_add, if_pos, if_neg, hlt]
        · unfold f6_load
          simp (disch := omega) only [li, ↓lim1, bnd_s, jn_e, cas_el, cas_er, oc_n, oc_s, grd_in, grd_t, nI_add, pk_mul, sub_e, le_e, lt_e, eq_e, cl_e, m1_e, m1_e', m1_lt, m1_le, m1_eq, lt_m1, ↓reduceIte, not_true_eq_false, not_false_eq_true, decide_true, decide_false, Nat.add_zero, Nat.zero_add, if_pos, if_neg, hlt]
          rfl
      · by_cases hk1 : 1 < k
        · apply no
          · unfold f5_load f1_has
            simp (disch := omega) only [li, ↓lim1, bnd_s, jn_e, cas_el, cas_er, oc_n, oc_s, grd_in, grd_t, nI_add, pk_mul, sub_e, le_e, lt_e, eq_e, cl_e, m1_e, m1_e', m1_lt, m1_le, m1_eq, lt_m1, ↓reduceIte, not_true_eq_false, not_false_eq_true, decide_true, decide_false, Nat.add_zero, Nat.zero_add, if_pos, if_neg]
          · unfold f6_load
            simp (disch := omega) only [li, ↓lim1, bnd_s, jn_e, cas_el, cas_er, oc_n, oc_s, grd_in, grd_t, nI_add, pk_mul, sub_e, le_e, lt_e, eq_e, cl_e, m1_e, m1_e', m1_lt, m1_le, m1_eq, lt_m1, ↓reduceIte, not_true_eq_false, not_false_eq_true, decide_true, decide_false, Nat.add_zero, Nat.zero_add, if_pos, if_neg]
            rfl
        · have hl := latest_ok (q := 8 + k) hF HC HPC HH (by omega) (show j < 40 by omega)
          obtain ⟨g5', hm⟩ := mload_ok (w := k) (g4 := md.2.2.2.1) (g5 := md.2.2.2.2) hF HM HP HN (show j < 40 by omega) (by omega)
          refine ⟨some (lv so va pl sz pc nm (8 + k) j n), lv so va pl sz pc nm (8 + k) j n, mC md (nI 0) md.2.2.2.1 g5', ?_, ?_, An.yes⟩
          · unfold f5_load f1_has
            by_cases h0 : k = 0
            · subst h0
              simp (disch := omega) only [li, ↓lim1, bnd_s, jn_e, cas_el, cas_er, oc_n, oc_s, grd_in, grd_t, nI_add, pk_mul, sub_e, le_e, lt_e, eq_e, cl_e, m1_e, m1_e', m1_lt, m1_le, m1_eq, lt_m1, ↓reduceIte, not_true_eq_false, not_false_eq_true, decide_true, decide_false, Nat.add_zero, Nat.zero_add, if_pos, if_neg] at hl ⊢
              rw [bnd_e hl]
            · have : k = 1 := by omega
              subst this
              simp (disch := omega) only [li, ↓lim1, bnd_s, jn_e, cas_el, cas_er, oc_n, oc_s, grd_in, grd_t, nI_add, pk_mul, sub_e, le_e, lt_e, eq_e, cl_e, m1_e, m1_e', m1_lt, m1_le, m1_eq, lt_m1, ↓reduceIte, not_true_eq_false, not_false_eq_true, decide_true, decide_false, Nat.add_zero, Nat.zero_add, if_pos, if_neg] at hl ⊢
              rw [bnd_e hl]
          · unfold f6_load
            have e0 : (((nI 0, md.1.2.1, md.1.2.2.1, md.1.2.2.2.1, md.1.2.2.2.2), md.2.1, md.2.2.1, md.2.2.2.1, md.2.2.2.2) : T6) = mC md (nI 0) md.2.2.2.1 md.2.2.2.2 := rfl
            simp (disch := omega) only [li, ↓lim1, bnd_s, jn_e, cas_el, cas_er, oc_n, oc_s, grd_in, grd_t, nI_add, pk_mul, sub_e, le_e, lt_e, eq_e, cl_e, m1_e, m1_e', m1_lt, m1_le, m1_eq, lt_m1, ↓reduceIte, not_true_eq_false, not_false_eq_true, decide_true, decide_false, Nat.add_zero, Nat.zero_add, if_pos, if_neg, e0]
            rw [bnd_e hm]
            rfl
end Qs
section Qs
variable {F n m : Nat} {so va pl sz : Nat → Nat} {pc nm : Nat → Nat → Nat} {sh : T3} {ck : T0} {md : T6} {tp : T4}
/-! ===== exception ===== -/
def pI : Option Nat → Int32
  | none => im1
  | some x => nI x
def pOk : Option Nat → Prop
  | none => True
  | some x => x < 40
def adm (pl sz : Nat → Nat) (pc nm : Nat → Nat → Nat) (j : Nat) (p : Option Nat) : Bool := decide (pl j = 0) || (match p with
  | none => false
  | some x => mt pl pc sz nm j x)
def stf (q : Nat) : Nat := if q = 4 then 3 else if q = 5 then 1 else if q = 6 then 2 else if q = 7 then 2 else 0
def wtf (pl : Nat → Nat) (r : Nat) : Nat := (if 0 < pl (3 * r) then 4 else 0) + (if 0 < pl (3 * r + 2) then 2 else 0) + (if 0 < pl (3 * r + 1) then 1 else 0)
def rkf (so pl : Nat → Nat) (r : Nat) : Nat := stf (so r) * 8 + wtf pl r
def hds (so pl sz : Nat → Nat) (pc nm : Nat → Nat → Nat) (a b c : Option Nat) (r : Nat) : Bool := decide (0 < stf (so r)) && adm pl sz pc nm (3 * r) a && adm pl sz pc nm (3 * r + 1) b && adm pl sz pc nm (3 * r + 2) c
def bst (so pl sz : Nat → Nat) (pc nm : Nat → Nat → Nat) (a b c : Option Nat) : Nat → Option Nat
  | 0 => none
  | k + 1 => match bst so pl sz pc nm a b c k with
    | none => if hds so pl sz pc nm a b c k = true then some k else none
    | some i => if hds so pl sz pc nm a b c k = true ∧ rkf so pl i ≤ rkf so pl k then some k else some i
theorem bst_lt {a b c : Option Nat} {k i : Nat} (h : bst so pl sz pc nm a b c k = some i) : i < k ∧ 0 < stf (so i) := by
  induction k generalizing i with
  | zero => cases h
  | succ k ih =>
    have hh : hds so pl sz pc nm a b c k = true → 0 < stf (so k) := by
      intro h1
      unfold hds at h1
      simp at h1
      exact h1.1.1.1
    unfold bst at h
    cases hb : bst so pl sz pc nm a b c k with
    | none =>
      rw [hb] at h
      by_cases h1 : hds so pl sz pc nm a b c k = true
      · simp only [h1, if_true] at h
        cases h
        exact ⟨by omega, hh h1⟩
      · simp only [h1] at h
        cases h
    | some j =>
      rw [hb] at h
      by_cases h1 : hds so pl sz pc nm a b c k = true ∧ rkf so pl j ≤ rkf so pl k
      · simp only [h1, and_self, if_true] at h
        cases h
        exact ⟨by omega, hh h1.1⟩
      · simp only [if_neg h1] at h
        cases h
        obtain ⟨i1, i2⟩ := ih hb
        exact ⟨by omega, i2⟩
theorem stf_le (q : Nat) : stf q ≤ 3 := by unfold stf; (repeat' split) <;> omega
theorem wt_le (r : Nat) : wtf pl r ≤ 7 := by unfold wtf; (repeat' split) <;> omega
theorem strengthOf_n {q : Nat} (hq : q < 10) : f3_strengthOf (nI q) = some (nI (stf q)) := by
  unfold f3_strengthOf stf
  rcases (show q = 4 ∨ q = 5 ∨ q = 6 ∨ q = 7 ∨ (¬ q = 4 ∧ ¬ q = 5 ∧ ¬ q = 6 ∧ ¬ q = 7) by omega) with h | h | h | h | h
  · subst h; decide
  · subst h; decide
  · subst h; decide
  · subst h; decide
  · simp (disch := omega) only [li, ↓lim1, bnd_s, jn_e, cas_el, cas_er, oc_n, oc_s, grd_in, grd_t, nI_add, pk_mul, sub_e, le_e, lt_e, eq_e, cl_e, m1_e, m1_e', m1_lt, m1_le, m1_eq, lt_m1, ↓reduceIte, not_true_eq_false, not_false_eq_true, decide_true, decide_false, Nat.add_zero, Nat.zero_add, if_pos, if_neg]
theorem admits_n (H : PtsC sh n pl pc) (HH : HitC sh n pl pc sz nm) {r s : Nat} (h1 : r < n) (h2 : s < 3) {p : Option Nat} (hp : pOk p) : f3_admits (nI (r + 1)) (nI s) (pI p) sh = some (b2 (adm pl sz pc nm (3 * r + s) p)) := by
  unfold f3_admits adm
  rw [bnd_e (hasPattern_n H h1 h2)]
  by_cases h0 : pl (3 * r + s) = 0
  · rw [decide_eq_true h0, decide_eq_false (show ¬ 0 < pl (3 * r + s) by omega)]
    rfl
  · rw [decide_eq_false h0, decide_eq_true (show 0 < pl (3 * r + s) by omega), Bool.false_or]
    cases p with
    | none => 
      unfold f3_matches pI
      rfl
    | some x =>
      have hm := matches_n H HH h1 h2 (show x < 40 from hp)
      show (if b2 true = 0 then _ else bnd (f3_matches (nI (r + 1)) (nI s) (nI x) sh) _) = some (b2 (mt pl pc sz nm (3 * r + s) x))
      rw [if_neg (by decide), bnd_e hm]
      cases mt pl pc sz nm (3 * r + s) x <;> rfl
theorem weight_n (H : PtsC sh n pl pc) {r : Nat} (h1 : r < n) : f3_weightOf (nI (r + 1)) sh = some (nI (wtf pl r)) := by
  unfold f3_weightOf wtf
  have a0 : f3_hasPattern (nI (r + 1)) (nI 0) sh = some (b2 (decide (0 < pl (3 * r)))) := hasPattern_n H h1 (by omega)
  have a1 := hasPattern_n H h1 (s := 1) (by omega)
  have a2 := hasPattern_n H h1 (s := 2) (by omega)
  simp (disch := omega) only [li, ↓lim1, bnd_s, jn_e, cas_el, cas_er, oc_n, oc_s, grd_in, grd_t, nI_add, pk_mul, sub_e, le_e, lt_e, eq_e, cl_e, m1_e, m1_e', m1_lt, m1_le, m1_eq, lt_m1, ↓reduceIte, not_true_eq_false, not_false_eq_true, decide_true, decide_false, Nat.add_zero, Nat.zero_add, if_pos, if_neg, a0, a1, a2, b2_0]
  by_cases c0 : 0 < pl (3 * r) <;> by_cases c1 : 0 < pl (3 * r + 1) <;> by_cases c2 : 0 < pl (3 * r + 2) <;> simp [c0, c1, c2, nI_add]
theorem winner_ok (hF : 5000 < F) (HC : RowC sh n so va) (HP : PtsC sh n pl pc) (HH : HitC sh n pl pc sz nm) {a b c : Option Nat} (ha : pOk a) (hb : pOk b) (hc : pOk c) : f3_winner F (pI a) (pI b) (pI c) sh = some (match bst so pl sz pc nm a b c n with | none => nI 0 | some i => nI (i + 1)) := by
  obtain ⟨hn, e1, h1⟩ := HC
  have key := iter_rule (b := f3_winner_L9 (pI a) (pI b) (pI c) sh)
    (fun d s => ∃ k : Nat, d + k = n ∧ s = ((match bst so pl sz pc nm a b c k with | none => nI 0 | some i => nI (i + 1)), (match bst so pl sz pc nm a b c k with | none => nI 0 | some i => nI (rkf so pl i)), nI (k + 1)))
    (fun r => r = match bst so pl sz pc nm a b c n with | none => nI 0 | some i => nI (i + 1))
    (by
      rintro d s ⟨k, hd, rfl⟩
      by_cases hk : n ≤ k
      · have : k = n := by omega
        subst this
        refine Or.inr ⟨_, ?_, rfl⟩
        unfold f3_winner_L9
        simp (disch := omega) only [li, ↓lim1, bnd_s, jn_e, cas_el, cas_er, oc_n, oc_s, grd_in, grd_t, nI_add, pk_mul, sub_e, le_e, lt_e, eq_e, cl_e, m1_e, m1_e', m1_lt, m1_le, m1_eq, lt_m1, ↓reduceIte, not_true_eq_false, not_false_eq_true, decide_true, decide_false, Nat.add_zero, Nat.zero_add, if_pos, if_neg, e1]
      · refine Or.inl ⟨_, d - 1, by omega, ?_, k + 1, by omega, rfl⟩
        obtain ⟨a1, a2, a3, a4⟩ := h1 k (by omega)
        have q0 : f3_admits (nI (k + 1)) (nI 0) (pI a) sh = some (b2 (adm pl sz pc nm (3 * k) a)) := admits_n (s := 0) HP HH (by omega) (by omega) ha
        have q1 := admits_n (r := k) (s := 1) HP HH (by omega) (by omega) hb
        have q2 := admits_n (r := k) (s := 2) HP HH (by omega) (by omega) hc
        have w := weight_n (r := k) HP (by omega)
        have s3 := stf_le (so k)
        have w7 := wt_le (pl := pl) k
        have er : stf (so k) * 8 + wtf pl k = rkf so pl k := rfl
        have hh : hds so pl sz pc nm a b c k = (decide (0 < stf (so k)) && adm pl sz pc nm (3 * k) a && adm pl sz pc nm (3 * k + 1) b && adm pl sz pc nm (3 * k + 2) c) := rfl
        have hold : ∀ v : Bool, v = hds so pl sz pc nm a b c k → (if b2 v = nI 0 then (some (.inl ((match bst so pl sz pc nm a b c k with | none => nI 0 | some i => nI (i + 1)), (match bst so pl sz pc nm a b c k with | none => nI 0 | some i => nI (rkf so pl i)), nI (k + 1 + 1))) : Option ((Int32 × Int32 × Int32) ⊕ Int32)) else if nI (rkf so pl k) < (match bst so pl sz pc nm a b c k with | none => nI 0 | some i => nI (rkf so pl i)) then some (.inl ((match bst so pl sz pc nm a b c k with | none => nI 0 | some i => nI (i + 1)), (match bst so pl sz pc nm a b c k with | none => nI 0 | some i => nI (rkf so pl i)), nI (k + 1 + 1))) else some (.inl (nI (k + 1), nI (rkf so pl k), nI (k + 1 + 1)))) = some (.inl ((match bst so pl sz pc nm a b c (k + 1) with | none => nI 0 | some i => nI (i + 1)), (match bst so pl sz pc nm a b c (k + 1) with | none => nI 0 | some i => nI (rkf so pl i)), nI (k + 1 + 1))) := by
          intro v hv
          have e : bst so pl sz pc nm a b c (k + 1) = match bst so pl sz pc nm a b c k with
            | none => if hds so pl sz pc nm a b c k = true then some k else none
            | some i => if hds so pl sz pc nm a b c k = true ∧ rkf so pl i ≤ rkf so pl k then some k else some i := rfl
          rw [e, ← hv]
          cases hbk : bst so pl sz pc nm a b c k with
          | none =>
            cases v with
            | false => rfl
            | true =>
              have : ¬ nI (rkf so pl k) < nI 0 := nI_nlt (Nat.zero_le _) (by unfold rkf; omega)
              simp only [this, if_false, if_true, b2_t, if_neg (show ¬ nI 1 = nI 0 by decide)]
          | some i =>
            have r1 : rkf so pl i < 2147483648 := by
              have := stf_le (so i); have := wt_le (pl := pl) i; unfold rkf; omega
            have r2 : rkf so pl k < 2147483648 := by unfold rkf; omega
            cases v with
            | false => simp only [b2_f, if_true, Bool.false_eq_true, false_and, if_false]
            | true =>
              simp only [b2_t, if_neg (show ¬ nI 1 = nI 0 by decide), lt_e r2 r1, true_and]
              by_cases h : rkf so pl k < rkf so pl i
              · simp only [h, if_true, if_neg (show ¬ rkf so pl i ≤ rkf so pl k by omega)]
              · simp only [h, if_false, if_pos (show rkf so pl i ≤ rkf so pl k by omega)]
        unfold f3_winner_L9
        simp (disch := omega) only [li, ↓lim1, bnd_s, jn_e, cas_el, cas_er, oc_n, oc_s, grd_in, grd_t, nI_add, pk_mul, sub_e, le_e, lt_e, eq_e, cl_e, m1_e, m1_e', m1_lt, m1_le, m1_eq, lt_m1, ↓reduceIte, not_true_eq_false, not_false_eq_true, decide_true, decide_false, Nat.add_zero, Nat.zero_add, if_pos, if_neg, e1, Nat.add_sub_cancel, a1, strengthOf_n a2, w, q0, q1, q2, er, b2_0]
        by_cases h0 : stf (so k) ≤ 0
        · simp only [h0, if_true]
          refine hold false ?_
          rw [hh, decide_eq_false (by omega)]; rfl
        · simp only [h0, if_false]
          rw [decide_eq_true (show 0 < stf (so k) by omega)] at hh
          cases hq0 : adm pl sz pc nm (3 * k) a
          · simp only [if_true]
            refine hold false ?_
            rw [hh, hq0]; rfl
          · simp only [reduceCtorEq, if_false]
            cases hq1 : adm pl sz pc nm (3 * k + 1) b
            · simp only [if_true]
              refine hold false ?_
              rw [hh, hq0, hq1]; rfl
            · simp only [reduceCtorEq, if_false]
              cases hq2 : adm pl sz pc nm (3 * k + 2) c
              · simp only [if_true]
                refine hold false ?_
                rw [hh, hq0, hq1, hq2]; rfl
              · simp only [reduceCtorEq, if_false]
                refine hold true ?_
                rw [hh, hq0, hq1, hq2]; rfl)
    F n (nI 0, nI 0, nI 1) (by omega) ⟨0, by omega, rfl⟩
  obtain ⟨r, hr, rfl⟩ := key
  unfold f3_winner
  simp only [li]
  rw [bnd_e hr]
end Qs
section Qs
variable {F n m : Nat} {so va pl sz : Nat → Nat} {pc nm : Nat → Nat → Nat} {sh : T3} {ck : T0} {md : T6} {tp : T4}
variable {c : Int32} {g4 : Int32 × Int32 × Int32 × Int32 × Int32 × (Nat → Int32) × (Nat → Int32)} {g5 : (Nat → Int32) × Int32 × Int32 × Int32}
theorem mm_ok (hF : 5000 < F) (hn : n ≤ 40) (HP : PtsM md n pl pc) (HN : PnM md sz nm) {r s x : Nat} (hr : r < n) (hs : s < 3) (hx : x < 40) : ∃ g5', f6_matches F (nI r) (nI s) (nI x) (mC md c g4 g5) = some (b2 (mt pl pc sz nm (3 * r + s) x), mC md c g4 g5') := by
  have HN' : PnM (mC md c g4 g5) sz nm := HN
  have hp' : PtM (mC md c g4 g5) (3 * r + s) (pl (3 * r + s)) (pc (3 * r + s)) := HP (3 * r + s) (by omega)
  obtain ⟨q, hq⟩ := mmatch_ok (F := F) (by omega) (show r < 80 by omega) hs hp' HN' hx
  exact ⟨(q, g5.2), hq⟩
theorem mfits_ok (hF : 5000 < F) (hn : n ≤ 40) (HP : PtsM md n pl pc) (HN : PnM md sz nm) {r s : Nat} (hr : r < n) (hs : s < 3) {p : Option Nat} (hp : pOk p) : ∃ g5', f6_fits F (nI r) (nI s) (pI p) (mC md c g4 g5) = some (b2 (adm pl sz pc nm (3 * r + s) p), mC md c g4 g5') := by
  have h1 := HP (3 * r + s) (by omega)
  have h2 : mPs (mC md c g4 g5) (3 * r + s) = nI (pl (3 * r + s)) := h1.2.1
  have h3 := h1.1
  unfold f6_fits adm
  by_cases h0 : pl (3 * r + s) = 0
  · refine ⟨g5, ?_⟩
    rw [decide_eq_true h0]
    simp (disch := omega) only [li, ↓lim1, bnd_s, jn_e, cas_el, cas_er, oc_n, oc_s, grd_in, grd_t, nI_add, pk_mul, sub_e, le_e, lt_e, eq_e, cl_e, m1_e, m1_e', m1_lt, m1_le, m1_eq, lt_m1, ↓reduceIte, not_true_eq_false, not_false_eq_true, decide_true, decide_false, Nat.add_zero, Nat.zero_add, if_pos, if_neg, h2]
    rfl
  · rw [decide_eq_false h0, Bool.false_or]
    cases p with
    | none =>
      refine ⟨g5, ?_⟩
      unfold pI
      simp (disch := omega) only [li, ↓lim1, bnd_s, jn_e, cas_el, cas_er, oc_n, oc_s, grd_in, grd_t, nI_add, pk_mul, sub_e, le_e, lt_e, eq_e, cl_e, m1_e, m1_e', m1_lt, m1_le, m1_eq, lt_m1, ↓reduceIte, not_true_eq_false, not_false_eq_true, decide_true, decide_false, Nat.add_zero, Nat.zero_add, if_pos, if_neg, h2]
      rfl
    | some x =>
      obtain ⟨g5', hm⟩ := mm_ok (c := c) (g4 := g4) (g5 := g5) hF hn HP HN hr hs (show x < 40 from hp)
      refine ⟨g5', ?_⟩
      have hx : x < 40 := hp
      show _ = some (b2 (mt pl pc sz nm (3 * r + s) x), _)
      have e : pI (some x) = nI x := rfl
      simp (disch := omega) only [li, ↓lim1, bnd_s, jn_e, cas_el, cas_er, oc_n, oc_s, grd_in, grd_t, nI_add, pk_mul, sub_e, le_e, lt_e, eq_e, cl_e, m1_e, m1_e', m1_lt, m1_le, m1_eq, lt_m1, ↓reduceIte, not_true_eq_false, not_false_eq_true, decide_true, decide_false, Nat.add_zero, Nat.zero_add, if_pos, if_neg, h2, e, hm, b2_0]
      cases mt pl pc sz nm (3 * r + s) x <;> rfl
theorem mstr_ok (HM : RowM md n so va) (HP : PtsM md n pl pc) {r : Nat} (hr : r < n) (h4 : 0 < stf (so r)) : f6_strength (nI r) (mC md c g4 g5) = some (nI (rkf so pl r - 8)) := by
  obtain ⟨hn, e2, h2⟩ := HM
  obtain ⟨b1, b2', b3, b4, b5⟩ := h2 r hr
  have b1' : mSort (mC md c g4 g5) r = nI (so r) := b1
  have p0 : mPs (mC md c g4 g5) (3 * r) = nI (pl (3 * r)) := (HP (3 * r) (by omega)).2.1
  have p1 : mPs (mC md c g4 g5) (3 * r + 1) = nI (pl (3 * r + 1)) := (HP (3 * r + 1) (by omega)).2.1
  have p2 : mPs (mC md c g4 g5) (3 * r + 2) = nI (pl (3 * r + 2)) := (HP (3 * r + 2) (by omega)).2.1
  have l0 := (HP (3 * r) (by omega)).1
  have l1 := (HP (3 * r + 1) (by omega)).1
  have l2 := (HP (3 * r + 2) (by omega)).1
  have hs : so r = 4 ∨ so r = 5 ∨ so r = 6 ∨ so r = 7 := by
    unfold stf at h4
    by_cases c4 : so r = 4
    · exact Or.inl c4
    · by_cases c5 : so r = 5
      · exact Or.inr (Or.inl c5)
      · by_cases c6 : so r = 6
        · exact Or.inr (Or.inr (Or.inl c6))
        · by_cases c7 : so r = 7
          · exact Or.inr (Or.inr (Or.inr c7))
          · simp [c4, c5, c6, c7] at h4
  unfold f6_strength
  simp (disch := omega) only [li, ↓lim1, bnd_s, jn_e, cas_el, cas_er, oc_n, oc_s, grd_in, grd_t, nI_add, pk_mul, sub_e, le_e, lt_e, eq_e, cl_e, m1_e, m1_e', m1_lt, m1_le, m1_eq, lt_m1, ↓reduceIte, not_true_eq_false, not_false_eq_true, decide_true, decide_false, Nat.add_zero, Nat.zero_add, if_pos, if_neg, b1', p0, p1, p2]
  unfold rkf wtf stf
  rcases hs with e | e | e | e <;> simp only [e] <;> by_cases c0 : 0 < pl (3 * r) <;> by_cases c1 : 0 < pl (3 * r + 1) <;> by_cases c2 : 0 < pl (3 * r + 2) <;> simp (disch := omega) only [li, ↓lim1, bnd_s, jn_e, cas_el, cas_er, oc_n, oc_s, grd_in, grd_t, nI_add, pk_mul, sub_e, le_e, lt_e, eq_e, cl_e, m1_e, m1_e', m1_lt, m1_le, m1_eq, lt_m1, ↓reduceIte, not_true_eq_false, not_false_eq_true, decide_true, decide_false, Nat.add_zero, Nat.zero_add, if_pos, if_neg, c0, c1, c2, if_true, if_false] <;> decide
theorem mexc_ok (hF : 5000 < F) (HM : RowM md n so va) (HP : PtsM md n pl pc) (HN : PnM md sz nm) {a b d : Option Nat} (ha : pOk a) (hb : pOk b) (hd : pOk d) : ∃ g5', iter (f6_exception_L36 F (pI a) (pI b) (pI d)) F (im1, nI 0, mC md (nI 0) g4 g5) = some ((match bst so pl sz pc nm a b d n with | none => im1 | some i => nI i), mC md (nI 0) g4 g5') := by
  obtain ⟨hn, e2, h2⟩ := id HM
  have key := iter_rule (b := f6_exception_L36 F (pI a) (pI b) (pI d))
    (fun e s => ∃ (k : Nat) (g5 : (Nat → Int32) × Int32 × Int32 × Int32), e + k = n ∧ s = ((match bst so pl sz pc nm a b d k with | none => im1 | some i => nI i), nI k, mC md (nI 0) g4 g5))
    (fun r => ∃ g5, r = ((match bst so pl sz pc nm a b d n with | none => im1 | some i => nI i), mC md (nI 0) g4 g5))
    (by
      rintro e s ⟨k, g5, he, rfl⟩
      have e2' : mRows (mC md (nI 0) g4 g5) = nI n := e2
      have ec : mCode (mC md (nI 0) g4 g5) = nI 0 := rfl
      by_cases hk : n ≤ k
      · have : k = n := by omega
        subst this
        refine Or.inr ⟨_, ?_, g5, rfl⟩
        unfold f6_exception_L36
        simp (disch := omega) only [li, ↓lim1, bnd_s, jn_e, cas_el, cas_er, oc_n, oc_s, grd_in, grd_t, nI_add, pk_mul, sub_e, le_e, lt_e, eq_e, cl_e, m1_e, m1_e', m1_lt, m1_le, m1_eq, lt_m1, ↓reduceIte, not_true_eq_false, not_false_eq_true, decide_true, decide_false, Nat.add_zero, Nat.zero_add, if_pos, if_neg, e2']
      · obtain ⟨b1, b2', b3, b4, b5⟩ := h2 k (by omega)
        have b1' : mSort (mC md (nI 0) g4 g5) k = nI (so k) := b1
        obtain ⟨ga, qa⟩ := mfits_ok (r := k) (s := 0) (c := nI 0) (g4 := g4) (g5 := g5) hF hn HP HN (by omega) (by omega) ha
        rw [show 3 * k + 0 = 3 * k from rfl] at qa
        obtain ⟨gb, qb⟩ := mfits_ok (r := k) (s := 1) (c := nI 0) (g4 := g4) (g5 := ga) hF hn HP HN (by omega) (by omega) hb
        obtain ⟨gd, qd⟩ := mfits_ok (r := k) (s := 2) (c := nI 0) (g4 := g4) (g5 := gb) hF hn HP HN (by omega) (by omega) hd
        have hh : hds so pl sz pc nm a b d k = (decide (0 < stf (so k)) && adm pl sz pc nm (3 * k) a && adm pl sz pc nm (3 * k + 1) b && adm pl sz pc nm (3 * k + 2) d) := rfl
        have eb : bst so pl sz pc nm a b d (k + 1) = match bst so pl sz pc nm a b d k with
            | none => if hds so pl sz pc nm a b d k = true then some k else none
            | some i => if hds so pl sz pc nm a b d k = true ∧ rkf so pl i ≤ rkf so pl k then some k else some i := rfl
        have no : hds so pl sz pc nm a b d k = false → (match bst so pl sz pc nm a b d (k + 1) with | none => im1 | some i => nI i) = (match bst so pl sz pc nm a b d k with | none => im1 | some i => nI i) := by
          intro h
          rw [eb, h]
          cases bst so pl sz pc nm a b d k <;> simp
        have stz : stf (so k) = 0 ∨ (4 ≤ so k ∧ so k ≤ 7 ∧ 0 < stf (so k)) := by
          rcases (show so k = 0 ∨ so k = 1 ∨ so k = 2 ∨ so k = 3 ∨ so k = 4 ∨ so k = 5 ∨ so k = 6 ∨ so k = 7 ∨ so k = 8 ∨ so k = 9 by omega) with h | h | h | h | h | h | h | h | h | h <;> rw [h] <;> decide
        rcases stz with hz | ⟨s4, s7, hz⟩
        · refine Or.inl ⟨_, e - 1, by omega, ?_, k + 1, g5, by omega, rfl⟩
          rw [no (by rw [hh, hz]; rfl)]
          have s47 : so k < 4 ∨ 7 < so k := by
            rcases (show so k = 4 ∨ so k = 5 ∨ so k = 6 ∨ so k = 7 ∨ so k < 4 ∨ 7 < so k by omega) with h | h | h | h | h | h
            · rw [h] at hz; cases hz
            · rw [h] at hz; cases hz
            · rw [h] at hz; cases hz
            · rw [h] at hz; cases hz
            · exact Or.inl h
            · exact Or.inr h
          unfold f6_exception_L36
          rcases s47 with h | h
          · simp (disch := omega) only [li, ↓lim1, bnd_s, jn_e, cas_el, cas_er, oc_n, oc_s, grd_in, grd_t, nI_add, pk_mul, sub_e, le_e, lt_e, eq_e, cl_e, m1_e, m1_e', m1_lt, m1_le, m1_eq, lt_m1, ↓reduceIte, not_true_eq_false, not_false_eq_true, decide_true, decide_false, Nat.add_zero, Nat.zero_add, if_pos, if_neg, e2', ec, b1']
          · simp (disch := omega) only [li, ↓lim1, bnd_s, jn_e, cas_el, cas_er, oc_n, oc_s, grd_in, grd_t, nI_add, pk_mul, sub_e, le_e, lt_e, eq_e, cl_e, m1_e, m1_e', m1_lt, m1_le, m1_eq, lt_m1, ↓reduceIte, not_true_eq_false, not_false_eq_true, decide_true, decide_false, Nat.add_zero, Nat.zero_add, if_pos, if_neg, e2', ec, b1']
        · rw [decide_eq_true hz, Bool.true_and] at hh
          cases ca : adm pl sz pc nm (3 * k) a
          · refine Or.inl ⟨_, e - 1, by omega, ?_, k + 1, ga, by omega, rfl⟩
            rw [no (by rw [hh, ca]; rfl)]
            rw [ca, b2_f] at qa
            unfold f6_exception_L36
            simp (disch := omega) only [li, ↓lim1, bnd_s, jn_e, cas_el, cas_er, oc_n, oc_s, grd_in, grd_t, nI_add, pk_mul, sub_e, le_e, lt_e, eq_e, cl_e, m1_e, m1_e', m1_lt, m1_le, m1_eq, lt_m1, ↓reduceIte, not_true_eq_false, not_false_eq_true, decide_true, decide_false, Nat.add_zero, Nat.zero_add, if_pos, if_neg, e2', ec, b1', qa]
          · rw [ca, b2_t] at qa
            cases cb : adm pl sz pc nm (3 * k + 1) b
            · refine Or.inl ⟨_, e - 1, by omega, ?_, k + 1, gb, by omega, rfl⟩
              rw [no (by rw [hh, ca, cb]; rfl)]
              rw [cb, b2_f] at qb
              unfold f6_exception_L36
              simp (disch := omega) only [li, ↓lim1, bnd_s, jn_e, cas_el, cas_er, oc_n, oc_s, grd_in, grd_t, nI_add, pk_mul, sub_e, le_e, lt_e, eq_e, cl_e, m1_e, m1_e', m1_lt, m1_le, m1_eq, lt_m1, ↓reduceIte, not_true_eq_false, not_false_eq_true, decide_true, decide_false, Nat.add_zero, Nat.zero_add, if_pos, if_neg, e2', ec, b1', qa, qb]
            · rw [cb, b2_t] at qb
              cases cd : adm pl sz pc nm (3 * k + 2) d
              · refine Or.inl ⟨_, e - 1, by omega, ?_, k + 1, gd, by omega, rfl⟩
                rw [no (by rw [hh, ca, cb, cd]; rfl)]
                rw [cd, b2_f] at qd
                unfold f6_exception_L36
                simp (disch := omega) only [li, ↓lim1, bnd_s, jn_e, cas_el, cas_er, oc_n, oc_s, grd_in, grd_t, nI_add, pk_mul, sub_e, le_e, lt_e, eq_e, cl_e, m1_e, m1_e', m1_lt, m1_le, m1_eq, lt_m1, ↓reduceIte, not_true_eq_false, not_false_eq_true, decide_true, decide_false, Nat.add_zero, Nat.zero_add, if_pos, if_neg, e2', ec, b1', qa, qb, qd]
              · rw [cd, b2_t] at qd
                have ht : hds so pl sz pc nm a b d k = true := by rw [hh, ca, cb, cd]; rfl
                refine Or.inl ⟨_, e - 1, by omega, ?_, k + 1, gd, by omega, rfl⟩
                unfold f6_exception_L36
                simp (disch := omega) only [li, ↓lim1, bnd_s, jn_e, cas_el, cas_er, oc_n, oc_s, grd_in, grd_t, nI_add, pk_mul, sub_e, le_e, lt_e, eq_e, cl_e, m1_e, m1_e', m1_lt, m1_le, m1_eq, lt_m1, ↓reduceIte, not_true_eq_false, not_false_eq_true, decide_true, decide_false, Nat.add_zero, Nat.zero_add, if_pos, if_neg, e2', ec, b1', qa, qb, qd]
                rw [eb, ht]
                cases hbk : bst so pl sz pc nm a b d k with
                | none => simp only [if_true]
                | some i =>
                  obtain ⟨i1, i2⟩ := bst_lt hbk
                  have t1 := mstr_ok (c := nI 0) (g4 := g4) (g5 := gd) HM HP (show k < n by omega) hz
                  have t2 := mstr_ok (c := nI 0) (g4 := g4) (g5 := gd) HM HP (show i < n by omega) i2
                  have r1 : 8 ≤ rkf so pl k ∧ rkf so pl k < 100 := by
                    have := stf_le (so k); have := wt_le (pl := pl) k; unfold rkf; omega
                  have r2 : 8 ≤ rkf so pl i ∧ rkf so pl i < 100 := by
                    have := stf_le (so i); have := wt_le (pl := pl) i; unfold rkf; omega
                  simp (disch := omega) only [li, ↓lim1, bnd_s, jn_e, cas_el, cas_er, oc_n, oc_s, grd_in, grd_t, nI_add, pk_mul, sub_e, le_e, lt_e, eq_e, cl_e, m1_e, m1_e', m1_lt, m1_le, m1_eq, lt_m1, ↓reduceIte, not_true_eq_false, not_false_eq_true, decide_true, decide_false, Nat.add_zero, Nat.zero_add, if_pos, if_neg, t1, t2, true_and]
                  by_cases hlt : rkf so pl k < rkf so pl i
                  · simp only [if_pos (show rkf so pl k - 8 < rkf so pl i - 8 by omega), if_neg (show ¬ rkf so pl i ≤ rkf so pl k by omega)]
                  · simp only [if_neg (show ¬ rkf so pl k - 8 < rkf so pl i - 8 by omega), if_pos (show rkf so pl i ≤ rkf so pl k by omega)])
    F n (im1, nI 0, mC md (nI 0) g4 g5) (by omega) ⟨0, g5, by omega, rfl⟩
  obtain ⟨r, hr, g5', rfl⟩ := key
  exact ⟨g5', hr⟩
theorem mexc_no (hF : 5000 < F) (hr : mRows md = nI n) (hn : n ≤ 40) {p1 p2 p3 : Int32} : iter (f6_exception_L36 F p1 p2 p3) F (im1, nI 0, mC md (nI 1) g4 g5) = some (im1, mC md (nI 1) g4 g5) := by
  obtain ⟨F, rfl⟩ : ∃ f, F = f + 1 := ⟨F - 1, by omega⟩
  have e2' : mRows (mC md (nI 1) g4 g5) = nI n := hr
  have ec : mCode (mC md (nI 1) g4 g5) = nI 1 := rfl
  apply iter_stop
  unfold f6_exception_L36
  by_cases h : n ≤ 0
  · simp (disch := omega) only [li, ↓lim1, bnd_s, jn_e, cas_el, cas_er, oc_n, oc_s, grd_in, grd_t, nI_add, pk_mul, sub_e, le_e, lt_e, eq_e, cl_e, m1_e, m1_e', m1_lt, m1_le, m1_eq, lt_m1, ↓reduceIte, not_true_eq_false, not_false_eq_true, decide_true, decide_false, Nat.add_zero, Nat.zero_add, if_pos, if_neg, e2']
  · simp (disch := omega) only [li, ↓lim1, bnd_s, jn_e, cas_el, cas_er, oc_n, oc_s, grd_in, grd_t, nI_add, pk_mul, sub_e, le_e, lt_e, eq_e, cl_e, m1_e, m1_e', m1_lt, m1_le, m1_eq, lt_m1, ↓reduceIte, not_true_eq_false, not_false_eq_true, decide_true, decide_false, Nat.add_zero, Nat.zero_add, if_pos, if_neg, e2', ec]
/-- a pin or none, or a number that is neither -/
theorem pin_cases (p : Int32) : (∃ q, pOk q ∧ p = pI q ∧ f5_isPinOrNone p = some (nI 1) ∧ f6_isPin p = some (nI 1)) ∨ (f5_isPinOrNone p = some (nI 0) ∧ f6_isPin p = some (nI 0)) := by
  rcases int_cases p with hx | ⟨j, hj, rfl⟩
  · by_cases h : p = im1
    · refine Or.inl ⟨none, trivial, h, ?_, ?_⟩ <;> rw [h] <;> decide
    · have hlt : p < im1 := by
        rw [Int32.lt_iff_toInt_lt] at hx ⊢
        have h0 : (0 : Int32).toInt = 0 := by decide
        rw [im1_i]
        have : p.toInt ≠ -1 := fun e => h (Int32.toInt_inj.mp (by rw [e, im1_i]))
        omega
      refine Or.inr ⟨?_, ?_⟩
      · have := neg_lta hx (a := 0) (by omega)
        unfold f5_isPinOrNone f1_has
        simp (disch := omega) only [li, ↓lim1, bnd_s, jn_e, cas_el, cas_er, oc_n, oc_s, grd_in, grd_t, nI_add, pk_mul, sub_e, le_e, lt_e, eq_e, cl_e, m1_e, m1_e', m1_lt, m1_le, m1_eq, lt_m1, ↓reduceIte, not_true_eq_false, not_false_eq_true, decide_true, decide_false, Nat.add_zero, Nat.zero_add, if_pos, if_neg, h, this]
      · unfold f6_isPin
        simp (disch := omega) only [li, ↓lim1, bnd_s, jn_e, cas_el, cas_er, oc_n, oc_s, grd_in, grd_t, nI_add, pk_mul, sub_e, le_e, lt_e, eq_e, cl_e, m1_e, m1_e', m1_lt, m1_le, m1_eq, lt_m1, ↓reduceIte, not_true_eq_false, not_false_eq_true, decide_true, decide_false, Nat.add_zero, Nat.zero_add, if_pos, if_neg, hlt]
  · by_cases h : j < 40
    · refine Or.inl ⟨some j, h, rfl, ?_, ?_⟩
      · unfold f5_isPinOrNone f1_has
        simp (disch := omega) only [li, ↓lim1, bnd_s, jn_e, cas_el, cas_er, oc_n, oc_s, grd_in, grd_t, nI_add, pk_mul, sub_e, le_e, lt_e, eq_e, cl_e, m1_e, m1_e', m1_lt, m1_le, m1_eq, lt_m1, ↓reduceIte, not_true_eq_false, not_false_eq_true, decide_true, decide_false, Nat.add_zero, Nat.zero_add, if_pos, if_neg]
      · unfold f6_isPin
        simp (disch := omega) only [li, ↓lim1, bnd_s, jn_e, cas_el, cas_er, oc_n, oc_s, grd_in, grd_t, nI_add, pk_mul, sub_e, le_e, lt_e, eq_e, cl_e, m1_e, m1_e', m1_lt, m1_le, m1_eq, lt_m1, ↓reduceIte, not_true_eq_false, not_false_eq_true, decide_true, decide_false, Nat.add_zero, Nat.zero_add, if_pos, if_neg]
    · refine Or.inr ⟨?_, ?_⟩
      · unfold f5_isPinOrNone f1_has
        simp (disch := omega) only [li, ↓lim1, bnd_s, jn_e, cas_el, cas_er, oc_n, oc_s, grd_in, grd_t, nI_add, pk_mul, sub_e, le_e, lt_e, eq_e, cl_e, m1_e, m1_e', m1_lt, m1_le, m1_eq, lt_m1, ↓reduceIte, not_true_eq_false, not_false_eq_true, decide_true, decide_false, Nat.add_zero, Nat.zero_add, if_pos, if_neg]
      · unfold f6_isPin
        simp (disch := omega) only [li, ↓lim1, bnd_s, jn_e, cas_el, cas_er, oc_n, oc_s, grd_in, grd_t, nI_add, pk_mul, sub_e, le_e, lt_e, eq_e, cl_e, m1_e, m1_e', m1_lt, m1_le, m1_eq, lt_m1, ↓reduceIte, not_true_eq_false, not_false_eq_true, decide_true, decide_false, Nat.add_zero, Nat.zero_add, if_pos, if_neg]
theorem exc_ok (hF : 5000 < F) (HC : RowC sh n so va) (HPC : PtsC sh n pl pc) (HH : HitC sh n pl pc sz nm) (HM : RowM md n so va) (HP : PtsM md n pl pc) (HN : PnM md sz nm) (p1 p2 p3 : Int32) : ∃ ra rb md', f5_exception F p1 p2 p3 sh = some ra ∧ f6_exception F p1 p2 p3 md = some (rb, md') ∧ An ra rb md md' := by
  have e0 : ∀ c : Int32, (((c, md.1.2.1, md.1.2.2.1, md.1.2.2.2.1, md.1.2.2.2.2), md.2.1, md.2.2.1, md.2.2.2.1, md.2.2.2.2) : T6) = mC md c md.2.2.2.1 md.2.2.2.2 := fun c => rfl
  have no := mexc_no (g4 := md.2.2.2.1) (g5 := md.2.2.2.2) (p1 := p1) (p2 := p2) (p3 := p3) hF HM.2.1 HM.1
  have fin : im1 + nI 1 = nI 0 := by decide
  have res : f5_exception F p1 p2 p3 sh = some none → f6_exception F p1 p2 p3 md = some (nI 0, mC md (nI 1) md.2.2.2.1 md.2.2.2.2) → ∃ ra rb md', f5_exception F p1 p2 p3 sh = some ra ∧ f6_exception F p1 p2 p3 md = some (rb, md') ∧ An ra rb md md' := fun a b => ⟨none, nI 0, _, a, b, An.no⟩
  rcases pin_cases p1 with ⟨a, ha, rfl, qa, wa⟩ | ⟨qa, wa⟩
  · rcases pin_cases p2 with ⟨b, hb, rfl, qb, wb⟩ | ⟨qb, wb⟩
    · rcases pin_cases p3 with ⟨d, hd, rfl, qd, wd⟩ | ⟨qd, wd⟩
      · obtain ⟨g5', hm⟩ := mexc_ok (g4 := md.2.2.2.1) (g5 := md.2.2.2.2) hF HM HP HN ha hb hd
        refine ⟨some (match bst so pl sz pc nm a b d n with | none => nI 0 | some i => nI (i + 1)), _, mC md (nI 0) md.2.2.2.1 g5', ?_, ?_, An.yes⟩
        · unfold f5_exception
          simp (disch := omega) only [li, ↓lim1, bnd_s, jn_e, cas_el, cas_er, oc_n, oc_s, grd_in, grd_t, nI_add, pk_mul, sub_e, le_e, lt_e, eq_e, cl_e, m1_e, m1_e', m1_lt, m1_le, m1_eq, lt_m1, ↓reduceIte, not_true_eq_false, not_false_eq_true, decide_true, decide_false, Nat.add_zero, Nat.zero_add, if_pos, if_neg, qa, qb, qd, winner_ok hF HC HPC HH ha hb hd]
          try rfl
        · unfold f6_exception
          simp (disch := omega) only [li, ↓lim1, bnd_s, jn_e, cas_el, cas_er, oc_n, oc_s, grd_in, grd_t, nI_add, pk_mul, sub_e, le_e, lt_e, eq_e, cl_e, m1_e, m1_e', m1_lt, m1_le, m1_eq, lt_m1, ↓reduceIte, not_true_eq_false, not_false_eq_true, decide_true, decide_false, Nat.add_zero, Nat.zero_add, if_pos, if_neg, wa, wb, wd, e0, hm]
          cases bst so pl sz pc nm a b d n with
          | none => simp only [fin]
          | some i => simp only [nI_add]
      · apply res
        · unfold f5_exception
          simp (disch := omega) only [li, ↓lim1, bnd_s, jn_e, cas_el, cas_er, oc_n, oc_s, grd_in, grd_t, nI_add, pk_mul, sub_e, le_e, lt_e, eq_e, cl_e, m1_e, m1_e', m1_lt, m1_le, m1_eq, lt_m1, ↓reduceIte, not_true_eq_false, not_false_eq_true, decide_true, decide_false, Nat.add_zero, Nat.zero_add, if_pos, if_neg, qa, qb, qd]
        · unfold f6_exception
          simp (disch := omega) only [li, ↓lim1, bnd_s, jn_e, cas_el, cas_er, oc_n, oc_s, grd_in, grd_t, nI_add, pk_mul, sub_e, le_e, lt_e, eq_e, cl_e, m1_e, m1_e', m1_lt, m1_le, m1_eq, lt_m1, ↓reduceIte, not_true_eq_false, not_false_eq_true, decide_true, decide_false, Nat.add_zero, Nat.zero_add, if_pos, if_neg, wa, wb, wd, e0, no, fin]
    · apply res
      · unfold f5_exception
        simp (disch := omega) only [li, ↓lim1, bnd_s, jn_e, cas_el, cas_er, oc_n, oc_s, grd_in, grd_t, nI_add, pk_mul, sub_e, le_e, lt_e, eq_e, cl_e, m1_e, m1_e', m1_lt, m1_le, m1_eq, lt_m1, ↓reduceIte, not_true_eq_false, not_false_eq_true, decide_true, decide_false, Nat.add_zero, Nat.zero_add, if_pos, if_neg, qa, qb]
      · unfold f6_exception
        simp (disch := omega) only [li, ↓lim1, bnd_s, jn_e, cas_el, cas_er, oc_n, oc_s, grd_in, grd_t, nI_add, pk_mul, sub_e, le_e, lt_e, eq_e, cl_e, m1_e, m1_e', m1_lt, m1_le, m1_eq, lt_m1, ↓reduceIte, not_true_eq_false, not_false_eq_true, decide_true, decide_false, Nat.add_zero, Nat.zero_add, if_pos, if_neg, wa, wb, e0, no, fin]
  · apply res
    · unfold f5_exception
      simp (disch := omega) only [li, ↓lim1, bnd_s, jn_e, cas_el, cas_er, oc_n, oc_s, grd_in, grd_t, nI_add, pk_mul, sub_e, le_e, lt_e, eq_e, cl_e, m1_e, m1_e', m1_lt, m1_le, m1_eq, lt_m1, ↓reduceIte, not_true_eq_false, not_false_eq_true, decide_true, decide_false, Nat.add_zero, Nat.zero_add, if_pos, if_neg, qa]
    · unfold f6_exception
      simp (disch := omega) only [li, ↓lim1, bnd_s, jn_e, cas_el, cas_er, oc_n, oc_s, grd_in, grd_t, nI_add, pk_mul, sub_e, le_e, lt_e, eq_e, cl_e, m1_e, m1_e', m1_lt, m1_le, m1_eq, lt_m1, ↓reduceIte, not_true_eq_false, not_false_eq_true, decide_true, decide_false, Nat.add_zero, Nat.zero_add, if_pos, if_neg, wa, e0, no, fin]
end Qs
