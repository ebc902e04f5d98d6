/-! ===== the model's matching ===== -/
def b2 (b : Bool) : Int32 := if b = true then nI 1 else nI 0
theorem b2_0 {b : Bool} : (b2 b = nI 0) = (b = false) := by cases b <;> decide
theorem nar_b (b : Bool) : vp_nar .boolean (b2 b) = b2 b := by cases b <;> decide
theorem nar_0 : vp_nar .boolean (nI 0) = nI 0 := by decide
theorem nar_1 : vp_nar .boolean (nI 1) = nI 1 := by decide
theorem isB_b (b : Bool) : isB (b2 b) = true := by cases b <;> decide
theorem b2_t : b2 true = nI 1 := rfl
theorem b2_f : b2 false = nI 0 := rfl
/-- the model with other 'reads' -/
def mR (md : T6) (r : Nat → Int32) : T6 := (md.1, md.2.1, md.2.2.1, md.2.2.2.1, (r, md.2.2.2.2.2))
theorem mR_mR (md : T6) (r r' : Nat → Int32) : mR (mR md r) r' = mR md r' := rfl
def PtM (md : T6) (j len : Nat) (p : Nat → Nat) : Prop := len ≤ 16 ∧ mPs md j = nI len ∧ ∀ i, i < len → mPat md (16 * j + i) = nI (p i) ∧ p i < 128
def PnM (md : T6) (sz : Nat → Nat) (nm : Nat → Nat → Nat) : Prop := ∀ x, x < 40 → sz x ≤ 16 ∧ mSiz md x = nI (sz x) ∧ ∀ k, k < sz x → mLet md (16 * x + k) = nI (nm x k) ∧ nm x k < 128
theorem m35_ok {F : Nat} (hF : 100 < F) {md : T6} {x n : Nat} (hx : x < 40) (hn : n ≤ 16) (hs : mSiz md x = nI n) : ∃ r, iter (f6_matches_L35 (nI x) md) F (nI 0, md) = some (mR md r) ∧ ∀ k, k ≤ n → r k = b2 (k == 0) := by
  have key := iter_rule (b := f6_matches_L35 (nI x) md)
    (fun d s => ∃ (k : Nat) (r : Nat → Int32), d + k = n + 1 ∧ s = (nI k, mR md r) ∧ ∀ i, i < k → r i = b2 (i == 0))
    (fun s => ∃ r : Nat → Int32, s = mR md r ∧ ∀ k, k ≤ n → r k = b2 (k == 0))
    (by
      rintro d s ⟨k, r, hd, rfl, h1⟩
      by_cases hlt : n < k
      · refine Or.inr ⟨mR md r, ?_, r, rfl, fun i hi => h1 i (by omega)⟩
        unfold f6_matches_L35
        simp (disch := omega) only [hs, li, ↓lim1, bnd_s, jn_e, cas_el, cas_er, oc_n, oc_s, grd_in, grd_t, nI_add, pk_mul, sub_e, le_e, lt_e, eq_e, cl_e, m1_e, m1_e', m1_lt, m1_le, m1_eq, lt_m1, ↓reduceIte, not_true_eq_false, not_false_eq_true, decide_true, decide_false, Nat.add_zero, Nat.zero_add, if_pos, if_neg]
      · refine Or.inl ⟨(nI (k + 1), mR md (upd r k (b2 (k == 0)))), d - 1, by omega, ?_, k + 1, _, by omega, rfl, ?_⟩
        · unfold f6_matches_L35
          by_cases h0 : k = 0
          · subst h0
            simp (disch := omega) only [hs, li, ↓lim1, bnd_s, jn_e, cas_el, cas_er, oc_n, oc_s, grd_in, grd_t, nI_add, pk_mul, sub_e, le_e, lt_e, eq_e, cl_e, m1_e, m1_e', m1_lt, m1_le, m1_eq, lt_m1, ↓reduceIte, not_true_eq_false, not_false_eq_true, decide_true, decide_false, Nat.add_zero, Nat.zero_add, if_pos, if_neg, nar_1]
            rfl
          · have : (k == 0) = false := by simpa using h0
            rw [this]
            simp (disch := omega) only [hs, li, ↓lim1, bnd_s, jn_e, cas_el, cas_er, oc_n, oc_s, grd_in, grd_t, nI_add, pk_mul, sub_e, le_e, lt_e, eq_e, cl_e, m1_e, m1_e', m1_lt, m1_le, m1_eq, lt_m1, ↓reduceIte, not_true_eq_false, not_false_eq_true, decide_true, decide_false, Nat.add_zero, Nat.zero_add, if_pos, if_neg, nar_0]
            rfl
        · intro i hi
          by_cases h2 : i = k
          · subst h2; rw [pk_us]
          · rw [pk_un h2]
            exact h1 i (by omega))
    F (n + 1) (nI 0, md) (by omega) ⟨0, md.2.2.2.2.1, by omega, rfl, fun i hi => absurd hi (Nat.not_lt_zero i)⟩
  obtain ⟨s, hs2, r, rfl, h⟩ := key
  exact ⟨r, hs2, h⟩
theorem m105_ok {F : Nat} (hF : 100 < F) {md : T6} {x n : Nat} (hx : x < 40) (hn : n ≤ 16) (hs : mSiz md x = nI n) {r : Nat → Int32} {f : Nat → Bool} (hr : ∀ k, k ≤ n → r k = b2 (f k)) : ∃ r', iter (f6_matches_L105 (nI x) md) F (nI 1, mR md r) = some (mR md r') ∧ ∀ k, k ≤ n → r' k = b2 (star f k) := by
  have key := iter_rule (b := f6_matches_L105 (nI x) md)
    (fun d s => ∃ (k : Nat) (r : Nat → Int32), 0 < k ∧ d + k = n + 1 ∧ s = (nI k, mR md r) ∧ (∀ i, i < k → i ≤ n → r i = b2 (star f i)) ∧ ∀ i, k ≤ i → i ≤ n → r i = b2 (f i))
    (fun s => ∃ r : Nat → Int32, s = mR md r ∧ ∀ k, k ≤ n → r k = b2 (star f k))
    (by
      rintro d s ⟨k, r, h0, hd, rfl, h1, h2⟩
      by_cases hlt : n < k
      · refine Or.inr ⟨mR md r, ?_, r, rfl, fun i hi => h1 i (by omega) hi⟩
        unfold f6_matches_L105
        simp (disch := omega) only [hs, li, ↓lim1, bnd_s, jn_e, cas_el, cas_er, oc_n, oc_s, grd_in, grd_t, nI_add, pk_mul, sub_e, le_e, lt_e, eq_e, cl_e, m1_e, m1_e', m1_lt, m1_le, m1_eq, lt_m1, ↓reduceIte, not_true_eq_false, not_false_eq_true, decide_true, decide_false, Nat.add_zero, Nat.zero_add, if_pos, if_neg]
      · obtain ⟨i, rfl⟩ : ∃ i, k = i + 1 := ⟨k - 1, by omega⟩
        refine Or.inl ⟨(nI (i + 1 + 1), mR md (upd r (i + 1) (b2 (star f (i + 1))))), d - 1, by omega, ?_, i + 1 + 1, _, by omega, by omega, rfl, ?_, ?_⟩
        · have ha : (mR md r).2.2.2.2.1 (i + 1) = b2 (f (i + 1)) := h2 (i + 1) (Nat.le_refl _) (by omega)
          have hb : (mR md r).2.2.2.2.1 i = b2 (star f i) := h1 i (by omega) (by omega)
          have e : star f (i + 1) = (f (i + 1) || star f i) := rfl
          unfold f6_matches_L105
          simp (disch := omega) only [hs, li, ↓lim1, bnd_s, jn_e, cas_el, cas_er, oc_n, oc_s, grd_in, grd_t, nI_add, pk_mul, sub_e, le_e, lt_e, eq_e, cl_e, m1_e, m1_e', m1_lt, m1_le, m1_eq, lt_m1, ↓reduceIte, not_true_eq_false, not_false_eq_true, decide_true, decide_false, Nat.add_zero, Nat.zero_add, if_pos, if_neg, Nat.add_sub_cancel, ha, hb, b2_0]
          rw [e]
          cases f (i + 1) <;> cases star f i <;> simp (disch := omega) only [li, ↓lim1, bnd_s, jn_e, cas_el, cas_er, oc_n, oc_s, grd_in, grd_t, nI_add, pk_mul, sub_e, le_e, lt_e, eq_e, cl_e, m1_e, m1_e', m1_lt, m1_le, m1_eq, lt_m1, ↓reduceIte, not_true_eq_false, not_false_eq_true, decide_true, decide_false, Nat.add_zero, Nat.zero_add, if_pos, if_neg, nar_0, nar_1, Bool.false_eq_true, reduceCtorEq] <;> rfl
        · intro j hj hjn
          by_cases h3 : j = i + 1
          · subst h3; rw [pk_us]
          · rw [pk_un h3]
            exact h1 j (by omega) hjn
        · intro j hj hjn
          rw [pk_un (by omega)]
          exact h2 j (by omega) hjn)
    F n (nI 1, mR md r) (by omega) ⟨1, r, by omega, by omega, rfl, fun i hi hn => by
      have : i = 0 := by omega
      subst this
      rw [hr 0 hn]; rfl, fun i _ hi => hr i hi⟩
  obtain ⟨s, hs2, r, rfl, h⟩ := key
  exact ⟨r, hs2, h⟩
theorem m159_ok {F : Nat} (hF : 100 < F) {md : T6} {x n r0 s0 i c : Nat} (hx : x < 40) (hn : n ≤ 16) {q : Nat → Nat} (hl : ∀ k, k < n → mLet md (16 * x + k) = nI (q k) ∧ q k < 128) {ra : Nat → Int32} (hc : c < 128) (hr0 : r0 < 80) (hs0 : s0 < 3) (hi : i < 16) (hp : mPat md (16 * (3 * r0 + s0) + i) = nI c)
    {r : Nat → Int32} {f : Nat → Bool} (hr : ∀ k, k ≤ n → r k = b2 (f k)) :
    ∃ r', iter (f6_matches_L159 (nI r0) (nI s0) (nI x) (nI i, mR md ra)) F (nI n, mR md r) = some (mR md r') ∧ (∀ k, 0 < k → k ≤ n → r' k = b2 (one f c q k)) := by
  have hp' : mPat (mR md ra) (16 * (3 * r0 + s0) + i) = nI c := hp
  have key := iter_rule (b := f6_matches_L159 (nI r0) (nI s0) (nI x) (nI i, mR md ra))
    (fun d s => ∃ (r : Nat → Int32), d ≤ n ∧ s = (nI d, mR md r) ∧ (∀ k, d < k → k ≤ n → r k = b2 (one f c q k)) ∧ ∀ k, k ≤ d → r k = b2 (f k))
    (fun s => ∃ r : Nat → Int32, s = mR md r ∧ ∀ k, 0 < k → k ≤ n → r k = b2 (one f c q k))
    (by
      rintro d s ⟨r, hd, rfl, h1, h2⟩
      cases d with
      | zero =>
        refine Or.inr ⟨mR md r, ?_, r, rfl, h1⟩
        unfold f6_matches_L159
        simp (disch := omega) only [li, ↓lim1, bnd_s, jn_e, cas_el, cas_er, oc_n, oc_s, grd_in, grd_t, nI_add, pk_mul, sub_e, le_e, lt_e, eq_e, cl_e, m1_e, m1_e', m1_lt, m1_le, m1_eq, lt_m1, ↓reduceIte, not_true_eq_false, not_false_eq_true, decide_true, decide_false, Nat.add_zero, Nat.zero_add, if_pos, if_neg]
      | succ d =>
        refine Or.inl ⟨(nI d, mR md (upd r (d + 1) (b2 (one f c q (d + 1))))), d, by omega, ?_, _, by omega, rfl, ?_, ?_⟩
        · have ha : (mR md r).2.2.2.2.1 d = b2 (f d) := h2 d (by omega)
          have hb : mLet (mR md r) (16 * x + (d + 1) - 1) = nI (q d) := (hl d (by omega)).1
          have hb2 := (hl d (by omega)).2
          have e : one f c q (d + 1) = (f d && (c == 63 || c == q d)) := rfl
          have em : nI (d + 1) + im1 = nI d := pk_m1 d
          unfold f6_matches_L159
          simp (disch := omega) only [li, ↓lim1, bnd_s, jn_e, cas_el, cas_er, oc_n, oc_s, grd_in, grd_t, nI_add, pk_mul, sub_e, le_e, lt_e, eq_e, cl_e, m1_e, m1_e', m1_lt, m1_le, m1_eq, lt_m1, ↓reduceIte, not_true_eq_false, not_false_eq_true, decide_true, decide_false, Nat.add_zero, Nat.zero_add, if_pos, if_neg, Nat.add_sub_cancel, ha, hb, hp', b2_0, em]
          rw [e]
          cases f d
          · simp only [if_true, Bool.false_and, nar_0]
            rfl
          · simp only [reduceCtorEq, if_false, Bool.true_and]
            by_cases h3 : c = 63
            · simp only [h3, if_true, nar_1]
              rfl
            · by_cases h4 : c = q d
              · have : (c == 63 || c == q d) = true := by simp [h4]
                rw [this]
                rw [if_neg h3, if_pos h4]
                simp only [nar_1]
                rfl
              · have : (c == 63 || c == q d) = false := by simp [h3, h4]
                rw [this]
                rw [if_neg h3, if_neg h4]
                simp only [nar_0]
                rfl
        · intro k hk hkn
          by_cases h3 : k = d + 1
          · subst h3; rw [pk_us]
          · rw [pk_un h3]
            exact h1 k (by omega) hkn
        · intro k hk
          rw [pk_un (by omega)]
          exact h2 k (by omega))
    F n (nI n, mR md r) (by omega) ⟨r, Nat.le_refl n, rfl, fun k hk hkn => by omega, fun k hk => hr k hk⟩
  obtain ⟨s, hs2, r, rfl, h⟩ := key
  exact ⟨r, hs2, h⟩
theorem mmatch_ok {F : Nat} (hF : 100 < F) {md : T6} {r0 s0 x len : Nat} {p : Nat → Nat} {sz : Nat → Nat} {nm : Nat → Nat → Nat} (hr0 : r0 < 80) (hs0 : s0 < 3) (H : PtM md (3 * r0 + s0) len p) (HP : PnM md sz nm) (hx : x < 40) : ∃ r, f6_matches F (nI r0) (nI s0) (nI x) md = some (b2 (mtc p len (nm x) (sz x)), mR md r) := by
  obtain ⟨hl, e1, h6⟩ := H
  obtain ⟨hz, e2, h7⟩ := HP x hx
  unfold f6_matches
  by_cases h0 : sz x = 0
  · have : mtc p len (nm x) (sz x) = false := by unfold mtc; rw [h0]; rfl
    rw [this]
    refine ⟨md.2.2.2.2.1, ?_⟩
    simp (disch := omega) only [li, ↓lim1, bnd_s, jn_e, cas_el, cas_er, oc_n, oc_s, grd_in, grd_t, nI_add, pk_mul, sub_e, le_e, lt_e, eq_e, cl_e, m1_e, m1_e', m1_lt, m1_le, m1_eq, lt_m1, ↓reduceIte, not_true_eq_false, not_false_eq_true, decide_true, decide_false, Nat.add_zero, Nat.zero_add, if_pos, if_neg, e2, h0]
    rfl
  · by_cases h1 : len = 0
    · have : mtc p len (nm x) (sz x) = false := by unfold mtc; rw [h1]; simp
      rw [this]
      refine ⟨md.2.2.2.2.1, ?_⟩
      simp (disch := omega) only [li, ↓lim1, bnd_s, jn_e, cas_el, cas_er, oc_n, oc_s, grd_in, grd_t, nI_add, pk_mul, sub_e, le_e, lt_e, eq_e, cl_e, m1_e, m1_e', m1_lt, m1_le, m1_eq, lt_m1, ↓reduceIte, not_true_eq_false, not_false_eq_true, decide_true, decide_false, Nat.add_zero, Nat.zero_add, if_pos, if_neg, e2, e1, h1]
      rfl
    · obtain ⟨r, hr, h8⟩ := m35_ok hF hx hz e2
      have key := iter_rule (b := f6_matches_L68 F (nI r0) (nI s0) (nI x) md)
        (fun d s => ∃ (i : Nat) (r : Nat → Int32), d + i = len ∧ s = (nI i, mR md r) ∧ ∀ k, k ≤ sz x → r k = b2 (rdm p (nm x) i k))
        (fun s => ∃ r : Nat → Int32, s = mR md r ∧ ∀ k, k ≤ sz x → r k = b2 (rdm p (nm x) len k))
        (by
          rintro d s ⟨i, r, hd, rfl, h9⟩
          have e1' : mPs (mR md r) (3 * r0 + s0) = nI len := e1
          by_cases hlt : len ≤ i
          · have hi : i = len := by omega
            subst hi
            refine Or.inr ⟨mR md r, ?_, r, rfl, h9⟩
            unfold f6_matches_L68
            simp (disch := omega) only [li, ↓lim1, bnd_s, jn_e, cas_el, cas_er, oc_n, oc_s, grd_in, grd_t, nI_add, pk_mul, sub_e, le_e, lt_e, eq_e, cl_e, m1_e, m1_e', m1_lt, m1_le, m1_eq, lt_m1, ↓reduceIte, not_true_eq_false, not_false_eq_true, decide_true, decide_false, Nat.add_zero, Nat.zero_add, if_pos, if_neg, e1']
          · have hpi := h6 i (by omega)
            have hpi' : mPat (mR md r) (16 * (3 * r0 + s0) + i) = nI (p i) := hpi.1
            have hpl := hpi.2
            by_cases h10 : p i = 42
            · obtain ⟨r', hr', h11⟩ := m105_ok hF hx hz e2 h9
              refine Or.inl ⟨(nI (i + 1), mR md r'), d - 1, by omega, ?_, i + 1, r', by omega, rfl, fun k hk => by rw [h11 k hk, rdm_star h10]⟩
              unfold f6_matches_L68
              simp (disch := omega) only [li, ↓lim1, bnd_s, jn_e, cas_el, cas_er, oc_n, oc_s, grd_in, grd_t, nI_add, pk_mul, sub_e, le_e, lt_e, eq_e, cl_e, m1_e, m1_e', m1_lt, m1_le, m1_eq, lt_m1, ↓reduceIte, not_true_eq_false, not_false_eq_true, decide_true, decide_false, Nat.add_zero, Nat.zero_add, if_pos, if_neg, e1', hpi', hr']
            · obtain ⟨r', hr', h11⟩ := m159_ok (r0 := r0) (s0 := s0) (i := i) (ra := r) hF hx hz h7 hpi.2 hr0 hs0 (by omega) hpi.1 h9
              refine Or.inl ⟨(nI (i + 1), mR md (upd r' 0 (nI 0))), d - 1, by omega, ?_, i + 1, _, by omega, rfl, fun k hk => ?_⟩
              · unfold f6_matches_L68
                simp (disch := omega) only [li, ↓lim1, bnd_s, jn_e, cas_el, cas_er, oc_n, oc_s, grd_in, grd_t, nI_add, pk_mul, sub_e, le_e, lt_e, eq_e, cl_e, m1_e, m1_e', m1_lt, m1_le, m1_eq, lt_m1, ↓reduceIte, not_true_eq_false, not_false_eq_true, decide_true, decide_false, Nat.add_zero, Nat.zero_add, if_pos, if_neg, e1', hpi', hr', e2, nar_0]
                rfl
              · rw [rdm_one h10]
                cases k with
                | zero => rw [pk_us]; rfl
                | succ k => rw [pk_un (by omega)]; exact h11 (k + 1) (by omega) hk)
        F len (nI 0, mR md r) (by omega) ⟨0, r, by omega, rfl, h8⟩
      obtain ⟨s, hs, r', rfl, h9⟩ := key
      refine ⟨r', ?_⟩
      have hmt : mtc p len (nm x) (sz x) = rdm p (nm x) len (sz x) := by
        unfold mtc
        rw [decide_eq_true (show 0 < sz x by omega), decide_eq_true (show 0 < len by omega)]
        rfl
      have h10 : (mR md r').2.2.2.2.1 (sz x) = b2 (mtc p len (nm x) (sz x)) := by rw [hmt]; exact h9 _ (Nat.le_refl _)
      simp (disch := omega) only [li, ↓lim1, bnd_s, jn_e, cas_el, cas_er, oc_n, oc_s, grd_in, grd_t, nI_add, pk_mul, sub_e, le_e, lt_e, eq_e, cl_e, m1_e, m1_e', m1_lt, m1_le, m1_eq, lt_m1, ↓reduceIte, not_true_eq_false, not_false_eq_true, decide_true, decide_false, Nat.add_zero, Nat.zero_add, if_pos, if_neg, e2, e1, hr, hs, h10, isB_b]
/-! ===== longs as natural numbers; the greatest common divisor ===== -/
theorem liL (n : Nat) : (OfNat.ofNat n : Int64) = lN (OfNat.ofNat n) := rfl
theorem subL {a b : Nat} (h : b ≤ a) : lN a - lN b = lN (a - b) := lN_sub h
theorem leL {a b : Nat} (ha : a < 9223372036854775808) (hb : b < 9223372036854775808) : (lN a ≤ lN b) = (a ≤ b) := propext (pk_lLE ha hb)
theorem ltL {a b : Nat} (ha : a < 9223372036854775808) (hb : b < 9223372036854775808) : (lN a < lN b) = (a < b) := propext (pk_lLT ha hb)
theorem eqL {a b : Nat} (ha : a < 9223372036854775808) (hb : b < 9223372036854775808) : (lN a = lN b) = (a = b) := propext (pk_lEQ ha hb)
theorem divL {a b : Nat} (ha : a < 9223372036854775808) (h0 : 0 < b) (hb : b < 9223372036854775808) : lN a / lN b = lN (a / b) := pk_lDiv ha h0 hb
theorem remL {a b : Nat} (ha : a < 9223372036854775808) (h0 : 0 < b) (hb : b < 9223372036854775808) : lN a - lN a / lN b * lN b = lN (a % b) := pk_lRem ha h0 hb
theorem mod_e (x y : Nat) : x / y * y ≤ x ∧ x - x / y * y = x % y := by
  have h := Nat.div_add_mod x y
  have h2 : y * (x / y) = x / y * y := Nat.mul_comm _ _
  omega
theorem remL' {x y : Nat} : lN x - lN (x / y * y) = lN (x % y) := by rw [lN_sub (mod_e x y).1, (mod_e x y).2]
theorem rem_e {x y : Nat} : nI x - nI (x / y * y) = nI (x % y) := by rw [pk_sub (mod_e x y).1, (mod_e x y).2]
theorem cmp_le (x y : Int64) : (lg_cmp x y ≤ nI 0) = (x ≤ y) := propext (lg_cmp_le x y)
theorem cmp_ge (x y : Int64) : (nI 0 ≤ lg_cmp x y) = (y ≤ x) := propext (lg_cmp_ge x y)
theorem cmp_gt (x y : Int64) : (nI 0 < lg_cmp x y) = (y < x) := propext (lg_cmp_gt x y)
theorem cmp_lt (x y : Int64) : (lg_cmp x y < nI 0) = (x < y) := propext (lg_cmp_lt x y)
theorem cmp_eq (x y : Int64) : (lg_cmp x y = nI 0) = (x = y) := propext (lg_cmp_eq x y)
theorem grd_nz {α : Type} {a : Nat} {x : Option α} (h0 : 0 < a) (ha : a < 9223372036854775808) : grd (decide (¬ lN a = lN 0)) x = x := grd_e (decide_eq_true (by
  rw [eqL ha (by omega)]
  omega))
theorem grd_d {α : Type} {P : Prop} [Decidable P] {x : Option α} (h : P) : grd (decide P) x = x := grd_e (decide_eq_true h)
theorem gcd_step (x y : Nat) : Nat.gcd y (x % y) = Nat.gcd x y := by
  rw [Nat.gcd_comm y (x % y), ← Nat.gcd_rec y x, Nat.gcd_comm]
theorem mod_half {x y : Nat} (h0 : 0 < y) (h : y ≤ x) : 2 * (x % y) < x := by
  have h1 : x % y < y := Nat.mod_lt _ h0
  have h2 := Nat.div_add_mod x y
  have h3 : 1 ≤ x / y := Nat.div_pos h h0
  have h4 : y * 1 ≤ y * (x / y) := Nat.mul_le_mul_left _ h3
  omega
/-- how many steps are left -/
def eu (k x y : Nat) : Prop := (∃ e, k = 2 * e + 1 ∧ y < 2 ^ e) ∨ (∃ e, k = 2 * e ∧ y < x ∧ x < 2 ^ e)
theorem eu_step {k x y : Nat} (h : eu k x y) (h0 : 0 < y) : 0 < k ∧ eu (k - 1) y (x % y) := by
  rcases h with ⟨e, rfl, h1⟩ | ⟨e, rfl, h1, h2⟩
  · exact ⟨by omega, Or.inr ⟨e, by omega, Nat.mod_lt _ h0, h1⟩⟩
  · cases e with
    | zero => rw [Nat.pow_zero] at h2; omega
    | succ e =>
      have h3 := mod_half h0 (Nat.le_of_lt h1)
      rw [Nat.pow_succ] at h2
      exact ⟨by omega, Or.inl ⟨e, by omega, by omega⟩⟩
theorem cd_ok {F : Nat} (hF : 200 < F) {a b : Nat} (ha : a < 9223372036854775808) (hb : b < 9223372036854775808) (h0 : 0 < Nat.gcd a b) : f5_commonDivisor F (lN a) (lN b) = some (lN (Nat.gcd a b)) := by
  have key := iter_rule (b := f5_commonDivisor_L9)
    (fun k s => ∃ x y st : Nat, s = (lN x, lN y, nI st) ∧ x < 9223372036854775808 ∧ y < 9223372036854775808 ∧ Nat.gcd x y = Nat.gcd a b ∧ eu k x y ∧ st + k ≤ 127)
    (fun r => r = lN (Nat.gcd a b))
    (by
      rintro k s ⟨x, y, st, rfl, hx, hy, hg, he, hst⟩
      by_cases hz : y = 0
      · refine Or.inr ⟨lN x, ?_, ?_⟩
        · unfold f5_commonDivisor_L9
          simp (disch := omega) only [li, ↓lim1, bnd_s, jn_e, cas_el, cas_er, oc_n, oc_s, grd_in, grd_t, nI_add, pk_mul, sub_e, le_e, lt_e, eq_e, cl_e, m1_e, m1_e', m1_lt, m1_le, m1_eq, lt_m1, ↓reduceIte, not_true_eq_false, not_false_eq_true, decide_true, decide_false, Nat.add_zero, Nat.zero_add, if_pos, if_neg, liL, remL', lN_add, lN_mul, subL, leL, ltL, eqL, divL, cmp_le, cmp_ge, cmp_gt, cmp_lt, cmp_eq, grd_d]
        · rw [← hg, hz, Nat.gcd_zero_right]
      · obtain ⟨h1, h2⟩ := eu_step he (by omega)
        have h3 : x % y < y := Nat.mod_lt _ (by omega)
        refine Or.inl ⟨(lN y, lN (x % y), nI (st + 1)), k - 1, by omega, ?_, y, x % y, st + 1, rfl, hy, by omega, by rw [gcd_step, hg], h2, by omega⟩
        unfold f5_commonDivisor_L9
        simp (disch := omega) only [li, ↓lim1, bnd_s, jn_e, cas_el, cas_er, oc_n, oc_s, grd_in, grd_t, nI_add, pk_mul, sub_e, le_e, lt_e, eq_e, cl_e, m1_e, m1_e', m1_lt, m1_le, m1_eq, lt_m1, ↓reduceIte, not_true_eq_false, not_false_eq_true, decide_true, decide_false, Nat.add_zero, Nat.zero_add, if_pos, if_neg, liL, remL', lN_add, lN_mul, subL, leL, ltL, eqL, divL, cmp_le, cmp_ge, cmp_gt, cmp_lt, cmp_eq, grd_d, grd_nz])
    F 127 (lN a, lN b, nI 0) (by omega) ⟨a, b, 0, rfl, ha, hb, rfl, Or.inl ⟨63, rfl, hb⟩, by omega⟩
  obtain ⟨r, hr, rfl⟩ := key
  have hle : Nat.gcd a b < 9223372036854775808 := by
    rcases Nat.eq_zero_or_pos b with e | e
    · rw [e, Nat.gcd_zero_right]; exact ha
    · exact Nat.lt_of_le_of_lt (Nat.le_of_dvd e (Nat.gcd_dvd_right a b)) hb
  unfold f5_commonDivisor
  simp only [li]
  rw [bnd_e hr]
  simp (disch := omega) only [li, ↓lim1, bnd_s, jn_e, cas_el, cas_er, oc_n, oc_s, grd_in, grd_t, nI_add, pk_mul, sub_e, le_e, lt_e, eq_e, cl_e, m1_e, m1_e', m1_lt, m1_le, m1_eq, lt_m1, ↓reduceIte, not_true_eq_false, not_false_eq_true, decide_true, decide_false, Nat.add_zero, Nat.zero_add, if_pos, if_neg, liL, remL', lN_add, lN_mul, subL, leL, ltL, eqL, divL, cmp_le, cmp_ge, cmp_gt, cmp_lt, cmp_eq, grd_d]
theorem cm_ok {F : Nat} (hF : 200 < F) {a b : Nat} (ha : a < 9223372036854775808) (hb : b < 9223372036854775808) : f6_common F (lN a) (lN b) = some (lN (Nat.gcd a b)) := by
  have key := iter_rule (b := f6_common_L6)
    (fun k s => ∃ x y : Nat, s = (lN x, lN y) ∧ x < 9223372036854775808 ∧ y < 9223372036854775808 ∧ Nat.gcd x y = Nat.gcd a b ∧ eu k x y)
    (fun r => r = lN (Nat.gcd a b))
    (by
      rintro k s ⟨x, y, rfl, hx, hy, hg, he⟩
      by_cases hz : y = 0
      · refine Or.inr ⟨lN x, ?_, ?_⟩
        · unfold f6_common_L6
          simp (disch := omega) only [li, ↓lim1, bnd_s, jn_e, cas_el, cas_er, oc_n, oc_s, grd_in, grd_t, nI_add, pk_mul, sub_e, le_e, lt_e, eq_e, cl_e, m1_e, m1_e', m1_lt, m1_le, m1_eq, lt_m1, ↓reduceIte, not_true_eq_false, not_false_eq_true, decide_true, decide_false, Nat.add_zero, Nat.zero_add, if_pos, if_neg, liL, remL', lN_add, lN_mul, subL, leL, ltL, eqL, divL, cmp_le, cmp_ge, cmp_gt, cmp_lt, cmp_eq, grd_d]
        · rw [← hg, hz, Nat.gcd_zero_right]
      · obtain ⟨h1, h2⟩ := eu_step he (by omega)
        have h3 : x % y < y := Nat.mod_lt _ (by omega)
        refine Or.inl ⟨(lN y, lN (x % y)), k - 1, by omega, ?_, y, x % y, rfl, hy, by omega, by rw [gcd_step, hg], h2⟩
        unfold f6_common_L6
        simp (disch := omega) only [li, ↓lim1, bnd_s, jn_e, cas_el, cas_er, oc_n, oc_s, grd_in, grd_t, nI_add, pk_mul, sub_e, le_e, lt_e, eq_e, cl_e, m1_e, m1_e', m1_lt, m1_le, m1_eq, lt_m1, ↓reduceIte, not_true_eq_false, not_false_eq_true, decide_true, decide_false, Nat.add_zero, Nat.zero_add, if_pos, if_neg, liL, remL', lN_add, lN_mul, subL, leL, ltL, eqL, divL, cmp_le, cmp_ge, cmp_gt, cmp_lt, cmp_eq, grd_d, grd_nz])
    F 127 (lN a, lN b) (by omega) ⟨a, b, rfl, ha, hb, rfl, Or.inl ⟨63, rfl, hb⟩⟩
  obtain ⟨r, hr, rfl⟩ := key
  unfold f6_common
  rw [bnd_e hr]
theorem gcd_lt {a b : Nat} (hb : 0 < b) : 0 < Nat.gcd a b ∧ Nat.gcd a b ≤ b := ⟨Nat.gcd_pos_of_pos_right _ hb, Nat.le_of_dvd hb (Nat.gcd_dvd_right a b)⟩
/-- the part of a fraction in lowest terms: both sides -/
theorem lp_ok {F : Nat} (hF : 200 < F) {u l : Nat} (hu : u < 9223372036854775808) (hl : l < 9223372036854775808) (h0 : 0 < l) (p : Int32) : f5_lowestPart F (lN u) (lN l) p = some (if p = 0 then lN (u / Nat.gcd u l) else lN (l / Nat.gcd u l)) := by
  have hg := gcd_lt (a := u) h0
  unfold f5_lowestPart
  rw [bnd_e (cd_ok hF hu hl hg.1)]
  by_cases hp : p = 0
  · rw [if_pos hp, if_pos hp]
    simp (disch := omega) only [liL, remL', lN_add, lN_mul, subL, leL, ltL, eqL, divL, cmp_le, cmp_ge, cmp_gt, cmp_lt, cmp_eq, grd_d, grd_nz]
  · rw [if_neg hp, if_neg hp]
    simp (disch := omega) only [liL, remL', lN_add, lN_mul, subL, leL, ltL, eqL, divL, cmp_le, cmp_ge, cmp_gt, cmp_lt, cmp_eq, grd_d, grd_nz]
theorem pt_ok {F : Nat} (hF : 200 < F) {u l : Nat} (hu : u < 9223372036854775808) (hl : l < 9223372036854775808) (h0 : 0 < l) (p : Int32) : f6_part F (lN u) (lN l) p = some (if p = 0 then lN (u / Nat.gcd u l) else lN (l / Nat.gcd u l)) := by
  have hg := gcd_lt (a := u) h0
  unfold f6_part
  rw [bnd_e (cm_ok hF hu hl)]
  by_cases hp : p = 0
  · rw [if_pos hp, if_pos hp]
    simp (disch := omega) only [liL, remL', lN_add, lN_mul, subL, leL, ltL, eqL, divL, cmp_le, cmp_ge, cmp_gt, cmp_lt, cmp_eq, grd_d, grd_nz]
  · rw [if_neg hp, if_neg hp]
    simp (disch := omega) only [liL, remL', lN_add, lN_mul, subL, leL, ltL, eqL, divL, cmp_le, cmp_ge, cmp_gt, cmp_lt, cmp_eq, grd_d, grd_nz]
theorem leL_t {a b : Nat} (h : a ≤ b) (hb : b < 9223372036854775808) : (lN a ≤ lN b) = True := by rw [leL (by omega) hb]; exact eq_true h
theorem leL_f {a b : Nat} (h : b < a) (ha : a < 9223372036854775808) : (lN a ≤ lN b) = False := by rw [leL ha (by omega)]; exact eq_false (by omega)
theorem ltL_t {a b : Nat} (h : a < b) (hb : b < 9223372036854775808) : (lN a < lN b) = True := by rw [ltL (by omega) hb]; exact eq_true h
theorem ltL_f {a b : Nat} (h : b ≤ a) (ha : a < 9223372036854775808) : (lN a < lN b) = False := by rw [ltL ha (by omega)]; exact eq_false (by omega)
theorem eqL_t {a b : Nat} (h : a = b) : (lN a = lN b) = True := eq_true (congrArg lN h)
theorem eqL_f {a b : Nat} (h : ¬ a = b) (ha : a < 9223372036854775808) (hb : b < 9223372036854775808) : (lN a = lN b) = False := by rw [eqL ha hb]; exact eq_false h
theorem dnz {a : Nat} (h : 0 < a) (ha : a < 9223372036854775808) : decide (¬ lN a = lN 0) = true := decide_eq_true (by rw [eqL ha (by omega)]; omega)
/-! ===== Long.bitCount ===== -/
def cnt (f : Nat → Bool) : Nat → Nat
  | 0 => 0
  | n + 1 => cnt f n + (if f n = true then 1 else 0)
theorem cnt_le (f : Nat → Bool) (n : Nat) : cnt f n ≤ n := by
  induction n with
  | zero => exact Nat.le_refl 0
  | succ n ih => show cnt f n + (if f n = true then 1 else 0) ≤ n + 1; split <;> omega
theorem cnt_add (f : Nat → Bool) (m n : Nat) : cnt f (m + n) = cnt f m + cnt (fun b => f (m + b)) n := by
  induction n with
  | zero => rfl
  | succ n ih =>
    show cnt f (m + n) + (if f (m + n) = true then 1 else 0) = cnt f m + (cnt (fun b => f (m + b)) n + (if f (m + n) = true then 1 else 0))
    omega
theorem cnt_c {f g : Nat → Bool} {n : Nat} (h : ∀ b, b < n → f b = g b) : cnt f n = cnt g n := by
  induction n with
  | zero => rfl
  | succ n ih =>
    show cnt f n + (if f n = true then 1 else 0) = cnt g n + (if g n = true then 1 else 0)
    rw [ih (fun b hb => h b (by omega)), h n (by omega)]
theorem cnt_0 {f : Nat → Bool} {n : Nat} : cnt f n = 0 ↔ ∀ b, b < n → f b = false := by
  induction n with
  | zero => exact ⟨fun _ b hb => absurd hb (Nat.not_lt_zero b), fun _ => rfl⟩
  | succ n ih =>
    show cnt f n + (if f n = true then 1 else 0) = 0 ↔ _
    constructor
    · intro h b hb
      by_cases e : b = n
      · subst e
        cases hf : f b with
        | false => rfl
        | true => rw [hf, if_pos rfl] at h; omega
      · exact ih.mp (by omega) b (by omega)
    · intro h
      have h1 := ih.mpr (fun b hb => h b (by omega))
      have h2 := h n (by omega)
      rw [h1, h2]; rfl
def bA (p : Int64) : Int64 := p - ((xlushr p (1 : Int32)) &&& (6148914691236517205 : Int64))
def bB (a : Int64) : Int64 := (a &&& (3689348814741910323 : Int64)) + ((xlushr a (2 : Int32)) &&& (3689348814741910323 : Int64))
def bC (b : Int64) : Int64 := (b + xlushr b (4 : Int32)) &&& (1085102592571150095 : Int64)
def bD (c : Int64) : Int64 := c + xlushr c (8 : Int32)
def bE (c : Int64) : Int64 := c + xlushr c (16 : Int32)
def bG (c : Int64) : Int64 := c + xlushr c (32 : Int32)
theorem bc_eq (p : Int64) : f113_bitCount p = some ((bG (bE (bD (bC (bB (bA p)))))).toInt32 &&& (127 : Int32)) := rfl
theorem lN_ushr {x k : Nat} (hx : x < 2 ^ 64) (hk : k < 64) : xlushr (lN x) (nI k) = lN (x / 2 ^ k) := by
  apply Int64.toBitVec_inj.mp
  rw [l_ushr _ hk]
  apply BitVec.eq_of_toNat_eq
  rw [BitVec.toNat_ushiftRight]
  show (BitVec.ofNat 64 x).toNat >>> k = (BitVec.ofNat 64 (x / 2 ^ k)).toNat
  rw [BitVec.toNat_ofNat, BitVec.toNat_ofNat, Nat.mod_eq_of_lt hx, Nat.mod_eq_of_lt (Nat.lt_of_le_of_lt (Nat.div_le_self _ _) hx), Nat.shiftRight_eq_div_pow]
theorem lN_and (a b : Nat) : lN a &&& lN b = lN (a &&& b) := by
  apply Int64.toBitVec_inj.mp
  show BitVec.ofNat 64 a &&& BitVec.ofNat 64 b = BitVec.ofNat 64 (a &&& b)
  apply BitVec.eq_of_getLsbD_eq
  intro i hi
  simp [BitVec.getLsbD_and, BitVec.getLsbD_ofNat, hi, Nat.testBit_and]
theorem and_split {a b c e : Nat} (hb : b < 256) (he : e < 256) : (256 * a + b) &&& (256 * c + e) = 256 * (a &&& c) + (b &&& e) := by
  apply Nat.eq_of_testBit_eq
  intro i
  have h2 : b &&& e < 2 ^ 8 := Nat.lt_of_le_of_lt Nat.and_le_left (by omega)
  rw [Nat.testBit_and, show (256 : Nat) = 2 ^ 8 from rfl, Nat.testBit_two_pow_mul_add _ (by omega), Nat.testBit_two_pow_mul_add _ (by omega), Nat.testBit_two_pow_mul_add _ h2, Nat.testBit_and, Nat.testBit_and]
  by_cases hi : i < 8
  · simp [hi]
  · simp [hi]
def mk1 : Nat → Nat
  | 0 => 0
  | n + 1 => 256 * mk1 n + 85
def mk2 : Nat → Nat
  | 0 => 0
  | n + 1 => 256 * mk2 n + 51
def mk3 : Nat → Nat
  | 0 => 0
  | n + 1 => 256 * mk3 n + 15
def nA (n x : Nat) : Nat := x - ((x / 2) &&& mk1 n)
def nB (n a : Nat) : Nat := (a &&& mk2 n) + ((a / 4) &&& mk2 n)
def nC (n b : Nat) : Nat := (b + b / 16) &&& mk3 n
def a1 (d : Nat) : Nat := d - ((d / 2) &&& 85)
def b1 (d : Nat) : Nat := (d &&& 51) + ((d / 4) &&& 51)
def c1 (d : Nat) : Nat := (d + d / 16) % 16
theorem a_k : ∀ d, d < 256 → ∀ e, e < 2 → ((128 * e + d / 2) &&& 85) = ((d / 2) &&& 85) := fun d h e he => co_dec (N := 256) (P := fun d => ((128 * e + d / 2) &&& 85) = ((d / 2) &&& 85)) (by
  rcases (show e = 0 ∨ e = 1 by omega) with rfl | rfl <;> decide +kernel) h
theorem b_k : ∀ d, d < 256 → ∀ e, e < 4 → ((64 * e + d / 4) &&& 51) = ((d / 4) &&& 51) := fun d h e he => co_dec (N := 256) (P := fun d => ((64 * e + d / 4) &&& 51) = ((d / 4) &&& 51)) (by
  rcases (show e = 0 ∨ e = 1 ∨ e = 2 ∨ e = 3 by omega) with rfl | rfl | rfl | rfl <;> decide +kernel) h
theorem ab_k : ∀ d, d < 256 → a1 d < 256 ∧ b1 (a1 d) ≤ 68 ∧ b1 (a1 d) % 16 ≤ 4 ∧ c1 (b1 (a1 d)) = cnt (fun b => d.testBit b) 8 := fun d h => co_dec (N := 256) (P := fun d => a1 d < 256 ∧ b1 (a1 d) ≤ 68 ∧ b1 (a1 d) % 16 ≤ 4 ∧ c1 (b1 (a1 d)) = cnt (fun b => d.testBit b) 8) (by decide +kernel) h
theorem nA_s {n y d : Nat} (hd : d < 256) : nA (n + 1) (256 * y + d) = 256 * nA n y + a1 d := by
  unfold nA a1
  have e : (256 * y + d) / 2 = 256 * (y / 2) + (128 * (y % 2) + d / 2) := by omega
  show (256 * y + d) - (((256 * y + d) / 2) &&& (256 * mk1 n + 85)) = _
  rw [e, and_split (by omega) (by omega), a_k d hd (y % 2) (Nat.mod_lt _ (by omega))]
  have h1 : ((y / 2) &&& mk1 n) ≤ y / 2 := Nat.and_le_left
  have h2 : ((d / 2) &&& 85) ≤ d / 2 := Nat.and_le_left
  omega
theorem nB_s {n y d : Nat} (hd : d < 256) : nB (n + 1) (256 * y + d) = 256 * nB n y + b1 d := by
  unfold nB b1
  have e : (256 * y + d) / 4 = 256 * (y / 4) + (64 * (y % 4) + d / 4) := by omega
  show ((256 * y + d) &&& (256 * mk2 n + 51)) + (((256 * y + d) / 4) &&& (256 * mk2 n + 51)) = _
  rw [e, and_split (by omega) (by omega), and_split (by omega) (by omega), b_k d hd (y % 4) (Nat.mod_lt _ (by omega))]
  omega
theorem nC_s {n y d : Nat} (hd : d ≤ 68) (hy : y % 16 ≤ 4) : nC (n + 1) (256 * y + d) = 256 * nC n y + c1 d := by
  unfold nC c1
  have e : (256 * y + d) + (256 * y + d) / 16 = 256 * (y + y / 16) + (d + d / 16 + 16 * (y % 16)) := by omega
  show ((256 * y + d) + (256 * y + d) / 16) &&& (256 * mk3 n + 15) = _
  rw [e, and_split (by omega) (by omega)]
  have h : ∀ z, z &&& 15 = z % 16 := fun z => Nat.and_two_pow_sub_one_eq_mod z 4
  rw [h]
  omega
/-- the bits of x, byte by byte -/
def bys : Nat → Nat → Nat
  | 0, _ => 0
  | n + 1, x => 256 * bys n (x / 256) + cnt (fun b => (x % 256).testBit b) 8
theorem bys_ok (n : Nat) : ∀ x, x < 256 ^ n → nC n (nB n (nA n x)) = bys n x ∧ nB n (nA n x) % 16 ≤ 4 := by
  induction n with
  | zero =>
    intro x hx
    rw [Nat.pow_zero] at hx
    have : x = 0 := by omega
    subst this
    exact ⟨by decide, by decide⟩
  | succ n ih =>
    intro x hx
    rw [Nat.pow_succ] at hx
    obtain ⟨i1, i2⟩ := ih (x / 256) (by omega)
    have hd : x % 256 < 256 := Nat.mod_lt _ (by omega)
    obtain ⟨k1, k2, k3, k4⟩ := ab_k _ hd
    have e : x = 256 * (x / 256) + x % 256 := by omega
    have e2 : nB (n + 1) (nA (n + 1) x) = 256 * nB n (nA n (x / 256)) + b1 (a1 (x % 256)) := by
      rw [e, nA_s hd, nB_s k1]
      rw [show (256 * (x / 256) + x % 256) / 256 = x / 256 from by omega, show (256 * (x / 256) + x % 256) % 256 = x % 256 from by omega]
    refine ⟨?_, by rw [e2]; omega⟩
    rw [e2, nC_s k2 i2, i1, k4]
    rfl
theorem tb_byte (x b : Nat) : b < 8 → (x % 256).testBit b = x.testBit b := by
  intro hb
  rw [show (256 : Nat) = 2 ^ 8 from rfl, Nat.testBit_mod_two_pow]
  simp [hb]
theorem tb_rest (x b : Nat) : (x / 256).testBit b = x.testBit (8 + b) := by
  rw [show (256 : Nat) = 2 ^ 8 from rfl, Nat.testBit_div_two_pow, Nat.add_comm]
theorem bitCount_ok {h : Int64} {f : Nat → Bool} (H : hOk h f) : f113_bitCount h = some (nI (cnt f 40)) := by
  obtain ⟨x, hx, ex⟩ : ∃ x : Nat, x < 2 ^ 40 ∧ h = lN x := by
    refine ⟨h.toBitVec.toNat, lt_of_tb (fun j hj => ?_), ?_⟩
    · have hj2 : j < 64 := by
        by_cases e : j < 64
        · exact e
        · rw [BitVec.testBit_toNat, BitVec.getLsbD_of_ge _ _ (by omega)] at hj
          cases hj
      rw [BitVec.testBit_toNat, H j hj2] at hj
      simp at hj
      exact hj.1
    · apply Int64.toBitVec_inj.mp
      show h.toBitVec = BitVec.ofNat 64 h.toBitVec.toNat
      rw [BitVec.ofNat_toNat, BitVec.setWidth_eq]
  have hf : ∀ b, b < 40 → f b = x.testBit b := by
    intro b hb
    have h1 := H b (by omega)
    rw [decide_eq_true hb, Bool.true_and, ex] at h1
    rw [← h1]
    show (BitVec.ofNat 64 x).getLsbD b = _
    rw [BitVec.getLsbD_ofNat]
    simp [show b < 64 by omega]
  rw [cnt_c hf, bc_eq, ex]
  have hx8 : x < 256 ^ 8 := by
    have : (256 : Nat) ^ 8 = 18446744073709551616 := by decide
    omega
  have eA : bA (lN x) = lN (nA 8 x) := by
    unfold bA nA
    have h1 : ((x / 2) &&& mk1 8) ≤ x / 2 := Nat.and_le_left
    rw [show (1 : Int32) = nI 1 from rfl, lN_ushr (by omega) (by omega), show (6148914691236517205 : Int64) = lN (mk1 8) from by decide, lN_and, lN_sub]
    rw [Nat.pow_one]; omega
  have hA : nA 8 x < 2 ^ 64 := by unfold nA; omega
  have m2 : mk2 8 = 3689348814741910323 := by decide
  have eB : bB (lN (nA 8 x)) = lN (nB 8 (nA 8 x)) := by
    unfold bB nB
    rw [show (2 : Int32) = nI 2 from rfl, lN_ushr (by omega) (by omega), show (3689348814741910323 : Int64) = lN (mk2 8) from by decide, lN_and, lN_and, lN_add]
  have hB : nB 8 (nA 8 x) ≤ 7378697629483820646 := by
    unfold nB
    have h1 : (nA 8 x &&& mk2 8) ≤ mk2 8 := Nat.and_le_right
    have h2 : ((nA 8 x / 4) &&& mk2 8) ≤ mk2 8 := Nat.and_le_right
    omega
  have eC : bC (lN (nB 8 (nA 8 x))) = lN (nC 8 (nB 8 (nA 8 x))) := by
    unfold bC nC
    rw [show (4 : Int32) = nI 4 from rfl, lN_ushr (by omega) (by omega), show (1085102592571150095 : Int64) = lN (mk3 8) from by decide, lN_add, lN_and]
  rw [eA, eB, eC, (bys_ok 8 x hx8).1]
  have hcl : ∀ y, cnt (fun b => (y % 256).testBit b) 8 ≤ 8 := fun y => cnt_le _ 8
  have ec : ∀ (y n : Nat), cnt (fun b => y.testBit b) (8 + n) = cnt (fun b => (y % 256).testBit b) 8 + cnt (fun b => (y / 256).testBit b) n := by
    intro y n
    rw [cnt_add, cnt_c (f := fun b => y.testBit b) (g := fun b => (y % 256).testBit b) (fun b hb => (tb_byte y b hb).symm), cnt_c (n := n) (f := fun b => y.testBit (8 + b)) (g := fun b => (y / 256).testBit b) (fun b _ => (tb_rest y b).symm)]
  have e40 : cnt (fun b => x.testBit b) 40 = cnt (fun b => (x % 256).testBit b) 8 + (cnt (fun b => (x / 256 % 256).testBit b) 8 + (cnt (fun b => (x / 256 / 256 % 256).testBit b) 8 + (cnt (fun b => (x / 256 / 256 / 256 % 256).testBit b) 8 + cnt (fun b => (x / 256 / 256 / 256 / 256).testBit b) 8))) := by
    rw [show (40 : Nat) = 8 + (8 + (8 + (8 + 8))) from rfl, ec, ec, ec, ec]
  have z5 : x / 256 / 256 / 256 / 256 / 256 = 0 := by omega
  have eb : bys 8 x = 256 * (256 * (256 * (256 * cnt (fun b => (x / 256 / 256 / 256 / 256 % 256).testBit b) 8 + cnt (fun b => (x / 256 / 256 / 256 % 256).testBit b) 8) + cnt (fun b => (x / 256 / 256 % 256).testBit b) 8) + cnt (fun b => (x / 256 % 256).testBit b) 8) + cnt (fun b => (x % 256).testBit b) 8 := by
    have b3 : bys 3 0 = 0 := by decide
    have e1 : ∀ (n y : Nat), bys (n + 1) y = 256 * bys n (y / 256) + cnt (fun b => (y % 256).testBit b) 8 := fun n y => rfl
    rw [e1 7, e1 6, e1 5, e1 4, e1 3, z5, b3]
    omega
  have z4 : x / 256 / 256 / 256 / 256 % 256 = x / 256 / 256 / 256 / 256 := by omega
  rw [z4] at eb
  have c0 := hcl x
  have c1 := hcl (x / 256)
  have c2 := hcl (x / 256 / 256)
  have c3 := hcl (x / 256 / 256 / 256)
  have c4 : cnt (fun b => (x / 256 / 256 / 256 / 256).testBit b) 8 ≤ 8 := cnt_le _ 8
  rw [eb, e40]
  generalize cnt (fun b => (x % 256).testBit b) 8 = n0 at *
  generalize cnt (fun b => (x / 256 % 256).testBit b) 8 = n1 at *
  generalize cnt (fun b => (x / 256 / 256 % 256).testBit b) 8 = n2 at *
  generalize cnt (fun b => (x / 256 / 256 / 256 % 256).testBit b) 8 = n3 at *
  generalize cnt (fun b => (x / 256 / 256 / 256 / 256).testBit b) 8 = n4 at *
  clear eb e40 ec hcl eA eB eC hA hB hf H ex z5 z4 hx8
  unfold bD bE bG
  rw [show (8 : Int32) = nI 8 from rfl, show (16 : Int32) = nI 16 from rfl, show (32 : Int32) = nI 32 from rfl, lN_ushr (by omega) (by omega), lN_add, lN_ushr (by omega) (by omega), lN_add, lN_ushr (by omega) (by omega), lN_add, lN_i, pk_and _ 7 (by decide)]
  congr 2
  show (BitVec.ofNat 32 _).toNat % 2 ^ 7 = _
  rw [BitVec.toNat_ofNat]
  have d1 : (256 * (256 * (256 * (256 * n4 + n3) + n2) + n1) + n0) / 2 ^ 8 = 256 * (256 * (256 * n4 + n3) + n2) + n1 := by omega
  rw [d1]
  have d2 : (256 * (256 * (256 * (256 * n4 + n3) + n2) + n1) + n0 + (256 * (256 * (256 * n4 + n3) + n2) + n1)) / 2 ^ 16 = (n2 + n3) + 256 * (n3 + n4) + 65536 * n4 := by omega
  rw [d2]
  have d3 : (256 * (256 * (256 * (256 * n4 + n3) + n2) + n1) + n0 + (256 * (256 * (256 * n4 + n3) + n2) + n1) + ((n2 + n3) + 256 * (n3 + n4) + 65536 * n4)) / 2 ^ 32 = n4 := by omega
  rw [d3]
  have d4 : 256 * (256 * (256 * (256 * n4 + n3) + n2) + n1) + n0 + (256 * (256 * (256 * n4 + n3) + n2) + n1) + ((n2 + n3) + 256 * (n3 + n4) + 65536 * n4) + n4 = 4294967296 * n4 + (128 * (2 * (n1 + n2 + n3 + n4) + 512 * (n2 + n3 + n4) + 131072 * (n3 + n4)) + (n0 + n1 + n2 + n3 + n4)) := by omega
  rw [d4, show (2 : Nat) ^ 32 = 4294967296 from rfl, Nat.mul_add_mod]
  have d5 : 128 * (2 * (n1 + n2 + n3 + n4) + 512 * (n2 + n3 + n4) + 131072 * (n3 + n4)) + (n0 + n1 + n2 + n3 + n4) < 4294967296 := by omega
  rw [Nat.mod_eq_of_lt d5, show (2 : Nat) ^ 7 = 128 from rfl, Nat.mul_add_mod, Nat.mod_eq_of_lt (show n0 + n1 + n2 + n3 + n4 < 128 by omega)]
  omega
/-! ===== what the class's sheet, the clocks and the model have in common ===== -/
/-- the model with another code and other scratch -/
def mC (md : T6) (c : Int32) (g4 : Int32 × Int32 × Int32 × Int32 × Int32 × (Nat → Int32) × (Nat → Int32)) (g5 : (Nat → Int32) × Int32 × Int32 × Int32) : T6 := ((c, md.1.2), md.2.1, md.2.2.1, g4, g5)
def An {α : Type} (ra : Option α) (rb : α) (md md' : T6) : Prop :=
  (∃ g4 g5, md' = mC md (match ra with | none => nI 1 | some _ => nI 0) g4 g5) ∧ ∀ a, ra = some a → a = rb
theorem An.no {α : Type} {rb : α} {md : T6} {g4 : Int32 × Int32 × Int32 × Int32 × Int32 × (Nat → Int32) × (Nat → Int32)} {g5 : (Nat → Int32) × Int32 × Int32 × Int32} : An none rb md (mC md (nI 1) g4 g5) := ⟨⟨g4, g5, rfl⟩, fun a h => by cases h⟩
theorem An.yes {α : Type} {rb : α} {md : T6} {g4 : Int32 × Int32 × Int32 × Int32 × Int32 × (Nat → Int32) × (Nat → Int32)} {g5 : (Nat → Int32) × Int32 × Int32 × Int32} : An (some rb) rb md (mC md (nI 0) g4 g5) := ⟨⟨g4, g5, rfl⟩, fun a h => (Option.some.inj h).symm⟩
/-- rows: the class's -/
def RowC (sh : T3) (n : Nat) (so va : Nat → Nat) : Prop := n ≤ 40 ∧ sRc sh = nI n ∧ ∀ r, r < n → sSort sh r = nI (so r) ∧ so r < 10 ∧ sVal sh r = nI (va r) ∧ va r < 1000000
/-- rows: the model's -/
def RowM (md : T6) (n : Nat) (so va : Nat → Nat) : Prop := n ≤ 40 ∧ mRows md = nI n ∧ ∀ r, r < n → mSort md r = nI (so r) ∧ so r < 10 ∧ (5 ≤ so r → mOne md r = nI (va r)) ∧ (so r < 5 → va r = 0) ∧ va r < 1000000
def PtsM (md : T6) (n : Nat) (pl : Nat → Nat) (pc : Nat → Nat → Nat) : Prop := ∀ j, j < 3 * n → PtM md j (pl j) (pc j)
/-- the matches of pattern j -/
def mt (pl : Nat → Nat) (pc : Nat → Nat → Nat) (sz : Nat → Nat) (nm : Nat → Nat → Nat) (j x : Nat) : Bool := mtc (pc j) (pl j) (nm x) (sz x)
def HitC (sh : T3) (n : Nat) (pl : Nat → Nat) (pc : Nat → Nat → Nat) (sz : Nat → Nat) (nm : Nat → Nat → Nat) : Prop := ∀ j, j < 3 * n → hOk (sHit sh j) (mt pl pc sz nm j)
section Qs
variable {F n m : Nat} {so va pl sz : Nat → Nat} {pc nm : Nat → Nat → Nat} {sh : T3} {ck : T0} {md : T6} {tp : T4}
/-! row -/
theorem row_ok (HC : RowC sh n so va) (HM : RowM md n so va) (p1 p2 : Int32) : ∃ ra rb md', f5_row p1 p2 sh = some ra ∧ f6_row p1 p2 md = some (rb, md') ∧ An ra rb md md' := by
  obtain ⟨hn, e1, h1⟩ := HC
  obtain ⟨_, e2, h2⟩ := HM
  unfold f5_row f6_row
  have no : ∀ {x y : Prop}, x → y → x ∧ y ∧ An (none : Option Int32) (nI 0) md (mC md (nI 1) md.2.2.2.1 md.2.2.2.2) := fun a b => ⟨a, b, An.no⟩
  rcases int_cases p1 with hx | ⟨j, hj, rfl⟩
  · refine ⟨none, nI 0, mC md (nI 1) md.2.2.2.1 md.2.2.2.2, no ?_ ?_⟩
    · have := neg_lta hx (a := 1) (by omega)
      simp only [li, this, if_true]
    · have := neg_lta hx (a := 1) (by omega)
      simp (disch := omega) only [li, ↓lim1, bnd_s, jn_e, cas_el, cas_er, oc_n, oc_s, grd_in, grd_t, nI_add, pk_mul, sub_e, le_e, lt_e, eq_e, cl_e, m1_e, m1_e', m1_lt, m1_le, m1_eq, lt_m1, ↓reduceIte, not_true_eq_false, not_false_eq_true, decide_true, decide_false, Nat.add_zero, Nat.zero_add, if_pos, if_neg, this]
      rfl
  · by_cases hj1 : j < 1 ∨ n < j
    · refine ⟨none, nI 0, mC md (nI 1) md.2.2.2.1 md.2.2.2.2, no ?_ ?_⟩
      · by_cases h3 : j < 1
        · simp (disch := omega) only [li, ↓lim1, bnd_s, jn_e, cas_el, cas_er, oc_n, oc_s, grd_in, grd_t, nI_add, pk_mul, sub_e, le_e, lt_e, eq_e, cl_e, m1_e, m1_e', m1_lt, m1_le, m1_eq, lt_m1, ↓reduceIte, not_true_eq_false, not_false_eq_true, decide_true, decide_false, Nat.add_zero, Nat.zero_add, if_pos, if_neg, e1]
        · simp (disch := omega) only [li, ↓lim1, bnd_s, jn_e, cas_el, cas_er, oc_n, oc_s, grd_in, grd_t, nI_add, pk_mul, sub_e, le_e, lt_e, eq_e, cl_e, m1_e, m1_e', m1_lt, m1_le, m1_eq, lt_m1, ↓reduceIte, not_true_eq_false, not_false_eq_true, decide_true, decide_false, Nat.add_zero, Nat.zero_add, if_pos, if_neg, e1]
      · by_cases h3 : j < 1
        · simp (disch := omega) only [li, ↓lim1, bnd_s, jn_e, cas_el, cas_er, oc_n, oc_s, grd_in, grd_t, nI_add, pk_mul, sub_e, le_e, lt_e, eq_e, cl_e, m1_e, m1_e', m1_lt, m1_le, m1_eq, lt_m1, ↓reduceIte, not_true_eq_false, not_false_eq_true, decide_true, decide_false, Nat.add_zero, Nat.zero_add, if_pos, if_neg, e2]
          rfl
        · simp (disch := omega) only [li, ↓lim1, bnd_s, jn_e, cas_el, cas_er, oc_n, oc_s, grd_in, grd_t, nI_add, pk_mul, sub_e, le_e, lt_e, eq_e, cl_e, m1_e, m1_e', m1_lt, m1_le, m1_eq, lt_m1, ↓reduceIte, not_true_eq_false, not_false_eq_true, decide_true, decide_false, Nat.add_zero, Nat.zero_add, if_pos, if_neg, e2]
          rfl
    · obtain ⟨r, rfl⟩ : ∃ r, j = r + 1 := ⟨j - 1, by omega⟩
      obtain ⟨a1, a2, a3, a4⟩ := h1 r (by omega)
      obtain ⟨b1, b2, b3, b4, b5⟩ := h2 r (by omega)
      rcases int_cases p2 with hy | ⟨k, hk, rfl⟩
      · refine ⟨none, nI 0, mC md (nI 1) md.2.2.2.1 md.2.2.2.2, no ?_ ?_⟩
        · have := neg_lta hy (a := 0) (by omega)
          simp (disch := omega) only [li, ↓lim1, bnd_s, jn_e, cas_el, cas_er, oc_n, oc_s, grd_in, grd_t, nI_add, pk_mul, sub_e, le_e, lt_e, eq_e, cl_e, m1_e, m1_e', m1_lt, m1_le, m1_eq, lt_m1, ↓reduceIte, not_true_eq_false, not_false_eq_true, decide_true, decide_false, Nat.add_zero, Nat.zero_add, if_pos, if_neg, e1, this]
        · have := neg_lta hy (a := 0) (by omega)
          simp (disch := omega) only [li, ↓lim1, bnd_s, jn_e, cas_el, cas_er, oc_n, oc_s, grd_in, grd_t, nI_add, pk_mul, sub_e, le_e, lt_e, eq_e, cl_e, m1_e, m1_e', m1_lt, m1_le, m1_eq, lt_m1, ↓reduceIte, not_true_eq_false, not_false_eq_true, decide_true, decide_false, Nat.add_zero, Nat.zero_add, if_pos, if_neg, e2, this]
          rfl
      · by_cases hk1 : k ≤ 1
        · by_cases hk0 : k = 0
          · subst hk0
            refine ⟨some (nI (so r)), nI (so r), mC md (nI 0) md.2.2.2.1 md.2.2.2.2, ?_, ?_, An.yes⟩
            · simp (disch := omega) only [li, ↓lim1, bnd_s, jn_e, cas_el, cas_er, oc_n, oc_s, grd_in, grd_t, nI_add, pk_mul, sub_e, le_e, lt_e, eq_e, cl_e, m1_e, m1_e', m1_lt, m1_le, m1_eq, lt_m1, ↓reduceIte, not_true_eq_false, not_false_eq_true, decide_true, decide_false, Nat.add_zero, Nat.zero_add, if_pos, if_neg, e1, Nat.add_sub_cancel, a1]
            · simp (disch := omega) only [li, ↓lim1, bnd_s, jn_e, cas_el, cas_er, oc_n, oc_s, grd_in, grd_t, nI_add, pk_mul, sub_e, le_e, lt_e, eq_e, cl_e, m1_e, m1_e', m1_lt, m1_le, m1_eq, lt_m1, ↓reduceIte, not_true_eq_false, not_false_eq_true, decide_true, decide_false, Nat.add_zero, Nat.zero_add, if_pos, if_neg, e2, Nat.add_sub_cancel, b1]
              rfl
          · refine ⟨some (nI (va r)), nI (va r), mC md (nI 0) md.2.2.2.1 md.2.2.2.2, ?_, ?_, An.yes⟩
            · simp (disch := omega) only [li, ↓lim1, bnd_s, jn_e, cas_el, cas_er, oc_n, oc_s, grd_in, grd_t, nI_add, pk_mul, sub_e, le_e, lt_e, eq_e, cl_e, m1_e, m1_e', m1_lt, m1_le, m1_eq, lt_m1, ↓reduceIte, not_true_eq_false, not_false_eq_true, decide_true, decide_false, Nat.add_zero, Nat.zero_add, if_pos, if_neg, e1, Nat.add_sub_cancel, a3]
            · by_cases h5 : so r < 5
              · have := b4 h5
                simp (disch := omega) only [li, ↓lim1, bnd_s, jn_e, cas_el, cas_er, oc_n, oc_s, grd_in, grd_t, nI_add, pk_mul, sub_e, le_e, lt_e, eq_e, cl_e, m1_e, m1_e', m1_lt, m1_le, m1_eq, lt_m1, ↓reduceIte, not_true_eq_false, not_false_eq_true, decide_true, decide_false, Nat.add_zero, Nat.zero_add, if_pos, if_neg, e2, Nat.add_sub_cancel, b1, this]
                rfl
              · have := b3 (by omega)
                simp (disch := omega) only [li, ↓lim1, bnd_s, jn_e, cas_el, cas_er, oc_n, oc_s, grd_in, grd_t, nI_add, pk_mul, sub_e, le_e, lt_e, eq_e, cl_e, m1_e, m1_e', m1_lt, m1_le, m1_eq, lt_m1, ↓reduceIte, not_true_eq_false, not_false_eq_true, decide_true, decide_false, Nat.add_zero, Nat.zero_add, if_pos, if_neg, e2, Nat.add_sub_cancel, b1, this]
                rfl
        · refine ⟨none, nI 0, mC md (nI 1) md.2.2.2.1 md.2.2.2.2, no ?_ ?_⟩
          · simp (disch := omega) only [li, ↓lim1, bnd_s, jn_e, cas_el, cas_er, oc_n, oc_s, grd_in, grd_t, nI_add, pk_mul, sub_e, le_e, lt_e, eq_e, cl_e, m1_e, m1_e', m1_lt, m1_le, m1_eq, lt_m1, ↓reduceIte, not_true_eq_false, not_false_eq_true, decide_true, decide_false, Nat.add_zero, Nat.zero_add, if_pos, if_neg, e1]
          · simp (disch := omega) only [li, ↓lim1, bnd_s, jn_e, cas_el, cas_er, oc_n, oc_s, grd_in, grd_t, nI_add, pk_mul, sub_e, le_e, lt_e, eq_e, cl_e, m1_e, m1_e', m1_lt, m1_le, m1_eq, lt_m1, ↓reduceIte, not_true_eq_false, not_false_eq_true, decide_true, decide_false, Nat.add_zero, Nat.zero_add, if_pos, if_neg, e2]
            rfl
/-! pieces -/
theorem patternOf_n (hr : sRc sh = nI n) (hn : n ≤ 40) {r s : Nat} (h1 : r < n) (h2 : s < 3) : f3_patternOf (nI (r + 1)) (nI s) sh = some (nI (3 * r + s)) := by
  unfold f3_patternOf
  have e : r * 3 + s = 3 * r + s := by omega
  simp (disch := omega) only [li, ↓lim1, bnd_s, jn_e, cas_el, cas_er, oc_n, oc_s, grd_in, grd_t, nI_add, pk_mul, sub_e, le_e, lt_e, eq_e, cl_e, m1_e, m1_e', m1_lt, m1_le, m1_eq, lt_m1, ↓reduceIte, not_true_eq_false, not_false_eq_true, decide_true, decide_false, Nat.add_zero, Nat.zero_add, if_pos, if_neg, hr, Nat.add_sub_cancel, e]
theorem hitsOf_n (hr : sRc sh = nI n) (hn : n ≤ 40) {r s : Nat} (h1 : r < n) (h2 : s < 3) : f3_hitsOf (nI (r + 1)) (nI s) sh = some (sHit sh (3 * r + s)) := by
  unfold f3_hitsOf
  simp (disch := omega) only [li, ↓lim1, bnd_s, jn_e, cas_el, cas_er, oc_n, oc_s, grd_in, grd_t, nI_add, pk_mul, sub_e, le_e, lt_e, eq_e, cl_e, m1_e, m1_e', m1_lt, m1_le, m1_eq, lt_m1, ↓reduceIte, not_true_eq_false, not_false_eq_true, decide_true, decide_false, Nat.add_zero, Nat.zero_add, if_pos, if_neg, patternOf_n hr hn h1 h2]
theorem hasPattern_n (H : PtsC sh n pl pc) {r s : Nat} (h1 : r < n) (h2 : s < 3) : f3_hasPattern (nI (r + 1)) (nI s) sh = some (b2 (decide (0 < pl (3 * r + s)))) := by
  obtain ⟨hn, hr, hp⟩ := H
  have h3 := hp (3 * r + s) (by omega)
  have h4 := h3.2.2.1
  have h5 := h3.2.1
  unfold f3_hasPattern
  by_cases h0 : 0 < pl (3 * r + s)
  · simp (disch := omega) only [li, ↓lim1, bnd_s, jn_e, cas_el, cas_er, oc_n, oc_s, grd_in, grd_t, nI_add, pk_mul, sub_e, le_e, lt_e, eq_e, cl_e, m1_e, m1_e', m1_lt, m1_le, m1_eq, lt_m1, ↓reduceIte, not_true_eq_false, not_false_eq_true, decide_true, decide_false, Nat.add_zero, Nat.zero_add, if_pos, if_neg, patternOf_n hr hn h1 h2, h4, decide_eq_true h0, b2_t]
  · simp (disch := omega) only [li, ↓lim1, bnd_s, jn_e, cas_el, cas_er, oc_n, oc_s, grd_in, grd_t, nI_add, pk_mul, sub_e, le_e, lt_e, eq_e, cl_e, m1_e, m1_e', m1_lt, m1_le, m1_eq, lt_m1, ↓reduceIte, not_true_eq_false, not_false_eq_true, decide_true, decide_false, Nat.add_zero, Nat.zero_add, if_pos, if_neg, patternOf_n hr hn h1 h2, h4, decide_eq_false h0, b2_f]
theorem matches_n (H : PtsC sh n pl pc) (HH : HitC sh n pl pc sz nm) {r s x : Nat} (h1 : r < n) (h2 : s < 3) (hx : x < 40) : f3_matches (nI (r + 1)) (nI s) (nI x) sh = some (b2 (mt pl pc sz nm (3 * r + s) x)) := by
  obtain ⟨hn, hr, hp⟩ := H
  unfold f3_matches
  have hb := l_bit (sHit sh (3 * r + s)) (x := x) (by omega)
  have hh := HH (3 * r + s) (by omega) x (by omega)
  rw [decide_eq_true hx, Bool.true_and] at hh
  rw [hh] at hb
  have hb' : (lg_cmp ((xlushr (sHit sh (3 * r + s)) (nI x)) &&& (1 : Int64)) (1 : Int64) = nI 0) = (mt pl pc sz nm (3 * r + s) x = true) := hb
  simp (disch := omega) only [li, ↓lim1, bnd_s, jn_e, cas_el, cas_er, oc_n, oc_s, grd_in, grd_t, nI_add, pk_mul, sub_e, le_e, lt_e, eq_e, cl_e, m1_e, m1_e', m1_lt, m1_le, m1_eq, lt_m1, ↓reduceIte, not_true_eq_false, not_false_eq_true, decide_true, decide_false, Nat.add_zero, Nat.zero_add, if_pos, if_neg, hitsOf_n hr hn h1 h2, hb']
  cases mt pl pc sz nm (3 * r + s) x <;> rfl
end Qs
