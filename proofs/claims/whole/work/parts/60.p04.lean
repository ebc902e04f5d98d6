section Qs
variable {F n m : Nat} {so va pl sz : Nat → Nat} {pc nm : Nat → Nat → Nat} {sh : T3} {ck : T0} {md : T6} {tp : T4}
variable {c : Int32} {g4 : Int32 × Int32 × Int32 × Int32 × Int32 × (Nat → Int32) × (Nat → Int32)} {g5 : (Nat → Int32) × Int32 × Int32 × Int32}
/-! ===== unmatched ===== -/
theorem matched_ok (hF : 5000 < F) (hn : n ≤ 40) (HP : PtsM md n pl pc) (HN : PnM md sz nm) {r s : Nat} (hr : r < n) (hs : s < 3) : ∃ g5', f6_matched F (nI r) (nI s) (mC md c g4 g5) = some (nI (cnt (mt pl pc sz nm (3 * r + s)) 40), mC md c g4 g5') := by
  have key := iter_rule (b := f6_matched_L5 F (nI r) (nI s))
    (fun d st => ∃ (k : Nat) (g5 : (Nat → Int32) × Int32 × Int32 × Int32), d + k = 40 ∧ st = (nI (cnt (mt pl pc sz nm (3 * r + s)) k), nI k, mC md c g4 g5))
    (fun q => ∃ g5, q = (nI (cnt (mt pl pc sz nm (3 * r + s)) 40), mC md c g4 g5))
    (by
      rintro d st ⟨k, g5, hd, rfl⟩
      by_cases hk : 40 ≤ k
      · have : k = 40 := by omega
        subst this
        refine Or.inr ⟨_, ?_, g5, rfl⟩
        unfold f6_matched_L5
        simp (disch := omega) only [li, ↓lim1, bnd_s, jn_e, cas_el, cas_er, oc_n, oc_s, grd_in, grd_t, nI_add, pk_mul, sub_e, le_e, lt_e, eq_e, cl_e, m1_e, m1_e', m1_lt, m1_le, m1_eq, lt_m1, ↓reduceIte, not_true_eq_false, not_false_eq_true, decide_true, decide_false, Nat.add_zero, Nat.zero_add, if_pos, if_neg]
      · obtain ⟨g5', hm⟩ := mm_ok (c := c) (g4 := g4) (g5 := g5) hF hn HP HN hr hs (show k < 40 by omega)
        refine Or.inl ⟨_, d - 1, by omega, ?_, k + 1, g5', by omega, rfl⟩
        have e : cnt (mt pl pc sz nm (3 * r + s)) (k + 1) = cnt (mt pl pc sz nm (3 * r + s)) k + (if mt pl pc sz nm (3 * r + s) k = true then 1 else 0) := rfl
        have hl := cnt_le (mt pl pc sz nm (3 * r + s)) k
        unfold f6_matched_L5
        rw [e]
        simp (disch := omega) only [li, ↓lim1, bnd_s, jn_e, cas_el, cas_er, oc_n, oc_s, grd_in, grd_t, nI_add, pk_mul, sub_e, le_e, lt_e, eq_e, cl_e, m1_e, m1_e', m1_lt, m1_le, m1_eq, lt_m1, ↓reduceIte, not_true_eq_false, not_false_eq_true, decide_true, decide_false, Nat.add_zero, Nat.zero_add, if_pos, if_neg, hm, b2_0]
        cases mt pl pc sz nm (3 * r + s) k
        · simp only [if_true, Bool.false_eq_true, if_false, Nat.add_zero]
        · simp only [reduceCtorEq, if_true, if_false])
    F 40 (nI 0, nI 0, mC md c g4 g5) (by omega) ⟨0, g5, by omega, rfl⟩
  obtain ⟨q, hq, g5', rfl⟩ := key
  refine ⟨g5', ?_⟩
  unfold f6_matched
  simp only [li]
  rw [bnd_e hq]
def unu (pl sz : Nat → Nat) (pc nm : Nat → Nat → Nat) (j : Nat) : Bool := decide (0 < pl j) && decide (cnt (mt pl pc sz nm j) 40 = 0)
def idp (pl sz : Nat → Nat) (pc nm : Nat → Nat → Nat) (r : Nat) : Nat → Bool
  | 0 => false
  | j + 1 => idp pl sz pc nm r j || unu pl sz pc nm (3 * r + j)
theorem isUnm_ok (hF : 5000 < F) (hn : n ≤ 40) (HP : PtsM md n pl pc) (HN : PnM md sz nm) {r : Nat} (hr : r < n) : ∃ g5', f6_isUnmatched F (nI r) (mC md c g4 g5) = some (b2 (idp pl sz pc nm r 3), mC md c g4 g5') := by
  have key := iter_rule (b := f6_isUnmatched_L4 F (nI r))
    (fun d st => ∃ (k : Nat) (g5 : (Nat → Int32) × Int32 × Int32 × Int32), d + k = 3 ∧ st = (b2 (idp pl sz pc nm r k), nI k, mC md c g4 g5))
    (fun q => ∃ g5, q = (b2 (idp pl sz pc nm r 3), mC md c g4 g5))
    (by
      rintro d st ⟨k, g5, hd, rfl⟩
      by_cases hk : 3 ≤ k
      · have : k = 3 := by omega
        subst this
        refine Or.inr ⟨_, ?_, g5, rfl⟩
        unfold f6_isUnmatched_L4
        simp (disch := omega) only [li, ↓lim1, bnd_s, jn_e, cas_el, cas_er, oc_n, oc_s, grd_in, grd_t, nI_add, pk_mul, sub_e, le_e, lt_e, eq_e, cl_e, m1_e, m1_e', m1_lt, m1_le, m1_eq, lt_m1, ↓reduceIte, not_true_eq_false, not_false_eq_true, decide_true, decide_false, Nat.add_zero, Nat.zero_add, if_pos, if_neg]
      · have e : idp pl sz pc nm r (k + 1) = (idp pl sz pc nm r k || unu pl sz pc nm (3 * r + k)) := rfl
        have eu : unu pl sz pc nm (3 * r + k) = (decide (0 < pl (3 * r + k)) && decide (cnt (mt pl pc sz nm (3 * r + k)) 40 = 0)) := rfl
        have h1 := HP (3 * r + k) (by omega)
        have h2 : mPs (mC md c g4 g5) (3 * r + k) = nI (pl (3 * r + k)) := h1.2.1
        have h3 := h1.1
        cases hi : idp pl sz pc nm r k
        · by_cases h0 : pl (3 * r + k) ≤ 0
          · refine Or.inl ⟨_, d - 1, by omega, ?_, k + 1, g5, by omega, rfl⟩
            unfold f6_isUnmatched_L4
            rw [e, hi, eu, decide_eq_false (show ¬ 0 < pl (3 * r + k) by omega)]
            simp (disch := omega) only [li, ↓lim1, bnd_s, jn_e, cas_el, cas_er, oc_n, oc_s, grd_in, grd_t, nI_add, pk_mul, sub_e, le_e, lt_e, eq_e, cl_e, m1_e, m1_e', m1_lt, m1_le, m1_eq, lt_m1, ↓reduceIte, not_true_eq_false, not_false_eq_true, decide_true, decide_false, Nat.add_zero, Nat.zero_add, if_pos, if_neg, b2_f, h2]
            rfl
          · obtain ⟨g5', hm⟩ := matched_ok (c := c) (g4 := g4) (g5 := g5) hF hn HP HN hr (show k < 3 by omega)
            have hl := cnt_le (mt pl pc sz nm (3 * r + k)) 40
            refine Or.inl ⟨_, d - 1, by omega, ?_, k + 1, g5', by omega, rfl⟩
            unfold f6_isUnmatched_L4
            rw [e, hi, eu, decide_eq_true (show 0 < pl (3 * r + k) by omega)]
            by_cases hz : cnt (mt pl pc sz nm (3 * r + k)) 40 = 0
            · simp (disch := omega) only [li, ↓lim1, bnd_s, jn_e, cas_el, cas_er, oc_n, oc_s, grd_in, grd_t, nI_add, pk_mul, sub_e, le_e, lt_e, eq_e, cl_e, m1_e, m1_e', m1_lt, m1_le, m1_eq, lt_m1, ↓reduceIte, not_true_eq_false, not_false_eq_true, decide_true, decide_false, Nat.add_zero, Nat.zero_add, if_pos, if_neg, b2_f, h2, hm, hz]
              rfl
            · rw [decide_eq_false hz]
              simp (disch := omega) only [li, ↓lim1, bnd_s, jn_e, cas_el, cas_er, oc_n, oc_s, grd_in, grd_t, nI_add, pk_mul, sub_e, le_e, lt_e, eq_e, cl_e, m1_e, m1_e', m1_lt, m1_le, m1_eq, lt_m1, ↓reduceIte, not_true_eq_false, not_false_eq_true, decide_true, decide_false, Nat.add_zero, Nat.zero_add, if_pos, if_neg, b2_f, h2, hm]
              rfl
        · refine Or.inl ⟨_, d - 1, by omega, ?_, k + 1, g5, by omega, rfl⟩
          unfold f6_isUnmatched_L4
          rw [e, hi, Bool.true_or]
          simp (disch := omega) only [li, ↓lim1, bnd_s, jn_e, cas_el, cas_er, oc_n, oc_s, grd_in, grd_t, nI_add, pk_mul, sub_e, le_e, lt_e, eq_e, cl_e, m1_e, m1_e', m1_lt, m1_le, m1_eq, lt_m1, ↓reduceIte, not_true_eq_false, not_false_eq_true, decide_true, decide_false, Nat.add_zero, Nat.zero_add, if_pos, if_neg, b2_t])
    F 3 (nI 0, nI 0, mC md c g4 g5) (by omega) ⟨0, g5, by omega, rfl⟩
  obtain ⟨q, hq, g5', rfl⟩ := key
  refine ⟨g5', ?_⟩
  unfold f6_isUnmatched
  simp only [li]
  rw [bnd_e hq]
  simp only [isB_b, grd_t]
theorem isIdle_ok (hF : 5000 < F) (H : PtsC sh n pl pc) (HH : HitC sh n pl pc sz nm) {r : Nat} (hr : r < n) : f3_isIdle F (nI (r + 1)) sh = some (b2 (idp pl sz pc nm r 3)) := by
  obtain ⟨hn, e1, hp⟩ := id H
  have key := iter_rule (b := f3_isIdle_L2 (nI (r + 1)) sh)
    (fun d st => ∃ k : Nat, d + k = 3 ∧ st = nI k ∧ idp pl sz pc nm r k = false)
    (fun q => (q = .inl () ∧ idp pl sz pc nm r 3 = true) ∨ (q = .inr () ∧ idp pl sz pc nm r 3 = false))
    (by
      rintro d st ⟨k, hd, rfl, hi⟩
      by_cases hk : 3 ≤ k
      · have : k = 3 := by omega
        subst this
        refine Or.inr ⟨.inr (), ?_, Or.inr ⟨rfl, hi⟩⟩
        unfold f3_isIdle_L2
        simp (disch := omega) only [li, ↓lim1, bnd_s, jn_e, cas_el, cas_er, oc_n, oc_s, grd_in, grd_t, nI_add, pk_mul, sub_e, le_e, lt_e, eq_e, cl_e, m1_e, m1_e', m1_lt, m1_le, m1_eq, lt_m1, ↓reduceIte, not_true_eq_false, not_false_eq_true, decide_true, decide_false, Nat.add_zero, Nat.zero_add, if_pos, if_neg]
      · have e : idp pl sz pc nm r (k + 1) = (idp pl sz pc nm r k || unu pl sz pc nm (3 * r + k)) := rfl
        have eu : unu pl sz pc nm (3 * r + k) = (decide (0 < pl (3 * r + k)) && decide (cnt (mt pl pc sz nm (3 * r + k)) 40 = 0)) := rfl
        have hq := hasPattern_n H hr (show k < 3 by omega)
        by_cases h0 : 0 < pl (3 * r + k)
        · rw [decide_eq_true h0, b2_t] at hq
          have hz := hOk_0 (HH (3 * r + k) (by omega))
          have hz' : (lg_cmp (sHit sh (3 * r + k)) (0 : Int64) = nI 0) = (∀ b, b < 40 → mt pl pc sz nm (3 * r + k) b = false) := hz
          rw [← propext (cnt_0 (f := mt pl pc sz nm (3 * r + k)) (n := 40))] at hz'
          by_cases h4 : cnt (mt pl pc sz nm (3 * r + k)) 40 = 0
          · refine Or.inr ⟨.inl (), ?_, Or.inl ⟨rfl, ?_⟩⟩
            · unfold f3_isIdle_L2
              simp (disch := omega) only [li, ↓lim1, bnd_s, jn_e, cas_el, cas_er, oc_n, oc_s, grd_in, grd_t, nI_add, pk_mul, sub_e, le_e, lt_e, eq_e, cl_e, m1_e, m1_e', m1_lt, m1_le, m1_eq, lt_m1, ↓reduceIte, not_true_eq_false, not_false_eq_true, decide_true, decide_false, Nat.add_zero, Nat.zero_add, if_pos, if_neg, hq, hitsOf_n e1 hn hr (show k < 3 by omega), hz', h4]
            · have hk1 : idp pl sz pc nm r (k + 1) = true := by rw [e, eu, decide_eq_true h0, decide_eq_true h4]; simp
              have up : ∀ j, idp pl sz pc nm r (k + 1 + j) = true := by
                intro j
                induction j with
                | zero => exact hk1
                | succ j ih => show (idp pl sz pc nm r (k + 1 + j) || _) = true; rw [ih]; rfl
              have := up (2 - k)
              rwa [show k + 1 + (2 - k) = 3 by omega] at this
          · refine Or.inl ⟨nI (k + 1), d - 1, by omega, ?_, k + 1, by omega, rfl, ?_⟩
            · unfold f3_isIdle_L2
              simp (disch := omega) only [li, ↓lim1, bnd_s, jn_e, cas_el, cas_er, oc_n, oc_s, grd_in, grd_t, nI_add, pk_mul, sub_e, le_e, lt_e, eq_e, cl_e, m1_e, m1_e', m1_lt, m1_le, m1_eq, lt_m1, ↓reduceIte, not_true_eq_false, not_false_eq_true, decide_true, decide_false, Nat.add_zero, Nat.zero_add, if_pos, if_neg, hq, hitsOf_n e1 hn hr (show k < 3 by omega), hz', h4]
            · rw [e, hi, eu, decide_eq_false h4]; simp
        · rw [decide_eq_false h0, b2_f] at hq
          refine Or.inl ⟨nI (k + 1), d - 1, by omega, ?_, k + 1, by omega, rfl, ?_⟩
          · unfold f3_isIdle_L2
            simp (disch := omega) only [li, ↓lim1, bnd_s, jn_e, cas_el, cas_er, oc_n, oc_s, grd_in, grd_t, nI_add, pk_mul, sub_e, le_e, lt_e, eq_e, cl_e, m1_e, m1_e', m1_lt, m1_le, m1_eq, lt_m1, ↓reduceIte, not_true_eq_false, not_false_eq_true, decide_true, decide_false, Nat.add_zero, Nat.zero_add, if_pos, if_neg, hq]
          · rw [e, hi, eu, decide_eq_false h0]; simp)
    F 3 (nI 0) (by omega) ⟨0, by omega, rfl, rfl⟩
  obtain ⟨q, hq, h⟩ := key
  unfold f3_isIdle
  simp only [li]
  rw [bnd_e hq]
  rcases h with ⟨rfl, h⟩ | ⟨rfl, h⟩ <;> rw [h] <;> rfl
/-- the k-th place (from B on) at which f holds -/
def fnd (f : Nat → Bool) (B k : Nat) : Nat → Option Nat
  | 0 => none
  | i + 1 => match fnd f B k i with
    | some j => some j
    | none => if f i = true ∧ B + cnt f i = k then some i else none
theorem fnd_s {f : Nat → Bool} {B k i : Nat} (h : fnd f B k i = none) : fnd f B k (i + 1) = if f i = true ∧ B + cnt f i = k then some i else none := by
  show (match fnd f B k i with | some j => some j | none => if f i = true ∧ B + cnt f i = k then some i else none) = _
  rw [h]
theorem fnd_keep {f : Nat → Bool} {B k i j : Nat} (h : fnd f B k i = some j) (d : Nat) : fnd f B k (i + d) = some j := by
  induction d with
  | zero => exact h
  | succ d ih =>
    show (match fnd f B k (i + d) with | some j => some j | none => if f (i + d) = true ∧ B + cnt f (i + d) = k then some (i + d) else none) = _
    rw [ih]
theorem fnd_to {f : Nat → Bool} {B k i n : Nat} (h : fnd f B k i = none) (hf : f i = true) (hc : B + cnt f i = k) (hn : i < n) : fnd f B k n = some i := by
  have h1 : fnd f B k (i + 1) = some i := by rw [fnd_s h, if_pos ⟨hf, hc⟩]
  have := fnd_keep h1 (n - (i + 1))
  rwa [show i + 1 + (n - (i + 1)) = n by omega] at this
theorem fnd_lt {f : Nat → Bool} {B k i j : Nat} (h : fnd f B k i = some j) : j < i := by
  induction i with
  | zero => cases h
  | succ i ih =>
    cases hi : fnd f B k i with
    | none =>
      rw [fnd_s hi] at h
      split at h
      · cases h; omega
      · cases h
    | some q =>
      have := fnd_keep hi 1
      rw [this] at h
      cases h
      have := ih hi
      omega
def oI (o : Option Nat) : Int32 := match o with
  | none => im1
  | some i => nI (i + 1)
theorem idleRow_ok (hF : 5000 < F) (HC : RowC sh n so va) (H : PtsC sh n pl pc) (HH : HitC sh n pl pc sz nm) {k : Nat} (hk : k < 2147483648) : f3_idleRow F (nI k) sh = some (oI (fnd (fun r => idp pl sz pc nm r 3) 0 k n)) := by
  obtain ⟨hn, e1, h1⟩ := HC
  obtain ⟨f, hf⟩ : ∃ f : Nat → Bool, f = fun r => idp pl sz pc nm r 3 := ⟨_, rfl⟩
  rw [← hf]
  have key := iter_rule (b := f3_idleRow_L4 F (nI k) sh)
    (fun d st => ∃ r : Nat, d + r = n ∧ st = (nI (cnt f r), nI (r + 1)) ∧ fnd f 0 k r = none)
    (fun q => (q = .inr () ∧ fnd f 0 k n = none) ∨ ∃ r, q = .inl (nI (r + 1)) ∧ fnd f 0 k n = some r)
    (by
      rintro d st ⟨r, hd, rfl, hi⟩
      have hl := cnt_le f r
      by_cases hr : n ≤ r
      · have : r = n := by omega
        subst this
        refine Or.inr ⟨.inr (), ?_, Or.inl ⟨rfl, hi⟩⟩
        unfold f3_idleRow_L4
        simp (disch := omega) only [li, ↓lim1, bnd_s, jn_e, cas_el, cas_er, oc_n, oc_s, grd_in, grd_t, nI_add, pk_mul, sub_e, le_e, lt_e, eq_e, cl_e, m1_e, m1_e', m1_lt, m1_le, m1_eq, lt_m1, ↓reduceIte, not_true_eq_false, not_false_eq_true, decide_true, decide_false, Nat.add_zero, Nat.zero_add, if_pos, if_neg, e1]
      · have hq := isIdle_ok (r := r) hF H HH (by omega)
        have ef : idp pl sz pc nm r 3 = f r := by rw [hf]
        rw [ef] at hq
        have ec : cnt f (r + 1) = cnt f r + (if f r = true then 1 else 0) := rfl
        cases hb : f r
        · rw [hb, b2_f] at hq
          rw [hb] at ec
          refine Or.inl ⟨_, d - 1, by omega, ?_, r + 1, by omega, rfl, ?_⟩
          · unfold f3_idleRow_L4
            rw [ec]
            simp (disch := omega) only [li, ↓lim1, bnd_s, jn_e, cas_el, cas_er, oc_n, oc_s, grd_in, grd_t, nI_add, pk_mul, sub_e, le_e, lt_e, eq_e, cl_e, m1_e, m1_e', m1_lt, m1_le, m1_eq, lt_m1, ↓reduceIte, not_true_eq_false, not_false_eq_true, decide_true, decide_false, Nat.add_zero, Nat.zero_add, if_pos, if_neg, e1, hq, Bool.false_eq_true]
          · rw [fnd_s hi, hb]; simp
        · rw [hb, b2_t] at hq
          rw [hb] at ec
          by_cases hc : cnt f r = k
          · refine Or.inr ⟨.inl (nI (r + 1)), ?_, Or.inr ⟨r, rfl, fnd_to hi hb (by omega) (by omega)⟩⟩
            unfold f3_idleRow_L4
            simp (disch := omega) only [li, ↓lim1, bnd_s, jn_e, cas_el, cas_er, oc_n, oc_s, grd_in, grd_t, nI_add, pk_mul, sub_e, le_e, lt_e, eq_e, cl_e, m1_e, m1_e', m1_lt, m1_le, m1_eq, lt_m1, ↓reduceIte, not_true_eq_false, not_false_eq_true, decide_true, decide_false, Nat.add_zero, Nat.zero_add, if_pos, if_neg, e1, hq]
          · refine Or.inl ⟨_, d - 1, by omega, ?_, r + 1, by omega, rfl, ?_⟩
            · unfold f3_idleRow_L4
              rw [ec]
              simp (disch := omega) only [li, ↓lim1, bnd_s, jn_e, cas_el, cas_er, oc_n, oc_s, grd_in, grd_t, nI_add, pk_mul, sub_e, le_e, lt_e, eq_e, cl_e, m1_e, m1_e', m1_lt, m1_le, m1_eq, lt_m1, ↓reduceIte, not_true_eq_false, not_false_eq_true, decide_true, decide_false, Nat.add_zero, Nat.zero_add, if_pos, if_neg, e1, hq]
            · rw [fnd_s hi, if_neg (by omega)])
    F n (nI 0, nI 1) (by omega) ⟨0, by omega, rfl, rfl⟩
  obtain ⟨q, hq, h⟩ := key
  unfold f3_idleRow
  simp only [li]
  rw [bnd_e hq]
  rcases h with ⟨rfl, h⟩ | ⟨r, rfl, h⟩ <;> rw [h] <;> rfl
theorem munm_ok (hF : 5000 < F) (HM : RowM md n so va) (HP : PtsM md n pl pc) (HN : PnM md sz nm) {k : Nat} (hk : k < 2147483648) : ∃ q g5', iter (f6_unmatched_L17 F) F (nI k, nI 0, mC md (nI 0) g4 g5) = some q ∧ ((q = .inr (mC md (nI 0) g4 g5') ∧ fnd (fun r => idp pl sz pc nm r 3) 0 k n = none) ∨ ∃ r, q = .inl (nI r, mC md (nI 0) g4 g5') ∧ fnd (fun r => idp pl sz pc nm r 3) 0 k n = some r) := by
  obtain ⟨hn, e2, h2⟩ := HM
  obtain ⟨f, hf⟩ : ∃ f : Nat → Bool, f = fun r => idp pl sz pc nm r 3 := ⟨_, rfl⟩
  rw [← hf]
  have key := iter_rule (b := f6_unmatched_L17 F)
    (fun d st => ∃ (r : Nat) (g5 : (Nat → Int32) × Int32 × Int32 × Int32), d + r = n ∧ cnt f r ≤ k ∧ st = (nI (k - cnt f r), nI r, mC md (nI 0) g4 g5) ∧ fnd f 0 k r = none)
    (fun q => ∃ g5', (q = .inr (mC md (nI 0) g4 g5') ∧ fnd f 0 k n = none) ∨ ∃ r, q = .inl (nI r, mC md (nI 0) g4 g5') ∧ fnd f 0 k n = some r)
    (by
      rintro d st ⟨r, g5, hd, hck, rfl, hi⟩
      have e2' : mRows (mC md (nI 0) g4 g5) = nI n := e2
      have ecd : mCode (mC md (nI 0) g4 g5) = nI 0 := rfl
      have hl := cnt_le f r
      by_cases hr : n ≤ r
      · have : r = n := by omega
        subst this
        refine Or.inr ⟨.inr (mC md (nI 0) g4 g5), ?_, g5, Or.inl ⟨rfl, hi⟩⟩
        unfold f6_unmatched_L17
        simp (disch := omega) only [li, ↓lim1, bnd_s, jn_e, cas_el, cas_er, oc_n, oc_s, grd_in, grd_t, nI_add, pk_mul, sub_e, le_e, lt_e, eq_e, cl_e, m1_e, m1_e', m1_lt, m1_le, m1_eq, lt_m1, ↓reduceIte, not_true_eq_false, not_false_eq_true, decide_true, decide_false, Nat.add_zero, Nat.zero_add, if_pos, if_neg, e2']
      · obtain ⟨g5', hq⟩ := isUnm_ok (c := nI 0) (g4 := g4) (g5 := g5) (r := r) hF hn HP HN (by omega)
        have ef : idp pl sz pc nm r 3 = f r := by rw [hf]
        rw [ef] at hq
        have ec : cnt f (r + 1) = cnt f r + (if f r = true then 1 else 0) := rfl
        cases hb : f r
        · rw [hb, b2_f] at hq
          rw [hb] at ec
          simp only [Bool.false_eq_true, if_false, Nat.add_zero] at ec
          refine Or.inl ⟨_, d - 1, by omega, ?_, r + 1, g5', by omega, by omega, rfl, ?_⟩
          · unfold f6_unmatched_L17
            rw [ec]
            simp (disch := omega) only [li, ↓lim1, bnd_s, jn_e, cas_el, cas_er, oc_n, oc_s, grd_in, grd_t, nI_add, pk_mul, sub_e, le_e, lt_e, eq_e, cl_e, m1_e, m1_e', m1_lt, m1_le, m1_eq, lt_m1, ↓reduceIte, not_true_eq_false, not_false_eq_true, decide_true, decide_false, Nat.add_zero, Nat.zero_add, if_pos, if_neg, e2', ecd, hq]
          · rw [fnd_s hi, hb]; simp
        · rw [hb, b2_t] at hq
          rw [hb] at ec
          simp only [if_true] at ec
          by_cases hc : cnt f r = k
          · refine Or.inr ⟨.inl (nI r, mC md (nI 0) g4 g5'), ?_, g5', Or.inr ⟨r, rfl, fnd_to hi hb (by omega) (by omega)⟩⟩
            unfold f6_unmatched_L17
            simp (disch := omega) only [li, ↓lim1, bnd_s, jn_e, cas_el, cas_er, oc_n, oc_s, grd_in, grd_t, nI_add, pk_mul, sub_e, le_e, lt_e, eq_e, cl_e, m1_e, m1_e', m1_lt, m1_le, m1_eq, lt_m1, ↓reduceIte, not_true_eq_false, not_false_eq_true, decide_true, decide_false, Nat.add_zero, Nat.zero_add, if_pos, if_neg, e2', ecd, hq]
          · refine Or.inl ⟨_, d - 1, by omega, ?_, r + 1, g5', by omega, by omega, rfl, ?_⟩
            · have em : nI (k - cnt f r) + im1 = nI (k - (cnt f r + 1)) := by
                obtain ⟨w, hw⟩ : ∃ w, k - cnt f r = w + 1 := ⟨k - cnt f r - 1, by omega⟩
                rw [show k - (cnt f r + 1) = w by omega, hw]
                exact pk_m1 w
              unfold f6_unmatched_L17
              rw [ec]
              simp (disch := omega) only [li, ↓lim1, bnd_s, jn_e, cas_el, cas_er, oc_n, oc_s, grd_in, grd_t, nI_add, pk_mul, sub_e, le_e, lt_e, eq_e, cl_e, m1_e, m1_e', m1_lt, m1_le, m1_eq, lt_m1, ↓reduceIte, not_true_eq_false, not_false_eq_true, decide_true, decide_false, Nat.add_zero, Nat.zero_add, if_pos, if_neg, e2', ecd, hq, em]
            · rw [fnd_s hi, if_neg (by omega)])
    F n (nI k, nI 0, mC md (nI 0) g4 g5) (by omega) ⟨0, g5, by omega, by show 0 ≤ k; omega, rfl, rfl⟩
  obtain ⟨q, hq, g5', h⟩ := key
  exact ⟨q, g5', hq, h⟩
theorem unm_ok (hF : 5000 < F) (HC : RowC sh n so va) (HPC : PtsC sh n pl pc) (HH : HitC sh n pl pc sz nm) (HM : RowM md n so va) (HP : PtsM md n pl pc) (HN : PnM md sz nm) (p1 : Int32) : ∃ ra rb md', f5_unmatched F p1 sh = some ra ∧ f6_unmatched F p1 md = some (rb, md') ∧ An ra rb md md' := by
  have e0 : ∀ c : Int32, (((c, md.1.2.1, md.1.2.2.1, md.1.2.2.2.1, md.1.2.2.2.2), md.2.1, md.2.2.1, md.2.2.2.1, md.2.2.2.2) : T6) = mC md c md.2.2.2.1 md.2.2.2.2 := fun c => rfl
  have hn := HM.1
  have e2 := HM.2.1
  rcases int_cases p1 with hx | ⟨k, hk, rfl⟩
  · refine ⟨none, nI 0, mC md (nI 1) md.2.2.2.1 md.2.2.2.2, ?_, ?_, An.no⟩
    · have := neg_ge hx (a := 0) (by omega)
      unfold f5_unmatched
      simp (disch := omega) only [li, ↓lim1, bnd_s, jn_e, cas_el, cas_er, oc_n, oc_s, grd_in, grd_t, nI_add, pk_mul, sub_e, le_e, lt_e, eq_e, cl_e, m1_e, m1_e', m1_lt, m1_le, m1_eq, lt_m1, ↓reduceIte, not_true_eq_false, not_false_eq_true, decide_true, decide_false, Nat.add_zero, Nat.zero_add, if_pos, if_neg, this]
    · have := neg_ge hx (a := 0) (by omega)
      have e2' : mRows (mC md (nI 1) md.2.2.2.1 md.2.2.2.2) = nI n := e2
      have ecd : mCode (mC md (nI 1) md.2.2.2.1 md.2.2.2.2) = nI 1 := rfl
      have hs : iter (f6_unmatched_L17 F) F (p1, nI 0, mC md (nI 1) md.2.2.2.1 md.2.2.2.2) = some (.inr (mC md (nI 1) md.2.2.2.1 md.2.2.2.2)) := by
        obtain ⟨G, hG⟩ : ∃ f, F = f + 1 := ⟨F - 1, by omega⟩
        rw [hG]
        apply iter_stop
        unfold f6_unmatched_L17
        by_cases h : n ≤ 0
        · simp (disch := omega) only [li, ↓lim1, bnd_s, jn_e, cas_el, cas_er, oc_n, oc_s, grd_in, grd_t, nI_add, pk_mul, sub_e, le_e, lt_e, eq_e, cl_e, m1_e, m1_e', m1_lt, m1_le, m1_eq, lt_m1, ↓reduceIte, not_true_eq_false, not_false_eq_true, decide_true, decide_false, Nat.add_zero, Nat.zero_add, if_pos, if_neg, e2']
        · simp (disch := omega) only [li, ↓lim1, bnd_s, jn_e, cas_el, cas_er, oc_n, oc_s, grd_in, grd_t, nI_add, pk_mul, sub_e, le_e, lt_e, eq_e, cl_e, m1_e, m1_e', m1_lt, m1_le, m1_eq, lt_m1, ↓reduceIte, not_true_eq_false, not_false_eq_true, decide_true, decide_false, Nat.add_zero, Nat.zero_add, if_pos, if_neg, e2', ecd]
      unfold f6_unmatched
      simp (disch := omega) only [li, ↓lim1, bnd_s, jn_e, cas_el, cas_er, oc_n, oc_s, grd_in, grd_t, nI_add, pk_mul, sub_e, le_e, lt_e, eq_e, cl_e, m1_e, m1_e', m1_lt, m1_le, m1_eq, lt_m1, ↓reduceIte, not_true_eq_false, not_false_eq_true, decide_true, decide_false, Nat.add_zero, Nat.zero_add, if_pos, if_neg, this, e0, hs, ecd]
  · obtain ⟨q, g5', hq, h⟩ := munm_ok (g4 := md.2.2.2.1) (g5 := md.2.2.2.2) hF HM HP HN hk
    refine ⟨some (oI (fnd (fun r => idp pl sz pc nm r 3) 0 k n)), _, mC md (nI 0) md.2.2.2.1 g5', ?_, ?_, An.yes⟩
    · unfold f5_unmatched
      simp (disch := omega) only [li, ↓lim1, bnd_s, jn_e, cas_el, cas_er, oc_n, oc_s, grd_in, grd_t, nI_add, pk_mul, sub_e, le_e, lt_e, eq_e, cl_e, m1_e, m1_e', m1_lt, m1_le, m1_eq, lt_m1, ↓reduceIte, not_true_eq_false, not_false_eq_true, decide_true, decide_false, Nat.add_zero, Nat.zero_add, if_pos, if_neg, idleRow_ok hF HC HPC HH hk]
    · have ecd : mCode (mC md (nI 0) md.2.2.2.1 g5') = nI 0 := rfl
      unfold f6_unmatched
      rcases h with ⟨rfl, h⟩ | ⟨r, rfl, h⟩
      · rw [h]
        simp (disch := omega) only [li, ↓lim1, bnd_s, jn_e, cas_el, cas_er, oc_n, oc_s, grd_in, grd_t, nI_add, pk_mul, sub_e, le_e, lt_e, eq_e, cl_e, m1_e, m1_e', m1_lt, m1_le, m1_eq, lt_m1, ↓reduceIte, not_true_eq_false, not_false_eq_true, decide_true, decide_false, Nat.add_zero, Nat.zero_add, if_pos, if_neg, e0, hq, ecd]
        rfl
      · rw [h]
        simp (disch := omega) only [li, ↓lim1, bnd_s, jn_e, cas_el, cas_er, oc_n, oc_s, grd_in, grd_t, nI_add, pk_mul, sub_e, le_e, lt_e, eq_e, cl_e, m1_e, m1_e', m1_lt, m1_le, m1_eq, lt_m1, ↓reduceIte, not_true_eq_false, not_false_eq_true, decide_true, decide_false, Nat.add_zero, Nat.zero_add, if_pos, if_neg, e0, hq]
        rfl
end Qs
section Qs
variable {F n m : Nat} {so va pl sz : Nat → Nat} {pc nm : Nat → Nat → Nat} {sh : T3} {ck : T0} {md : T6} {tp : T4}
variable {c : Int32} {g4 : Int32 × Int32 × Int32 × Int32 × Int32 × (Nat → Int32) × (Nat → Int32)} {g5 : (Nat → Int32) × Int32 × Int32 × Int32}
/-! ===== clash ===== -/
def may (so va : Nat → Nat) (a b : Nat) : Bool := decide ((so a ≤ 2 ∧ so b ≤ 2) ∨ (8 ≤ so a ∧ so a = so b ∧ ¬ va a = va b))
def bth (pl sz : Nat → Nat) (pc nm : Nat → Nat → Nat) (a b x : Nat) : Bool := mt pl pc sz nm (3 * a) x && mt pl pc sz nm (3 * b) x
def cls (so va pl sz : Nat → Nat) (pc nm : Nat → Nat → Nat) (a b : Nat) : Bool := may so va a b && decide (¬ cnt (bth pl sz pc nm a b) 40 = 0)
theorem makes_n {q : Nat} (hq : q < 10) : f5_makesClock (nI q) = some (b2 (decide (q ≤ 2))) := by
  unfold f5_makesClock
  by_cases h : q ≤ 2
  · rw [decide_eq_true h]
    rcases (show q = 0 ∨ q = 1 ∨ q = 2 by omega) with e | e | e <;> subst e <;> decide
  · rw [decide_eq_false h]
    simp (disch := omega) only [li, ↓lim1, bnd_s, jn_e, cas_el, cas_er, oc_n, oc_s, grd_in, grd_t, nI_add, pk_mul, sub_e, le_e, lt_e, eq_e, cl_e, m1_e, m1_e', m1_lt, m1_le, m1_eq, lt_m1, ↓reduceIte, not_true_eq_false, not_false_eq_true, decide_true, decide_false, Nat.add_zero, Nat.zero_add, if_pos, if_neg]
    rfl
theorem haveClash_ok (HC : RowC sh n so va) (HP : PtsC sh n pl pc) (HH : HitC sh n pl pc sz nm) {a b : Nat} (ha : a < n) (hb : b < n) : f3_haveClash (nI (a + 1)) (nI (b + 1)) sh = some (b2 (cls so va pl sz pc nm a b)) := by
  obtain ⟨hn, e1, h1⟩ := HC
  obtain ⟨a1, a2, a3, a4⟩ := h1 a ha
  obtain ⟨b1, b2', b3, b4⟩ := h1 b hb
  have q0 : f3_hitsOf (nI (a + 1)) (nI 0) sh = some (sHit sh (3 * a)) := hitsOf_n e1 hn ha (by omega)
  have q1 : f3_hitsOf (nI (b + 1)) (nI 0) sh = some (sHit sh (3 * b)) := hitsOf_n e1 hn hb (by omega)
  have hz := hOk_0 (hOk_and (HH (3 * a) (by omega)) (HH (3 * b) (by omega)))
  have hz' : (lg_cmp (sHit sh (3 * a) &&& sHit sh (3 * b)) (0 : Int64) = nI 0) = (cnt (bth pl sz pc nm a b) 40 = 0) := by
    rw [propext (cnt_0 (f := bth pl sz pc nm a b) (n := 40))]
    exact hz
  have fin : (if cnt (bth pl sz pc nm a b) 40 = 0 then some (nI 0) else some (nI 1) : Option Int32) = some (b2 (decide (¬ cnt (bth pl sz pc nm a b) 40 = 0))) := by
    by_cases h : cnt (bth pl sz pc nm a b) 40 = 0
    · rw [if_pos h, decide_eq_false (fun h2 => h2 h)]; rfl
    · rw [if_neg h, decide_eq_true h]; rfl
  unfold f3_haveClash cls may
  by_cases c1 : so a ≤ 2
  · by_cases c2 : so b ≤ 2
    · rw [decide_eq_true (show ((so a ≤ 2 ∧ so b ≤ 2) ∨ (8 ≤ so a ∧ so a = so b ∧ ¬ va a = va b)) from Or.inl ⟨c1, c2⟩), Bool.true_and, ← fin]
      simp (disch := omega) only [li, ↓lim1, bnd_s, jn_e, cas_el, cas_er, oc_n, oc_s, grd_in, grd_t, nI_add, pk_mul, sub_e, le_e, lt_e, eq_e, cl_e, m1_e, m1_e', m1_lt, m1_le, m1_eq, lt_m1, ↓reduceIte, not_true_eq_false, not_false_eq_true, decide_true, decide_false, Nat.add_zero, Nat.zero_add, if_pos, if_neg, Nat.add_sub_cancel, a1, b1, makes_n a2, makes_n b2', decide_eq_true c1, decide_eq_true c2, b2_t, q0, q1, hz']
    · rw [decide_eq_false (show ¬ ((so a ≤ 2 ∧ so b ≤ 2) ∨ (8 ≤ so a ∧ so a = so b ∧ ¬ va a = va b)) by omega), Bool.false_and]
      simp (disch := omega) only [li, ↓lim1, bnd_s, jn_e, cas_el, cas_er, oc_n, oc_s, grd_in, grd_t, nI_add, pk_mul, sub_e, le_e, lt_e, eq_e, cl_e, m1_e, m1_e', m1_lt, m1_le, m1_eq, lt_m1, ↓reduceIte, not_true_eq_false, not_false_eq_true, decide_true, decide_false, Nat.add_zero, Nat.zero_add, if_pos, if_neg, Nat.add_sub_cancel, a1, b1, makes_n a2, makes_n b2', decide_eq_true c1, decide_eq_false c2, b2_t, b2_f]
  · by_cases c3 : 8 ≤ so a
    · by_cases c4 : so a = so b
      · by_cases c5 : va a = va b
        · rw [decide_eq_false (show ¬ ((so a ≤ 2 ∧ so b ≤ 2) ∨ (8 ≤ so a ∧ so a = so b ∧ ¬ va a = va b)) by omega), Bool.false_and]
          by_cases c6 : so a = 8
          · simp (disch := omega) only [li, ↓lim1, bnd_s, jn_e, cas_el, cas_er, oc_n, oc_s, grd_in, grd_t, nI_add, pk_mul, sub_e, le_e, lt_e, eq_e, cl_e, m1_e, m1_e', m1_lt, m1_le, m1_eq, lt_m1, ↓reduceIte, not_true_eq_false, not_false_eq_true, decide_true, decide_false, Nat.add_zero, Nat.zero_add, if_pos, if_neg, Nat.add_sub_cancel, a1, b1, a3, b3, makes_n a2, decide_eq_false c1, b2_f]
          · simp (disch := omega) only [li, ↓lim1, bnd_s, jn_e, cas_el, cas_er, oc_n, oc_s, grd_in, grd_t, nI_add, pk_mul, sub_e, le_e, lt_e, eq_e, cl_e, m1_e, m1_e', m1_lt, m1_le, m1_eq, lt_m1, ↓reduceIte, not_true_eq_false, not_false_eq_true, decide_true, decide_false, Nat.add_zero, Nat.zero_add, if_pos, if_neg, Nat.add_sub_cancel, a1, b1, a3, b3, makes_n a2, decide_eq_false c1, b2_f]
        · rw [decide_eq_true (show ((so a ≤ 2 ∧ so b ≤ 2) ∨ (8 ≤ so a ∧ so a = so b ∧ ¬ va a = va b)) by omega), Bool.true_and, ← fin]
          by_cases c6 : so a = 8
          · simp (disch := omega) only [li, ↓lim1, bnd_s, jn_e, cas_el, cas_er, oc_n, oc_s, grd_in, grd_t, nI_add, pk_mul, sub_e, le_e, lt_e, eq_e, cl_e, m1_e, m1_e', m1_lt, m1_le, m1_eq, lt_m1, ↓reduceIte, not_true_eq_false, not_false_eq_true, decide_true, decide_false, Nat.add_zero, Nat.zero_add, if_pos, if_neg, Nat.add_sub_cancel, a1, b1, a3, b3, makes_n a2, decide_eq_false c1, b2_f, q0, q1, hz']
          · simp (disch := omega) only [li, ↓lim1, bnd_s, jn_e, cas_el, cas_er, oc_n, oc_s, grd_in, grd_t, nI_add, pk_mul, sub_e, le_e, lt_e, eq_e, cl_e, m1_e, m1_e', m1_lt, m1_le, m1_eq, lt_m1, ↓reduceIte, not_true_eq_false, not_false_eq_true, decide_true, decide_false, Nat.add_zero, Nat.zero_add, if_pos, if_neg, Nat.add_sub_cancel, a1, b1, a3, b3, makes_n a2, decide_eq_false c1, b2_f, q0, q1, hz']
      · rw [decide_eq_false (show ¬ ((so a ≤ 2 ∧ so b ≤ 2) ∨ (8 ≤ so a ∧ so a = so b ∧ ¬ va a = va b)) by omega), Bool.false_and]
        by_cases c6 : so a = 8
        · simp (disch := omega) only [li, ↓lim1, bnd_s, jn_e, cas_el, cas_er, oc_n, oc_s, grd_in, grd_t, nI_add, pk_mul, sub_e, le_e, lt_e, eq_e, cl_e, m1_e, m1_e', m1_lt, m1_le, m1_eq, lt_m1, ↓reduceIte, not_true_eq_false, not_false_eq_true, decide_true, decide_false, Nat.add_zero, Nat.zero_add, if_pos, if_neg, Nat.add_sub_cancel, a1, b1, makes_n a2, decide_eq_false c1, b2_f]
        · simp (disch := omega) only [li, ↓lim1, bnd_s, jn_e, cas_el, cas_er, oc_n, oc_s, grd_in, grd_t, nI_add, pk_mul, sub_e, le_e, lt_e, eq_e, cl_e, m1_e, m1_e', m1_lt, m1_le, m1_eq, lt_m1, ↓reduceIte, not_true_eq_false, not_false_eq_true, decide_true, decide_false, Nat.add_zero, Nat.zero_add, if_pos, if_neg, Nat.add_sub_cancel, a1, b1, makes_n a2, decide_eq_false c1, b2_f]
    · rw [decide_eq_false (show ¬ ((so a ≤ 2 ∧ so b ≤ 2) ∨ (8 ≤ so a ∧ so a = so b ∧ ¬ va a = va b)) by omega), Bool.false_and]
      simp (disch := omega) only [li, ↓lim1, bnd_s, jn_e, cas_el, cas_er, oc_n, oc_s, grd_in, grd_t, nI_add, pk_mul, sub_e, le_e, lt_e, eq_e, cl_e, m1_e, m1_e', m1_lt, m1_le, m1_eq, lt_m1, ↓reduceIte, not_true_eq_false, not_false_eq_true, decide_true, decide_false, Nat.add_zero, Nat.zero_add, if_pos, if_neg, Nat.add_sub_cancel, a1, b1, makes_n a2, decide_eq_false c1, b2_f]
theorem areClash_ok (hF : 5000 < F) (HM : RowM md n so va) (HP : PtsM md n pl pc) (HN : PnM md sz nm) {a b : Nat} (ha : a < n) (hb : b < n) : ∃ g5', f6_areClashing F (nI a) (nI b) (mC md c g4 g5) = some (b2 (cls so va pl sz pc nm a b), mC md c g4 g5') := by
  obtain ⟨hn, e2, h2⟩ := id HM
  obtain ⟨a1, a2, a3, a4, a5⟩ := h2 a ha
  obtain ⟨b1, b2', b3, b4, b5⟩ := h2 b hb
  have a1' : mSort (mC md c g4 g5) a = nI (so a) := a1
  have b1' : mSort (mC md c g4 g5) b = nI (so b) := b1
  have a3' : 8 ≤ so a → mOne (mC md c g4 g5) a = nI (va a) := fun h => a3 (by omega)
  have b3' : 8 ≤ so b → mOne (mC md c g4 g5) b = nI (va b) := fun h => b3 (by omega)
  have loop : ∀ v : Bool, ∃ g5', iter (f6_areClashing_L73 F (nI a) (nI b) (b2 v)) F (nI 0, nI 0, mC md c g4 g5) = some (b2 (v && decide (¬ cnt (bth pl sz pc nm a b) 40 = 0)), mC md c g4 g5') := by
    intro v
    cases v with
    | false =>
      refine ⟨g5, ?_⟩
      obtain ⟨G, hG⟩ : ∃ f, F = f + 1 := ⟨F - 1, by omega⟩
      rw [hG]
      apply iter_stop
      unfold f6_areClashing_L73
      simp (disch := omega) only [li, ↓lim1, bnd_s, jn_e, cas_el, cas_er, oc_n, oc_s, grd_in, grd_t, nI_add, pk_mul, sub_e, le_e, lt_e, eq_e, cl_e, m1_e, m1_e', m1_lt, m1_le, m1_eq, lt_m1, ↓reduceIte, not_true_eq_false, not_false_eq_true, decide_true, decide_false, Nat.add_zero, Nat.zero_add, if_pos, if_neg, b2_f]
      rfl
    | true =>
      have key := iter_rule (b := f6_areClashing_L73 F (nI a) (nI b) (b2 true))
        (fun d st => ∃ (k : Nat) (g5 : (Nat → Int32) × Int32 × Int32 × Int32), d + k = 40 ∧ st = (b2 (decide (¬ cnt (bth pl sz pc nm a b) k = 0)), nI k, mC md c g4 g5))
        (fun q => ∃ g5, q = (b2 (decide (¬ cnt (bth pl sz pc nm a b) 40 = 0)), mC md c g4 g5))
        (by
          rintro d st ⟨k, g5, hd, rfl⟩
          by_cases hk : 40 ≤ k
          · have : k = 40 := by omega
            subst this
            refine Or.inr ⟨_, ?_, g5, rfl⟩
            unfold f6_areClashing_L73
            simp (disch := omega) only [li, ↓lim1, bnd_s, jn_e, cas_el, cas_er, oc_n, oc_s, grd_in, grd_t, nI_add, pk_mul, sub_e, le_e, lt_e, eq_e, cl_e, m1_e, m1_e', m1_lt, m1_le, m1_eq, lt_m1, ↓reduceIte, not_true_eq_false, not_false_eq_true, decide_true, decide_false, Nat.add_zero, Nat.zero_add, if_pos, if_neg, b2_t]
          · have ec : cnt (bth pl sz pc nm a b) (k + 1) = cnt (bth pl sz pc nm a b) k + (if bth pl sz pc nm a b k = true then 1 else 0) := rfl
            have eb : bth pl sz pc nm a b k = (mt pl pc sz nm (3 * a) k && mt pl pc sz nm (3 * b) k) := rfl
            by_cases hz : cnt (bth pl sz pc nm a b) k = 0
            · obtain ⟨ga, qa⟩ := mm_ok (s := 0) (c := c) (g4 := g4) (g5 := g5) hF hn HP HN ha (by omega) (show k < 40 by omega)
              obtain ⟨gb, qb⟩ := mm_ok (s := 0) (c := c) (g4 := g4) (g5 := ga) hF hn HP HN hb (by omega) (show k < 40 by omega)
              rw [show 3 * a + 0 = 3 * a from rfl] at qa
              rw [show 3 * b + 0 = 3 * b from rfl] at qb
              cases ma : mt pl pc sz nm (3 * a) k
              · rw [ma, b2_f] at qa
                refine Or.inl ⟨_, d - 1, by omega, ?_, k + 1, ga, by omega, rfl⟩
                rw [eb, ma] at ec
                simp only [Bool.false_and, Bool.false_eq_true, if_false, Nat.add_zero] at ec
                unfold f6_areClashing_L73
                rw [ec, decide_eq_false (fun h => h hz)]
                simp (disch := omega) only [li, ↓lim1, bnd_s, jn_e, cas_el, cas_er, oc_n, oc_s, grd_in, grd_t, nI_add, pk_mul, sub_e, le_e, lt_e, eq_e, cl_e, m1_e, m1_e', m1_lt, m1_le, m1_eq, lt_m1, ↓reduceIte, not_true_eq_false, not_false_eq_true, decide_true, decide_false, Nat.add_zero, Nat.zero_add, if_pos, if_neg, b2_t, b2_f, qa]
              · rw [ma, b2_t] at qa
                cases mb : mt pl pc sz nm (3 * b) k
                · rw [mb, b2_f] at qb
                  refine Or.inl ⟨_, d - 1, by omega, ?_, k + 1, gb, by omega, rfl⟩
                  rw [eb, ma, mb] at ec
                  simp only [Bool.and_false, Bool.false_eq_true, if_false, Nat.add_zero] at ec
                  unfold f6_areClashing_L73
                  rw [ec, decide_eq_false (fun h => h hz)]
                  simp (disch := omega) only [li, ↓lim1, bnd_s, jn_e, cas_el, cas_er, oc_n, oc_s, grd_in, grd_t, nI_add, pk_mul, sub_e, le_e, lt_e, eq_e, cl_e, m1_e, m1_e', m1_lt, m1_le, m1_eq, lt_m1, ↓reduceIte, not_true_eq_false, not_false_eq_true, decide_true, decide_false, Nat.add_zero, Nat.zero_add, if_pos, if_neg, b2_t, b2_f, qa, qb]
                · rw [mb, b2_t] at qb
                  refine Or.inl ⟨_, d - 1, by omega, ?_, k + 1, gb, by omega, rfl⟩
                  rw [eb, ma, mb] at ec
                  simp only [Bool.and_true, if_true] at ec
                  unfold f6_areClashing_L73
                  rw [decide_eq_false (fun h => h hz), decide_eq_true (show ¬ cnt (bth pl sz pc nm a b) (k + 1) = 0 by omega)]
                  simp (disch := omega) only [li, ↓lim1, bnd_s, jn_e, cas_el, cas_er, oc_n, oc_s, grd_in, grd_t, nI_add, pk_mul, sub_e, le_e, lt_e, eq_e, cl_e, m1_e, m1_e', m1_lt, m1_le, m1_eq, lt_m1, ↓reduceIte, not_true_eq_false, not_false_eq_true, decide_true, decide_false, Nat.add_zero, Nat.zero_add, if_pos, if_neg, b2_t, b2_f, qa, qb]
            · refine Or.inl ⟨_, d - 1, by omega, ?_, k + 1, g5, by omega, rfl⟩
              unfold f6_areClashing_L73
              rw [decide_eq_true hz, decide_eq_true (show ¬ cnt (bth pl sz pc nm a b) (k + 1) = 0 by omega)]
              simp (disch := omega) only [li, ↓lim1, bnd_s, jn_e, cas_el, cas_er, oc_n, oc_s, grd_in, grd_t, nI_add, pk_mul, sub_e, le_e, lt_e, eq_e, cl_e, m1_e, m1_e', m1_lt, m1_le, m1_eq, lt_m1, ↓reduceIte, not_true_eq_false, not_false_eq_true, decide_true, decide_false, Nat.add_zero, Nat.zero_add, if_pos, if_neg, b2_t])
        F 40 (nI 0, nI 0, mC md c g4 g5) (by omega) ⟨0, g5, by omega, rfl⟩
      obtain ⟨q, hq, g5', rfl⟩ := key
      exact ⟨g5', hq⟩
  unfold f6_areClashing cls
  obtain ⟨g5', hl⟩ := loop (may so va a b)
  refine ⟨g5', ?_⟩
  have stp : ∀ v : Bool, v = may so va a b → (bnd (iter (f6_areClashing_L73 F (nI a) (nI b) (b2 v)) F (nI 0, nI 0, mC md c g4 g5)) (fun (x124 : Int32 × T6) => grd (isB x124.1) (some (x124.1, x124.2)))) = some (b2 (may so va a b && decide (¬ cnt (bth pl sz pc nm a b) 40 = 0)), mC md c g4 g5') := by
    intro v hv
    rw [hv, bnd_e hl]
    simp only [isB_b, grd_t]
  by_cases c1 : so a ≤ 2 ∧ so b ≤ 2
  · rw [← stp true (by unfold may; exact (decide_eq_true (Or.inl c1)).symm)]
    simp (disch := omega) only [li, ↓lim1, bnd_s, jn_e, cas_el, cas_er, oc_n, oc_s, grd_in, grd_t, nI_add, pk_mul, sub_e, le_e, lt_e, eq_e, cl_e, m1_e, m1_e', m1_lt, m1_le, m1_eq, lt_m1, ↓reduceIte, not_true_eq_false, not_false_eq_true, decide_true, decide_false, Nat.add_zero, Nat.zero_add, if_pos, if_neg, a1', b1', b2_t]
  · by_cases c3 : 8 ≤ so a
    · by_cases c4 : so a = so b
      · have a6 := a3' c3
        have b6 := b3' (by omega)
        by_cases c5 : va a = va b
        · rw [← stp false (by unfold may; exact (decide_eq_false (by omega)).symm)]
          simp (disch := omega) only [li, ↓lim1, bnd_s, jn_e, cas_el, cas_er, oc_n, oc_s, grd_in, grd_t, nI_add, pk_mul, sub_e, le_e, lt_e, eq_e, cl_e, m1_e, m1_e', m1_lt, m1_le, m1_eq, lt_m1, ↓reduceIte, not_true_eq_false, not_false_eq_true, decide_true, decide_false, Nat.add_zero, Nat.zero_add, if_pos, if_neg, a1', b1', a6, b6, b2_f]
        · rw [← stp true (by unfold may; exact (decide_eq_true (by omega)).symm)]
          simp (disch := omega) only [li, ↓lim1, bnd_s, jn_e, cas_el, cas_er, oc_n, oc_s, grd_in, grd_t, nI_add, pk_mul, sub_e, le_e, lt_e, eq_e, cl_e, m1_e, m1_e', m1_lt, m1_le, m1_eq, lt_m1, ↓reduceIte, not_true_eq_false, not_false_eq_true, decide_true, decide_false, Nat.add_zero, Nat.zero_add, if_pos, if_neg, a1', b1', a6, b6, b2_t]
      · rw [← stp false (by unfold may; exact (decide_eq_false (by omega)).symm)]
        simp (disch := omega) only [li, ↓lim1, bnd_s, jn_e, cas_el, cas_er, oc_n, oc_s, grd_in, grd_t, nI_add, pk_mul, sub_e, le_e, lt_e, eq_e, cl_e, m1_e, m1_e', m1_lt, m1_le, m1_eq, lt_m1, ↓reduceIte, not_true_eq_false, not_false_eq_true, decide_true, decide_false, Nat.add_zero, Nat.zero_add, if_pos, if_neg, a1', b1', b2_f]
    · rw [← stp false (by unfold may; exact (decide_eq_false (by omega)).symm)]
      by_cases c6 : so a ≤ 2
      · simp (disch := omega) only [li, ↓lim1, bnd_s, jn_e, cas_el, cas_er, oc_n, oc_s, grd_in, grd_t, nI_add, pk_mul, sub_e, le_e, lt_e, eq_e, cl_e, m1_e, m1_e', m1_lt, m1_le, m1_eq, lt_m1, ↓reduceIte, not_true_eq_false, not_false_eq_true, decide_true, decide_false, Nat.add_zero, Nat.zero_add, if_pos, if_neg, a1', b1', b2_f]
      · simp (disch := omega) only [li, ↓lim1, bnd_s, jn_e, cas_el, cas_er, oc_n, oc_s, grd_in, grd_t, nI_add, pk_mul, sub_e, le_e, lt_e, eq_e, cl_e, m1_e, m1_e', m1_lt, m1_le, m1_eq, lt_m1, ↓reduceIte, not_true_eq_false, not_false_eq_true, decide_true, decide_false, Nat.add_zero, Nat.zero_add, if_pos, if_neg, a1', b1', b2_f]
/-- pairs in their order -/
def prs (f : Nat → Nat → Bool) (a b : Nat) : Bool := decide (a < b) && f a b
def bsm (f : Nat → Nat → Bool) (n : Nat) : Nat → Nat
  | 0 => 0
  | a + 1 => bsm f n a + cnt (prs f a) n
def fo (f : Nat → Nat → Bool) (n k : Nat) : Nat → Option (Nat × Nat)
  | 0 => none
  | a + 1 => match fo f n k a with
    | some p => some p
    | none => match fnd (prs f a) (bsm f n a) k n with
      | none => none
      | some b => some (a, b)
theorem bsm_le (f : Nat → Nat → Bool) (n a : Nat) : bsm f n a ≤ a * n := by
  induction a with
  | zero => exact Nat.zero_le _
  | succ a ih =>
    have := cnt_le (prs f a) n
    show bsm f n a + cnt (prs f a) n ≤ (a + 1) * n
    rw [Nat.succ_mul]
    omega
theorem fo_keep {f : Nat → Nat → Bool} {n k a : Nat} {p : Nat × Nat} (h : fo f n k a = some p) (d : Nat) : fo f n k (a + d) = some p := by
  induction d with
  | zero => exact h
  | succ d ih =>
    show (match fo f n k (a + d) with | some p => some p | none => match fnd (prs f (a + d)) (bsm f n (a + d)) k n with | none => none | some b => some (a + d, b)) = _
    rw [ih]
theorem fo_s {f : Nat → Nat → Bool} {n k a : Nat} (h : fo f n k a = none) : fo f n k (a + 1) = match fnd (prs f a) (bsm f n a) k n with | none => none | some b => some (a, b) := by
  show (match fo f n k a with | some p => some p | none => match fnd (prs f a) (bsm f n a) k n with | none => none | some b => some (a, b)) = _
  rw [h]
theorem fo_to {f : Nat → Nat → Bool} {n k a b : Nat} (h : fo f n k a = none) (hf : fnd (prs f a) (bsm f n a) k n = some b) (ha : a < n) : fo f n k n = some (a, b) := by
  have h1 : fo f n k (a + 1) = some (a, b) := by rw [fo_s h, hf]
  have := fo_keep h1 (n - (a + 1))
  rwa [show a + 1 + (n - (a + 1)) = n by omega] at this
theorem prs_0 (f : Nat → Nat → Bool) (a B k : Nat) : ∀ b, b ≤ a + 1 → cnt (prs f a) b = 0 ∧ fnd (prs f a) B k b = none := by
  intro b
  induction b with
  | zero => exact fun _ => ⟨rfl, rfl⟩
  | succ b ih =>
    intro hb
    obtain ⟨i1, i2⟩ := ih (by omega)
    have hp : prs f a b = false := by unfold prs; rw [decide_eq_false (by omega)]; rfl
    refine ⟨?_, ?_⟩
    · show cnt (prs f a) b + (if prs f a b = true then 1 else 0) = 0
      rw [i1, hp]; rfl
    · rw [fnd_s i2, hp]; simp
/-- one step of the inner loop, by its answer -/
theorem clRow_ok (hF : 5000 < F) (HC : RowC sh n so va) (HP : PtsC sh n pl pc) (HH : HitC sh n pl pc sz nm) {k w : Nat} (hk : k < 2147483648) (hw : w < 2) : f3_clashingRow F (nI k) (nI w) sh = some (match fo (cls so va pl sz pc nm) n k n with | none => im1 | some p => if w = 0 then nI (p.1 + 1) else nI (p.2 + 1)) := by
  obtain ⟨hn, e1, h1⟩ := id HC
  obtain ⟨f, hf⟩ : ∃ f : Nat → Nat → Bool, f = cls so va pl sz pc nm := ⟨_, rfl⟩
  rw [← hf]
  have hB : ∀ a, a ≤ n → bsm f n a ≤ 1600 := fun a ha => by
    have h2 := bsm_le f n a
    have : a * n ≤ 40 * 40 := Nat.mul_le_mul (by omega) hn
    omega
  have key := iter_rule (b := f3_clashingRow_L5 F (nI k) sh)
    (fun d st => ∃ a : Nat, d + a = n ∧ st = (nI (bsm f n a), nI (a + 1)) ∧ fo f n k a = none)
    (fun q => (q = .inr () ∧ fo f n k n = none) ∨ ∃ a b, q = .inl (nI (a + 1), nI (b + 1)) ∧ fo f n k n = some (a, b))
    (by
      rintro d st ⟨a, hd, rfl, hi⟩
      have hBa := hB a (by omega)
      by_cases ha : n ≤ a
      · have : a = n := by omega
        subst this
        refine Or.inr ⟨.inr (), ?_, Or.inl ⟨rfl, hi⟩⟩
        unfold f3_clashingRow_L5
        simp (disch := omega) only [li, ↓lim1, bnd_s, jn_e, cas_el, cas_er, oc_n, oc_s, grd_in, grd_t, nI_add, pk_mul, sub_e, le_e, lt_e, eq_e, cl_e, m1_e, m1_e', m1_lt, m1_le, m1_eq, lt_m1, ↓reduceIte, not_true_eq_false, not_false_eq_true, decide_true, decide_false, Nat.add_zero, Nat.zero_add, if_pos, if_neg, e1]
      · have inner := iter_rule (b := f3_clashingRow_L20 (nI k) sh (nI (bsm f n a), nI (a + 1)))
          (fun d st => ∃ b : Nat, a < b ∧ d + b = n ∧ st = (nI (bsm f n a + cnt (prs f a) b), nI (b + 1)) ∧ fnd (prs f a) (bsm f n a) k b = none)
          (fun q => (q = .inr (nI (bsm f n a + cnt (prs f a) n)) ∧ fnd (prs f a) (bsm f n a) k n = none) ∨ ∃ b, q = .inl (nI (b + 1)) ∧ fnd (prs f a) (bsm f n a) k n = some b)
          (by
            rintro d st ⟨b, hab, hd, rfl, hi⟩
            have hl := cnt_le (prs f a) b
            by_cases hb : n ≤ b
            · have : b = n := by omega
              subst this
              refine Or.inr ⟨_, ?_, Or.inl ⟨rfl, hi⟩⟩
              unfold f3_clashingRow_L20
              simp (disch := omega) only [li, ↓lim1, bnd_s, jn_e, cas_el, cas_er, oc_n, oc_s, grd_in, grd_t, nI_add, pk_mul, sub_e, le_e, lt_e, eq_e, cl_e, m1_e, m1_e', m1_lt, m1_le, m1_eq, lt_m1, ↓reduceIte, not_true_eq_false, not_false_eq_true, decide_true, decide_false, Nat.add_zero, Nat.zero_add, if_pos, if_neg, e1]
            · have hq := haveClash_ok HC HP HH (a := a) (b := b) (by omega) (by omega)
              have ef : cls so va pl sz pc nm a b = prs f a b := by unfold prs; rw [decide_eq_true hab, hf]; rfl
              rw [ef] at hq
              have ec : cnt (prs f a) (b + 1) = cnt (prs f a) b + (if prs f a b = true then 1 else 0) := rfl
              cases hv : prs f a b
              · rw [hv, b2_f] at hq
                rw [hv] at ec
                simp only [Bool.false_eq_true, if_false, Nat.add_zero] at ec
                refine Or.inl ⟨_, d - 1, by omega, ?_, b + 1, by omega, by omega, rfl, ?_⟩
                · unfold f3_clashingRow_L20
                  rw [ec]
                  simp (disch := omega) only [li, ↓lim1, bnd_s, jn_e, cas_el, cas_er, oc_n, oc_s, grd_in, grd_t, nI_add, pk_mul, sub_e, le_e, lt_e, eq_e, cl_e, m1_e, m1_e', m1_lt, m1_le, m1_eq, lt_m1, ↓reduceIte, not_true_eq_false, not_false_eq_true, decide_true, decide_false, Nat.add_zero, Nat.zero_add, if_pos, if_neg, e1, hq]
                · rw [fnd_s hi, hv]; simp
              · rw [hv, b2_t] at hq
                rw [hv] at ec
                simp only [if_true] at ec
                by_cases hc : bsm f n a + cnt (prs f a) b = k
                · refine Or.inr ⟨.inl (nI (b + 1)), ?_, Or.inr ⟨b, rfl, fnd_to hi hv hc (by omega)⟩⟩
                  unfold f3_clashingRow_L20
                  simp (disch := omega) only [li, ↓lim1, bnd_s, jn_e, cas_el, cas_er, oc_n, oc_s, grd_in, grd_t, nI_add, pk_mul, sub_e, le_e, lt_e, eq_e, cl_e, m1_e, m1_e', m1_lt, m1_le, m1_eq, lt_m1, ↓reduceIte, not_true_eq_false, not_false_eq_true, decide_true, decide_false, Nat.add_zero, Nat.zero_add, if_pos, if_neg, e1, hq]
                · refine Or.inl ⟨_, d - 1, by omega, ?_, b + 1, by omega, by omega, rfl, ?_⟩
                  · unfold f3_clashingRow_L20
                    rw [ec, ← Nat.add_assoc]
                    simp (disch := omega) only [li, ↓lim1, bnd_s, jn_e, cas_el, cas_er, oc_n, oc_s, grd_in, grd_t, nI_add, pk_mul, sub_e, le_e, lt_e, eq_e, cl_e, m1_e, m1_e', m1_lt, m1_le, m1_eq, lt_m1, ↓reduceIte, not_true_eq_false, not_false_eq_true, decide_true, decide_false, Nat.add_zero, Nat.zero_add, if_pos, if_neg, e1, hq]
                  · rw [fnd_s hi, if_neg (fun h => hc h.2)])
          F (n - (a + 1)) (nI (bsm f n a), nI (a + 1 + 1)) (by omega) ⟨a + 1, by omega, by omega, by rw [(prs_0 f a (bsm f n a) k (a + 1) (Nat.le_refl _)).1]; rfl, (prs_0 f a (bsm f n a) k (a + 1) (Nat.le_refl _)).2⟩
        obtain ⟨q, hq, h⟩ := inner
        rcases h with ⟨rfl, h⟩ | ⟨b, rfl, h⟩
        · refine Or.inl ⟨(nI (bsm f n (a + 1)), nI (a + 1 + 1)), d - 1, by omega, ?_, a + 1, by omega, rfl, by rw [fo_s hi, h]⟩
          unfold f3_clashingRow_L5
          simp (disch := omega) only [li, ↓lim1, bnd_s, jn_e, cas_el, cas_er, oc_n, oc_s, grd_in, grd_t, nI_add, pk_mul, sub_e, le_e, lt_e, eq_e, cl_e, m1_e, m1_e', m1_lt, m1_le, m1_eq, lt_m1, ↓reduceIte, not_true_eq_false, not_false_eq_true, decide_true, decide_false, Nat.add_zero, Nat.zero_add, if_pos, if_neg, e1, hq]
          rfl
        · refine Or.inr ⟨.inl (nI (a + 1), nI (b + 1)), ?_, Or.inr ⟨a, b, rfl, fo_to hi h (by omega)⟩⟩
          unfold f3_clashingRow_L5
          simp (disch := omega) only [li, ↓lim1, bnd_s, jn_e, cas_el, cas_er, oc_n, oc_s, grd_in, grd_t, nI_add, pk_mul, sub_e, le_e, lt_e, eq_e, cl_e, m1_e, m1_e', m1_lt, m1_le, m1_eq, lt_m1, ↓reduceIte, not_true_eq_false, not_false_eq_true, decide_true, decide_false, Nat.add_zero, Nat.zero_add, if_pos, if_neg, e1, hq])
    F n (nI 0, nI 1) (by omega) ⟨0, by omega, rfl, rfl⟩
  obtain ⟨q, hq, h⟩ := key
  unfold f3_clashingRow
  simp only [li]
  rw [bnd_e hq]
  rcases h with ⟨rfl, h⟩ | ⟨a, b, rfl, h⟩
  · rw [h]; rfl
  · rw [h]
    by_cases h0 : w = 0
    · simp (disch := omega) only [li, ↓lim1, bnd_s, jn_e, cas_el, cas_er, oc_n, oc_s, grd_in, grd_t, nI_add, pk_mul, sub_e, le_e, lt_e, eq_e, cl_e, m1_e, m1_e', m1_lt, m1_le, m1_eq, lt_m1, ↓reduceIte, not_true_eq_false, not_false_eq_true, decide_true, decide_false, Nat.add_zero, Nat.zero_add, if_pos, if_neg]
    · simp (disch := omega) only [li, ↓lim1, bnd_s, jn_e, cas_el, cas_er, oc_n, oc_s, grd_in, grd_t, nI_add, pk_mul, sub_e, le_e, lt_e, eq_e, cl_e, m1_e, m1_e', m1_lt, m1_le, m1_eq, lt_m1, ↓reduceIte, not_true_eq_false, not_false_eq_true, decide_true, decide_false, Nat.add_zero, Nat.zero_add, if_pos, if_neg]
end Qs
