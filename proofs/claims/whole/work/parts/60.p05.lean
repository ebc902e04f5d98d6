section Qs
variable {F n m : Nat} {so va pl sz : Nat → Nat} {pc nm : Nat → Nat → Nat} {sh : T3} {ck : T0} {md : T6} {tp : T4}
variable {c : Int32} {g4 : Int32 × Int32 × Int32 × Int32 × Int32 × (Nat → Int32) × (Nat → Int32)} {g5 : (Nat → Int32) × Int32 × Int32 × Int32}
theorem lft {k j : Nat} (h : j < k) : nI (k - j) + im1 = nI (k - (j + 1)) := by
  obtain ⟨w, hw⟩ : ∃ w, k - j = w + 1 := ⟨k - j - 1, by omega⟩
  rw [show k - (j + 1) = w by omega, hw]
  exact pk_m1 w
theorem mclash_ok (hF : 5000 < F) (HM : RowM md n so va) (HP : PtsM md n pl pc) (HN : PnM md sz nm) {k : Nat} (hk : k < 2147483648) : ∃ q g5', iter (f6_clash_L27 F) F (nI k, nI 0, mC md (nI 0) g4 g5) = some q ∧ ((q = .inr (mC md (nI 0) g4 g5') ∧ fo (cls so va pl sz pc nm) n k n = none) ∨ ∃ a b, q = .inl (nI a, nI b, mC md (nI 0) g4 g5') ∧ fo (cls so va pl sz pc nm) n k n = some (a, b)) := by
  obtain ⟨hn, e2, h2⟩ := id HM
  obtain ⟨f, hf⟩ : ∃ f : Nat → Nat → Bool, f = cls so va pl sz pc nm := ⟨_, rfl⟩
  rw [← hf]
  have key := iter_rule (b := f6_clash_L27 F)
    (fun d st => ∃ (a : Nat) (g5 : (Nat → Int32) × Int32 × Int32 × Int32), d + a = n ∧ bsm f n a ≤ k ∧ st = (nI (k - bsm f n a), nI a, mC md (nI 0) g4 g5) ∧ fo f n k a = none)
    (fun q => ∃ g5', (q = .inr (mC md (nI 0) g4 g5') ∧ fo f n k n = none) ∨ ∃ a b, q = .inl (nI a, nI b, mC md (nI 0) g4 g5') ∧ fo f n k n = some (a, b))
    (by
      rintro d st ⟨a, g5, hd, hBk, rfl, hi⟩
      have e2' : mRows (mC md (nI 0) g4 g5) = nI n := e2
      have ecd : mCode (mC md (nI 0) g4 g5) = nI 0 := rfl
      by_cases ha : n ≤ a
      · have : a = n := by omega
        subst this
        refine Or.inr ⟨.inr (mC md (nI 0) g4 g5), ?_, g5, Or.inl ⟨rfl, hi⟩⟩
        unfold f6_clash_L27
        simp (disch := omega) only [li, ↓lim1, bnd_s, jn_e, cas_el, cas_er, oc_n, oc_s, grd_in, grd_t, nI_add, pk_mul, sub_e, le_e, lt_e, eq_e, cl_e, m1_e, m1_e', m1_lt, m1_le, m1_eq, lt_m1, ↓reduceIte, not_true_eq_false, not_false_eq_true, decide_true, decide_false, Nat.add_zero, Nat.zero_add, if_pos, if_neg, e2']
      · have inner := iter_rule (b := f6_clash_L49 F (nI (k - bsm f n a), nI a, mC md (nI 0) g4 g5))
          (fun d st => ∃ (b : Nat) (h5 : (Nat → Int32) × Int32 × Int32 × Int32), a < b ∧ d + b = n ∧ bsm f n a + cnt (prs f a) b ≤ k ∧ st = (nI (k - (bsm f n a + cnt (prs f a) b)), nI b, mC md (nI 0) g4 h5) ∧ fnd (prs f a) (bsm f n a) k b = none)
          (fun q => ∃ h5, (q = .inr (nI (k - (bsm f n a + cnt (prs f a) n)), mC md (nI 0) g4 h5) ∧ bsm f n a + cnt (prs f a) n ≤ k ∧ fnd (prs f a) (bsm f n a) k n = none) ∨ ∃ b, q = .inl (nI b, mC md (nI 0) g4 h5) ∧ fnd (prs f a) (bsm f n a) k n = some b)
          (by
            rintro d st ⟨b, h5, hab, hd, hle, rfl, hi⟩
            have e2'' : mRows (mC md (nI 0) g4 h5) = nI n := e2
            by_cases hb : n ≤ b
            · have : b = n := by omega
              subst this
              refine Or.inr ⟨_, ?_, h5, Or.inl ⟨rfl, hle, hi⟩⟩
              unfold f6_clash_L49
              simp (disch := omega) only [li, ↓lim1, bnd_s, jn_e, cas_el, cas_er, oc_n, oc_s, grd_in, grd_t, nI_add, pk_mul, sub_e, le_e, lt_e, eq_e, cl_e, m1_e, m1_e', m1_lt, m1_le, m1_eq, lt_m1, ↓reduceIte, not_true_eq_false, not_false_eq_true, decide_true, decide_false, Nat.add_zero, Nat.zero_add, if_pos, if_neg, e2'']
            · obtain ⟨h5', hq⟩ := areClash_ok (c := nI 0) (g4 := g4) (g5 := h5) hF HM HP HN (show a < n by omega) (show b < n by omega)
              have ef : cls so va pl sz pc nm a b = prs f a b := by unfold prs; rw [decide_eq_true hab, hf]; rfl
              rw [ef] at hq
              have ec : cnt (prs f a) (b + 1) = cnt (prs f a) b + (if prs f a b = true then 1 else 0) := rfl
              cases hv : prs f a b
              · rw [hv, b2_f] at hq
                rw [hv] at ec
                simp only [Bool.false_eq_true, if_false, Nat.add_zero] at ec
                refine Or.inl ⟨_, d - 1, by omega, ?_, b + 1, h5', by omega, by omega, by omega, rfl, ?_⟩
                · unfold f6_clash_L49
                  rw [ec]
                  simp (disch := omega) only [li, ↓lim1, bnd_s, jn_e, cas_el, cas_er, oc_n, oc_s, grd_in, grd_t, nI_add, pk_mul, sub_e, le_e, lt_e, eq_e, cl_e, m1_e, m1_e', m1_lt, m1_le, m1_eq, lt_m1, ↓reduceIte, not_true_eq_false, not_false_eq_true, decide_true, decide_false, Nat.add_zero, Nat.zero_add, if_pos, if_neg, e2'', hq]
                · rw [fnd_s hi, hv]; simp
              · rw [hv, b2_t] at hq
                rw [hv] at ec
                simp only [if_true] at ec
                by_cases hc : bsm f n a + cnt (prs f a) b = k
                · refine Or.inr ⟨.inl (nI b, mC md (nI 0) g4 h5'), ?_, h5', Or.inr ⟨b, rfl, fnd_to hi hv hc (by omega)⟩⟩
                  unfold f6_clash_L49
                  simp (disch := omega) only [li, ↓lim1, bnd_s, jn_e, cas_el, cas_er, oc_n, oc_s, grd_in, grd_t, nI_add, pk_mul, sub_e, le_e, lt_e, eq_e, cl_e, m1_e, m1_e', m1_lt, m1_le, m1_eq, lt_m1, ↓reduceIte, not_true_eq_false, not_false_eq_true, decide_true, decide_false, Nat.add_zero, Nat.zero_add, if_pos, if_neg, e2'', hq]
                · refine Or.inl ⟨_, d - 1, by omega, ?_, b + 1, h5', by omega, by omega, by omega, rfl, ?_⟩
                  · have em := lft (show bsm f n a + cnt (prs f a) b < k by omega)
                    unfold f6_clash_L49
                    rw [ec, ← Nat.add_assoc]
                    simp (disch := omega) only [li, ↓lim1, bnd_s, jn_e, cas_el, cas_er, oc_n, oc_s, grd_in, grd_t, nI_add, pk_mul, sub_e, le_e, lt_e, eq_e, cl_e, m1_e, m1_e', m1_lt, m1_le, m1_eq, lt_m1, ↓reduceIte, not_true_eq_false, not_false_eq_true, decide_true, decide_false, Nat.add_zero, Nat.zero_add, if_pos, if_neg, e2'', hq, em]
                  · rw [fnd_s hi, if_neg (fun h => hc h.2)])
          F (n - (a + 1)) (nI (k - bsm f n a), nI (a + 1), mC md (nI 0) g4 g5) (by omega) ⟨a + 1, g5, by omega, by omega, by rw [(prs_0 f a (bsm f n a) k (a + 1) (Nat.le_refl _)).1]; exact hBk, by rw [(prs_0 f a (bsm f n a) k (a + 1) (Nat.le_refl _)).1]; rfl, (prs_0 f a (bsm f n a) k (a + 1) (Nat.le_refl _)).2⟩
        obtain ⟨q, hq, h5, h⟩ := inner
        rcases h with ⟨rfl, hle, h⟩ | ⟨b, rfl, h⟩
        · refine Or.inl ⟨(nI (k - bsm f n (a + 1)), nI (a + 1), mC md (nI 0) g4 h5), d - 1, by omega, ?_, a + 1, h5, by omega, hle, rfl, by rw [fo_s hi, h]⟩
          unfold f6_clash_L27
          simp (disch := omega) only [li, ↓lim1, bnd_s, jn_e, cas_el, cas_er, oc_n, oc_s, grd_in, grd_t, nI_add, pk_mul, sub_e, le_e, lt_e, eq_e, cl_e, m1_e, m1_e', m1_lt, m1_le, m1_eq, lt_m1, ↓reduceIte, not_true_eq_false, not_false_eq_true, decide_true, decide_false, Nat.add_zero, Nat.zero_add, if_pos, if_neg, e2', ecd, hq]
          rfl
        · refine Or.inr ⟨.inl (nI a, nI b, mC md (nI 0) g4 h5), ?_, h5, Or.inr ⟨a, b, rfl, fo_to hi h (by omega)⟩⟩
          unfold f6_clash_L27
          simp (disch := omega) only [li, ↓lim1, bnd_s, jn_e, cas_el, cas_er, oc_n, oc_s, grd_in, grd_t, nI_add, pk_mul, sub_e, le_e, lt_e, eq_e, cl_e, m1_e, m1_e', m1_lt, m1_le, m1_eq, lt_m1, ↓reduceIte, not_true_eq_false, not_false_eq_true, decide_true, decide_false, Nat.add_zero, Nat.zero_add, if_pos, if_neg, e2', ecd, hq])
    F n (nI k, nI 0, mC md (nI 0) g4 g5) (by omega) ⟨0, g5, by omega, Nat.zero_le k, rfl, rfl⟩
  obtain ⟨q, hq, g5', h⟩ := key
  exact ⟨q, g5', hq, h⟩
theorem clash_ok (hF : 5000 < F) (HC : RowC sh n so va) (HPC : PtsC sh n pl pc) (HH : HitC sh n pl pc sz nm) (HM : RowM md n so va) (HP : PtsM md n pl pc) (HN : PnM md sz nm) (p1 p2 : Int32) : ∃ ra rb md', f5_clash F p1 p2 sh = some ra ∧ f6_clash F p1 p2 md = some (rb, md') ∧ An ra rb md md' := by
  have e0 : ∀ c : Int32, (((c, md.1.2.1, md.1.2.2.1, md.1.2.2.2.1, md.1.2.2.2.2), md.2.1, md.2.2.1, md.2.2.2.1, md.2.2.2.2) : T6) = mC md c md.2.2.2.1 md.2.2.2.2 := fun c => rfl
  have hn := HM.1
  have e2 := HM.2.1
  have e2' : mRows (mC md (nI 1) md.2.2.2.1 md.2.2.2.2) = nI n := e2
  have ecd : mCode (mC md (nI 1) md.2.2.2.1 md.2.2.2.2) = nI 1 := rfl
  have hs : ∀ p1 : Int32, iter (f6_clash_L27 F) F (p1, nI 0, mC md (nI 1) md.2.2.2.1 md.2.2.2.2) = some (.inr (mC md (nI 1) md.2.2.2.1 md.2.2.2.2)) := by
    intro p1
    obtain ⟨G, hG⟩ : ∃ f, F = f + 1 := ⟨F - 1, by omega⟩
    rw [hG]
    apply iter_stop
    unfold f6_clash_L27
    by_cases h : n ≤ 0
    · simp (disch := omega) only [li, ↓lim1, bnd_s, jn_e, cas_el, cas_er, oc_n, oc_s, grd_in, grd_t, nI_add, pk_mul, sub_e, le_e, lt_e, eq_e, cl_e, m1_e, m1_e', m1_lt, m1_le, m1_eq, lt_m1, ↓reduceIte, not_true_eq_false, not_false_eq_true, decide_true, decide_false, Nat.add_zero, Nat.zero_add, if_pos, if_neg, e2']
    · simp (disch := omega) only [li, ↓lim1, bnd_s, jn_e, cas_el, cas_er, oc_n, oc_s, grd_in, grd_t, nI_add, pk_mul, sub_e, le_e, lt_e, eq_e, cl_e, m1_e, m1_e', m1_lt, m1_le, m1_eq, lt_m1, ↓reduceIte, not_true_eq_false, not_false_eq_true, decide_true, decide_false, Nat.add_zero, Nat.zero_add, if_pos, if_neg, e2', ecd]
  have res : f5_clash F p1 p2 sh = some none → f6_clash F p1 p2 md = some (nI 0, mC md (nI 1) md.2.2.2.1 md.2.2.2.2) → ∃ ra rb md', f5_clash F p1 p2 sh = some ra ∧ f6_clash F p1 p2 md = some (rb, md') ∧ An ra rb md md' := fun a b => ⟨none, nI 0, _, a, b, An.no⟩
  rcases int_cases p1 with hx | ⟨k, hk, rfl⟩
  · have h0 := neg_lta hx (a := 0) (by omega)
    apply res
    · unfold f5_clash
      simp (disch := omega) only [li, ↓lim1, bnd_s, jn_e, cas_el, cas_er, oc_n, oc_s, grd_in, grd_t, nI_add, pk_mul, sub_e, le_e, lt_e, eq_e, cl_e, m1_e, m1_e', m1_lt, m1_le, m1_eq, lt_m1, ↓reduceIte, not_true_eq_false, not_false_eq_true, decide_true, decide_false, Nat.add_zero, Nat.zero_add, if_pos, if_neg, h0]
    · unfold f6_clash
      simp (disch := omega) only [li, ↓lim1, bnd_s, jn_e, cas_el, cas_er, oc_n, oc_s, grd_in, grd_t, nI_add, pk_mul, sub_e, le_e, lt_e, eq_e, cl_e, m1_e, m1_e', m1_lt, m1_le, m1_eq, lt_m1, ↓reduceIte, not_true_eq_false, not_false_eq_true, decide_true, decide_false, Nat.add_zero, Nat.zero_add, if_pos, if_neg, h0, e0, hs, ecd]
  · rcases int_cases p2 with hy | ⟨w, hw, rfl⟩
    · have h0 := neg_lta hy (a := 0) (by omega)
      apply res
      · unfold f5_clash
        simp (disch := omega) only [li, ↓lim1, bnd_s, jn_e, cas_el, cas_er, oc_n, oc_s, grd_in, grd_t, nI_add, pk_mul, sub_e, le_e, lt_e, eq_e, cl_e, m1_e, m1_e', m1_lt, m1_le, m1_eq, lt_m1, ↓reduceIte, not_true_eq_false, not_false_eq_true, decide_true, decide_false, Nat.add_zero, Nat.zero_add, if_pos, if_neg, h0]
      · unfold f6_clash
        simp (disch := omega) only [li, ↓lim1, bnd_s, jn_e, cas_el, cas_er, oc_n, oc_s, grd_in, grd_t, nI_add, pk_mul, sub_e, le_e, lt_e, eq_e, cl_e, m1_e, m1_e', m1_lt, m1_le, m1_eq, lt_m1, ↓reduceIte, not_true_eq_false, not_false_eq_true, decide_true, decide_false, Nat.add_zero, Nat.zero_add, if_pos, if_neg, h0, e0, hs, ecd]
    · by_cases hw1 : w ≤ 1
      · obtain ⟨q, g5', hq, h⟩ := mclash_ok (g4 := md.2.2.2.1) (g5 := md.2.2.2.2) hF HM HP HN hk
        have hc := clRow_ok hF HC HPC HH hk (show w < 2 by omega)
        refine ⟨some (match fo (cls so va pl sz pc nm) n k n with | none => im1 | some p => if w = 0 then nI (p.1 + 1) else nI (p.2 + 1)), _, mC md (nI 0) md.2.2.2.1 g5', ?_, ?_, An.yes⟩
        · unfold f5_clash
          simp (disch := omega) only [li, ↓lim1, bnd_s, jn_e, cas_el, cas_er, oc_n, oc_s, grd_in, grd_t, nI_add, pk_mul, sub_e, le_e, lt_e, eq_e, cl_e, m1_e, m1_e', m1_lt, m1_le, m1_eq, lt_m1, ↓reduceIte, not_true_eq_false, not_false_eq_true, decide_true, decide_false, Nat.add_zero, Nat.zero_add, if_pos, if_neg, hc]
          try rfl
        · have ecd' : mCode (mC md (nI 0) md.2.2.2.1 g5') = nI 0 := rfl
          unfold f6_clash
          rcases h with ⟨rfl, h⟩ | ⟨a, b, rfl, h⟩
          · rw [h]
            simp (disch := omega) only [li, ↓lim1, bnd_s, jn_e, cas_el, cas_er, oc_n, oc_s, grd_in, grd_t, nI_add, pk_mul, sub_e, le_e, lt_e, eq_e, cl_e, m1_e, m1_e', m1_lt, m1_le, m1_eq, lt_m1, ↓reduceIte, not_true_eq_false, not_false_eq_true, decide_true, decide_false, Nat.add_zero, Nat.zero_add, if_pos, if_neg, e0, hq, ecd']
          · rw [h]
            by_cases h0 : w = 0
            · simp (disch := omega) only [li, ↓lim1, bnd_s, jn_e, cas_el, cas_er, oc_n, oc_s, grd_in, grd_t, nI_add, pk_mul, sub_e, le_e, lt_e, eq_e, cl_e, m1_e, m1_e', m1_lt, m1_le, m1_eq, lt_m1, ↓reduceIte, not_true_eq_false, not_false_eq_true, decide_true, decide_false, Nat.add_zero, Nat.zero_add, if_pos, if_neg, e0, hq]
            · simp (disch := omega) only [li, ↓lim1, bnd_s, jn_e, cas_el, cas_er, oc_n, oc_s, grd_in, grd_t, nI_add, pk_mul, sub_e, le_e, lt_e, eq_e, cl_e, m1_e, m1_e', m1_lt, m1_le, m1_eq, lt_m1, ↓reduceIte, not_true_eq_false, not_false_eq_true, decide_true, decide_false, Nat.add_zero, Nat.zero_add, if_pos, if_neg, e0, hq]
      · apply res
        · unfold f5_clash
          simp (disch := omega) only [li, ↓lim1, bnd_s, jn_e, cas_el, cas_er, oc_n, oc_s, grd_in, grd_t, nI_add, pk_mul, sub_e, le_e, lt_e, eq_e, cl_e, m1_e, m1_e', m1_lt, m1_le, m1_eq, lt_m1, ↓reduceIte, not_true_eq_false, not_false_eq_true, decide_true, decide_false, Nat.add_zero, Nat.zero_add, if_pos, if_neg]
        · unfold f6_clash
          simp (disch := omega) only [li, ↓lim1, bnd_s, jn_e, cas_el, cas_er, oc_n, oc_s, grd_in, grd_t, nI_add, pk_mul, sub_e, le_e, lt_e, eq_e, cl_e, m1_e, m1_e', m1_lt, m1_le, m1_eq, lt_m1, ↓reduceIte, not_true_eq_false, not_false_eq_true, decide_true, decide_false, Nat.add_zero, Nat.zero_add, if_pos, if_neg, e0, hs, ecd]
end Qs
theorem div_e {a b : Nat} (ha : a < 2147483648) (h0 : 0 < b) (hb : b < 2147483648) : nI a / nI b = nI (a / b) := pk_div ha h0 hb
theorem l_e {a : Nat} (ha : a < 2147483648) : (nI a).toInt64 = lN a := nI_l ha
/-! ===== differences of longs ===== -/
theorem lN_i' (a : Nat) : lN a = Int64.ofInt (a : Int) := Int64.ofInt_eq_ofNat.symm
theorem mn64 : Int64.minValue.toInt = -9223372036854775808 := by decide
theorem mx64 : Int64.maxValue.toInt = 9223372036854775807 := by decide
theorem rem_neg {X Y S : Nat} (hX : X < 4611686018427387904) (hY : Y < 4611686018427387904) (hS : S < 4611686018427387904) (h : X < Y) : (lN X - lN Y) - (lN X - lN Y) / lN S * lN S = Int64.ofInt (-((Y - X) % S : Nat)) := by
  rw [lN_i' X, lN_i' Y, lN_i' S, ← Int64.ofInt_sub, ← Int64.ofInt_tdiv (by rw [mn64]; omega) (by rw [mx64]; omega) (by rw [mn64]; omega) (by rw [mx64]; omega), ← Int64.ofInt_mul, ← Int64.ofInt_sub]
  congr 1
  have h1 : (X : Int) - (Y : Int) = -((Y - X : Nat) : Int) := by omega
  rw [h1, Int.ofNat_tmod, ← Int.neg_tmod, Int.tmod_def, Int.mul_comm]
theorem ofI_t {x : Int} (h1 : -9223372036854775808 ≤ x) (h2 : x < 9223372036854775808) : (Int64.ofInt x).toInt = x := Int64.toInt_ofInt_of_le (by omega) (by omega)
theorem lN_t {a : Nat} (ha : a < 9223372036854775808) : (lN a).toInt = (a : Int) := by rw [lN_i', ofI_t (by omega) (by omega)]
theorem xor_sg (x y : Int64) : (0 ≤ x ^^^ y) = ((x.toInt < 0) = (y.toInt < 0)) := by
  have h : ∀ z : Int64, z.toBitVec.msb = decide (z.toInt < 0) := fun z => by rw [BitVec.msb_eq_toInt, Int64.toInt_toBitVec]
  have h0 : (0 : Int64).toInt = 0 := by decide
  have h1 := h (x ^^^ y)
  rw [Int64.toBitVec_xor, BitVec.msb_xor, h x, h y] at h1
  rw [Int64.le_iff_toInt_le, h0]
  by_cases a : x.toInt < 0 <;> by_cases b : y.toInt < 0 <;> simp only [a, b, decide_true, decide_false, Bool.xor_self, Bool.true_xor, Bool.false_xor, Bool.not_false, Bool.not_true] at h1 <;> simp only [a, b, eq_self] <;> first | (have h2 := of_decide_eq_false h1.symm; simp; omega) | (have h2 := of_decide_eq_true h1.symm; simp; omega)
/-- how far a difference lies above a multiple of S -/
def gp (X Y S : Nat) : Nat := if Y ≤ X then (X - Y) % S else if (Y - X) % S = 0 then 0 else S - (Y - X) % S
theorem gp_lt {X Y S : Nat} (hS : 0 < S) : gp X Y S < S := by
  have h1 := Nat.mod_lt (X - Y) hS
  have h2 := Nat.mod_lt (Y - X) hS
  unfold gp
  split
  · exact h1
  · split <;> omega
theorem floorMod_ok {X Y S : Nat} (hX : X < 4611686018427387904) (hY : Y < 4611686018427387904) (h0 : 0 < S) (hS : S < 4611686018427387904) : f109_floorMod (lN X - lN Y) (lN S) = some (lN (gp X Y S)) := by
  unfold f109_floorMod
  have hs : (lN S).toInt = (S : Int) := lN_t (by omega)
  have hsn : ¬ (lN S).toInt < 0 := by rw [hs]; omega
  have m1 := Nat.mod_lt (X - Y) h0
  have m2 := Nat.mod_lt (Y - X) h0
  by_cases h : Y ≤ X
  · have hd : lN X - lN Y = lN (X - Y) := lN_sub h
    have hx : (0 ≤ lN (X - Y) ^^^ lN S) := by
      rw [xor_sg]
      have : ¬ (lN (X - Y)).toInt < 0 := by rw [lN_t (by omega)]; omega
      simp [this, hsn]
    have e : gp X Y S = (X - Y) % S := by unfold gp; rw [if_pos h]
    rw [hd, e]
    have g1 : decide (¬ lN S = 0) = true := decide_eq_true (fun e => by
      have := congrArg Int64.toInt e
      rw [hs] at this
      have z : (0 : Int64).toInt = 0 := by decide
      omega)
    rw [g1, grd_t, if_pos (show (0 : Int32) ≤ lg_cmp (lN (X - Y) ^^^ lN S) 0 from (lg_cmp_ge _ _).mpr hx), pk_lRem (by omega) h0 (by omega)]
  · have hr := rem_neg hX hY hS (by omega)
    have hx : ¬ (0 ≤ (lN X - lN Y) ^^^ lN S) := by
      rw [xor_sg]
      have : (lN X - lN Y).toInt < 0 := by
        rw [lN_i' X, lN_i' Y, ← Int64.ofInt_sub, ofI_t (by omega) (by omega)]
        omega
      simp only [this, hsn]
      simp
    rw [hr]
    have e : gp X Y S = if (Y - X) % S = 0 then 0 else S - (Y - X) % S := by unfold gp; rw [if_neg h]
    rw [e]
    have g1 : decide (¬ lN S = 0) = true := decide_eq_true (fun e => by
      have := congrArg Int64.toInt e
      rw [hs] at this
      have z : (0 : Int64).toInt = 0 := by decide
      omega)
    rw [g1, grd_t]
    rw [if_neg (show ¬ (0 : Int32) ≤ lg_cmp ((lN X - lN Y) ^^^ lN S) 0 from fun h2 => hx ((lg_cmp_ge _ _).mp h2))]
    by_cases hz : (Y - X) % S = 0
    · rw [hz, if_pos rfl]
      rw [if_pos (show lg_cmp (Int64.ofInt (-((0 : Nat) : Int))) 0 = 0 by decide)]
      rfl
    · rw [if_neg hz]
      rw [if_neg (show ¬ lg_cmp (Int64.ofInt (-(((Y - X) % S : Nat) : Int))) 0 = 0 from fun h2 => by
        have h3 := congrArg Int64.toInt ((lg_cmp_eq _ _).mp h2)
        rw [ofI_t (by omega) (by omega)] at h3
        have z : (0 : Int64).toInt = 0 := by decide
        omega)]
      congr 1
      rw [lN_i' S, ← Int64.ofInt_add, lN_i']
      congr 1
      omega
/-- the model's way to it -/
theorem rem_sel {X Y S : Nat} (hX : X < 4611686018427387904) (hY : Y < 4611686018427387904) (h0 : 0 < S) (hS : S < 4611686018427387904) {α : Type} (k : Int64 → α) :
    (if nI 0 < lg_cmp ((lN X - lN Y) - (lN X - lN Y) / lN S * lN S) (0 : Int64) then k ((lN X - lN Y) - (lN X - lN Y) / lN S * lN S) else k (((lN X - lN Y) - (lN X - lN Y) / lN S * lN S) + lN S)) = k (lN (if gp X Y S = 0 then S else gp X Y S)) := by
  have m1 := Nat.mod_lt (X - Y) h0
  have m2 := Nat.mod_lt (Y - X) h0
  simp only [cmp_gt]
  by_cases h : Y ≤ X
  · have e : gp X Y S = (X - Y) % S := by unfold gp; rw [if_pos h]
    rw [lN_sub h, pk_lRem (by omega) h0 (by omega), e]
    by_cases hz : (X - Y) % S = 0
    · rw [hz, if_pos rfl]
      rw [if_neg (by decide)]
      rw [lN_add, Nat.zero_add]
    · rw [if_neg hz, if_pos]
      rw [show (0 : Int64) = lN 0 from rfl, ltL (by omega) (by omega)]
      omega
  · have e : gp X Y S = if (Y - X) % S = 0 then 0 else S - (Y - X) % S := by unfold gp; rw [if_neg h]
    rw [rem_neg hX hY hS (by omega), e]
    rw [if_neg (fun h2 => by
      rw [Int64.lt_iff_toInt_lt, ofI_t (by omega) (by omega)] at h2
      have z : (0 : Int64).toInt = 0 := by decide
      omega)]
    congr 1
    rw [lN_i' S, ← Int64.ofInt_add, lN_i']
    congr 1
    by_cases hz : (Y - X) % S = 0
    · simp [hz]
    · simp only [hz, if_false, if_neg (show ¬ S - (Y - X) % S = 0 by omega)]
      omega
/-- the clocks: the class's, the model's, and their bounds -/
def CkC (ck : T0) (m : Nat) (cr : Nat → Nat) (fr : Nat → Int32) (pe ri fa un : Nat → Nat) : Prop := m ≤ 12 ∧ kSiz ck = nI m ∧ ∀ k, k < m → kRow ck k = nI (cr k + 1) ∧ kSrc ck k = fr k ∧ kPer ck k = lN (pe k) ∧ kRis ck k = lN (ri k) ∧ kFal ck k = lN (fa k) ∧ kLow ck k = lN (un k)
def CkM (md : T6) (m : Nat) (cr : Nat → Nat) (fr : Nat → Int32) (pe ri fa un : Nat → Nat) : Prop := m ≤ 12 ∧ mClk md = nI m ∧ ∀ k, k < m → mCr md k = nI (cr k) ∧ mFrom md k = fr k ∧ mPer md k = lN (pe k) ∧ mRis md k = lN (ri k) ∧ mFal md k = lN (fa k) ∧ mUnd md k = lN (un k)
def CkB (n m : Nat) (cr pe ri fa un : Nat → Nat) : Prop := ∀ k, k < m → cr k < n ∧ 0 < pe k ∧ pe k ≤ 1000000 ∧ ri k < pe k ∧ fa k < pe k ∧ 0 < un k ∧ un k ≤ 1000000
section Qs
variable {F n m : Nat} {so va pl sz : Nat → Nat} {pc nm : Nat → Nat → Nat} {sh : T3} {ck : T0} {md : T6} {tp : T4}
variable {c : Int32} {g4 : Int32 × Int32 × Int32 × Int32 × Int32 × (Nat → Int32) × (Nat → Int32)} {g5 : (Nat → Int32) × Int32 × Int32 × Int32}
variable {cr pe ri fa un : Nat → Nat} {fr : Nat → Int32}
theorem has_neg {p : Int32} (h : p < 0) : f0_has p ck = some (nI 0) ∧ f6_isClock p md = some (nI 0) := by
  have h0 := neg_lta h (a := 0) (by omega)
  unfold f0_has f6_isClock
  simp (disch := omega) only [li, ↓lim1, bnd_s, jn_e, cas_el, cas_er, oc_n, oc_s, grd_in, grd_t, nI_add, pk_mul, sub_e, le_e, lt_e, eq_e, cl_e, m1_e, m1_e', m1_lt, m1_le, m1_eq, lt_m1, ↓reduceIte, not_true_eq_false, not_false_eq_true, decide_true, decide_false, Nat.add_zero, Nat.zero_add, if_pos, if_neg, h0, and_self]
theorem has_big (h1 : kSiz ck = nI m) (h2 : mClk md = nI m) (hm : m ≤ 12) {k : Nat} (hk : k < 2147483648) (h : m ≤ k) : f0_has (nI k) ck = some (nI 0) ∧ f6_isClock (nI k) md = some (nI 0) := by
  unfold f0_has f6_isClock
  simp (disch := omega) only [li, ↓lim1, bnd_s, jn_e, cas_el, cas_er, oc_n, oc_s, grd_in, grd_t, nI_add, pk_mul, sub_e, le_e, lt_e, eq_e, cl_e, m1_e, m1_e', m1_lt, m1_le, m1_eq, lt_m1, ↓reduceIte, not_true_eq_false, not_false_eq_true, decide_true, decide_false, Nat.add_zero, Nat.zero_add, if_pos, if_neg, h1, h2, and_self]
theorem has_in (h1 : kSiz ck = nI m) (h2 : mClk md = nI m) (hm : m ≤ 12) {k : Nat} (h : k < m) : f0_has (nI k) ck = some (nI 1) ∧ f6_isClock (nI k) md = some (nI 1) := by
  unfold f0_has f6_isClock
  simp (disch := omega) only [li, ↓lim1, bnd_s, jn_e, cas_el, cas_er, oc_n, oc_s, grd_in, grd_t, nI_add, pk_mul, sub_e, le_e, lt_e, eq_e, cl_e, m1_e, m1_e', m1_lt, m1_le, m1_eq, lt_m1, ↓reduceIte, not_true_eq_false, not_false_eq_true, decide_true, decide_false, Nat.add_zero, Nat.zero_add, if_pos, if_neg, h1, h2, and_self]
theorem e0_md (md : T6) (c : Int32) : (((c, md.1.2.1, md.1.2.2.1, md.1.2.2.2.1, md.1.2.2.2.2), md.2.1, md.2.2.1, md.2.2.2.1, md.2.2.2.2) : T6) = mC md c md.2.2.2.1 md.2.2.2.2 := rfl
/-! ===== clock ===== -/
theorem clock_ok (hF : 5000 < F) (HC : RowC sh n so va) (HPC : PtsC sh n pl pc) (HH : HitC sh n pl pc sz nm) (HM : RowM md n so va) (HP : PtsM md n pl pc) (HN : PnM md sz nm) (KC : CkC ck m cr fr pe ri fa un) (KM : CkM md m cr fr pe ri fa un) (KB : CkB n m cr pe ri fa un) (p1 p2 : Int32) : ∃ ra rb md', f5_clock p1 p2 sh ck = some ra ∧ f6_clock F p1 p2 md = some (rb, md') ∧ An ra rb md md' := by
  obtain ⟨hm, k1, k2⟩ := KC
  obtain ⟨_, j1, j2⟩ := KM
  have res : f5_clock p1 p2 sh ck = some none → f6_clock F p1 p2 md = some (nI 0, mC md (nI 1) md.2.2.2.1 md.2.2.2.2) → ∃ ra rb md', f5_clock p1 p2 sh ck = some ra ∧ f6_clock F p1 p2 md = some (rb, md') ∧ An ra rb md md' := fun a b => ⟨none, nI 0, _, a, b, An.no⟩
  have bad : f0_has p1 ck = some (nI 0) → f6_isClock p1 md = some (nI 0) → ∃ ra rb md', f5_clock p1 p2 sh ck = some ra ∧ f6_clock F p1 p2 md = some (rb, md') ∧ An ra rb md md' := by
    intro a b
    apply res
    · unfold f5_clock
      simp (disch := omega) only [li, ↓lim1, bnd_s, jn_e, cas_el, cas_er, oc_n, oc_s, grd_in, grd_t, nI_add, pk_mul, sub_e, le_e, lt_e, eq_e, cl_e, m1_e, m1_e', m1_lt, m1_le, m1_eq, lt_m1, ↓reduceIte, not_true_eq_false, not_false_eq_true, decide_true, decide_false, Nat.add_zero, Nat.zero_add, if_pos, if_neg, a]
    · unfold f6_clock
      simp (disch := omega) only [li, ↓lim1, bnd_s, jn_e, cas_el, cas_er, oc_n, oc_s, grd_in, grd_t, nI_add, pk_mul, sub_e, le_e, lt_e, eq_e, cl_e, m1_e, m1_e', m1_lt, m1_le, m1_eq, lt_m1, ↓reduceIte, not_true_eq_false, not_false_eq_true, decide_true, decide_false, Nat.add_zero, Nat.zero_add, if_pos, if_neg, b, e0_md]
  rcases int_cases p1 with hx | ⟨k, hk, rfl⟩
  · exact bad (has_neg hx (ck := ck) (md := md)).1 (has_neg hx (ck := ck) (md := md)).2
  · by_cases hkm : m ≤ k
    · exact bad (has_big k1 j1 hm hk hkm).1 (has_big k1 j1 hm hk hkm).2
    · obtain ⟨q1, q2⟩ := has_in (k := k) k1 j1 hm (by omega)
      obtain ⟨a1, a2, a3, a4, a5, a6⟩ := k2 k (by omega)
      obtain ⟨b1, b2', b3, b4, b5, b6⟩ := j2 k (by omega)
      have hb := KB k (by omega)
      rcases int_cases p2 with hy | ⟨w, hw, rfl⟩
      · have h0 := neg_lta hy (a := 0) (by omega)
        apply res
        · unfold f5_clock
          simp (disch := omega) only [li, ↓lim1, bnd_s, jn_e, cas_el, cas_er, oc_n, oc_s, grd_in, grd_t, nI_add, pk_mul, sub_e, le_e, lt_e, eq_e, cl_e, m1_e, m1_e', m1_lt, m1_le, m1_eq, lt_m1, ↓reduceIte, not_true_eq_false, not_false_eq_true, decide_true, decide_false, Nat.add_zero, Nat.zero_add, if_pos, if_neg, q1, h0]
        · unfold f6_clock
          simp (disch := omega) only [li, ↓lim1, bnd_s, jn_e, cas_el, cas_er, oc_n, oc_s, grd_in, grd_t, nI_add, pk_mul, sub_e, le_e, lt_e, eq_e, cl_e, m1_e, m1_e', m1_lt, m1_le, m1_eq, lt_m1, ↓reduceIte, not_true_eq_false, not_false_eq_true, decide_true, decide_false, Nat.add_zero, Nat.zero_add, if_pos, if_neg, q2, h0, e0_md]
      · by_cases hw6 : w ≤ 6
        · by_cases hw : w = 6
          · subst hw
            obtain ⟨g5', hm'⟩ := matched_ok (c := nI 0) (g4 := md.2.2.2.1) (g5 := md.2.2.2.2) (r := cr k) (s := 0) hF HM.1 HP HN hb.1 (by omega)
            rw [show 3 * cr k + 0 = 3 * cr k from rfl] at hm'
            have hn := HM.1
            have hh : f3_hitsOf (nI (cr k + 1)) (nI 0) sh = some (sHit sh (3 * cr k)) := hitsOf_n HC.2.1 HC.1 hb.1 (by omega)
            have hc := bitCount_ok (HH (3 * cr k) (by omega))
            refine ⟨some (nI (cnt (mt pl pc sz nm (3 * cr k)) 40)), _, mC md (nI 0) md.2.2.2.1 g5', ?_, ?_, An.yes⟩
            · unfold f5_clock
              simp (disch := omega) only [li, ↓lim1, bnd_s, jn_e, cas_el, cas_er, oc_n, oc_s, grd_in, grd_t, nI_add, pk_mul, sub_e, le_e, lt_e, eq_e, cl_e, m1_e, m1_e', m1_lt, m1_le, m1_eq, lt_m1, ↓reduceIte, not_true_eq_false, not_false_eq_true, decide_true, decide_false, Nat.add_zero, Nat.zero_add, if_pos, if_neg, q1, a1, hh, hc]
            · unfold f6_clock
              simp (disch := omega) only [li, ↓lim1, bnd_s, jn_e, cas_el, cas_er, oc_n, oc_s, grd_in, grd_t, nI_add, pk_mul, sub_e, le_e, lt_e, eq_e, cl_e, m1_e, m1_e', m1_lt, m1_le, m1_eq, lt_m1, ↓reduceIte, not_true_eq_false, not_false_eq_true, decide_true, decide_false, Nat.add_zero, Nat.zero_add, if_pos, if_neg, q2, e0_md, b1, hm']
          · have hn := HM.1
            rcases (show w = 0 ∨ w = 1 ∨ w = 2 ∨ w = 3 ∨ w = 4 ∨ w = 5 by omega) with e | e | e | e | e | e
            · subst e
              refine ⟨some ((lN (pe k)).toInt32), _, mC md (nI 0) md.2.2.2.1 md.2.2.2.2, ?_, ?_, An.yes⟩
              · unfold f5_clock f0_fact
                simp (disch := omega) only [li, ↓lim1, bnd_s, jn_e, cas_el, cas_er, oc_n, oc_s, grd_in, grd_t, nI_add, pk_mul, sub_e, le_e, lt_e, eq_e, cl_e, m1_e, m1_e', m1_lt, m1_le, m1_eq, lt_m1, ↓reduceIte, not_true_eq_false, not_false_eq_true, decide_true, decide_false, Nat.add_zero, Nat.zero_add, if_pos, if_neg, q1, a3]
              · unfold f6_clock
                simp (disch := omega) only [li, ↓lim1, bnd_s, jn_e, cas_el, cas_er, oc_n, oc_s, grd_in, grd_t, nI_add, pk_mul, sub_e, le_e, lt_e, eq_e, cl_e, m1_e, m1_e', m1_lt, m1_le, m1_eq, lt_m1, ↓reduceIte, not_true_eq_false, not_false_eq_true, decide_true, decide_false, Nat.add_zero, Nat.zero_add, if_pos, if_neg, q2, e0_md, b3]
            · subst e
              refine ⟨some ((lN (ri k)).toInt32), _, mC md (nI 0) md.2.2.2.1 md.2.2.2.2, ?_, ?_, An.yes⟩
              · unfold f5_clock f0_fact
                simp (disch := omega) only [li, ↓lim1, bnd_s, jn_e, cas_el, cas_er, oc_n, oc_s, grd_in, grd_t, nI_add, pk_mul, sub_e, le_e, lt_e, eq_e, cl_e, m1_e, m1_e', m1_lt, m1_le, m1_eq, lt_m1, ↓reduceIte, not_true_eq_false, not_false_eq_true, decide_true, decide_false, Nat.add_zero, Nat.zero_add, if_pos, if_neg, q1, a4]
              · unfold f6_clock
                simp (disch := omega) only [li, ↓lim1, bnd_s, jn_e, cas_el, cas_er, oc_n, oc_s, grd_in, grd_t, nI_add, pk_mul, sub_e, le_e, lt_e, eq_e, cl_e, m1_e, m1_e', m1_lt, m1_le, m1_eq, lt_m1, ↓reduceIte, not_true_eq_false, not_false_eq_true, decide_true, decide_false, Nat.add_zero, Nat.zero_add, if_pos, if_neg, q2, e0_md, b4]
            · subst e
              refine ⟨some ((lN (fa k)).toInt32), _, mC md (nI 0) md.2.2.2.1 md.2.2.2.2, ?_, ?_, An.yes⟩
              · unfold f5_clock f0_fact
                simp (disch := omega) only [li, ↓lim1, bnd_s, jn_e, cas_el, cas_er, oc_n, oc_s, grd_in, grd_t, nI_add, pk_mul, sub_e, le_e, lt_e, eq_e, cl_e, m1_e, m1_e', m1_lt, m1_le, m1_eq, lt_m1, ↓reduceIte, not_true_eq_false, not_false_eq_true, decide_true, decide_false, Nat.add_zero, Nat.zero_add, if_pos, if_neg, q1, a5]
              · unfold f6_clock
                simp (disch := omega) only [li, ↓lim1, bnd_s, jn_e, cas_el, cas_er, oc_n, oc_s, grd_in, grd_t, nI_add, pk_mul, sub_e, le_e, lt_e, eq_e, cl_e, m1_e, m1_e', m1_lt, m1_le, m1_eq, lt_m1, ↓reduceIte, not_true_eq_false, not_false_eq_true, decide_true, decide_false, Nat.add_zero, Nat.zero_add, if_pos, if_neg, q2, e0_md, b5]
            · subst e
              refine ⟨some ((lN (un k)).toInt32), _, mC md (nI 0) md.2.2.2.1 md.2.2.2.2, ?_, ?_, An.yes⟩
              · unfold f5_clock f0_fact
                simp (disch := omega) only [li, ↓lim1, bnd_s, jn_e, cas_el, cas_er, oc_n, oc_s, grd_in, grd_t, nI_add, pk_mul, sub_e, le_e, lt_e, eq_e, cl_e, m1_e, m1_e', m1_lt, m1_le, m1_eq, lt_m1, ↓reduceIte, not_true_eq_false, not_false_eq_true, decide_true, decide_false, Nat.add_zero, Nat.zero_add, if_pos, if_neg, q1, a6]
              · unfold f6_clock
                simp (disch := omega) only [li, ↓lim1, bnd_s, jn_e, cas_el, cas_er, oc_n, oc_s, grd_in, grd_t, nI_add, pk_mul, sub_e, le_e, lt_e, eq_e, cl_e, m1_e, m1_e', m1_lt, m1_le, m1_eq, lt_m1, ↓reduceIte, not_true_eq_false, not_false_eq_true, decide_true, decide_false, Nat.add_zero, Nat.zero_add, if_pos, if_neg, q2, e0_md, b6]
            · subst e
              refine ⟨some (nI (cr k + 1)), _, mC md (nI 0) md.2.2.2.1 md.2.2.2.2, ?_, ?_, An.yes⟩
              · unfold f5_clock f0_fact
                simp (disch := omega) only [li, ↓lim1, bnd_s, jn_e, cas_el, cas_er, oc_n, oc_s, grd_in, grd_t, nI_add, pk_mul, sub_e, le_e, lt_e, eq_e, cl_e, m1_e, m1_e', m1_lt, m1_le, m1_eq, lt_m1, ↓reduceIte, not_true_eq_false, not_false_eq_true, decide_true, decide_false, Nat.add_zero, Nat.zero_add, if_pos, if_neg, q1, a1]
              · unfold f6_clock
                simp (disch := omega) only [li, ↓lim1, bnd_s, jn_e, cas_el, cas_er, oc_n, oc_s, grd_in, grd_t, nI_add, pk_mul, sub_e, le_e, lt_e, eq_e, cl_e, m1_e, m1_e', m1_lt, m1_le, m1_eq, lt_m1, ↓reduceIte, not_true_eq_false, not_false_eq_true, decide_true, decide_false, Nat.add_zero, Nat.zero_add, if_pos, if_neg, q2, e0_md, b1]
            · subst e
              refine ⟨some (fr k), _, mC md (nI 0) md.2.2.2.1 md.2.2.2.2, ?_, ?_, An.yes⟩
              · unfold f5_clock f0_fact
                simp (disch := omega) only [li, ↓lim1, bnd_s, jn_e, cas_el, cas_er, oc_n, oc_s, grd_in, grd_t, nI_add, pk_mul, sub_e, le_e, lt_e, eq_e, cl_e, m1_e, m1_e', m1_lt, m1_le, m1_eq, lt_m1, ↓reduceIte, not_true_eq_false, not_false_eq_true, decide_true, decide_false, Nat.add_zero, Nat.zero_add, if_pos, if_neg, q1, a2]
              · unfold f6_clock
                simp (disch := omega) only [li, ↓lim1, bnd_s, jn_e, cas_el, cas_er, oc_n, oc_s, grd_in, grd_t, nI_add, pk_mul, sub_e, le_e, lt_e, eq_e, cl_e, m1_e, m1_e', m1_lt, m1_le, m1_eq, lt_m1, ↓reduceIte, not_true_eq_false, not_false_eq_true, decide_true, decide_false, Nat.add_zero, Nat.zero_add, if_pos, if_neg, q2, e0_md, b2']
        · apply res
          · unfold f5_clock
            simp (disch := omega) only [li, ↓lim1, bnd_s, jn_e, cas_el, cas_er, oc_n, oc_s, grd_in, grd_t, nI_add, pk_mul, sub_e, le_e, lt_e, eq_e, cl_e, m1_e, m1_e', m1_lt, m1_le, m1_eq, lt_m1, ↓reduceIte, not_true_eq_false, not_false_eq_true, decide_true, decide_false, Nat.add_zero, Nat.zero_add, if_pos, if_neg, q1]
          · unfold f6_clock
            simp (disch := omega) only [li, ↓lim1, bnd_s, jn_e, cas_el, cas_er, oc_n, oc_s, grd_in, grd_t, nI_add, pk_mul, sub_e, le_e, lt_e, eq_e, cl_e, m1_e, m1_e', m1_lt, m1_le, m1_eq, lt_m1, ↓reduceIte, not_true_eq_false, not_false_eq_true, decide_true, decide_false, Nat.add_zero, Nat.zero_add, if_pos, if_neg, q2, e0_md]
/-! ===== edge ===== -/
theorem edge_ok (hF : 5000 < F) (KC : CkC ck m cr fr pe ri fa un) (KM : CkM md m cr fr pe ri fa un) (KB : CkB n m cr pe ri fa un) (p1 p2 p3 : Int32) : ∃ ra rb md', f5_edge F p1 p2 p3 sh ck = some ra ∧ f6_edge F p1 p2 p3 md = some (rb, md') ∧ An ra rb md md' := by
  obtain ⟨hm, k1, k2⟩ := KC
  obtain ⟨_, j1, j2⟩ := KM
  have res : f5_edge F p1 p2 p3 sh ck = some none → f6_edge F p1 p2 p3 md = some (0, mC md (nI 1) md.2.2.2.1 md.2.2.2.2) → ∃ ra rb md', f5_edge F p1 p2 p3 sh ck = some ra ∧ f6_edge F p1 p2 p3 md = some (rb, md') ∧ An ra rb md md' := fun a b => ⟨none, 0, _, a, b, An.no⟩
  have bad : f0_has p1 ck = some (nI 0) → f6_isClock p1 md = some (nI 0) → ∃ ra rb md', f5_edge F p1 p2 p3 sh ck = some ra ∧ f6_edge F p1 p2 p3 md = some (rb, md') ∧ An ra rb md md' := by
    intro a b
    apply res
    · unfold f5_edge
      simp (disch := omega) only [li, ↓lim1, ↓bnd_m, ↓grd_m, ↓jn_e, ↓cas_m, ↓oc_m, inb_t, nI_add, pk_mul, sub_e, le_t, le_f, lt_t, lt_f, eq_t, eq_f, cl_e, m1_e, m1_e', m1_lt, m1_le, m1_m1, lt_m1, ↓reduceIte, Nat.add_zero, Nat.zero_add, a]
    · unfold f6_edge
      simp (disch := omega) only [li, ↓lim1, ↓bnd_m, ↓grd_m, ↓jn_e, ↓cas_m, ↓oc_m, inb_t, nI_add, pk_mul, sub_e, le_t, le_f, lt_t, lt_f, eq_t, eq_f, cl_e, m1_e, m1_e', m1_lt, m1_le, m1_m1, lt_m1, ↓reduceIte, Nat.add_zero, Nat.zero_add, b, e0_md]
  rcases int_cases p1 with hx | ⟨k, hk, rfl⟩
  · exact bad (has_neg hx (ck := ck) (md := md)).1 (has_neg hx (ck := ck) (md := md)).2
  · by_cases hkm : m ≤ k
    · exact bad (has_big k1 j1 hm hk hkm).1 (has_big k1 j1 hm hk hkm).2
    · obtain ⟨q1, q2⟩ := has_in (k := k) k1 j1 hm (by omega)
      obtain ⟨a1, a2, a3, a4, a5, a6⟩ := k2 k (by omega)
      obtain ⟨b1, b2', b3, b4, b5, b6⟩ := j2 k (by omega)
      have hb := KB k (by omega)
      rcases int_cases p2 with hy | ⟨w, hw, rfl⟩
      · have h0 := neg_lta hy (a := 0) (by omega)
        apply res
        · unfold f5_edge
          simp (disch := omega) only [li, ↓lim1, ↓bnd_m, ↓grd_m, ↓jn_e, ↓cas_m, ↓oc_m, inb_t, nI_add, pk_mul, sub_e, le_t, le_f, lt_t, lt_f, eq_t, eq_f, cl_e, m1_e, m1_e', m1_lt, m1_le, m1_m1, lt_m1, ↓reduceIte, Nat.add_zero, Nat.zero_add, q1, h0]
        · unfold f6_edge
          simp (disch := omega) only [li, ↓lim1, ↓bnd_m, ↓grd_m, ↓jn_e, ↓cas_m, ↓oc_m, inb_t, nI_add, pk_mul, sub_e, le_t, le_f, lt_t, lt_f, eq_t, eq_f, cl_e, m1_e, m1_e', m1_lt, m1_le, m1_m1, lt_m1, ↓reduceIte, Nat.add_zero, Nat.zero_add, q2, h0, e0_md]
      · by_cases hw1 : 1000 < w
        · apply res
          · unfold f5_edge
            simp (disch := omega) only [li, ↓lim1, ↓bnd_m, ↓grd_m, ↓jn_e, ↓cas_m, ↓oc_m, inb_t, nI_add, pk_mul, sub_e, le_t, le_f, lt_t, lt_f, eq_t, eq_f, cl_e, m1_e, m1_e', m1_lt, m1_le, m1_m1, lt_m1, ↓reduceIte, Nat.add_zero, Nat.zero_add, q1]
          · unfold f6_edge
            simp (disch := omega) only [li, ↓lim1, ↓bnd_m, ↓grd_m, ↓jn_e, ↓cas_m, ↓oc_m, inb_t, nI_add, pk_mul, sub_e, le_t, le_f, lt_t, lt_f, eq_t, eq_f, cl_e, m1_e, m1_e', m1_lt, m1_le, m1_m1, lt_m1, ↓reduceIte, Nat.add_zero, Nat.zero_add, q2, e0_md]
        · rcases int_cases p3 with hz | ⟨v, hv, rfl⟩
          · have h0 := neg_lta hz (a := 0) (by omega)
            apply res
            · unfold f5_edge
              simp (disch := omega) only [li, ↓lim1, ↓bnd_m, ↓grd_m, ↓jn_e, ↓cas_m, ↓oc_m, inb_t, nI_add, pk_mul, sub_e, le_t, le_f, lt_t, lt_f, eq_t, eq_f, cl_e, m1_e, m1_e', m1_lt, m1_le, m1_m1, lt_m1, ↓reduceIte, Nat.add_zero, Nat.zero_add, q1, h0]
            · unfold f6_edge
              simp (disch := omega) only [li, ↓lim1, ↓bnd_m, ↓grd_m, ↓jn_e, ↓cas_m, ↓oc_m, inb_t, nI_add, pk_mul, sub_e, le_t, le_f, lt_t, lt_f, eq_t, eq_f, cl_e, m1_e, m1_e', m1_lt, m1_le, m1_m1, lt_m1, ↓reduceIte, Nat.add_zero, Nat.zero_add, q2, h0, e0_md]
          · by_cases hv2 : v ≤ 2
            · obtain ⟨b, eb⟩ : ∃ b : Bool, b = (decide (ri k < fa k) == decide (w % 2 = 0)) := ⟨_, rfl⟩
              obtain ⟨u, eu⟩ : ∃ u : Nat, u = w / 2 * pe k + (if b = true then ri k else fa k) := ⟨_, rfl⟩
              have hmul : w / 2 * pe k ≤ 500 * 1000000 := Nat.mul_le_mul (by omega) hb.2.2.1
              have hu : u < 9223372036854775808 := by rw [eu]; split <;> omega
              have r1 : fa k ≤ ri k → decide (ri k < fa k) = false := fun h => decide_eq_false (by omega)
              have r2 : ¬ fa k ≤ ri k → decide (ri k < fa k) = true := fun h => decide_eq_true (by omega)
              have hun := hb.2.2.2.2.2
              have hl := lp_ok (F := F) (u := u) (l := un k) (by omega) hu (by omega) (by omega) (nI v)
              have hl' : f5_lowestPart F (lN u) (lN (un k)) (nI v) = some (if nI v = nI 0 then lN (u / Nat.gcd u (un k)) else lN (un k / Nat.gcd u (un k))) := hl
              have hp := pt_ok (F := F) (u := u) (l := un k) (by omega) hu (by omega) (by omega) (nI v)
              have hp' : f6_part F (lN u) (lN (un k)) (nI v) = some (if nI v = nI 0 then lN (u / Nat.gcd u (un k)) else lN (un k / Nat.gcd u (un k))) := hp
              have hb' : ∀ (h1 : Bool) (h2 : Bool), decide (ri k < fa k) = h1 → decide (w % 2 = 0) = h2 → b = (h1 == h2) := fun h1 h2 e1 e2 => by rw [eb, e1, e2]
              have cc : f5_edge F (nI k) (nI w) (nI v) sh ck = some (some (if v = 2 then lN (if b = true then 1 else 0) else if nI v = nI 0 then lN (u / Nat.gcd u (un k)) else lN (un k / Nat.gcd u (un k)))) := by
                unfold f5_edge f0_edgePart
                by_cases h1 : fa k ≤ ri k <;> by_cases h2 : w % 2 = 0 <;> by_cases h3 : v = 2
                all_goals
                  first | have e1 := r1 h1 | have e1 := r2 h1
                  first | have e2 : decide (w % 2 = 0) = true := decide_eq_true h2 | have e2 : decide (w % 2 = 0) = false := decide_eq_false h2
                  have e3 := hb' _ _ e1 e2
                  have e4 : (false == false) = true := rfl
                  have e5 : (false == true) = false := rfl
                  have e6 : (true == false) = false := rfl
                  have e7 : (true == true) = true := rfl
                  simp only [e4, e5, e6, e7] at e3
                  simp only [e3, if_true, if_false, Bool.false_eq_true] at eu
                  have eu2 := eu
                  rw [Nat.add_comm] at eu2
                  simp (disch := omega) only [li, ↓lim1, ↓bnd_m, ↓grd_m, ↓jn_e, ↓cas_m, ↓oc_m, inb_t, nI_add, pk_mul, sub_e, le_t, le_f, lt_t, lt_f, eq_t, eq_f, cl_e, m1_e, m1_e', m1_lt, m1_le, m1_m1, lt_m1, ↓reduceIte, Nat.add_zero, Nat.zero_add, div_e, rem_e, l_e, liL, remL', lN_add, lN_mul, subL, leL_t, leL_f, ltL_t, ltL_f, eqL_t, eqL_f, divL, cmp_le, cmp_ge, cmp_gt, cmp_lt, cmp_eq, not_true_eq_false, not_false_eq_true, decide_true, decide_false, dnz, q1, a3, a4, a5, a6, e3, ← eu2, hl', h3, Bool.false_eq_true, if_true, if_false]
                  try rfl
              have cm : f6_edge F (nI k) (nI w) (nI v) md = some (if v = 2 then lN (if b = true then 1 else 0) else if nI v = nI 0 then lN (u / Nat.gcd u (un k)) else lN (un k / Nat.gcd u (un k)), mC md (nI 0) md.2.2.2.1 md.2.2.2.2) := by
                unfold f6_edge
                by_cases h1 : fa k ≤ ri k <;> by_cases h2 : w % 2 = 0 <;> by_cases h3 : v = 2
                all_goals
                  first | have e1 := r1 h1 | have e1 := r2 h1
                  first | have e2 : decide (w % 2 = 0) = true := decide_eq_true h2 | have e2 : decide (w % 2 = 0) = false := decide_eq_false h2
                  have e3 := hb' _ _ e1 e2
                  have e4 : (false == false) = true := rfl
                  have e5 : (false == true) = false := rfl
                  have e6 : (true == false) = false := rfl
                  have e7 : (true == true) = true := rfl
                  simp only [e4, e5, e6, e7] at e3
                  simp only [e3, if_true, if_false, Bool.false_eq_true] at eu
                  simp (disch := omega) only [li, ↓lim1, ↓bnd_m, ↓grd_m, ↓jn_e, ↓cas_m, ↓oc_m, inb_t, nI_add, pk_mul, sub_e, le_t, le_f, lt_t, lt_f, eq_t, eq_f, cl_e, m1_e, m1_e', m1_lt, m1_le, m1_m1, lt_m1, ↓reduceIte, Nat.add_zero, Nat.zero_add, div_e, rem_e, l_e, liL, remL', lN_add, lN_mul, subL, leL_t, leL_f, ltL_t, ltL_f, eqL_t, eqL_f, divL, cmp_le, cmp_ge, cmp_gt, cmp_lt, cmp_eq, not_true_eq_false, not_false_eq_true, decide_true, decide_false, dnz, q2, b3, b4, b5, b6, e3, ← eu, hp', h3, Bool.false_eq_true, if_true, if_false]
                  try rfl
              exact ⟨_, _, _, cc, cm, An.yes⟩
            · apply res
              · unfold f5_edge
                simp (disch := omega) only [li, ↓lim1, ↓bnd_m, ↓grd_m, ↓jn_e, ↓cas_m, ↓oc_m, inb_t, nI_add, pk_mul, sub_e, le_t, le_f, lt_t, lt_f, eq_t, eq_f, cl_e, m1_e, m1_e', m1_lt, m1_le, m1_m1, lt_m1, ↓reduceIte, Nat.add_zero, Nat.zero_add, q1]
              · unfold f6_edge
                simp (disch := omega) only [li, ↓lim1, ↓bnd_m, ↓grd_m, ↓jn_e, ↓cas_m, ↓oc_m, inb_t, nI_add, pk_mul, sub_e, le_t, le_f, lt_t, lt_f, eq_t, eq_f, cl_e, m1_e, m1_e', m1_lt, m1_le, m1_m1, lt_m1, ↓reduceIte, Nat.add_zero, Nat.zero_add, q2, e0_md]
end Qs
