section Rd
variable {F n b e : Nat} {t : Nat → Nat} {tp : T4} {md : T6} {rd : T2}
theorem wordName_ok (hF : 5000 < F) (H : TpM md t n) (hbe : b ≤ e) (hen : e ≤ n) (hb : md.2.2.2.1.1 = nI b) (he : md.2.2.2.1.2.1 = nI e) : f6_wordName F md = some (lN (if nmw t b e = true then cdw t b (e - b) else 0)) := by
  obtain ⟨hn, h2, h3⟩ := H
  have stop : ∀ (v : Int64) (k : Nat), iter (f6_wordName_L39 md) F (v, nI 0, nI (b + k)) = some (v, nI 0) := by
    intro v k
    obtain ⟨G, hG⟩ : ∃ G, F = G + 1 := ⟨F - 1, by omega⟩
    rw [hG]
    apply iter_stop
    unfold f6_wordName_L39
    by_cases hk : nI e ≤ nI (b + k)
    · simp (disch := omega) only [li, ↓lim1, ↓bnd_m, ↓grd_m, ↓jn_e, ↓cas_m, ↓oc_m, inb_t, nI_add, pk_mul, sub_e, le_t, le_f, lt_t, lt_f, eq_t, eq_f, cl_e, m1_e, m1_e', m1_lt, m1_le, m1_m1, lt_m1, ↓reduceIte, Nat.add_zero, Nat.zero_add, he, hk]
    · simp (disch := omega) only [li, ↓lim1, ↓bnd_m, ↓grd_m, ↓jn_e, ↓cas_m, ↓oc_m, inb_t, nI_add, pk_mul, sub_e, le_t, le_f, lt_t, lt_f, eq_t, eq_f, cl_e, m1_e, m1_e', m1_lt, m1_le, m1_m1, lt_m1, ↓reduceIte, Nat.add_zero, Nat.zero_add, he, hk]
  have hs0 : (b < e ∧ e ≤ b + 8) → ∃ v g, iter (f6_wordName_L39 md) F (lN 0, nI 1, nI b) = some (v, b2 g) ∧ g = alb (ltr t) b (e - b) ∧ (g = true → v = lN (cdw t b (e - b))) := by
    intro hc
    have key := iter_rule (b := f6_wordName_L39 md)
      (fun d s => (∃ k : Nat, d + k = e - b + 1 ∧ k ≤ e - b ∧ s = (lN (cdw t b k), nI 1, nI (b + k)) ∧ alb (ltr t) b k = true) ∨ (∃ (v : Int64) (k : Nat), d + k = e - b + 1 ∧ s = (v, nI 0, nI (b + k)) ∧ k ≤ e - b ∧ alb (ltr t) b (e - b) = false))
      (fun q => ∃ v g, q = (v, b2 g) ∧ g = alb (ltr t) b (e - b) ∧ (g = true → v = lN (cdw t b (e - b))))
      (by
        rintro d s (⟨k, hd, hk, rfl, hal⟩ | ⟨v, k, hd, rfl, hk, hal⟩)
        · by_cases hl : e ≤ b + k
          · have : k = e - b := by omega
            subst this
            refine Or.inr ⟨_, ?_, _, true, rfl, hal.symm, fun _ => rfl⟩
            unfold f6_wordName_L39
            simp (disch := omega) only [li, ↓lim1, ↓bnd_m, ↓grd_m, ↓jn_e, ↓cas_m, ↓oc_m, inb_t, nI_add, pk_mul, sub_e, le_t, le_f, lt_t, lt_f, eq_t, eq_f, cl_e, m1_e, m1_e', m1_lt, m1_le, m1_m1, lt_m1, ↓reduceIte, Nat.add_zero, Nat.zero_add, he]
            rfl
          · obtain ⟨t1, t2⟩ := h3 (b + k) (by omega)
            by_cases hv : 97 ≤ t (b + k) ∧ t (b + k) ≤ 122
            · refine Or.inl ⟨(lN (cdw t b (k + 1)), nI 1, nI (b + (k + 1))), d - 1, by omega, ?_, Or.inl ⟨k + 1, by omega, by omega, rfl, by show (alb (ltr t) b k && ltr t (b + k)) = true; rw [hal]; exact decide_eq_true hv⟩⟩
              have ec : cdw t b (k + 1) = 27 * cdw t b k + (t (b + k) - 96) := rfl
              have es : lN (27 * cdw t b k + t (b + k)) - lN 96 = lN (cdw t b (k + 1)) := by rw [lN_sub (by omega), ec]; congr 1; omega
              unfold f6_wordName_L39
              simp (disch := omega) only [li, ↓lim1, ↓bnd_m, ↓grd_m, ↓jn_e, ↓cas_m, ↓oc_m, inb_t, nI_add, pk_mul, sub_e, le_t, le_f, lt_t, lt_f, eq_t, eq_f, cl_e, m1_e, m1_e', m1_lt, m1_le, m1_m1, lt_m1, ↓reduceIte, Nat.add_zero, Nat.zero_add, he, t1, l_e, liL, lN_mul, lN_add, es, Nat.add_assoc]
            · have hf : alb (ltr t) b (e - b) = false := alb_f (i := k) (by omega) (decide_eq_false hv)
              refine Or.inl ⟨(lN (27 * cdw t b k + t (b + k)) - lN 96, nI 0, nI (b + (k + 1))), d - 1, by omega, ?_, Or.inr ⟨_, k + 1, by omega, rfl, by omega, hf⟩⟩
              unfold f6_wordName_L39
              by_cases c1 : t (b + k) < 97
              · simp (disch := omega) only [li, ↓lim1, ↓bnd_m, ↓grd_m, ↓jn_e, ↓cas_m, ↓oc_m, inb_t, nI_add, pk_mul, sub_e, le_t, le_f, lt_t, lt_f, eq_t, eq_f, cl_e, m1_e, m1_e', m1_lt, m1_le, m1_m1, lt_m1, ↓reduceIte, Nat.add_zero, Nat.zero_add, he, t1, l_e, liL, lN_mul, lN_add, Nat.add_assoc]
              · simp (disch := omega) only [li, ↓lim1, ↓bnd_m, ↓grd_m, ↓jn_e, ↓cas_m, ↓oc_m, inb_t, nI_add, pk_mul, sub_e, le_t, le_f, lt_t, lt_f, eq_t, eq_f, cl_e, m1_e, m1_e', m1_lt, m1_le, m1_m1, lt_m1, ↓reduceIte, Nat.add_zero, Nat.zero_add, he, t1, l_e, liL, lN_mul, lN_add, Nat.add_assoc]
        · refine Or.inr ⟨(v, nI 0), ?_, v, false, rfl, hal.symm, fun h => by cases h⟩
          unfold f6_wordName_L39
          by_cases hl : e ≤ b + k
          · simp (disch := omega) only [li, ↓lim1, ↓bnd_m, ↓grd_m, ↓jn_e, ↓cas_m, ↓oc_m, inb_t, nI_add, pk_mul, sub_e, le_t, le_f, lt_t, lt_f, eq_t, eq_f, cl_e, m1_e, m1_e', m1_lt, m1_le, m1_m1, lt_m1, ↓reduceIte, Nat.add_zero, Nat.zero_add, he]
          · simp (disch := omega) only [li, ↓lim1, ↓bnd_m, ↓grd_m, ↓jn_e, ↓cas_m, ↓oc_m, inb_t, nI_add, pk_mul, sub_e, le_t, le_f, lt_t, lt_f, eq_t, eq_f, cl_e, m1_e, m1_e', m1_lt, m1_le, m1_m1, lt_m1, ↓reduceIte, Nat.add_zero, Nat.zero_add, he])
      F (e - b + 1) (lN 0, nI 1, nI b) (by omega) (Or.inl ⟨0, by omega, by omega, rfl, rfl⟩)
    obtain ⟨q, hq, v, g, rfl, hg, hv⟩ := key
    exact ⟨v, g, hq, hg, hv⟩
  unfold f6_wordName nmw
  by_cases hc : b < e ∧ e ≤ b + 8
  · obtain ⟨v, g, hq, hg, hv⟩ := hs0 hc
    rw [decide_eq_true hc, Bool.true_and, ← hg]
    simp (disch := omega) only [li, ↓lim1, ↓bnd_m, ↓grd_m, ↓jn_e, ↓cas_m, ↓oc_m, inb_t, nI_add, pk_mul, sub_e, le_t, le_f, lt_t, lt_f, eq_t, eq_f, cl_e, m1_e, m1_e', m1_lt, m1_le, m1_m1, lt_m1, ↓reduceIte, Nat.add_zero, Nat.zero_add, hb, he, liL, hq, b2_0]
    cases g with
    | false => rfl
    | true => rw [hv rfl]; rfl
  · rw [decide_eq_false hc, Bool.false_and]
    have h0 := stop (lN 0) 0
    rw [Nat.add_zero] at h0
    by_cases c1 : e ≤ b
    · simp (disch := omega) only [li, ↓lim1, ↓bnd_m, ↓grd_m, ↓jn_e, ↓cas_m, ↓oc_m, inb_t, nI_add, pk_mul, sub_e, le_t, le_f, lt_t, lt_f, eq_t, eq_f, cl_e, m1_e, m1_e', m1_lt, m1_le, m1_m1, lt_m1, ↓reduceIte, Nat.add_zero, Nat.zero_add, hb, he, liL, h0]
      rfl
    · simp (disch := omega) only [li, ↓lim1, ↓bnd_m, ↓grd_m, ↓jn_e, ↓cas_m, ↓oc_m, inb_t, nI_add, pk_mul, sub_e, le_t, le_f, lt_t, lt_f, eq_t, eq_f, cl_e, m1_e, m1_e', m1_lt, m1_le, m1_m1, lt_m1, ↓reduceIte, Nat.add_zero, Nat.zero_add, hb, he, liL, h0]
      rfl
theorem mwhole_ok (hF : 5000 < F) (H : TpM md t n) (hbe : b ≤ e) (hen : e ≤ n) (hb : md.2.2.2.1.1 = nI b) (he : md.2.2.2.1.2.1 = nI e) : f6_whole F md = some (pI (whw t b e)) := by
  obtain ⟨hn, h2, h3⟩ := H
  have stop : ∀ (v : Int32) (k : Nat), iter (f6_whole_L38 md) F (v, nI 0, nI (b + k)) = some (v, nI 0) := by
    intro v k
    obtain ⟨G, hG⟩ : ∃ G, F = G + 1 := ⟨F - 1, by omega⟩
    rw [hG]
    apply iter_stop
    unfold f6_whole_L38
    by_cases hk : nI e ≤ nI (b + k)
    · simp (disch := omega) only [li, ↓lim1, ↓bnd_m, ↓grd_m, ↓jn_e, ↓cas_m, ↓oc_m, inb_t, nI_add, pk_mul, sub_e, le_t, le_f, lt_t, lt_f, eq_t, eq_f, cl_e, m1_e, m1_e', m1_lt, m1_le, m1_m1, lt_m1, ↓reduceIte, Nat.add_zero, Nat.zero_add, he, hk]
    · simp (disch := omega) only [li, ↓lim1, ↓bnd_m, ↓grd_m, ↓jn_e, ↓cas_m, ↓oc_m, inb_t, nI_add, pk_mul, sub_e, le_t, le_f, lt_t, lt_f, eq_t, eq_f, cl_e, m1_e, m1_e', m1_lt, m1_le, m1_m1, lt_m1, ↓reduceIte, Nat.add_zero, Nat.zero_add, he, hk]
  have hs0 : (b < e ∧ e ≤ b + 6) → ∃ v g, iter (f6_whole_L38 md) F (nI 0, nI 1, nI b) = some (v, b2 g) ∧ g = alb (dgt t) b (e - b) ∧ (g = true → v = nI (whv t b (e - b))) := by
    intro hc
    have key := iter_rule (b := f6_whole_L38 md)
      (fun d s => (∃ k : Nat, d + k = e - b + 1 ∧ k ≤ e - b ∧ s = (nI (whv t b k), nI 1, nI (b + k)) ∧ alb (dgt t) b k = true) ∨ (∃ (v : Int32) (k : Nat), d + k = e - b + 1 ∧ s = (v, nI 0, nI (b + k)) ∧ k ≤ e - b ∧ alb (dgt t) b (e - b) = false))
      (fun q => ∃ v g, q = (v, b2 g) ∧ g = alb (dgt t) b (e - b) ∧ (g = true → v = nI (whv t b (e - b))))
      (by
        rintro d s (⟨k, hd, hk, rfl, hal⟩ | ⟨v, k, hd, rfl, hk, hal⟩)
        · by_cases hl : e ≤ b + k
          · have : k = e - b := by omega
            subst this
            refine Or.inr ⟨_, ?_, _, true, rfl, hal.symm, fun _ => rfl⟩
            unfold f6_whole_L38
            simp (disch := omega) only [li, ↓lim1, ↓bnd_m, ↓grd_m, ↓jn_e, ↓cas_m, ↓oc_m, inb_t, nI_add, pk_mul, sub_e, le_t, le_f, lt_t, lt_f, eq_t, eq_f, cl_e, m1_e, m1_e', m1_lt, m1_le, m1_m1, lt_m1, ↓reduceIte, Nat.add_zero, Nat.zero_add, he]
            rfl
          · obtain ⟨t1, t2⟩ := h3 (b + k) (by omega)
            by_cases hv : 48 ≤ t (b + k) ∧ t (b + k) ≤ 57
            · refine Or.inl ⟨(nI (whv t b (k + 1)), nI 1, nI (b + (k + 1))), d - 1, by omega, ?_, Or.inl ⟨k + 1, by omega, by omega, rfl, by show (alb (dgt t) b k && dgt t (b + k)) = true; rw [hal]; exact decide_eq_true hv⟩⟩
              have ec : whv t b (k + 1) = 10 * whv t b k + (t (b + k) - 48) := rfl
              have es : 10 * whv t b k + t (b + k) - 48 = whv t b (k + 1) := by rw [ec]; omega
              unfold f6_whole_L38
              simp (disch := omega) only [li, ↓lim1, ↓bnd_m, ↓grd_m, ↓jn_e, ↓cas_m, ↓oc_m, inb_t, nI_add, pk_mul, sub_e, le_t, le_f, lt_t, lt_f, eq_t, eq_f, cl_e, m1_e, m1_e', m1_lt, m1_le, m1_m1, lt_m1, ↓reduceIte, Nat.add_zero, Nat.zero_add, he, t1, es, Nat.add_assoc]
            · have hf : alb (dgt t) b (e - b) = false := alb_f (i := k) (by omega) (decide_eq_false hv)
              refine Or.inl ⟨(nI (10 * whv t b k + t (b + k)) - nI 48, nI 0, nI (b + (k + 1))), d - 1, by omega, ?_, Or.inr ⟨_, k + 1, by omega, rfl, by omega, hf⟩⟩
              unfold f6_whole_L38
              by_cases c1 : t (b + k) < 48
              · simp only [li, he, t1, nI_add, pk_mul, cl_e (show b + k < 2147483648 by omega), grd_in (show b + k < 1200 by omega) (by omega), le_f (show b + k < e by omega) (by omega), if_false, eq_f (show ¬ 1 = 0 by decide) (by decide) (by decide), jn_e, lt_t c1 (by omega), if_true, Nat.add_assoc]
              · simp only [li, he, t1, nI_add, pk_mul, cl_e (show b + k < 2147483648 by omega), grd_in (show b + k < 1200 by omega) (by omega), le_f (show b + k < e by omega) (by omega), if_false, eq_f (show ¬ 1 = 0 by decide) (by decide) (by decide), jn_e, lt_f (show 97 - 49 ≤ t (b + k) by omega) (by omega), lt_t (show 57 < t (b + k) by omega) (by omega), if_true, Nat.add_assoc]
        · refine Or.inr ⟨(v, nI 0), ?_, v, false, rfl, hal.symm, fun h => by cases h⟩
          unfold f6_whole_L38
          by_cases hl : e ≤ b + k
          · simp (disch := omega) only [li, ↓lim1, ↓bnd_m, ↓grd_m, ↓jn_e, ↓cas_m, ↓oc_m, inb_t, nI_add, pk_mul, sub_e, le_t, le_f, lt_t, lt_f, eq_t, eq_f, cl_e, m1_e, m1_e', m1_lt, m1_le, m1_m1, lt_m1, ↓reduceIte, Nat.add_zero, Nat.zero_add, he]
          · simp (disch := omega) only [li, ↓lim1, ↓bnd_m, ↓grd_m, ↓jn_e, ↓cas_m, ↓oc_m, inb_t, nI_add, pk_mul, sub_e, le_t, le_f, lt_t, lt_f, eq_t, eq_f, cl_e, m1_e, m1_e', m1_lt, m1_le, m1_m1, lt_m1, ↓reduceIte, Nat.add_zero, Nat.zero_add, he])
      F (e - b + 1) (nI 0, nI 1, nI b) (by omega) (Or.inl ⟨0, by omega, by omega, rfl, rfl⟩)
    obtain ⟨q, hq, v, g, rfl, hg, hv⟩ := key
    exact ⟨v, g, hq, hg, hv⟩
  unfold f6_whole whw
  by_cases hc : b < e ∧ e ≤ b + 6
  · obtain ⟨v, g, hq, hg, hv⟩ := hs0 hc
    simp (disch := omega) only [li, ↓lim1, ↓bnd_m, ↓grd_m, ↓jn_e, ↓cas_m, ↓oc_m, inb_t, nI_add, pk_mul, sub_e, le_t, le_f, lt_t, lt_f, eq_t, eq_f, cl_e, m1_e, m1_e', m1_lt, m1_le, m1_m1, lt_m1, ↓reduceIte, Nat.add_zero, Nat.zero_add, hb, he, hq, b2_0]
    cases g with
    | false => rw [if_neg (show ¬ ((b < e ∧ e ≤ b + 6) ∧ alb (dgt t) b (e - b) = true) from fun h => by rw [← hg] at h; cases h.2)]; rfl
    | true => rw [hv rfl, if_pos (show ((b < e ∧ e ≤ b + 6) ∧ alb (dgt t) b (e - b) = true) from ⟨hc, hg.symm⟩)]; rfl
  · rw [if_neg (show ¬ ((b < e ∧ e ≤ b + 6) ∧ alb (dgt t) b (e - b) = true) from fun h => hc h.1)]
    have h0 := stop (nI 0) 0
    rw [Nat.add_zero] at h0
    by_cases c1 : e ≤ b
    · simp (disch := omega) only [li, ↓lim1, ↓bnd_m, ↓grd_m, ↓jn_e, ↓cas_m, ↓oc_m, inb_t, nI_add, pk_mul, sub_e, le_t, le_f, lt_t, lt_f, eq_t, eq_f, cl_e, m1_e, m1_e', m1_lt, m1_le, m1_m1, lt_m1, ↓reduceIte, Nat.add_zero, Nat.zero_add, hb, he, h0]
      rfl
    · simp (disch := omega) only [li, ↓lim1, ↓bnd_m, ↓grd_m, ↓jn_e, ↓cas_m, ↓oc_m, inb_t, nI_add, pk_mul, sub_e, le_t, le_f, lt_t, lt_f, eq_t, eq_f, cl_e, m1_e, m1_e', m1_lt, m1_le, m1_m1, lt_m1, ↓reduceIte, Nat.add_zero, Nat.zero_add, hb, he, h0]
      rfl
theorem mpat_ok (hF : 5000 < F) (H : TpM md t n) (hbe : b ≤ e) (hen : e ≤ n) (hb : md.2.2.2.1.1 = nI b) (he : md.2.2.2.1.2.1 = nI e) : f6_isPattern F md = some (b2 (ptw t b e)) := by
  obtain ⟨hn, h2, h3⟩ := H
  have stop : ∀ (k : Nat), iter (f6_isPattern_L36 md) F (nI 0, nI (b + k)) = some (nI 0) := by
    intro k
    obtain ⟨G, hG⟩ : ∃ G, F = G + 1 := ⟨F - 1, by omega⟩
    rw [hG]
    apply iter_stop
    unfold f6_isPattern_L36
    by_cases hk : nI e ≤ nI (b + k)
    · simp (disch := omega) only [li, ↓lim1, ↓bnd_m, ↓grd_m, ↓jn_e, ↓cas_m, ↓oc_m, inb_t, nI_add, pk_mul, sub_e, le_t, le_f, lt_t, lt_f, eq_t, eq_f, cl_e, m1_e, m1_e', m1_lt, m1_le, m1_m1, lt_m1, ↓reduceIte, Nat.add_zero, Nat.zero_add, he, hk]
    · simp (disch := omega) only [li, ↓lim1, ↓bnd_m, ↓grd_m, ↓jn_e, ↓cas_m, ↓oc_m, inb_t, nI_add, pk_mul, sub_e, le_t, le_f, lt_t, lt_f, eq_t, eq_f, cl_e, m1_e, m1_e', m1_lt, m1_le, m1_m1, lt_m1, ↓reduceIte, Nat.add_zero, Nat.zero_add, he, hk]
  have hs0 : (b < e ∧ e ≤ b + 16) → iter (f6_isPattern_L36 md) F (nI 1, nI b) = some (b2 (alb (pch t) b (e - b))) := by
    intro hc
    have key := iter_rule (b := f6_isPattern_L36 md)
      (fun d s => (∃ k : Nat, d + k = e - b + 1 ∧ k ≤ e - b ∧ s = (nI 1, nI (b + k)) ∧ alb (pch t) b k = true) ∨ (∃ (k : Nat), d + k = e - b + 1 ∧ s = (nI 0, nI (b + k)) ∧ k ≤ e - b ∧ alb (pch t) b (e - b) = false))
      (fun q => q = b2 (alb (pch t) b (e - b)))
      (by
        rintro d s (⟨k, hd, hk, rfl, hal⟩ | ⟨k, hd, rfl, hk, hal⟩)
        · by_cases hl : e ≤ b + k
          · have : k = e - b := by omega
            subst this
            refine Or.inr ⟨nI 1, ?_, by rw [hal]; rfl⟩
            unfold f6_isPattern_L36
            simp (disch := omega) only [li, ↓lim1, ↓bnd_m, ↓grd_m, ↓jn_e, ↓cas_m, ↓oc_m, inb_t, nI_add, pk_mul, sub_e, le_t, le_f, lt_t, lt_f, eq_t, eq_f, cl_e, m1_e, m1_e', m1_lt, m1_le, m1_m1, lt_m1, ↓reduceIte, Nat.add_zero, Nat.zero_add, he]
          · obtain ⟨t1, t2⟩ := h3 (b + k) (by omega)
            have hu := (unit_pch t2).2
            have ya : pch t (b + k) = true → alb (pch t) b (k + 1) = true := fun hp => by show (alb (pch t) b k && pch t (b + k)) = true; rw [hal, hp]; rfl
            by_cases c1 : (97 ≤ t (b + k) ∧ t (b + k) ≤ 122) ∨ (48 ≤ t (b + k) ∧ t (b + k) ≤ 57) ∨ t (b + k) = 95 ∨ t (b + k) = 47
            · rw [decide_eq_true c1, b2_t] at hu
              refine Or.inl ⟨(nI 1, nI (b + (k + 1))), d - 1, by omega, ?_, Or.inl ⟨k + 1, by omega, by omega, rfl, ya (decide_eq_true (by omega))⟩⟩
              unfold f6_isPattern_L36
              simp (disch := omega) only [li, ↓lim1, ↓bnd_m, ↓grd_m, ↓jn_e, ↓cas_m, ↓oc_m, inb_t, nI_add, pk_mul, sub_e, le_t, le_f, lt_t, lt_f, eq_t, eq_f, cl_e, m1_e, m1_e', m1_lt, m1_le, m1_m1, lt_m1, ↓reduceIte, Nat.add_zero, Nat.zero_add, he, t1, hu, Nat.add_assoc]
            · rw [decide_eq_false c1, b2_f] at hu
              by_cases c2 : t (b + k) = 42
              · refine Or.inl ⟨(nI 1, nI (b + (k + 1))), d - 1, by omega, ?_, Or.inl ⟨k + 1, by omega, by omega, rfl, ya (decide_eq_true (by omega))⟩⟩
                unfold f6_isPattern_L36
                simp (disch := omega) only [li, ↓lim1, ↓bnd_m, ↓grd_m, ↓jn_e, ↓cas_m, ↓oc_m, inb_t, nI_add, pk_mul, sub_e, le_t, le_f, lt_t, lt_f, eq_t, eq_f, cl_e, m1_e, m1_e', m1_lt, m1_le, m1_m1, lt_m1, ↓reduceIte, Nat.add_zero, Nat.zero_add, he, t1, hu, Nat.add_assoc]
              · by_cases c3 : t (b + k) = 63
                · refine Or.inl ⟨(nI 1, nI (b + (k + 1))), d - 1, by omega, ?_, Or.inl ⟨k + 1, by omega, by omega, rfl, ya (decide_eq_true (by omega))⟩⟩
                  unfold f6_isPattern_L36
                  simp (disch := omega) only [li, ↓lim1, ↓bnd_m, ↓grd_m, ↓jn_e, ↓cas_m, ↓oc_m, inb_t, nI_add, pk_mul, sub_e, le_t, le_f, lt_t, lt_f, eq_t, eq_f, cl_e, m1_e, m1_e', m1_lt, m1_le, m1_m1, lt_m1, ↓reduceIte, Nat.add_zero, Nat.zero_add, he, t1, hu, Nat.add_assoc]
                · refine Or.inl ⟨(nI 0, nI (b + (k + 1))), d - 1, by omega, ?_, Or.inr ⟨k + 1, by omega, rfl, by omega, alb_f (i := k) (by omega) (decide_eq_false (by omega))⟩⟩
                  unfold f6_isPattern_L36
                  simp (disch := omega) only [li, ↓lim1, ↓bnd_m, ↓grd_m, ↓jn_e, ↓cas_m, ↓oc_m, inb_t, nI_add, pk_mul, sub_e, le_t, le_f, lt_t, lt_f, eq_t, eq_f, cl_e, m1_e, m1_e', m1_lt, m1_le, m1_m1, lt_m1, ↓reduceIte, Nat.add_zero, Nat.zero_add, he, t1, hu, Nat.add_assoc]
        · refine Or.inr ⟨nI 0, ?_, by rw [hal]; rfl⟩
          unfold f6_isPattern_L36
          by_cases hl : e ≤ b + k
          · simp (disch := omega) only [li, ↓lim1, ↓bnd_m, ↓grd_m, ↓jn_e, ↓cas_m, ↓oc_m, inb_t, nI_add, pk_mul, sub_e, le_t, le_f, lt_t, lt_f, eq_t, eq_f, cl_e, m1_e, m1_e', m1_lt, m1_le, m1_m1, lt_m1, ↓reduceIte, Nat.add_zero, Nat.zero_add, he]
          · simp (disch := omega) only [li, ↓lim1, ↓bnd_m, ↓grd_m, ↓jn_e, ↓cas_m, ↓oc_m, inb_t, nI_add, pk_mul, sub_e, le_t, le_f, lt_t, lt_f, eq_t, eq_f, cl_e, m1_e, m1_e', m1_lt, m1_le, m1_m1, lt_m1, ↓reduceIte, Nat.add_zero, Nat.zero_add, he])
      F (e - b + 1) (nI 1, nI b) (by omega) (Or.inl ⟨0, by omega, by omega, rfl, rfl⟩)
    obtain ⟨q, hq, rfl⟩ := key
    exact hq
  unfold f6_isPattern ptw
  by_cases hc : b < e ∧ e ≤ b + 16
  · rw [decide_eq_true hc, Bool.true_and]
    simp (disch := omega) only [li, ↓lim1, ↓bnd_m, ↓grd_m, ↓jn_e, ↓cas_m, ↓oc_m, inb_t, nI_add, pk_mul, sub_e, le_t, le_f, lt_t, lt_f, eq_t, eq_f, cl_e, m1_e, m1_e', m1_lt, m1_le, m1_m1, lt_m1, ↓reduceIte, Nat.add_zero, Nat.zero_add, hb, he, hs0 hc, isB_b]
  · rw [decide_eq_false hc, Bool.false_and]
    have h0 := stop 0
    rw [Nat.add_zero] at h0
    have i0 : isB (nI 0) = true := by decide
    by_cases c1 : e ≤ b
    · simp (disch := omega) only [li, ↓lim1, ↓bnd_m, ↓grd_m, ↓jn_e, ↓cas_m, ↓oc_m, inb_t, nI_add, pk_mul, sub_e, le_t, le_f, lt_t, lt_f, eq_t, eq_f, cl_e, m1_e, m1_e', m1_lt, m1_le, m1_m1, lt_m1, ↓reduceIte, Nat.add_zero, Nat.zero_add, hb, he, h0, i0]
      rfl
    · simp (disch := omega) only [li, ↓lim1, ↓bnd_m, ↓grd_m, ↓jn_e, ↓cas_m, ↓oc_m, inb_t, nI_add, pk_mul, sub_e, le_t, le_f, lt_t, lt_f, eq_t, eq_f, cl_e, m1_e, m1_e', m1_lt, m1_le, m1_m1, lt_m1, ↓reduceIte, Nat.add_zero, Nat.zero_add, hb, he, h0, i0]
      rfl
/-- the next word, or the fault -/
def mTk (md : T6) (t : Nat → Nat) (n b e : Nat) (v : Bool) : T6 := if v = true then mW md (wb t n e) (we t n (wb t n e)) (nI 1) else mW md b e (nI 0)
theorem take_ok (hF : 5000 < F) (H : TpM md t n) (hen : e ≤ n) (hb : md.2.2.2.1.1 = nI b) (he : md.2.2.2.1.2.1 = nI e) (hr : md.2.2.2.1.2.2.1 = nI 1) (v : Bool) : f6_take F (b2 v) md = some (mTk md t n b e v) := by
  unfold f6_take mTk
  have i1 : isB (nI 1) = true := by decide
  have i0 : isB (nI 0) = true := by decide
  cases v with
  | false =>
    have e0 : (md.1, md.2.1, md.2.2.1, (md.2.2.2.1.1, md.2.2.2.1.2.1, nI 0, md.2.2.2.1.2.2.2.1, md.2.2.2.1.2.2.2.2.1, md.2.2.2.1.2.2.2.2.2.1, md.2.2.2.1.2.2.2.2.2.2), md.2.2.2.2) = mW md b e (nI 0) := by rw [hb, he]; rfl
    simp (disch := omega) only [li, ↓lim1, ↓bnd_m, ↓grd_m, ↓jn_e, ↓cas_m, ↓oc_m, inb_t, nI_add, pk_mul, sub_e, le_t, le_f, lt_t, lt_f, eq_t, eq_f, cl_e, m1_e, m1_e', m1_lt, m1_le, m1_m1, lt_m1, ↓reduceIte, Nat.add_zero, Nat.zero_add, hr, b2_f, i0]
    exact congrArg some e0
  | true =>
    have e0 : (md.1, md.2.1, md.2.2.1, (md.2.2.2.1.1, md.2.2.2.1.2.1, nI 1, md.2.2.2.1.2.2.2.1, md.2.2.2.1.2.2.2.2.1, md.2.2.2.1.2.2.2.2.2.1, md.2.2.2.1.2.2.2.2.2.2), md.2.2.2.2) = mW md b e (nI 1) := by rw [hb, he]; rfl
    have hnx := next_ok (md := mW md b e (nI 1)) (v := nI 1) hF H hen rfl rfl
    rw [mW_mW] at hnx
    simp (disch := omega) only [li, ↓lim1, ↓bnd_m, ↓grd_m, ↓jn_e, ↓cas_m, ↓oc_m, inb_t, nI_add, pk_mul, sub_e, le_t, le_f, lt_t, lt_f, eq_t, eq_f, cl_e, m1_e, m1_e', m1_lt, m1_le, m1_m1, lt_m1, ↓reduceIte, Nat.add_zero, Nat.zero_add, hr, b2_t, i1, e0, hnx, if_true]
theorem takeEnd_ok (hF : 5000 < F) (H : TpM md t n) (hbe : b ≤ e) (hen : e ≤ n) (hb : md.2.2.2.1.1 = nI b) (he : md.2.2.2.1.2.1 = nI e) (hr : md.2.2.2.1.2.2.1 = nI 1) : f6_takeEnd F md = some (mTk md t n b e (decide (e = b + 1 ∧ t b = 59))) := by
  have hn := H.1
  have tk := fun v => take_ok hF H hen hb he hr v
  have t1 := tk true
  have t0 := tk false
  rw [b2_t] at t1
  rw [b2_f] at t0
  unfold f6_takeEnd
  by_cases h1 : e = b + 1
  · obtain ⟨u1, u2⟩ := H.2.2 b (by omega)
    by_cases h2 : t b = 59
    · rw [decide_eq_true ⟨h1, h2⟩]
      simp (disch := omega) only [li, ↓lim1, ↓bnd_m, ↓grd_m, ↓jn_e, ↓cas_m, ↓oc_m, inb_t, nI_add, pk_mul, sub_e, le_t, le_f, lt_t, lt_f, eq_t, eq_f, cl_e, m1_e, m1_e', m1_lt, m1_le, m1_m1, lt_m1, ↓reduceIte, Nat.add_zero, Nat.zero_add, hb, he, u1, t1]
    · rw [decide_eq_false (fun h => h2 h.2)]
      simp (disch := omega) only [li, ↓lim1, ↓bnd_m, ↓grd_m, ↓jn_e, ↓cas_m, ↓oc_m, inb_t, nI_add, pk_mul, sub_e, le_t, le_f, lt_t, lt_f, eq_t, eq_f, cl_e, m1_e, m1_e', m1_lt, m1_le, m1_m1, lt_m1, ↓reduceIte, Nat.add_zero, Nat.zero_add, hb, he, u1, t0]
  · rw [decide_eq_false (fun h => h1 h.1)]
    simp (disch := omega) only [li, ↓lim1, ↓bnd_m, ↓grd_m, ↓jn_e, ↓cas_m, ↓oc_m, inb_t, nI_add, pk_mul, sub_e, le_t, le_f, lt_t, lt_f, eq_t, eq_f, cl_e, m1_e, m1_e', m1_lt, m1_le, m1_m1, lt_m1, ↓reduceIte, Nat.add_zero, Nat.zero_add, hb, he, t0]
/-- a number between two -/
def btw (o : Option Nat) (lo hi : Nat) : Bool := match o with
  | none => false
  | some v => decide (lo ≤ v ∧ v ≤ hi)
theorem mtakeWhole_ok (hF : 5000 < F) (H : TpM md t n) (hbe : b ≤ e) (hen : e ≤ n) (hb : md.2.2.2.1.1 = nI b) (he : md.2.2.2.1.2.1 = nI e) (hr : md.2.2.2.1.2.2.1 = nI 1) {lo hi : Nat} (h1 : lo ≤ 1000000) (h2 : hi ≤ 1000000) : f6_takeWhole F (nI lo) (nI hi) md = some (pI (whw t b e), mTk md t n b e (btw (whw t b e) lo hi)) := by
  have tk := fun v => take_ok hF H hen hb he hr v
  have t1 := tk true
  have t0 := tk false
  rw [b2_t] at t1
  rw [b2_f] at t0
  unfold f6_takeWhole
  rw [bnd_e (mwhole_ok hF H hbe hen hb he)]
  cases hw : whw t b e with
  | none =>
    have em : pI none = im1 := rfl
    have hlt : im1 < nI lo := by rw [m1_lt (by omega)]; trivial
    simp (disch := omega) only [li, ↓lim1, ↓bnd_m, ↓grd_m, ↓jn_e, ↓cas_m, ↓oc_m, inb_t, nI_add, pk_mul, sub_e, le_t, le_f, lt_t, lt_f, eq_t, eq_f, cl_e, m1_e, m1_e', m1_lt, m1_le, m1_m1, lt_m1, ↓reduceIte, Nat.add_zero, Nat.zero_add, em, hlt, t0, btw]
  | some v =>
    obtain ⟨_, _, _, _, _, hv⟩ := whw_spec hw
    have em : pI (some v) = nI v := rfl
    by_cases c1 : v < lo
    · have : btw (some v) lo hi = false := decide_eq_false (by omega)
      rw [this]
      simp (disch := omega) only [li, ↓lim1, ↓bnd_m, ↓grd_m, ↓jn_e, ↓cas_m, ↓oc_m, inb_t, nI_add, pk_mul, sub_e, le_t, le_f, lt_t, lt_f, eq_t, eq_f, cl_e, m1_e, m1_e', m1_lt, m1_le, m1_m1, lt_m1, ↓reduceIte, Nat.add_zero, Nat.zero_add, em, t0]
    · by_cases c2 : hi < v
      · have : btw (some v) lo hi = false := decide_eq_false (by omega)
        rw [this]
        simp (disch := omega) only [li, ↓lim1, ↓bnd_m, ↓grd_m, ↓jn_e, ↓cas_m, ↓oc_m, inb_t, nI_add, pk_mul, sub_e, le_t, le_f, lt_t, lt_f, eq_t, eq_f, cl_e, m1_e, m1_e', m1_lt, m1_le, m1_m1, lt_m1, ↓reduceIte, Nat.add_zero, Nat.zero_add, em, t0]
      · have : btw (some v) lo hi = true := decide_eq_true (by omega)
        rw [this]
        simp (disch := omega) only [li, ↓lim1, ↓bnd_m, ↓grd_m, ↓jn_e, ↓cas_m, ↓oc_m, inb_t, nI_add, pk_mul, sub_e, le_t, le_f, lt_t, lt_f, eq_t, eq_f, cl_e, m1_e, m1_e', m1_lt, m1_le, m1_m1, lt_m1, ↓reduceIte, Nat.add_zero, Nat.zero_add, em, t1]
end Rd
/-! ===== names as numbers and as texts; the sort of a row ===== -/
def wl (t : Nat → Nat) (b k : Nat) : List Nat := rw1 k (fun i => t (b + i))
theorem wl_len (t : Nat → Nat) (b k : Nat) : (wl t b k).length = k := rw1_len _ _
theorem wl_get {t : Nat → Nat} {b k i : Nat} (h : i < k) : (wl t b k).getD i 0 = t (b + i) := by
  unfold wl rw1
  simp [h]
theorem nt_code {t : Nat → Nat} {b : Nat} : ∀ k, alb (ltr t) b k = true → 0 < k → nt (cdw t b k) = wl t b k := by
  intro k
  induction k with
  | zero => intro _ h; omega
  | succ k ih =>
    intro h _
    have h' : (alb (ltr t) b k && ltr t (b + k)) = true := h
    rw [Bool.and_eq_true] at h'
    have h2 : 97 ≤ t (b + k) ∧ t (b + k) ≤ 122 := of_decide_eq_true h'.2
    have e : cdw t b (k + 1) = 27 * cdw t b k + (t (b + k) - 96) := rfl
    have ew : wl t b (k + 1) = wl t b k ++ [t (b + k)] := rw1_s _ _
    rw [ew]
    cases k with
    | zero =>
      have e0 : cdw t b (0 + 1) = t b - 96 := by show 27 * 0 + (t (b + 0) - 96) = _; rw [Nat.add_zero, Nat.mul_zero, Nat.zero_add]
      rw [Nat.add_zero] at h2
      unfold nt
      rw [e0, dg_lt (by omega)]
      show [t b - 96 + 96] = [] ++ [t (b + 0)]
      rw [Nat.add_zero, show t b - 96 + 96 = t b by omega]
      rfl
    | succ k =>
      have hp := (cdw_lt h'.1).2 (by omega)
      have i1 := ih h'.1 (by omega)
      rw [e]
      unfold nt at i1 ⊢
      rw [dg_ge (by omega) (by omega), show (27 * cdw t b (k + 1) + (t (b + (k + 1)) - 96)) / 27 = cdw t b (k + 1) by omega, show (27 * cdw t b (k + 1) + (t (b + (k + 1)) - 96)) % 27 = t (b + (k + 1)) - 96 by omega, List.map_append, i1]
      show _ ++ [t (b + (k + 1)) - 96 + 96] = _
      rw [show t (b + (k + 1)) - 96 + 96 = t (b + (k + 1)) by omega]
/-- the same number, the same text -/
theorem cd_inj {t t' : Nat → Nat} {b b' k k' : Nat} (h : alb (ltr t) b k = true) (h' : alb (ltr t') b' k' = true) (hk : 0 < k) (hk' : 0 < k') (e : cdw t b k = cdw t' b' k') : k = k' ∧ ∀ i, i < k → t (b + i) = t' (b' + i) := by
  have e1 := nt_code k h hk
  have e2 := nt_code k' h' hk'
  rw [e, e2] at e1
  have e3 := congrArg List.length e1
  rw [wl_len, wl_len] at e3
  refine ⟨e3.symm, fun i hi => ?_⟩
  have e4 : (wl t' b' k').getD i 0 = (wl t b k).getD i 0 := by rw [e1]
  rw [wl_get (by omega), wl_get hi] at e4
  exact e4.symm
theorem cd_same {t t' : Nat → Nat} {b b' : Nat} : ∀ k, (∀ i, i < k → t (b + i) = t' (b' + i)) → cdw t b k = cdw t' b' k := by
  intro k
  induction k with
  | zero => intro _; rfl
  | succ k ih =>
    intro h
    show 27 * cdw t b k + (t (b + k) - 96) = 27 * cdw t' b' k + (t' (b' + k) - 96)
    rw [ih (fun i hi => h i (by omega)), h k (by omega)]
/-- the keywords -/
def kwl (s : Nat) : List Nat := if s = 0 then [99, 108, 111, 99, 107] else if s = 1 then [100, 101, 114, 105, 118, 101] else if s = 2 then [116, 117, 114, 110, 101, 100] else if s = 3 then [97, 112, 97, 114, 116] else if s = 4 then [102, 97, 108, 115, 101] else if s = 5 then [99, 121, 99, 108, 101, 115] else if s = 6 then [109, 111, 115, 116] else if s = 7 then [108, 101, 97, 115, 116] else if s = 8 then [108, 111, 97, 100] else [115, 108, 111, 112, 101]
def kwf (s i : Nat) : Nat := (kwl s).getD i 0
def kl (s : Nat) : Nat := (kwl s).length
theorem kw_tab : ∀ s, s < 10 → kl s ≤ 6 ∧ 0 < kl s ∧ sLen (9 + s) = nI (kl s) ∧ lenJ.getD (9 + s) 0 = kl s ∧ f5_keyword (nI s) = some (9 + s) ∧ alb (ltr (kwf s)) 0 (kl s) = true ∧ cdw (kwf s) 0 (kl s) = kc s ∧ (∀ i, i < 6 → i < kl s → sCh (9 + s) (nI i) = nI (kwf s i) ∧ kwf s i < 128) := fun s h => co_dec (N := 10) (P := fun s => kl s ≤ 6 ∧ 0 < kl s ∧ sLen (9 + s) = nI (kl s) ∧ lenJ.getD (9 + s) 0 = kl s ∧ f5_keyword (nI s) = some (9 + s) ∧ alb (ltr (kwf s)) 0 (kl s) = true ∧ cdw (kwf s) 0 (kl s) = kc s ∧ (∀ i, i < 6 → i < kl s → sCh (9 + s) (nI i) = nI (kwf s i) ∧ kwf s i < 128)) (by decide +kernel) h
theorem kc_inj : ∀ s, s < 10 → ∀ s', s' < 10 → kc s = kc s' → s = s' := fun s h => co_dec (N := 10) (P := fun s => ∀ s', s' < 10 → kc s = kc s' → s = s') (by decide +kernel) h
theorem kc_pos : ∀ s, s < 10 → 0 < kc s := fun s h => co_dec (N := 10) (P := fun s => 0 < kc s) (by decide +kernel) h
theorem nt_kc {s : Nat} (h : s < 10) : nt (kc s) = wl (kwf s) 0 (kl s) := by
  obtain ⟨_, h1, _, _, _, h2, h3, _⟩ := kw_tab s h
  rw [← h3]
  exact nt_code _ h2 h1
section Rd
variable {F n b e : Nat} {t : Nat → Nat} {tp : T4} {md : T6} {rd : T2}
/-- the word in hand is a keyword, by its number -/
def isK (t : Nat → Nat) (b e s : Nat) : Bool := nmw t b e && decide (cdw t b (e - b) = kc s)
theorem isK_iff {s : Nat} (hs : s < 10) (hbe : b ≤ e) : isK t b e s = true ↔ (e - b = kl s ∧ ∀ i, i < kl s → t (b + i) = kwf s i) := by
  obtain ⟨k1, k2, _, _, _, k6, k7, k8⟩ := kw_tab s hs
  unfold isK
  rw [Bool.and_eq_true]
  constructor
  · rintro ⟨h1, h2⟩
    obtain ⟨a1, a2, a3, a4, a5⟩ := nmw_spec h1
    have h3 := of_decide_eq_true h2
    rw [← k7] at h3
    obtain ⟨c1, c2⟩ := cd_inj a3 k6 (by omega) k2 h3
    refine ⟨c1, fun i hi => ?_⟩
    have := c2 i (by omega)
    rwa [Nat.zero_add] at this
  · rintro ⟨h1, h2⟩
    have h3 : ∀ i, i < e - b → t (b + i) = kwf s (0 + i) := fun i hi => by rw [Nat.zero_add]; exact h2 i (by omega)
    refine ⟨?_, decide_eq_true (by rw [cd_same _ h3, h1, k7])⟩
    unfold nmw
    rw [decide_eq_true (show b < e ∧ e ≤ b + 8 by omega), Bool.true_and]
    refine alb_of (fun i hi => ?_)
    have h4 := alb_t k6 i (by omega)
    unfold ltr at h4 ⊢
    rw [h3 i hi]
    exact h4
theorem isIn_ok (hF : 5000 < F) (H : TpC tp t n) (hbe : b ≤ e) (he : e ≤ n) {s : Nat} (hs : s < 10) : f2_isInHand F (9 + s) (rW rd b e) tp = some (b2 (isK t b e s)) := by
  have hn := H.1
  obtain ⟨k1, k2, k3, k4, k5, k6, k7, k8⟩ := kw_tab s hs
  have hj : decide (9 + s < nJ) = true := decide_eq_true (by show 9 + s < 19; omega)
  unfold f2_isInHand
  by_cases hl : e - b = kl s
  · have key := iter_rule (b := f2_isInHand_L20 (9 + s) (rW rd b e) tp)
      (fun d st => ∃ i : Nat, d + i = kl s ∧ st = nI i ∧ ∀ j, j < i → t (b + j) = kwf s j)
      (fun q => (q = .inl () ∧ isK t b e s = false) ∨ (q = .inr () ∧ isK t b e s = true))
      (by
        rintro d st ⟨i, hd, rfl, hi⟩
        by_cases hk : kl s ≤ i
        · have : i = kl s := by omega
          subst this
          refine Or.inr ⟨.inr (), ?_, Or.inr ⟨rfl, (isK_iff hs hbe).mpr ⟨hl, hi⟩⟩⟩
          unfold f2_isInHand_L20
          simp (disch := omega) only [li, ↓lim1, ↓bnd_m, ↓grd_m, ↓jn_e, ↓cas_m, ↓oc_m, inb_t, nI_add, pk_mul, sub_e, le_t, le_f, lt_t, lt_f, eq_t, eq_f, cl_e, m1_e, m1_e', m1_lt, m1_le, m1_m1, lt_m1, ↓reduceIte, Nat.add_zero, Nat.zero_add, hj, k3]
        · obtain ⟨c1, c2⟩ := k8 i (by omega) (by omega)
          have t2 := (H.2.2 (b + i) (by omega)).2
          by_cases hc : t (b + i) = kwf s i
          · refine Or.inl ⟨nI (i + 1), d - 1, by omega, ?_, i + 1, by omega, rfl, fun j hj => ?_⟩
            · unfold f2_isInHand_L20
              simp (disch := omega) only [li, ↓lim1, ↓bnd_m, ↓grd_m, ↓jn_e, ↓cas_m, ↓oc_m, inb_t, nI_add, pk_mul, sub_e, le_t, le_f, lt_t, lt_f, eq_t, eq_f, cl_e, m1_e, m1_e', m1_lt, m1_le, m1_m1, lt_m1, ↓reduceIte, Nat.add_zero, Nat.zero_add, hj, k3, k4, rWb, at_n H (show b + i < n by omega), c1]
            · by_cases ej : j = i
              · rw [ej]; exact hc
              · exact hi j (by omega)
          · refine Or.inr ⟨.inl (), ?_, Or.inl ⟨rfl, ?_⟩⟩
            · unfold f2_isInHand_L20
              simp (disch := omega) only [li, ↓lim1, ↓bnd_m, ↓grd_m, ↓jn_e, ↓cas_m, ↓oc_m, inb_t, nI_add, pk_mul, sub_e, le_t, le_f, lt_t, lt_f, eq_t, eq_f, cl_e, m1_e, m1_e', m1_lt, m1_le, m1_m1, lt_m1, ↓reduceIte, Nat.add_zero, Nat.zero_add, hj, k3, k4, rWb, at_n H (show b + i < n by omega), c1]
            · cases hv : isK t b e s with
              | false => rfl
              | true => exact absurd (((isK_iff hs hbe).mp hv).2 i (by omega)) hc)
      F (kl s) (nI 0) (by omega) ⟨0, by omega, rfl, fun j hj => by omega⟩
    obtain ⟨q, hq, h⟩ := key
    simp (disch := omega) only [li, ↓lim1, ↓bnd_m, ↓grd_m, ↓jn_e, ↓cas_m, ↓oc_m, inb_t, nI_add, pk_mul, sub_e, le_t, le_f, lt_t, lt_f, eq_t, eq_f, cl_e, m1_e, m1_e', m1_lt, m1_le, m1_m1, lt_m1, ↓reduceIte, Nat.add_zero, Nat.zero_add, hj, k3, rWb, rWe, hq]
    rcases h with ⟨rfl, h⟩ | ⟨rfl, h⟩ <;> rw [h] <;> rfl
  · have : isK t b e s = false := by
      cases hv : isK t b e s with
      | false => rfl
      | true => exact absurd ((isK_iff hs hbe).mp hv).1 hl
    rw [this]
    have hne : ¬ kl s = e - b := fun h => hl h.symm
    simp (disch := omega) only [li, ↓lim1, ↓bnd_m, ↓grd_m, ↓jn_e, ↓cas_m, ↓oc_m, inb_t, nI_add, pk_mul, sub_e, le_t, le_f, lt_t, lt_f, eq_t, eq_f, cl_e, m1_e, m1_e', m1_lt, m1_le, m1_m1, lt_m1, ↓reduceIte, Nat.add_zero, Nat.zero_add, hj, k3, rWb, rWe]
    rfl
/-- the sort of the row that begins with the word in hand: both sides -/
theorem sort_ok (hF : 5000 < F) (HC : TpC tp t n) (HM : TpM md t n) (hbe : b ≤ e) (hen : e ≤ n) (hb : md.2.2.2.1.1 = nI b) (he : md.2.2.2.1.2.1 = nI e) : ∃ o : Option Nat, f2_sortInHand F (rW rd b e) tp = some (pI o) ∧ bnd (f6_wordName F md) (fun u => f6_sortOf F u) = some (pI o) ∧ ∀ s, o = some s → s < 10 ∧ nmw t b e = true ∧ cdw t b (e - b) = kc s := by
  obtain ⟨w, hw⟩ : ∃ w, w = (if nmw t b e = true then cdw t b (e - b) else 0) := ⟨_, rfl⟩
  have hwn := wordName_ok hF HM hbe hen hb he
  rw [← hw] at hwn
  have hw40 : w < 2 ^ 40 := by
    rw [hw]
    split
    · rename_i h; exact (nmw_spec h).2.2.2.1
    · decide
  have hK : ∀ s, s < 10 → (isK t b e s = true ↔ w = kc s) := by
    intro s hs
    have h0 := kc_pos s hs
    unfold isK
    rw [hw]
    cases hv : nmw t b e with
    | false =>
      simp only [Bool.false_and, Bool.false_eq_true, if_false, false_iff]
      omega
    | true => simp only [Bool.true_and, if_true, decide_eq_true_eq]
  have cls' : (∃ s, s < 10 ∧ w = kc s) ∨ (∀ s, s < 10 → ¬ w = kc s) := by
    by_cases h : ∃ s, s < 10 ∧ w = kc s
    · exact Or.inl h
    · exact Or.inr (fun s hs he => h ⟨s, hs, he⟩)
  have kIn := fun s (hs : s < 10) => isIn_ok (rd := rd) hF HC hbe hen hs
  have kKey := fun s (hs : s < 10) => (kw_tab s hs).2.2.2.2.1
  rcases cls' with ⟨s, hs, hws⟩ | hno
  · refine ⟨some s, ?_, ?_, ?_⟩
    · have key := iter_rule (b := f2_sortInHand_L2 F (rW rd b e) tp)
        (fun d st => ∃ k : Nat, d + k = s ∧ st = nI k)
        (fun q => q = .inl (nI s))
        (by
          rintro d st ⟨k, hd, rfl⟩
          by_cases hk : k = s
          · subst hk
            have q := kIn k hs
            rw [(hK k hs).mpr hws, b2_t] at q
            refine Or.inr ⟨_, ?_, rfl⟩
            unfold f2_sortInHand_L2
            simp (disch := omega) only [li, ↓lim1, ↓bnd_m, ↓grd_m, ↓jn_e, ↓cas_m, ↓oc_m, inb_t, nI_add, pk_mul, sub_e, le_t, le_f, lt_t, lt_f, eq_t, eq_f, cl_e, m1_e, m1_e', m1_lt, m1_le, m1_m1, lt_m1, ↓reduceIte, Nat.add_zero, Nat.zero_add, kKey k hs, q]
          · have q := kIn k (by omega)
            have : isK t b e k = false := by
              cases hv : isK t b e k with
              | false => rfl
              | true => exact absurd (kc_inj k (by omega) s hs (by rw [← (hK k (by omega)).mp hv, hws])) hk
            rw [this, b2_f] at q
            refine Or.inl ⟨nI (k + 1), d - 1, by omega, ?_, k + 1, by omega, rfl⟩
            unfold f2_sortInHand_L2
            simp (disch := omega) only [li, ↓lim1, ↓bnd_m, ↓grd_m, ↓jn_e, ↓cas_m, ↓oc_m, inb_t, nI_add, pk_mul, sub_e, le_t, le_f, lt_t, lt_f, eq_t, eq_f, cl_e, m1_e, m1_e', m1_lt, m1_le, m1_m1, lt_m1, ↓reduceIte, Nat.add_zero, Nat.zero_add, kKey k (by omega), q])
        F s (nI 0) (by omega) ⟨0, by omega, rfl⟩
      obtain ⟨q, hq, rfl⟩ := key
      unfold f2_sortInHand
      simp (disch := omega) only [li, ↓lim1, ↓bnd_m, ↓grd_m, ↓jn_e, ↓cas_m, ↓oc_m, inb_t, nI_add, pk_mul, sub_e, le_t, le_f, lt_t, lt_f, eq_t, eq_f, cl_e, m1_e, m1_e', m1_lt, m1_le, m1_m1, lt_m1, ↓reduceIte, Nat.add_zero, Nat.zero_add, hq]
      rfl
    · rw [bnd_e hwn]
      have h0 := kc_pos s hs
      have key := iter_rule (b := f6_sortOf_L5 (lN w))
        (fun d st => ∃ k : Nat, d + k = 10 ∧ st = ((if s < k then nI s else im1), nI k))
        (fun q => q = nI s)
        (by
          rintro d st ⟨k, hd, rfl⟩
          by_cases hk : 9 < k
          · refine Or.inr ⟨_, ?_, rfl⟩
            have : s < k := by omega
            unfold f6_sortOf_L5
            simp (disch := omega) only [li, ↓lim1, ↓bnd_m, ↓grd_m, ↓jn_e, ↓cas_m, ↓oc_m, inb_t, nI_add, pk_mul, sub_e, le_t, le_f, lt_t, lt_f, eq_t, eq_f, cl_e, m1_e, m1_e', m1_lt, m1_le, m1_m1, lt_m1, ↓reduceIte, Nat.add_zero, Nat.zero_add, this, if_true]
          · refine Or.inl ⟨_, d - 1, by omega, ?_, k + 1, by omega, rfl⟩
            have wk := wordOf_ok (show k < 10 by omega)
            have kl1 := kc_lt k
            by_cases e1 : k = s
            · subst e1
              have : k < k + 1 := by omega
              have h4 : ¬ k < k := by omega
              unfold f6_sortOf_L5
              simp (disch := omega) only [li, ↓lim1, ↓bnd_m, ↓grd_m, ↓jn_e, ↓cas_m, ↓oc_m, inb_t, nI_add, pk_mul, sub_e, le_t, le_f, lt_t, lt_f, eq_t, eq_f, cl_e, m1_e, m1_e', m1_lt, m1_le, m1_m1, lt_m1, ↓reduceIte, Nat.add_zero, Nat.zero_add, liL, remL', lN_add, lN_mul, subL, leL_t, leL_f, ltL_t, ltL_f, eqL_t, eqL_f, divL, cmp_le, cmp_ge, cmp_gt, cmp_lt, cmp_eq, not_true_eq_false, not_false_eq_true, decide_true, decide_false, dnz, wk, if_pos this]
            · have hne : ¬ kc k = w := fun h => e1 (kc_inj k (by omega) s hs (by rw [h, hws]))
              have h5 : (s < k + 1) = (s < k) := propext ⟨fun h => by omega, fun h => by omega⟩
              unfold f6_sortOf_L5
              simp (disch := omega) only [li, ↓lim1, ↓bnd_m, ↓grd_m, ↓jn_e, ↓cas_m, ↓oc_m, inb_t, nI_add, pk_mul, sub_e, le_t, le_f, lt_t, lt_f, eq_t, eq_f, cl_e, m1_e, m1_e', m1_lt, m1_le, m1_m1, lt_m1, ↓reduceIte, Nat.add_zero, Nat.zero_add, liL, remL', lN_add, lN_mul, subL, leL_t, leL_f, ltL_t, ltL_f, eqL_t, eqL_f, divL, cmp_le, cmp_ge, cmp_gt, cmp_lt, cmp_eq, not_true_eq_false, not_false_eq_true, decide_true, decide_false, dnz, wk, h5])
        F 10 (im1, nI 0) (by omega) ⟨0, by omega, rfl⟩
      obtain ⟨q, hq, rfl⟩ := key
      unfold f6_sortOf
      simp (disch := omega) only [li, ↓lim1, ↓bnd_m, ↓grd_m, ↓jn_e, ↓cas_m, ↓oc_m, inb_t, nI_add, pk_mul, sub_e, le_t, le_f, lt_t, lt_f, eq_t, eq_f, cl_e, m1_e, m1_e', m1_lt, m1_le, m1_m1, lt_m1, ↓reduceIte, Nat.add_zero, Nat.zero_add, hq]
      rfl
    · rintro s' h
      cases h
      refine ⟨hs, ?_⟩
      have h1 := (hK s hs).mpr hws
      unfold isK at h1
      rw [Bool.and_eq_true] at h1
      exact ⟨h1.1, of_decide_eq_true h1.2⟩
  · refine ⟨none, ?_, ?_, fun s h => by cases h⟩
    · have key := iter_rule (b := f2_sortInHand_L2 F (rW rd b e) tp)
        (fun d st => ∃ k : Nat, d + k = 10 ∧ st = nI k)
        (fun q => q = .inr ())
        (by
          rintro d st ⟨k, hd, rfl⟩
          by_cases hk : 10 ≤ k
          · refine Or.inr ⟨_, ?_, rfl⟩
            unfold f2_sortInHand_L2
            simp (disch := omega) only [li, ↓lim1, ↓bnd_m, ↓grd_m, ↓jn_e, ↓cas_m, ↓oc_m, inb_t, nI_add, pk_mul, sub_e, le_t, le_f, lt_t, lt_f, eq_t, eq_f, cl_e, m1_e, m1_e', m1_lt, m1_le, m1_m1, lt_m1, ↓reduceIte, Nat.add_zero, Nat.zero_add]
          · have q := kIn k (by omega)
            have : isK t b e k = false := by
              cases hv : isK t b e k with
              | false => rfl
              | true => exact absurd ((hK k (by omega)).mp hv) (hno k (by omega))
            rw [this, b2_f] at q
            refine Or.inl ⟨nI (k + 1), d - 1, by omega, ?_, k + 1, by omega, rfl⟩
            unfold f2_sortInHand_L2
            simp (disch := omega) only [li, ↓lim1, ↓bnd_m, ↓grd_m, ↓jn_e, ↓cas_m, ↓oc_m, inb_t, nI_add, pk_mul, sub_e, le_t, le_f, lt_t, lt_f, eq_t, eq_f, cl_e, m1_e, m1_e', m1_lt, m1_le, m1_m1, lt_m1, ↓reduceIte, Nat.add_zero, Nat.zero_add, kKey k (by omega), q])
        F 10 (nI 0) (by omega) ⟨0, by omega, rfl⟩
      obtain ⟨q, hq, rfl⟩ := key
      unfold f2_sortInHand
      simp (disch := omega) only [li, ↓lim1, ↓bnd_m, ↓grd_m, ↓jn_e, ↓cas_m, ↓oc_m, inb_t, nI_add, pk_mul, sub_e, le_t, le_f, lt_t, lt_f, eq_t, eq_f, cl_e, m1_e, m1_e', m1_lt, m1_le, m1_m1, lt_m1, ↓reduceIte, Nat.add_zero, Nat.zero_add, hq]
      rfl
    · rw [bnd_e hwn]
      have key := iter_rule (b := f6_sortOf_L5 (lN w))
        (fun d st => ∃ k : Nat, d + k = 10 ∧ st = (im1, nI k))
        (fun q => q = im1)
        (by
          rintro d st ⟨k, hd, rfl⟩
          by_cases hk : 9 < k
          · refine Or.inr ⟨_, ?_, rfl⟩
            unfold f6_sortOf_L5
            simp (disch := omega) only [li, ↓lim1, ↓bnd_m, ↓grd_m, ↓jn_e, ↓cas_m, ↓oc_m, inb_t, nI_add, pk_mul, sub_e, le_t, le_f, lt_t, lt_f, eq_t, eq_f, cl_e, m1_e, m1_e', m1_lt, m1_le, m1_m1, lt_m1, ↓reduceIte, Nat.add_zero, Nat.zero_add]
          · refine Or.inl ⟨_, d - 1, by omega, ?_, k + 1, by omega, rfl⟩
            have wk := wordOf_ok (show k < 10 by omega)
            have kl1 := kc_lt k
            have hne : ¬ kc k = w := fun h => hno k (by omega) h.symm
            unfold f6_sortOf_L5
            by_cases h0 : w ≤ 0
            · simp (disch := omega) only [li, ↓lim1, ↓bnd_m, ↓grd_m, ↓jn_e, ↓cas_m, ↓oc_m, inb_t, nI_add, pk_mul, sub_e, le_t, le_f, lt_t, lt_f, eq_t, eq_f, cl_e, m1_e, m1_e', m1_lt, m1_le, m1_m1, lt_m1, ↓reduceIte, Nat.add_zero, Nat.zero_add, liL, remL', lN_add, lN_mul, subL, leL_t, leL_f, ltL_t, ltL_f, eqL_t, eqL_f, divL, cmp_le, cmp_ge, cmp_gt, cmp_lt, cmp_eq, not_true_eq_false, not_false_eq_true, decide_true, decide_false, dnz]
            · simp (disch := omega) only [li, ↓lim1, ↓bnd_m, ↓grd_m, ↓jn_e, ↓cas_m, ↓oc_m, inb_t, nI_add, pk_mul, sub_e, le_t, le_f, lt_t, lt_f, eq_t, eq_f, cl_e, m1_e, m1_e', m1_lt, m1_le, m1_m1, lt_m1, ↓reduceIte, Nat.add_zero, Nat.zero_add, liL, remL', lN_add, lN_mul, subL, leL_t, leL_f, ltL_t, ltL_f, eqL_t, eqL_f, divL, cmp_le, cmp_ge, cmp_gt, cmp_lt, cmp_eq, not_true_eq_false, not_false_eq_true, decide_true, decide_false, dnz, wk])
        F 10 (im1, nI 0) (by omega) ⟨0, by omega, rfl⟩
      obtain ⟨q, hq, rfl⟩ := key
      unfold f6_sortOf
      simp (disch := omega) only [li, ↓lim1, ↓bnd_m, ↓grd_m, ↓jn_e, ↓cas_m, ↓oc_m, inb_t, nI_add, pk_mul, sub_e, le_t, le_f, lt_t, lt_f, eq_t, eq_f, cl_e, m1_e, m1_e', m1_lt, m1_le, m1_m1, lt_m1, ↓reduceIte, Nat.add_zero, Nat.zero_add, hq]
      rfl
end Rd
/-! ===== the sheet that is read into ===== -/
def gu {α : Type} (f : Nat → α) (k : Nat) (v : α) : Nat → α := fun i => if i = k then v else f i
theorem gu_s {α : Type} {f : Nat → α} {k : Nat} {v : α} : gu f k v k = v := if_pos rfl
theorem gu_n {α : Type} {f : Nat → α} {k i : Nat} {v : α} (h : ¬ i = k) : gu f k v i = f i := if_neg h
def ShP (sh : T3) (N : Nat) (so va pl : Nat → Nat) (pc : Nat → Nat → Nat) (L : List Nat) : Prop := RowC sh N so va ∧ PtsC sh N pl pc ∧ (∀ j, j < 3 * N → sHit sh j = 0) ∧ (∀ i, i < 2 * N → sLnk sh i = im1) ∧ PrC sh L
theorem gd_l {L M : List Nat} {i : Nat} (h : i < L.length) : (L ++ M).getD i 0 = L.getD i 0 := by
  rw [List.getD_eq_getElem?_getD, List.getD_eq_getElem?_getD, List.getElem?_append_left h]
theorem gd_r {L M : List Nat} {i : Nat} (h : L.length ≤ i) : (L ++ M).getD i 0 = M.getD (i - L.length) 0 := by
  rw [List.getD_eq_getElem?_getD, List.getD_eq_getElem?_getD, List.getElem?_append_right h]
section Sh
variable {F N n b e : Nat} {so va pl : Nat → Nat} {pc : Nat → Nat → Nat} {L : List Nat} {t : Nat → Nat} {tp : T4} {sh : T3} {rd : T2}
theorem print_sh (H : ShP sh N so va pl pc L) (hL : L.length < 1240) {u : Nat} (hu : u < 128) : ∃ sh', f3_print (nI u) sh = some sh' ∧ ShP sh' N so va pl pc (L ++ [u]) := by
  obtain ⟨h1, h2, h3, h4, h5, h6, h7⟩ := H
  have cid : vp_nar .char (xi2c (nI u)) = nI u := c_id (by omega)
  have hlen : (L ++ [u]).length = L.length + 1 := by rw [List.length_append]; rfl
  refine ⟨(sh.1, sh.2.1, sh.2.2.1, sh.2.2.2.1, sh.2.2.2.2.1, sh.2.2.2.2.2.1, upd sh.2.2.2.2.2.2.1 L.length (nI u), sh.2.2.2.2.2.2.2.1, nI (L.length + 1)), ?_, h1, ?_, h3, h4, ?_⟩
  · unfold f3_print
    simp (disch := omega) only [li, ↓lim1, ↓bnd_m, ↓grd_m, ↓jn_e, ↓cas_m, ↓oc_m, inb_t, nI_add, pk_mul, sub_e, le_t, le_f, lt_t, lt_f, eq_t, eq_f, cl_e, m1_e, m1_e', m1_lt, m1_le, m1_m1, lt_m1, ↓reduceIte, Nat.add_zero, Nat.zero_add, h6, cid]
  · obtain ⟨p1, p2, p3⟩ := h2
    refine ⟨p1, p2, fun j hj => ?_⟩
    obtain ⟨q1, q2, q3, q4⟩ := p3 j hj
    refine ⟨q1, q2, q3, fun h0 => ?_⟩
    obtain ⟨ps, PL, r1, r2, r3, r4, r5⟩ := q4 h0
    have hPL : PL = L.length := by
      rw [h6] at r2
      exact ((nI_eq (by omega) (by omega)).mp r2).symm
    subst hPL
    refine ⟨ps, L.length + 1, r1, rfl, by omega, by omega, fun i hi => ?_⟩
    obtain ⟨s1, s2⟩ := r5 i hi
    refine ⟨?_, s2⟩
    show upd sh.2.2.2.2.2.2.1 L.length (nI u) (ps + i) = _
    rw [pk_un (by omega)]
    exact s1
  · refine ⟨by omega, by rw [hlen], fun i hi => ?_⟩
    rw [hlen] at hi
    show upd sh.2.2.2.2.2.2.1 L.length (nI u) i = _
    by_cases ei : i = L.length
    · subst ei
      rw [pk_us]
      congr 1
      simp
    · rw [pk_un ei]
      have : (L ++ [u]).getD i 0 = L.getD i 0 := by
        rw [gd_l (by omega)]
      rw [this]
      exact h7 i (by omega)
def gp1 (L : List Nat) : List Nat := if L.length = 0 ∨ L.getD (L.length - 1) 0 = 10 then [] else [32]
theorem gap_sh (H : ShP sh N so va pl pc L) (hL : (L ++ gp1 L).length ≤ 1240) (hc : ∀ i, i < L.length → L.getD i 0 < 128) : ∃ sh', f3_printGap sh = some sh' ∧ ShP sh' N so va pl pc (L ++ gp1 L) := by
  have h6 := H.2.2.2.2.2.1
  have h5 := H.2.2.2.2.1
  have h7 := H.2.2.2.2.2.2
  unfold gp1 at hL ⊢
  unfold f3_printGap
  by_cases c0 : L.length = 0
  · rw [if_pos (Or.inl c0), List.append_nil]
    refine ⟨sh, ?_, H⟩
    simp (disch := omega) only [li, ↓lim1, ↓bnd_m, ↓grd_m, ↓jn_e, ↓cas_m, ↓oc_m, inb_t, nI_add, pk_mul, sub_e, le_t, le_f, lt_t, lt_f, eq_t, eq_f, cl_e, m1_e, m1_e', m1_lt, m1_le, m1_m1, lt_m1, ↓reduceIte, Nat.add_zero, Nat.zero_add, h6]
  · have hl := h7 (L.length - 1) (by omega)
    have hlc := hc (L.length - 1) (by omega)
    have q := printedAt_n h6 h5 (show L.length - 1 < L.length by omega)
    rw [hl] at q
    by_cases c1 : L.getD (L.length - 1) 0 = 10
    · rw [if_pos (Or.inr c1), List.append_nil]
      refine ⟨sh, ?_, H⟩
      simp (disch := omega) only [li, ↓lim1, ↓bnd_m, ↓grd_m, ↓jn_e, ↓cas_m, ↓oc_m, inb_t, nI_add, pk_mul, sub_e, le_t, le_f, lt_t, lt_f, eq_t, eq_f, cl_e, m1_e, m1_e', m1_lt, m1_le, m1_m1, lt_m1, ↓reduceIte, Nat.add_zero, Nat.zero_add, h6, q]
    · have hn : ¬ (L.length = 0 ∨ L.getD (L.length - 1) 0 = 10) := fun h => h.elim c0 c1
      rw [if_neg hn] at hL ⊢
      rw [List.length_append] at hL
      have hL' : L.length + 1 ≤ 1240 := hL
      obtain ⟨sh', r1, r2⟩ := print_sh H (by omega) (show 32 < 128 by omega)
      refine ⟨sh', ?_, r2⟩
      simp (disch := omega) only [li, ↓lim1, ↓bnd_m, ↓grd_m, ↓jn_e, ↓cas_m, ↓oc_m, inb_t, nI_add, pk_mul, sub_e, le_t, le_f, lt_t, lt_f, eq_t, eq_f, cl_e, m1_e, m1_e', m1_lt, m1_le, m1_m1, lt_m1, ↓reduceIte, Nat.add_zero, Nat.zero_add, h6, q, r1]
/-- every unit of the text is one that a character holds -/
def chs (L : List Nat) : Prop := ∀ i, i < L.length → L.getD i 0 < 128
theorem chs_app {L M : List Nat} (h : chs L) (h' : chs M) : chs (L ++ M) := by
  intro i hi
  rw [List.length_append] at hi
  by_cases c : i < L.length
  · rw [gd_l c]; exact h i c
  · rw [gd_r (by omega)]; exact h' _ (by omega)
theorem chs_nil : chs [] := fun i hi => absurd hi (Nat.not_lt_zero i)
theorem chs_1 {u : Nat} (h : u < 128) : chs [u] := fun i hi => by
  have : i = 0 := by have : i < 1 := hi; omega
  subst this
  exact h
theorem chs_gap (L : List Nat) : chs (gp1 L) := by
  unfold gp1
  split
  · exact chs_nil
  · exact chs_1 (by omega)
theorem chs_wl {t : Nat → Nat} {b k : Nat} (h : ∀ i, i < k → t (b + i) < 128) : chs (wl t b k) := fun i hi => by
  rw [wl_len] at hi
  rw [wl_get hi]; exact h i hi
theorem printWord_sh (hF : 5000 < F) (HT : TpC tp t n) (hbe : b ≤ e) (hen : e ≤ n) (H : ShP sh N so va pl pc L) (hc : chs L) (hL : L.length + (gp1 L).length + (e - b) ≤ 1240) : ∃ sh', f2_printWord F (rW rd b e) sh tp = some sh' ∧ ShP sh' N so va pl pc (L ++ gp1 L ++ wl t b (e - b)) := by
  have hn := HT.1
  obtain ⟨s1, q1, q2⟩ := gap_sh H (by rw [List.length_append]; omega) hc
  have key := iter_rule (b := f2_printWord_L12 (rW rd b e) tp)
    (fun d st => ∃ (k : Nat) (s' : T3), d + k = e - b ∧ st = (nI (b + k), s') ∧ ShP s' N so va pl pc (L ++ gp1 L ++ wl t b k))
    (fun q => ShP q N so va pl pc (L ++ gp1 L ++ wl t b (e - b)))
    (by
      rintro d st ⟨k, s', hd, rfl, hs⟩
      by_cases hk : e ≤ b + k
      · have : k = e - b := by omega
        subst this
        refine Or.inr ⟨s', ?_, hs⟩
        unfold f2_printWord_L12
        simp (disch := omega) only [li, ↓lim1, ↓bnd_m, ↓grd_m, ↓jn_e, ↓cas_m, ↓oc_m, inb_t, nI_add, pk_mul, sub_e, le_t, le_f, lt_t, lt_f, eq_t, eq_f, cl_e, m1_e, m1_e', m1_lt, m1_le, m1_m1, lt_m1, ↓reduceIte, Nat.add_zero, Nat.zero_add, rWe]
      · have hu := (HT.2.2 (b + k) (by omega)).2
        obtain ⟨s2, r1, r2⟩ := print_sh hs (by rw [List.length_append, List.length_append, wl_len]; omega) hu
        refine Or.inl ⟨(nI (b + (k + 1)), s2), d - 1, by omega, ?_, k + 1, s2, by omega, rfl, ?_⟩
        · unfold f2_printWord_L12
          simp (disch := omega) only [li, ↓lim1, ↓bnd_m, ↓grd_m, ↓jn_e, ↓cas_m, ↓oc_m, inb_t, nI_add, pk_mul, sub_e, le_t, le_f, lt_t, lt_f, eq_t, eq_f, cl_e, m1_e, m1_e', m1_lt, m1_le, m1_m1, lt_m1, ↓reduceIte, Nat.add_zero, Nat.zero_add, rWe, at_n HT (show b + k < n by omega), r1, Nat.add_assoc]
        · have : wl t b (k + 1) = wl t b k ++ [t (b + k)] := rw1_s _ _
          rw [this, ← List.append_assoc]
          exact r2)
    F (e - b) (nI b, s1) (by omega) ⟨0, s1, by omega, rfl, by show ShP s1 N so va pl pc (L ++ gp1 L ++ []); rw [List.append_nil]; exact q2⟩
  obtain ⟨q, hq, hs⟩ := key
  refine ⟨q, ?_, hs⟩
  unfold f2_printWord
  simp (disch := omega) only [li, ↓lim1, ↓bnd_m, ↓grd_m, ↓jn_e, ↓cas_m, ↓oc_m, inb_t, nI_add, pk_mul, sub_e, le_t, le_f, lt_t, lt_f, eq_t, eq_f, cl_e, m1_e, m1_e', m1_lt, m1_le, m1_m1, lt_m1, ↓reduceIte, Nat.add_zero, Nat.zero_add, q1, rWb, hq]
theorem dg_len {B : Nat} (hB : 2 ≤ B) : ∀ (k w : Nat), w < B ^ (k + 1) → (dg B w).length ≤ k + 1 := by
  intro k
  induction k with
  | zero =>
    intro w h
    rw [Nat.zero_add, Nat.pow_one] at h
    rw [dg_lt h]; exact Nat.le_refl 1
  | succ k ih =>
    intro w h
    by_cases c : w < B
    · rw [dg_lt c]; show 1 ≤ _; omega
    · rw [dg_ge hB (by omega), List.length_append]
      have : w / B < B ^ (k + 1) := by
        rw [Nat.pow_succ] at h
        exact Nat.div_lt_of_lt_mul (by rw [Nat.mul_comm]; exact h)
      have := ih (w / B) this
      show _ + 1 ≤ _
      omega
theorem dt_len {k w : Nat} (hk : 0 < k) (h : w < 10 ^ k) : (dt w).length ≤ k := by
  unfold dt
  rw [List.length_map]
  obtain ⟨j, rfl⟩ : ∃ j, k = j + 1 := ⟨k - 1, by omega⟩
  exact dg_len (by omega) j w h
theorem dl_get {B w : Nat} : ∀ k i, i < k → (dl B w k).getD i 0 = w / B ^ (k - 1 - i) % B := by
  intro k
  induction k with
  | zero => intro i h; omega
  | succ k ih =>
    intro i hi
    cases i with
    | zero => show w / B ^ k % B = _; rfl
    | succ i =>
      show (dl B w k).getD i 0 = _
      rw [ih i (by omega), show k + 1 - 1 - (i + 1) = k - 1 - i by omega]
theorem printWhole_sh (hF : 5000 < F) (H : ShP sh N so va pl pc L) (hc : chs L) {v : Nat} (hv : v < 1000000) (hL : L.length + (gp1 L).length + (dt v).length ≤ 1240) : ∃ sh', f3_printWhole F (nI v) sh = some sh' ∧ ShP sh' N so va pl pc (L ++ gp1 L ++ dt v) := by
  obtain ⟨s1, q1, q2⟩ := gap_sh H (by rw [List.length_append]; omega) hc
  obtain ⟨x, hx0, hx1, hx2⟩ := top_ok (B := 10) (by omega) v (by omega)
  have hx5 : x ≤ 5 := by
    rcases hx2 with h | h
    · omega
    · by_cases c : x ≤ 5
      · exact c
      · have : 10 ^ 6 ≤ 10 ^ x := Nat.pow_le_pow_right (by omega) (by omega)
        omega
  have hdd := dl_dg (B := 10) (by omega) x v hx1 hx2
  have hdt : dt v = (dl 10 v (x + 1)).map (fun d => d + 48) := by unfold dt; rw [hdd]
  have hdl : (dt v).length = x + 1 := by rw [hdt, List.length_map, len_dl]
  -- d digits of places are still to come
  have key := iter_rule (b := f3_printWhole_L7 (nI v))
    (fun d st => ∃ (s' : T3) (M : List Nat), d ≤ 6 ∧ st = (nI (if d = 0 then 0 else 10 ^ (d - 1)), s') ∧ ShP s' N so va pl pc (L ++ gp1 L ++ M) ∧ (if x + 1 ≤ d then M = [] else M ++ (dl 10 v d).map (fun d => d + 48) = dt v))
    (fun q => ShP q N so va pl pc (L ++ gp1 L ++ dt v))
    (by
      rintro d st ⟨s', M, hd, rfl, hs, hM⟩
      cases d with
      | zero =>
        refine Or.inr ⟨s', ?_, ?_⟩
        · unfold f3_printWhole_L7
          simp (disch := omega) only [li, ↓lim1, ↓bnd_m, ↓grd_m, ↓jn_e, ↓cas_m, ↓oc_m, inb_t, nI_add, pk_mul, sub_e, le_t, le_f, lt_t, lt_f, eq_t, eq_f, cl_e, m1_e, m1_e', m1_lt, m1_le, m1_m1, lt_m1, ↓reduceIte, Nat.add_zero, Nat.zero_add, if_true]
        · rw [if_neg (by omega)] at hM
          have hM' : M ++ [] = dt v := hM
          rw [List.append_nil] at hM'
          rw [← hM']; exact hs
      | succ d =>
        have hi0 : 0 < 10 ^ d := Nat.pow_pos (by omega)
        have hpl : 10 ^ d ≤ 10 ^ 5 := Nat.pow_le_pow_right (by omega) (by omega)
        have e1 : (if d + 1 = 0 then 0 else 10 ^ (d + 1 - 1)) = 10 ^ d := by rw [if_neg (by omega)]; rfl
        have hq : (10 : Nat) ^ d / 10 = (if d = 0 then 0 else 10 ^ (d - 1)) := by
          cases d with
          | zero => rfl
          | succ d => rw [if_neg (by omega), Nat.pow_succ, Nat.mul_div_cancel _ (by omega)]; rfl
        have p5 : (10 : Nat) ^ 5 = 100000 := by decide
        rw [e1]
        by_cases hxd : x < d
        · -- above the first digit
          have hvd : v < 10 ^ d := Nat.lt_of_lt_of_le hx1 (Nat.pow_le_pow_right (by omega) (by omega))
          have hd1 : ¬ 10 ^ d = 1 := by
            have : 10 ^ 1 ≤ 10 ^ d := Nat.pow_le_pow_right (by omega) (by omega)
            omega
          rw [if_pos (by omega)] at hM
          refine Or.inl ⟨(nI (if d = 0 then 0 else 10 ^ (d - 1)), s'), d, by omega, ?_, s', M, by omega, rfl, hs, ?_⟩
          · unfold f3_printWhole_L7
            simp (disch := omega) only [li, ↓lim1, ↓bnd_m, ↓grd_m, ↓jn_e, ↓cas_m, ↓oc_m, inb_t, nI_add, pk_mul, sub_e, le_t, le_f, lt_t, lt_f, eq_t, eq_f, cl_e, m1_e, m1_e', m1_lt, m1_le, m1_m1, lt_m1, ↓reduceIte, Nat.add_zero, Nat.zero_add, div_e, hq]
          · rw [if_pos (by omega)]; exact hM
        · have hM2 : M ++ (dl 10 v (d + 1)).map (fun d => d + 48) = dt v := by
            by_cases c : x + 1 ≤ d + 1
            · rw [if_pos c] at hM
              have : d = x := by omega
              rw [hM, this, hdt]; rfl
            · rw [if_neg c] at hM; exact hM
          have hm : v / 10 ^ d % 10 < 10 := Nat.mod_lt _ (by omega)
          have hMl : M.length + (d + 1) = (dt v).length := by
            have := congrArg List.length hM2
            rw [List.length_append, List.length_map, len_dl] at this
            exact this
          obtain ⟨s2, r1, r2⟩ := print_sh hs (by rw [List.length_append, List.length_append]; omega) (show v / 10 ^ d % 10 + 48 < 128 by omega)
          have hput : f3_print (nI (48 + v / 10 ^ d % 10)) s' = some s2 := by rw [Nat.add_comm]; exact r1
          have hxx := (mod_e (v / 10 ^ d) 10).2
          have hor : 10 ^ d ≤ v ∨ (¬ 10 ^ d ≤ v ∧ 10 ^ d = 1) := by
            by_cases c : 10 ^ d ≤ v
            · exact Or.inl c
            · right
              refine ⟨c, ?_⟩
              rcases hx2 with h | h
              · have : d = 0 := by omega
                rw [this]
              · exfalso
                exact c (Nat.le_trans (Nat.pow_le_pow_right (by omega) (by omega)) h)
          refine Or.inl ⟨(nI (if d = 0 then 0 else 10 ^ (d - 1)), s2), d, by omega, ?_, s2, M ++ [v / 10 ^ d % 10 + 48], by omega, rfl, by rw [← List.append_assoc]; exact r2, ?_⟩
          · have hdiv : v / 10 ^ d ≤ v := Nat.div_le_self _ _
            unfold f3_printWhole_L7
            rcases hor with c | ⟨c, c1⟩
            · simp (disch := omega) only [li, ↓lim1, ↓bnd_m, ↓grd_m, ↓jn_e, ↓cas_m, ↓oc_m, inb_t, nI_add, pk_mul, sub_e, le_t, le_f, lt_t, lt_f, eq_t, eq_f, cl_e, m1_e, m1_e', m1_lt, m1_le, m1_m1, lt_m1, ↓reduceIte, Nat.add_zero, Nat.zero_add, div_e, not_false_eq_true, decide_true, hxx, hput, hq]
            · simp (disch := omega) only [li, ↓lim1, ↓bnd_m, ↓grd_m, ↓jn_e, ↓cas_m, ↓oc_m, inb_t, nI_add, pk_mul, sub_e, le_t, le_f, lt_t, lt_f, eq_t, eq_f, cl_e, m1_e, m1_e', m1_lt, m1_le, m1_m1, lt_m1, ↓reduceIte, Nat.add_zero, Nat.zero_add, div_e, not_false_eq_true, decide_true, hxx, hput, hq]
          · rw [if_neg (by omega), ← hM2, List.append_assoc]
            rfl)
    F 6 (nI 100000, s1) (by omega) ⟨s1, [], by omega, rfl, by rw [List.append_nil]; exact q2, by
      by_cases c : x + 1 ≤ 6
      · rw [if_pos c]
      · omega⟩
  obtain ⟨q, hq, hs⟩ := key
  refine ⟨q, ?_, hs⟩
  unfold f3_printWhole
  simp (disch := omega) only [li, ↓lim1, ↓bnd_m, ↓grd_m, ↓jn_e, ↓cas_m, ↓oc_m, inb_t, nI_add, pk_mul, sub_e, le_t, le_f, lt_t, lt_f, eq_t, eq_f, cl_e, m1_e, m1_e', m1_lt, m1_le, m1_m1, lt_m1, ↓reduceIte, Nat.add_zero, Nat.zero_add, q1, hq]
end Sh
