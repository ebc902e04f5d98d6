/-! ===== the model's reckoning ===== -/
def mG (md : T6) (per ris fal und : Nat → Int64) (gre : Nat → Int32) : T6 := (md.1, md.2.1, (md.2.2.1.1, md.2.2.1.2.1, md.2.2.1.2.2.1, per, ris, fal, und, gre), md.2.2.2.1, md.2.2.2.2)
def AV (md : T6) (m : Nat) (V : Nat → VT) (P : Nat → Prop) (per ris fal und : Nat → Int64) (gre : Nat → Int32) : Prop :=
  (∀ j, j < 12 → per j = mPer md j ∧ ris j = mRis md j ∧ fal j = mFal md j ∧ und j = mUnd md j) ∧ ∀ c, c < m → P c → per (12 + c) = lN (V c).2.1 ∧ ris (12 + c) = lN (V c).2.2.1 ∧ fal (12 + c) = lN (V c).2.2.2.1 ∧ und (12 + c) = lN (V c).2.2.2.2 ∧ gre (12 + c) = b2 (V c).1
section Re
variable {F m : Nat} {S : Nat → Option Nat} {md : T6} {o w h cr so : Nat → Nat} {V : Nat → VT} {P : Nat → Prop} {per ris fal und : Nat → Int64} {gre : Nat → Int32}
theorem AV_upd (H : AV md m V P per ris fal und gre) {c : Nat} (hc : c < m) : AV md m V (fun x => P x ∨ x = c) (vp_updL per (12 + c) (lN (V c).2.1)) (vp_updL ris (12 + c) (lN (V c).2.2.1)) (vp_updL fal (12 + c) (lN (V c).2.2.2.1)) (vp_updL und (12 + c) (lN (V c).2.2.2.2)) (upd gre (12 + c) (b2 (V c).1)) := by
  obtain ⟨h1, h2⟩ := H
  refine ⟨fun j hj => ?_, fun x hx hp => ?_⟩
  · rw [pk_uLn (by omega), pk_uLn (by omega), pk_uLn (by omega), pk_uLn (by omega)]
    exact h1 j hj
  · by_cases e : x = c
    · subst e
      rw [pk_uLs, pk_uLs, pk_uLs, pk_uLs, pk_us]
      exact ⟨rfl, rfl, rfl, rfl, rfl⟩
    · rw [pk_uLn (by omega), pk_uLn (by omega), pk_uLn (by omega), pk_uLn (by omega), pk_un (by omega)]
      exact h2 x hx (hp.resolve_right e)
theorem reckon_0 {c : Nat} (hm : m ≤ 12) (hc : c < m) (hfr : md.2.2.1.2.2.1 (12 + c) = im1) (hcr : md.2.2.1.2.1 (12 + c) = nI (cr c)) (hc40 : cr c < 40) (h1 : md.2.1.2.2.2.2.1 (40 + cr c) = nI (o c)) (h2 : md.2.1.2.2.2.2.2.1 (40 + cr c) = nI (w c)) (h3 : md.2.1.2.2.2.2.2.2.1 (40 + cr c) = nI (h c)) (b1 : o c < 1000000) (b2' : w c < 1000000) (b3 : h c < 1000000) (hV : V c = (false, o c, w c, h c, 1)) :
    f6_reckon F (nI c) (mG md per ris fal und gre) = some (mG md (vp_updL per (12 + c) (lN (V c).2.1)) (vp_updL ris (12 + c) (lN (V c).2.2.1)) (vp_updL fal (12 + c) (lN (V c).2.2.2.1)) (vp_updL und (12 + c) (lN (V c).2.2.2.2)) (upd gre (12 + c) (b2 (V c).1))) := by
  rw [hV]
  unfold f6_reckon mG
  rw [b2_f]
  simp (disch := omega) only [li, ↓lim1, ↓bnd_m, ↓grd_m, ↓jn_e, ↓cas_m, ↓oc_m, inb_t, nI_add, pk_mul, sub_e, le_t, le_f, lt_t, lt_f, eq_t, eq_f, cl_e, m1_e, m1_e', m1_lt, m1_le, m1_m1, lt_m1, ↓reduceIte, Nat.add_zero, Nat.zero_add, div_e, rem_e, l_e, hfr, hcr, h1, h2, h3, liL, nrB0]
theorem reckon_s {c k : Nat} (hF : 5000 < F) (hm : m ≤ 12) (hc : c < m) (hk : k < m) (hkc : ¬ k = c) (hfr : md.2.2.1.2.2.1 (12 + c) = nI k) (hcr : md.2.2.1.2.1 (12 + c) = nI (cr c)) (hc40 : cr c < 40) (hso : md.2.1.2.1 (40 + cr c) = nI (so (cr c))) (hs10 : so (cr c) < 10) (h1 : md.2.1.2.2.2.2.1 (40 + cr c) = nI (o c)) (h2 : md.2.1.2.2.2.2.2.1 (40 + cr c) = nI (w c)) (ho : 1 ≤ o c ∧ o c ≤ 1000) (hw : 1 ≤ w c ∧ w c ≤ 1000) (hV : V c = vst (o c) (w c) (decide (so (cr c) = 2)) (V k)) (hok : vok (V k)) (vk : per (12 + k) = lN (V k).2.1 ∧ ris (12 + k) = lN (V k).2.2.1 ∧ fal (12 + k) = lN (V k).2.2.2.1 ∧ und (12 + k) = lN (V k).2.2.2.2 ∧ gre (12 + k) = b2 (V k).1) :
    f6_reckon F (nI c) (mG md per ris fal und gre) = some (mG md (vp_updL per (12 + c) (lN (V c).2.1)) (vp_updL ris (12 + c) (lN (V c).2.2.1)) (vp_updL fal (12 + c) (lN (V c).2.2.2.1)) (vp_updL und (12 + c) (lN (V c).2.2.2.2)) (upd gre (12 + c) (b2 (V c).1))) := by
  obtain ⟨p1, p2, p3, p4, p5⟩ := vk
  obtain ⟨v, hv⟩ : ∃ x, x = V k := ⟨_, rfl⟩
  rw [← hv] at p1 p2 p3 p4 p5 hok hV
  obtain ⟨v1, v2, v3, v4, v5, v6⟩ := hok
  obtain ⟨tu, htu⟩ : ∃ x, x = decide (so (cr c) = 2) := ⟨_, rfl⟩
  rw [← htu] at hV
  rw [hV, vst_x]
  obtain ⟨P, hP⟩ : ∃ x, x = v.2.1 * o c := ⟨_, rfl⟩
  obtain ⟨R, hR⟩ : ∃ x, x = (if tu = true then v.2.2.2.1 else v.2.2.1) * o c := ⟨_, rfl⟩
  obtain ⟨Q, hQ⟩ : ∃ x, x = (if tu = true then v.2.2.1 else v.2.2.2.1) * o c := ⟨_, rfl⟩
  obtain ⟨U, hU⟩ : ∃ x, x = v.2.2.2.2 * w c := ⟨_, rfl⟩
  rw [← hP, ← hR, ← hQ, ← hU]
  have lP : P ≤ 1000000 * 1000 := by rw [hP]; exact mul_lim v2 ho.2
  have lR : R ≤ 1000000 * 1000 := by rw [hR]; exact mul_lim (by cases tu <;> simp only [if_true, if_false, Bool.false_eq_true] <;> omega) ho.2
  have lQ : Q ≤ 1000000 * 1000 := by rw [hQ]; exact mul_lim (by cases tu <;> simp only [if_true, if_false, Bool.false_eq_true] <;> omega) ho.2
  have lU : U ≤ 1000000 * 1000 := by rw [hU]; exact mul_lim v6 hw.2
  have pP : 0 < P := by rw [hP]; exact Nat.mul_pos v1 ho.1
  have pU : 0 < U := by rw [hU]; exact Nat.mul_pos v5 hw.1
  have gPR : 0 < Nat.gcd P R := Nat.gcd_pos_of_pos_left _ pP
  have lPR : Nat.gcd P R ≤ P := Nat.le_of_dvd pP (Nat.gcd_dvd_left P R)
  have lQU : Nat.gcd Q U ≤ U := Nat.le_of_dvd pU (Nat.gcd_dvd_right Q U)
  have c1 := cm_ok (F := F) (a := P) (b := R) (by omega) (by omega) (by omega)
  have c2 := cm_ok (F := F) (a := Q) (b := U) (by omega) (by omega) (by omega)
  obtain ⟨A, hA⟩ : ∃ x, x = Nat.gcd P R := ⟨_, rfl⟩
  obtain ⟨B, hB⟩ : ∃ x, x = Nat.gcd Q U := ⟨_, rfl⟩
  unfold vsx
  rw [← hA, ← hB]
  rw [← hA] at c1 gPR lPR
  rw [← hB] at c2 lQU
  have gAB : 0 < Nat.gcd A B := Nat.gcd_pos_of_pos_left _ gPR
  have lAB : Nat.gcd A B ≤ A := Nat.le_of_dvd gPR (Nat.gcd_dvd_left A B)
  have c3 := cm_ok (F := F) (a := A) (b := B) (by omega) (by omega) (by omega)
  obtain ⟨G, hG⟩ : ∃ x, x = Nat.gcd A B := ⟨_, rfl⟩
  rw [← hG]
  rw [← hG] at c3 gAB lAB
  have dP : P / G ≤ P := Nat.div_le_self _ _
  have dU : U / G ≤ U := Nat.div_le_self _ _
  have mP : lN v.2.1 * lN (o c) = lN P := by rw [hP, lN_mul]
  have mU : lN v.2.2.2.2 * lN (w c) = lN U := by rw [hU, lN_mul]
  have mA : (if tu = true then lN v.2.2.2.1 else lN v.2.2.1) * lN (o c) = lN R := by rw [hR]; cases tu <;> simp only [if_true, if_false, Bool.false_eq_true, lN_mul]
  have mB : (if tu = true then lN v.2.2.1 else lN v.2.2.2.1) * lN (o c) = lN Q := by rw [hQ]; cases tu <;> simp only [if_true, if_false, Bool.false_eq_true, lN_mul]
  have ev : ∀ g : Bool, g = v.1 → f6_reckon F (nI c) (mG md per ris fal und gre) = some (if g = true ∨ 1000000 < P / G ∨ 1000000 < U / G then mG md (vp_updL per (12 + c) (lN 2)) (vp_updL ris (12 + c) (lN 0)) (vp_updL fal (12 + c) (lN 1)) (vp_updL und (12 + c) (lN 1)) (upd gre (12 + c) (nI 1)) else mG md (vp_updL per (12 + c) (lN (P / G))) (vp_updL ris (12 + c) (lN (R / G))) (vp_updL fal (12 + c) (lN (Q / G))) (vp_updL und (12 + c) (lN (U / G))) (upd gre (12 + c) (nI 0))) := by
    intro g hg
    rw [← hg] at p5
    have go : ∀ (x : Bool), x = decide (g = true ∨ 1000000 < P / G ∨ 1000000 < U / G) → f6_reckon F (nI c) (mG md per ris fal und gre) = some (if x = true then mG md (vp_updL per (12 + c) (lN 2)) (vp_updL ris (12 + c) (lN 0)) (vp_updL fal (12 + c) (lN 1)) (vp_updL und (12 + c) (lN 1)) (upd gre (12 + c) (nI 1)) else mG md (vp_updL per (12 + c) (lN (P / G))) (vp_updL ris (12 + c) (lN (R / G))) (vp_updL fal (12 + c) (lN (Q / G))) (vp_updL und (12 + c) (lN (U / G))) (upd gre (12 + c) (nI 0))) := by
      intro x hx
      cases tu with
      | true =>
        have hs2 : so (cr c) = 2 := of_decide_eq_true htu.symm
        rw [hs2] at hso
        simp only [if_true] at mA mB
        cases g with
        | true =>
          rw [b2_t] at p5
          rw [decide_eq_true (Or.inl rfl)] at hx
          rw [hx, if_pos rfl]
          unfold f6_reckon mG
          simp (disch := omega) only [li, ↓lim1, ↓bnd_m, ↓grd_m, ↓jn_e, ↓cas_m, ↓oc_m, inb_t, nI_add, pk_mul, sub_e, le_t, le_f, lt_t, lt_f, eq_t, eq_f, cl_e, m1_e, m1_e', m1_lt, m1_le, m1_m1, lt_m1, ↓reduceIte, Nat.add_zero, Nat.zero_add, hfr, hcr, hso, h1, h2, p1, p2, p3, p4, p5, l_e, mP, mU, mA, mB, c1, c2, c3, liL, divL, eqL_f, not_false_eq_true, decide_true, dnz, cmp_gt, cmp_le, ltL_t, ltL_f, leL_t, leL_f, pk_uLs, pk_us, nrB1, nrB0, upd_uu, updL_uu]
        | false =>
          rw [b2_f] at p5
          by_cases q1 : 1000000 < P / G
          · rw [decide_eq_true (Or.inr (Or.inl q1))] at hx
            rw [hx, if_pos rfl]
            unfold f6_reckon mG
            simp (disch := omega) only [li, ↓lim1, ↓bnd_m, ↓grd_m, ↓jn_e, ↓cas_m, ↓oc_m, inb_t, nI_add, pk_mul, sub_e, le_t, le_f, lt_t, lt_f, eq_t, eq_f, cl_e, m1_e, m1_e', m1_lt, m1_le, m1_m1, lt_m1, ↓reduceIte, Nat.add_zero, Nat.zero_add, hfr, hcr, hso, h1, h2, p1, p2, p3, p4, p5, l_e, mP, mU, mA, mB, c1, c2, c3, liL, divL, eqL_f, not_false_eq_true, decide_true, dnz, cmp_gt, cmp_le, ltL_t, ltL_f, leL_t, leL_f, pk_uLs, pk_us, nrB1, nrB0, upd_uu, updL_uu]
          · by_cases q2 : 1000000 < U / G
            · rw [decide_eq_true (Or.inr (Or.inr q2))] at hx
              rw [hx, if_pos rfl]
              unfold f6_reckon mG
              simp (disch := omega) only [li, ↓lim1, ↓bnd_m, ↓grd_m, ↓jn_e, ↓cas_m, ↓oc_m, inb_t, nI_add, pk_mul, sub_e, le_t, le_f, lt_t, lt_f, eq_t, eq_f, cl_e, m1_e, m1_e', m1_lt, m1_le, m1_m1, lt_m1, ↓reduceIte, Nat.add_zero, Nat.zero_add, hfr, hcr, hso, h1, h2, p1, p2, p3, p4, p5, l_e, mP, mU, mA, mB, c1, c2, c3, liL, divL, eqL_f, not_false_eq_true, decide_true, dnz, cmp_gt, cmp_le, ltL_t, ltL_f, leL_t, leL_f, pk_uLs, pk_us, nrB1, nrB0, upd_uu, updL_uu]
            · rw [decide_eq_false (by
                rintro (h | h | h)
                · cases h
                · exact q1 h
                · exact q2 h)] at hx
              rw [hx, if_neg (by decide)]
              unfold f6_reckon mG
              simp (disch := omega) only [li, ↓lim1, ↓bnd_m, ↓grd_m, ↓jn_e, ↓cas_m, ↓oc_m, inb_t, nI_add, pk_mul, sub_e, le_t, le_f, lt_t, lt_f, eq_t, eq_f, cl_e, m1_e, m1_e', m1_lt, m1_le, m1_m1, lt_m1, ↓reduceIte, Nat.add_zero, Nat.zero_add, hfr, hcr, hso, h1, h2, p1, p2, p3, p4, p5, l_e, mP, mU, mA, mB, c1, c2, c3, liL, divL, eqL_f, not_false_eq_true, decide_true, dnz, cmp_gt, cmp_le, ltL_t, ltL_f, leL_t, leL_f, pk_uLs, pk_us, nrB1, nrB0, upd_uu, updL_uu]
      | false =>
        have hs2 : ¬ so (cr c) = 2 := of_decide_eq_false htu.symm
        simp only [if_false, Bool.false_eq_true] at mA mB
        cases g with
        | true =>
          rw [b2_t] at p5
          rw [decide_eq_true (Or.inl rfl)] at hx
          rw [hx, if_pos rfl]
          unfold f6_reckon mG
          simp (disch := omega) only [li, ↓lim1, ↓bnd_m, ↓grd_m, ↓jn_e, ↓cas_m, ↓oc_m, inb_t, nI_add, pk_mul, sub_e, le_t, le_f, lt_t, lt_f, eq_t, eq_f, cl_e, m1_e, m1_e', m1_lt, m1_le, m1_m1, lt_m1, ↓reduceIte, Nat.add_zero, Nat.zero_add, hfr, hcr, hso, h1, h2, p1, p2, p3, p4, p5, l_e, mP, mU, mA, mB, c1, c2, c3, liL, divL, eqL_f, not_false_eq_true, decide_true, dnz, cmp_gt, cmp_le, ltL_t, ltL_f, leL_t, leL_f, pk_uLs, pk_us, nrB1, nrB0, upd_uu, updL_uu]
        | false =>
          rw [b2_f] at p5
          by_cases q1 : 1000000 < P / G
          · rw [decide_eq_true (Or.inr (Or.inl q1))] at hx
            rw [hx, if_pos rfl]
            unfold f6_reckon mG
            simp (disch := omega) only [li, ↓lim1, ↓bnd_m, ↓grd_m, ↓jn_e, ↓cas_m, ↓oc_m, inb_t, nI_add, pk_mul, sub_e, le_t, le_f, lt_t, lt_f, eq_t, eq_f, cl_e, m1_e, m1_e', m1_lt, m1_le, m1_m1, lt_m1, ↓reduceIte, Nat.add_zero, Nat.zero_add, hfr, hcr, hso, h1, h2, p1, p2, p3, p4, p5, l_e, mP, mU, mA, mB, c1, c2, c3, liL, divL, eqL_f, not_false_eq_true, decide_true, dnz, cmp_gt, cmp_le, ltL_t, ltL_f, leL_t, leL_f, pk_uLs, pk_us, nrB1, nrB0, upd_uu, updL_uu]
          · by_cases q2 : 1000000 < U / G
            · rw [decide_eq_true (Or.inr (Or.inr q2))] at hx
              rw [hx, if_pos rfl]
              unfold f6_reckon mG
              simp (disch := omega) only [li, ↓lim1, ↓bnd_m, ↓grd_m, ↓jn_e, ↓cas_m, ↓oc_m, inb_t, nI_add, pk_mul, sub_e, le_t, le_f, lt_t, lt_f, eq_t, eq_f, cl_e, m1_e, m1_e', m1_lt, m1_le, m1_m1, lt_m1, ↓reduceIte, Nat.add_zero, Nat.zero_add, hfr, hcr, hso, h1, h2, p1, p2, p3, p4, p5, l_e, mP, mU, mA, mB, c1, c2, c3, liL, divL, eqL_f, not_false_eq_true, decide_true, dnz, cmp_gt, cmp_le, ltL_t, ltL_f, leL_t, leL_f, pk_uLs, pk_us, nrB1, nrB0, upd_uu, updL_uu]
            · rw [decide_eq_false (by
                rintro (h | h | h)
                · cases h
                · exact q1 h
                · exact q2 h)] at hx
              rw [hx, if_neg (by decide)]
              unfold f6_reckon mG
              simp (disch := omega) only [li, ↓lim1, ↓bnd_m, ↓grd_m, ↓jn_e, ↓cas_m, ↓oc_m, inb_t, nI_add, pk_mul, sub_e, le_t, le_f, lt_t, lt_f, eq_t, eq_f, cl_e, m1_e, m1_e', m1_lt, m1_le, m1_m1, lt_m1, ↓reduceIte, Nat.add_zero, Nat.zero_add, hfr, hcr, hso, h1, h2, p1, p2, p3, p4, p5, l_e, mP, mU, mA, mB, c1, c2, c3, liL, divL, eqL_f, not_false_eq_true, decide_true, dnz, cmp_gt, cmp_le, ltL_t, ltL_f, leL_t, leL_f, pk_uLs, pk_us, nrB1, nrB0, upd_uu, updL_uu]
    rw [go _ rfl]
    by_cases cc : g = true ∨ 1000000 < P / G ∨ 1000000 < U / G
    · rw [if_pos cc, if_pos (decide_eq_true cc)]
    · rw [if_neg cc, if_neg (by rw [decide_eq_false cc]; decide)]
  rw [ev v.1 rfl]
  by_cases cc : v.1 = true ∨ 1000000 < P / G ∨ 1000000 < U / G
  · rw [if_pos cc]
    by_cases c0 : v.1 = true
    · rw [if_pos c0]; rfl
    · rw [if_neg c0, if_pos (cc.resolve_left c0)]; rfl
  · rw [if_neg cc, if_neg (fun h => cc (Or.inl h)), if_neg (fun h => cc (Or.inr h))]; rfl
end Re
/-! ===== the model's clocks ===== -/
def BM (md : T6) (m : Nat) (S : Nat → Option Nat) (cr so o w h : Nat → Nat) : Prop := ∀ c, c < m → mFrom md (12 + c) = pI (S c) ∧ mCr md (12 + c) = nI (cr c) ∧ cr c < 40 ∧ mSort md (40 + cr c) = nI (so (cr c)) ∧ so (cr c) ≤ 2 ∧ mOne md (40 + cr c) = nI (o c) ∧ mTwo md (40 + cr c) = nI (w c) ∧ (S c = none → mThr md (40 + cr c) = nI (h c))
theorem AV.mono {md : T6} {m : Nat} {V : Nat → VT} {P Q : Nat → Prop} {per ris fal und : Nat → Int64} {gre : Nat → Int32} (H : AV md m V P per ris fal und gre) (h : ∀ x, x < m → Q x → P x) : AV md m V Q per ris fal und gre := ⟨H.1, fun c hc hq => H.2 c hc (h c hc hq)⟩
section Mg
variable {F m : Nat} {S : Nat → Option Nat} {md : T6} {o w h cr so : Nat → Nat}
theorem reckonAll_ok (hF : 5000 < F) (hS : ∀ c k, c < m → S c = some k → k < m) (hm : m ≤ 12) (hr : ∀ c, c < m → ¬ rng S c) (b0 : ∀ c, c < m → S c = none → 1 ≤ o c ∧ o c ≤ 999999 ∧ w c < o c ∧ h c < o c) (b1 : ∀ c k, c < m → S c = some k → 1 ≤ o c ∧ o c ≤ 1000 ∧ 1 ≤ w c ∧ w c ≤ 1000) (HB : BM md m S cr so o w h) (hnc : md.2.2.2.1.2.2.2.2.1 = nI m) : ∃ per ris fal und gre, iter (f6_greatOne_L2 F) F (nI 0, md) = some (mG md per ris fal und gre) ∧ AV md m (VV S o w h (fun c => decide (so (cr c) = 2))) (fun _ => True) per ris fal und gre := by
  have inner : ∀ (d : Nat) (per ris fal und : Nat → Int64) (gre : Nat → Int32) (Z : T6), d < 12 → AV md m (VV S o w h (fun c => decide (so (cr c) = 2))) (fun x => dep S x < d) per ris fal und gre → ∃ q, iter (f6_greatOne_L10 F (nI d, Z)) F (nI 0, mG md per ris fal und gre) = some q ∧ ∃ per ris fal und gre, q = mG md per ris fal und gre ∧ AV md m (VV S o w h (fun c => decide (so (cr c) = 2))) (fun x => dep S x < d + 1) per ris fal und gre := by
    intro d per ris fal und gre Z hd H
    refine iter_rule (b := f6_greatOne_L10 F (nI d, Z))
      (fun z s => ∃ (c : Nat) (per ris fal und : Nat → Int64) (gre : Nat → Int32), z + c = m ∧ s = (nI c, mG md per ris fal und gre) ∧ AV md m (VV S o w h (fun c => decide (so (cr c) = 2))) (fun x => dep S x < d ∨ (dep S x = d ∧ x < c)) per ris fal und gre)
      (fun q => ∃ per ris fal und gre, q = mG md per ris fal und gre ∧ AV md m (VV S o w h (fun c => decide (so (cr c) = 2))) (fun x => dep S x < d + 1) per ris fal und gre)
      ?_ F m _ (by omega) ⟨0, per, ris, fal, und, gre, by omega, rfl, H.mono (fun x _ hx => hx.resolve_right (fun h => absurd h.2 (Nat.not_lt_zero x)))⟩
    rintro z s ⟨c, per, ris, fal, und, gre, hz, rfl, HA⟩
    have hnc' : (mG md per ris fal und gre).2.2.2.1.2.2.2.2.1 = nI m := hnc
    by_cases hl : m ≤ c
    · refine Or.inr ⟨_, ?_, per, ris, fal, und, gre, rfl, HA.mono (fun x hx hdx => ?_)⟩
      · unfold f6_greatOne_L10
        simp (disch := omega) only [li, ↓lim1, ↓bnd_m, ↓grd_m, ↓jn_e, ↓cas_m, ↓oc_m, inb_t, nI_add, pk_mul, sub_e, le_t, le_f, lt_t, lt_f, eq_t, eq_f, cl_e, m1_e, m1_e', m1_lt, m1_le, m1_m1, lt_m1, ↓reduceIte, Nat.add_zero, Nat.zero_add, hnc']
      · by_cases e : dep S x < d
        · exact Or.inl e
        · exact Or.inr ⟨by omega, by omega⟩
    · have hc : c < m := by omega
      obtain ⟨d1, d2, d3, d4, d5⟩ := dep_ok hS hm hr hc
      have dp := depth_ok (md := mG md per ris fal und gre) hF hm hS (fun c hc => (HB c hc).1) hc d1 d2 d3
      obtain ⟨m1, m2, m3, m4, m5, m6, m7, m8⟩ := HB c hc
      by_cases ed : dep S c = d
      · have rk : f6_reckon F (nI c) (mG md per ris fal und gre) = some (mG md (vp_updL per (12 + c) (lN (VV S o w h (fun c => decide (so (cr c) = 2)) c).2.1)) (vp_updL ris (12 + c) (lN (VV S o w h (fun c => decide (so (cr c) = 2)) c).2.2.1)) (vp_updL fal (12 + c) (lN (VV S o w h (fun c => decide (so (cr c) = 2)) c).2.2.2.1)) (vp_updL und (12 + c) (lN (VV S o w h (fun c => decide (so (cr c) = 2)) c).2.2.2.2)) (upd gre (12 + c) (b2 (VV S o w h (fun c => decide (so (cr c) = 2)) c).1))) := by
          cases e : S c with
          | none =>
            obtain ⟨x1, x2, x3, x4⟩ := b0 c hc e
            rw [e] at m1
            exact reckon_0 hm hc m1 m2 m3 m6 m7 (m8 e) (by omega) (by omega) (by omega) (vS_n e)
          | some k =>
            have hk := hS c k hc e
            obtain ⟨dk, nk⟩ := d4 k e
            rw [e] at m1
            obtain ⟨x1, x2, x3, x4⟩ := b1 c k hc e
            exact reckon_s hF hm hc hk nk m1 m2 m3 m4 (by omega) m6 m7 ⟨x1, x2⟩ ⟨x3, x4⟩ (VV_s hS hm hr hc e) (VV_ok hS hm hr b0 b1 _ k hk rfl) (HA.2 k hk (Or.inl (by omega)))
        refine Or.inl ⟨(nI (c + 1), _), z - 1, by omega, ?_, c + 1, _, _, _, _, _, by omega, rfl, (AV_upd HA hc).mono (fun x hx hp => ?_)⟩
        · rw [ed] at dp
          unfold f6_greatOne_L10
          simp (disch := omega) only [li, ↓lim1, ↓bnd_m, ↓grd_m, ↓jn_e, ↓cas_m, ↓oc_m, inb_t, nI_add, pk_mul, sub_e, le_t, le_f, lt_t, lt_f, eq_t, eq_f, cl_e, m1_e, m1_e', m1_lt, m1_le, m1_m1, lt_m1, ↓reduceIte, Nat.add_zero, Nat.zero_add, hnc', dp, rk]
        · by_cases ex : x = c
          · exact Or.inr ex
          · refine Or.inl ?_
            rcases hp with hp | ⟨hp1, hp2⟩
            · exact Or.inl hp
            · exact Or.inr ⟨hp1, by omega⟩
      · refine Or.inl ⟨(nI (c + 1), mG md per ris fal und gre), z - 1, by omega, ?_, c + 1, per, ris, fal, und, gre, by omega, rfl, HA.mono (fun x hx hp => ?_)⟩
        · unfold f6_greatOne_L10
          simp (disch := omega) only [li, ↓lim1, ↓bnd_m, ↓grd_m, ↓jn_e, ↓cas_m, ↓oc_m, inb_t, nI_add, pk_mul, sub_e, le_t, le_f, lt_t, lt_f, eq_t, eq_f, cl_e, m1_e, m1_e', m1_lt, m1_le, m1_m1, lt_m1, ↓reduceIte, Nat.add_zero, Nat.zero_add, hnc', dp]
        · rcases hp with hp | ⟨hp1, hp2⟩
          · exact Or.inl hp
          · refine Or.inr ⟨hp1, ?_⟩
            by_cases ex : x = c
            · rw [ex] at hp1; exact absurd hp1 ed
            · omega
  have outer := iter_rule (b := f6_greatOne_L2 F)
    (fun z s => ∃ (d : Nat) (per ris fal und : Nat → Int64) (gre : Nat → Int32), z + d = 12 ∧ s = (nI d, mG md per ris fal und gre) ∧ AV md m (VV S o w h (fun c => decide (so (cr c) = 2))) (fun x => dep S x < d) per ris fal und gre)
    (fun q => ∃ per ris fal und gre, q = mG md per ris fal und gre ∧ AV md m (VV S o w h (fun c => decide (so (cr c) = 2))) (fun _ => True) per ris fal und gre)
    (by
      rintro z s ⟨d, per, ris, fal, und, gre, hz, rfl, HA⟩
      by_cases hl : 12 ≤ d
      · refine Or.inr ⟨_, ?_, per, ris, fal, und, gre, rfl, HA.mono (fun x hx _ => by have := (dep_ok hS hm hr hx).1; omega)⟩
        unfold f6_greatOne_L2
        simp (disch := omega) only [li, ↓lim1, ↓bnd_m, ↓grd_m, ↓jn_e, ↓cas_m, ↓oc_m, inb_t, nI_add, pk_mul, sub_e, le_t, le_f, lt_t, lt_f, eq_t, eq_f, cl_e, m1_e, m1_e', m1_lt, m1_le, m1_m1, lt_m1, ↓reduceIte, Nat.add_zero, Nat.zero_add]
      · obtain ⟨q, q1, per', ris', fal', und', gre', q2, q3⟩ := inner d per ris fal und gre (mG md per ris fal und gre) (by omega) HA
        refine Or.inl ⟨(nI (d + 1), q), z - 1, by omega, ?_, d + 1, per', ris', fal', und', gre', by omega, by rw [q2], q3⟩
        unfold f6_greatOne_L2
        simp (disch := omega) only [li, ↓lim1, ↓bnd_m, ↓grd_m, ↓jn_e, ↓cas_m, ↓oc_m, inb_t, nI_add, pk_mul, sub_e, le_t, le_f, lt_t, lt_f, eq_t, eq_f, cl_e, m1_e, m1_e', m1_lt, m1_le, m1_m1, lt_m1, ↓reduceIte, Nat.add_zero, Nat.zero_add, q1])
    F 12 (nI 0, md) (by omega) ⟨0, mPer md, mRis md, mFal md, mUnd md, mGre md, by omega, rfl, fun j hj => ⟨rfl, rfl, rfl, rfl⟩, fun c hc hd => absurd hd (Nat.not_lt_zero _)⟩
  obtain ⟨q, hq, per, ris, fal, und, gre, rfl, HA⟩ := outer
  exact ⟨per, ris, fal, und, gre, hq, HA⟩
theorem mgreat_no (hF : 5000 < F) (hm : m ≤ 12) (hnc : md.2.2.2.1.2.2.2.2.1 = nI m) {V : Nat → VT} {per ris fal und : Nat → Int64} {gre : Nat → Int32} (hq : iter (f6_greatOne_L2 F) F (nI 0, md) = some (mG md per ris fal und gre)) (HA : AV md m V (fun _ => True) per ris fal und gre) (hg : ∀ c, c < m → (V c).1 = false) : f6_greatOne F md = some (im1, mG md per ris fal und gre) := by
  have hnc' : (mG md per ris fal und gre).2.2.2.1.2.2.2.2.1 = nI m := hnc
  have k : iter (f6_greatOne_L46 (mG md per ris fal und gre)) F (nI 0) = some (.inr ()) := by
    refine iter_up (fun c => nI c) _ m (fun c hc => ?_) ?_ F 0 (by omega) (by omega)
    · have g : (mG md per ris fal und gre).2.2.1.2.2.2.2.2.2.2 (12 + c) = nI 0 := by
        have := (HA.2 c hc trivial).2.2.2.2
        rw [hg c hc] at this
        exact this
      unfold f6_greatOne_L46
      simp (disch := omega) only [li, ↓lim1, ↓bnd_m, ↓grd_m, ↓jn_e, ↓cas_m, ↓oc_m, inb_t, nI_add, pk_mul, sub_e, le_t, le_f, lt_t, lt_f, eq_t, eq_f, cl_e, m1_e, m1_e', m1_lt, m1_le, m1_m1, lt_m1, ↓reduceIte, Nat.add_zero, Nat.zero_add, hnc', g]
    · unfold f6_greatOne_L46
      simp (disch := omega) only [li, ↓lim1, ↓bnd_m, ↓grd_m, ↓jn_e, ↓cas_m, ↓oc_m, inb_t, nI_add, pk_mul, sub_e, le_t, le_f, lt_t, lt_f, eq_t, eq_f, cl_e, m1_e, m1_e', m1_lt, m1_le, m1_m1, lt_m1, ↓reduceIte, Nat.add_zero, Nat.zero_add, hnc']
  unfold f6_greatOne
  simp (disch := omega) only [li, ↓lim1, ↓bnd_m, ↓grd_m, ↓jn_e, ↓cas_m, ↓oc_m, inb_t, nI_add, pk_mul, sub_e, le_t, le_f, lt_t, lt_f, eq_t, eq_f, cl_e, m1_e, m1_e', m1_lt, m1_le, m1_m1, lt_m1, ↓reduceIte, Nat.add_zero, Nat.zero_add, hq, k]
theorem mgreat_yes (hF : 5000 < F) (hm : m ≤ 12) (hnc : md.2.2.2.1.2.2.2.2.1 = nI m) {V : Nat → VT} {per ris fal und : Nat → Int64} {gre : Nat → Int32} (hq : iter (f6_greatOne_L2 F) F (nI 0, md) = some (mG md per ris fal und gre)) (HA : AV md m V (fun _ => True) per ris fal und gre) {c0 r x : Nat} (hc : c0 < m) (hg0 : (V c0).1 = true) (hg : ∀ c, c < c0 → (V c).1 = false) (hr40 : r < 40) (hcr : mCr md (12 + c0) = nI r) (hx : md.2.2.2.1.2.2.2.2.2.1 r = nI x) : f6_greatOne F md = some (nI x, mG md per ris fal und gre) := by
  have hnc' : (mG md per ris fal und gre).2.2.2.1.2.2.2.2.1 = nI m := hnc
  have hcr' : (mG md per ris fal und gre).2.2.1.2.1 (12 + c0) = nI r := hcr
  have hx' : (mG md per ris fal und gre).2.2.2.1.2.2.2.2.2.1 r = nI x := hx
  have k : iter (f6_greatOne_L46 (mG md per ris fal und gre)) F (nI 0) = some (.inl (nI c0)) := by
    refine iter_up (fun c => nI c) _ c0 (fun c hc' => ?_) ?_ F 0 (by omega) (by omega)
    · have g : (mG md per ris fal und gre).2.2.1.2.2.2.2.2.2.2 (12 + c) = nI 0 := by
        have := (HA.2 c (by omega) trivial).2.2.2.2
        rw [hg c hc'] at this
        exact this
      unfold f6_greatOne_L46
      simp (disch := omega) only [li, ↓lim1, ↓bnd_m, ↓grd_m, ↓jn_e, ↓cas_m, ↓oc_m, inb_t, nI_add, pk_mul, sub_e, le_t, le_f, lt_t, lt_f, eq_t, eq_f, cl_e, m1_e, m1_e', m1_lt, m1_le, m1_m1, lt_m1, ↓reduceIte, Nat.add_zero, Nat.zero_add, hnc', g]
    · have g : (mG md per ris fal und gre).2.2.1.2.2.2.2.2.2.2 (12 + c0) = nI 1 := by
        have := (HA.2 c0 hc trivial).2.2.2.2
        rw [hg0] at this
        exact this
      unfold f6_greatOne_L46
      simp (disch := omega) only [li, ↓lim1, ↓bnd_m, ↓grd_m, ↓jn_e, ↓cas_m, ↓oc_m, inb_t, nI_add, pk_mul, sub_e, le_t, le_f, lt_t, lt_f, eq_t, eq_f, cl_e, m1_e, m1_e', m1_lt, m1_le, m1_m1, lt_m1, ↓reduceIte, Nat.add_zero, Nat.zero_add, hnc', g]
  unfold f6_greatOne
  simp (disch := omega) only [li, ↓lim1, ↓bnd_m, ↓grd_m, ↓jn_e, ↓cas_m, ↓oc_m, inb_t, nI_add, pk_mul, sub_e, le_t, le_f, lt_t, lt_f, eq_t, eq_f, cl_e, m1_e, m1_e', m1_lt, m1_le, m1_m1, lt_m1, ↓reduceIte, Nat.add_zero, Nat.zero_add, hq, k, hcr', hx']
end Mg
/-! ===== the new rows become the rows ===== -/
def cpI (f : Nat → Int32) (o k : Nat) : Nat → Int32 := fun j => if j < k then f (o + j) else f j
def cpL (f : Nat → Int64) (o k : Nat) : Nat → Int64 := fun j => if j < k then f (o + j) else f j
theorem cpI_r {f : Nat → Int32} {o k : Nat} : cpI f o k (o + k) = f (o + k) := if_neg (by omega)
theorem cpL_r {f : Nat → Int64} {o k : Nat} : cpL f o k (o + k) = f (o + k) := if_neg (by omega)
theorem cpI_s {f : Nat → Int32} {o k : Nat} : upd (cpI f o k) k (f (o + k)) = cpI f o (k + 1) := by
  funext j
  unfold cpI
  by_cases e : j = k
  · subst e; rw [pk_us, if_pos (by omega)]
  · rw [pk_un e]
    by_cases c : j < k
    · rw [if_pos c, if_pos (by omega)]
    · rw [if_neg c, if_neg (by omega)]
theorem cpL_s {f : Nat → Int64} {o k : Nat} : vp_updL (cpL f o k) k (f (o + k)) = cpL f o (k + 1) := by
  funext j
  unfold cpL
  by_cases e : j = k
  · subst e; rw [pk_uLs, if_pos (by omega)]
  · rw [pk_uLn e]
    by_cases c : j < k
    · rw [if_pos c, if_pos (by omega)]
    · rw [if_neg c, if_neg (by omega)]
theorem cpI_0 (f : Nat → Int32) (o : Nat) : cpI f o 0 = f := funext fun j => if_neg (Nat.not_lt_zero j)
theorem cpL_0 (f : Nat → Int64) (o : Nat) : cpL f o 0 = f := funext fun j => if_neg (Nat.not_lt_zero j)
def mA (md : T6) (N m : Nat) (k j i : Nat) : T6 := (md.1, (nI N, cpI (mSort md) 40 k, cpL (mNC md) 40 k, cpL (mND md) 40 k, cpI (mOne md) 40 k, cpI (mTwo md) 40 k, cpI (mThr md) 40 k, cpI (mPat md) 1920 i, cpI (mPs md) 120 j), (nI m, md.2.2.1.2), md.2.2.2.1, md.2.2.2.2)
def mB (md : T6) (N m : Nat) (c : Nat) : T6 := (md.1, (nI N, cpI (mSort md) 40 N, cpL (mNC md) 40 N, cpL (mND md) 40 N, cpI (mOne md) 40 N, cpI (mTwo md) 40 N, cpI (mThr md) 40 N, cpI (mPat md) 1920 (48 * N), cpI (mPs md) 120 (3 * N)), (nI m, cpI (mCr md) 12 c, cpI (mFrom md) 12 c, cpL (mPer md) 12 c, cpL (mRis md) 12 c, cpL (mFal md) 12 c, cpL (mUnd md) 12 c, mGre md), md.2.2.2.1, md.2.2.2.2)
theorem adopt_ok {F N m : Nat} {md : T6} (hF : 5000 < F) (hN : N ≤ 40) (hm : m ≤ 12) (hnr : md.2.2.2.1.2.2.2.1 = nI N) (hnc : md.2.2.2.1.2.2.2.2.1 = nI m) : f6_adopt F md = some (mB md N m m) := by
  have l149 : ∀ (k j : Nat) (Z : T6), j < 120 → iter (f6_adopt_L149 (nI j, Z)) F (nI (16 * j), mA md N m (k + 1) (j + 1) (16 * j)) = some (mA md N m (k + 1) (j + 1) (16 * (j + 1))) := by
    intro k j Z hj
    refine iter_up (fun i => (nI i, mA md N m (k + 1) (j + 1) i)) _ (16 * (j + 1)) (fun i hi => ?_) ?_ F (16 * j) (by omega) (by omega)
    · unfold f6_adopt_L149 mA
      simp (disch := omega) only [li, ↓lim1, ↓bnd_m, ↓grd_m, ↓jn_e, ↓cas_m, ↓oc_m, inb_t, nI_add, pk_mul, sub_e, le_t, le_f, lt_t, lt_f, eq_t, eq_f, cl_e, m1_e, m1_e', m1_lt, m1_le, m1_m1, lt_m1, ↓reduceIte, Nat.add_zero, Nat.zero_add, cpI_r, cpI_s]
    · unfold f6_adopt_L149
      simp (disch := omega) only [li, ↓lim1, ↓bnd_m, ↓grd_m, ↓jn_e, ↓cas_m, ↓oc_m, inb_t, nI_add, pk_mul, sub_e, le_t, le_f, lt_t, lt_f, eq_t, eq_f, cl_e, m1_e, m1_e', m1_lt, m1_le, m1_m1, lt_m1, ↓reduceIte, Nat.add_zero, Nat.zero_add]
  have l120 : ∀ (k : Nat) (Z : T6), k < 40 → iter (f6_adopt_L120 F (nI k, Z)) F (nI (3 * k), mA md N m (k + 1) (3 * k) (16 * (3 * k))) = some (mA md N m (k + 1) (3 * (k + 1)) (48 * (k + 1))) := by
    intro k Z hk
    have e48 : 48 * (k + 1) = 16 * (3 * (k + 1)) := by omega
    rw [e48]
    refine iter_up (fun j => (nI j, mA md N m (k + 1) j (16 * j))) _ (3 * (k + 1)) (fun j hj => ?_) ?_ F (3 * k) (by omega) (by omega)
    · have l := fun Z => l149 k j Z (by omega)
      unfold f6_adopt_L120
      unfold mA at l ⊢
      simp (disch := omega) only [li, ↓lim1, ↓bnd_m, ↓grd_m, ↓jn_e, ↓cas_m, ↓oc_m, inb_t, nI_add, pk_mul, sub_e, le_t, le_f, lt_t, lt_f, eq_t, eq_f, cl_e, m1_e, m1_e', m1_lt, m1_le, m1_m1, lt_m1, ↓reduceIte, Nat.add_zero, Nat.zero_add, cpI_r, cpI_s, l]
    · unfold f6_adopt_L120
      simp (disch := omega) only [li, ↓lim1, ↓bnd_m, ↓grd_m, ↓jn_e, ↓cas_m, ↓oc_m, inb_t, nI_add, pk_mul, sub_e, le_t, le_f, lt_t, lt_f, eq_t, eq_f, cl_e, m1_e, m1_e', m1_lt, m1_le, m1_m1, lt_m1, ↓reduceIte, Nat.add_zero, Nat.zero_add]
  have l18 : iter (f6_adopt_L18 F) F (nI 0, mA md N m 0 (3 * 0) (48 * 0)) = some (mA md N m N (3 * N) (48 * N)) := by
    refine iter_up (fun k => (nI k, mA md N m k (3 * k) (48 * k))) _ N (fun k hk => ?_) ?_ F 0 (by omega) (by omega)
    · have l := fun Z => l120 k Z (by omega)
      have e48 : 16 * (3 * k) = 48 * k := by omega
      rw [e48] at l
      unfold f6_adopt_L18
      unfold mA at l ⊢
      simp (disch := omega) only [li, ↓lim1, ↓bnd_m, ↓grd_m, ↓jn_e, ↓cas_m, ↓oc_m, inb_t, nI_add, pk_mul, sub_e, le_t, le_f, lt_t, lt_f, eq_t, eq_f, cl_e, m1_e, m1_e', m1_lt, m1_le, m1_m1, lt_m1, ↓reduceIte, Nat.add_zero, Nat.zero_add, cpI_r, cpI_s, cpL_r, cpL_s, l]
    · have r : (mA md N m N (3 * N) (48 * N)).2.1.1 = nI N := rfl
      unfold f6_adopt_L18
      simp (disch := omega) only [li, ↓lim1, ↓bnd_m, ↓grd_m, ↓jn_e, ↓cas_m, ↓oc_m, inb_t, nI_add, pk_mul, sub_e, le_t, le_f, lt_t, lt_f, eq_t, eq_f, cl_e, m1_e, m1_e', m1_lt, m1_le, m1_m1, lt_m1, ↓reduceIte, Nat.add_zero, Nat.zero_add, r]
  have l196 : iter f6_adopt_L196 F (nI 0, mB md N m 0) = some (mB md N m m) := by
    refine iter_up (fun c => (nI c, mB md N m c)) _ m (fun c hc => ?_) ?_ F 0 (by omega) (by omega)
    · unfold f6_adopt_L196 mB
      simp (disch := omega) only [li, ↓lim1, ↓bnd_m, ↓grd_m, ↓jn_e, ↓cas_m, ↓oc_m, inb_t, nI_add, pk_mul, sub_e, le_t, le_f, lt_t, lt_f, eq_t, eq_f, cl_e, m1_e, m1_e', m1_lt, m1_le, m1_m1, lt_m1, ↓reduceIte, Nat.add_zero, Nat.zero_add, cpI_r, cpI_s, cpL_r, cpL_s]
    · have r : (mB md N m m).2.2.1.1 = nI m := rfl
      unfold f6_adopt_L196
      simp (disch := omega) only [li, ↓lim1, ↓bnd_m, ↓grd_m, ↓jn_e, ↓cas_m, ↓oc_m, inb_t, nI_add, pk_mul, sub_e, le_t, le_f, lt_t, lt_f, eq_t, eq_f, cl_e, m1_e, m1_e', m1_lt, m1_le, m1_m1, lt_m1, ↓reduceIte, Nat.add_zero, Nat.zero_add, r]
  have e0 : mA md N m 0 (3 * 0) (48 * 0) = (md.1, (nI N, md.2.1.2.1, md.2.1.2.2.1, md.2.1.2.2.2.1, md.2.1.2.2.2.2.1, md.2.1.2.2.2.2.2.1, md.2.1.2.2.2.2.2.2.1, md.2.1.2.2.2.2.2.2.2.1, md.2.1.2.2.2.2.2.2.2.2), (nI m, md.2.2.1.2.1, md.2.2.1.2.2.1, md.2.2.1.2.2.2.1, md.2.2.1.2.2.2.2.1, md.2.2.1.2.2.2.2.2.1, md.2.2.1.2.2.2.2.2.2.1, md.2.2.1.2.2.2.2.2.2.2), md.2.2.2.1, md.2.2.2.2) := by
    unfold mA
    simp only [Nat.mul_zero]
    simp only [cpI_0, cpL_0]
  have e1 : mB md N m 0 = mA md N m N (3 * N) (48 * N) := by
    unfold mA mB
    simp only [cpI_0, cpL_0]
  rw [e0] at l18
  rw [e1] at l196
  unfold f6_adopt
  rw [hnr, hnc]
  simp (disch := omega) only [li, ↓lim1, ↓bnd_m, ↓grd_m, ↓jn_e, ↓cas_m, ↓oc_m, inb_t, nI_add, pk_mul, sub_e, le_t, le_f, lt_t, lt_f, eq_t, eq_f, cl_e, m1_e, m1_e', m1_lt, m1_le, m1_m1, lt_m1, ↓reduceIte, Nat.add_zero, Nat.zero_add, l18, l196]
/-! ===== the new rows are matched with every pin ===== -/
theorem mt_z {pl : Nat → Nat} {pc : Nat → Nat → Nat} {sz : Nat → Nat} {nm : Nat → Nat → Nat} {j b : Nat} (h : pl j = 0) : mt pl pc sz nm j b = false := by
  unfold mt mtc
  rw [h]
  simp
theorem matchAll_ok {F n : Nat} {sh : T3} {pn : T1} {pl : Nat → Nat} {pc : Nat → Nat → Nat} {sz : Nat → Nat} {nm : Nat → Nat → Nat} (hF : 5000 < F) (H : PtsC sh n pl pc) (HP : PnC pn sz nm) (hz : ∀ j, j < 3 * n → sHit sh j = 0) : ∃ h, iter (f5_read_L41 F pn) F (nI 0, sh) = some (shH sh h) ∧ ∀ j, j < 3 * n → hOk (h j) (mt pl pc sz nm j) := by
  have key := iter_rule (b := f5_read_L41 F pn)
    (fun d s => ∃ (x : Nat) (h : Nat → Int64), d + x = 40 ∧ s = (nI x, shH sh h) ∧ ∀ j, j < 3 * n → hOk (h j) (fun b => decide (b < x) && mt pl pc sz nm j b))
    (fun q => ∃ h, q = shH sh h ∧ ∀ j, j < 3 * n → hOk (h j) (mt pl pc sz nm j))
    (by
      rintro d s ⟨x, h, hd, rfl, hh⟩
      by_cases hx : 40 ≤ x
      · refine Or.inr ⟨_, ?_, h, rfl, fun j hj => hOk_c (hh j hj) (fun b hb => ?_)⟩
        · unfold f5_read_L41
          simp (disch := omega) only [li, ↓lim1, ↓bnd_m, ↓grd_m, ↓jn_e, ↓cas_m, ↓oc_m, inb_t, nI_add, pk_mul, sub_e, le_t, le_f, lt_t, lt_f, eq_t, eq_f, cl_e, m1_e, m1_e', m1_lt, m1_le, m1_m1, lt_m1, ↓reduceIte, Nat.add_zero, Nat.zero_add]
        · rw [decide_eq_true (show b < x by omega), Bool.true_and]
      · obtain ⟨h', m1, m2, _⟩ := matchPin_ok (F := F) (by omega) (H.h h) HP (show x < 40 by omega) hh (fun j hj hz b => by rw [mt_z hz, Bool.and_false])
        rw [shH_h] at m1
        refine Or.inl ⟨(nI (x + 1), shH sh h'), d - 1, by omega, ?_, x + 1, h', by omega, rfl, fun j hj => hOk_c (m2 j hj) (fun b hb => ?_)⟩
        · unfold f5_read_L41
          simp (disch := omega) only [li, ↓lim1, ↓bnd_m, ↓grd_m, ↓jn_e, ↓cas_m, ↓oc_m, inb_t, nI_add, pk_mul, sub_e, le_t, le_f, lt_t, lt_f, eq_t, eq_f, cl_e, m1_e, m1_e', m1_lt, m1_le, m1_m1, lt_m1, ↓reduceIte, Nat.add_zero, Nat.zero_add, m1]
        · by_cases e : b = x
          · subst e
            rw [if_pos rfl, decide_eq_true (show b < b + 1 by omega), Bool.true_and]
            rfl
          · rw [if_neg e]
            by_cases c : b < x
            · rw [decide_eq_true c, decide_eq_true (show b < x + 1 by omega)]
            · rw [decide_eq_false c, decide_eq_false (show ¬ b < x + 1 by omega)])
    F 40 (nI 0, sh) (by omega) ⟨0, sHit sh, by omega, rfl, fun j hj => by rw [hz j hj]; exact hOk_c hOk_z (fun b hb => by rw [decide_eq_false (Nat.not_lt_zero b), Bool.false_and])⟩
  obtain ⟨q, hq, h, rfl, hh⟩ := key
  exact ⟨h, hq, hh⟩
/-- what both sides hold of the text that stands -/
def Live (sh : T3) (ck : T0) (md : T6) (sz : Nat → Nat) (nm : Nat → Nat → Nat) : Prop := ∃ (n m : Nat) (so va cc dd oo ww hh pl : Nat → Nat) (pc : Nat → Nat → Nat) (cr : Nat → Nat) (fr : Nat → Int32) (pe ri fa un li lj : Nat → Nat),
  RowC sh n so va ∧ RowM md n so va ∧ PtsC sh n pl pc ∧ PtsM md n pl pc ∧ HitC sh n pl pc sz nm ∧ FldM md 0 n so cc dd oo ww hh ∧ PrC sh (txt so cc dd oo ww hh pl pc n) ∧ CkC ck m cr fr pe ri fa un ∧ CkM md m cr fr pe ri fa un ∧ CkB n m cr pe ri fa un ∧ ApR sh md n m so cr li lj
theorem Live.lv {sh : T3} {ck : T0} {md md' : T6} {sz : Nat → Nat} {nm : Nat → Nat → Nat} (H : Live sh ck md sz nm) (e1 : mRows md' = mRows md) (e2 : ∀ k, k < 40 → mSort md' k = mSort md k ∧ mNC md' k = mNC md k ∧ mND md' k = mND md k ∧ mOne md' k = mOne md k ∧ mTwo md' k = mTwo md k ∧ mThr md' k = mThr md k) (e3 : ∀ j, j < 120 → mPs md' j = mPs md j) (e4 : ∀ i, i < 1920 → mPat md' i = mPat md i) (e5 : mClk md' = mClk md) (e6 : ∀ k, k < 12 → mCr md' k = mCr md k ∧ mFrom md' k = mFrom md k ∧ mPer md' k = mPer md k ∧ mRis md' k = mRis md k ∧ mFal md' k = mFal md k ∧ mUnd md' k = mUnd md k) : Live sh ck md' sz nm := by
  obtain ⟨n, m, so, va, cc, dd, oo, ww, hh, pl, pc, cr, fr, pe, ri, fa, un, li, lj, h1, ⟨a1, a2, a3⟩, h3, h4, h5, h6, h7, h8, ⟨c1, c2, c3⟩, h10, ⟨p1, p2⟩⟩ := H
  refine ⟨n, m, so, va, cc, dd, oo, ww, hh, pl, pc, cr, fr, pe, ri, fa, un, li, lj, h1, ⟨a1, e1.trans a2, fun r hr => ?_⟩, h3, fun j hj => ?_, h5, fun r hr => ?_, h7, h8, ⟨c1, e5.trans c2, fun k hk => ?_⟩, h10, ⟨fun a b ha hb e => ?_, fun r hr h3' => ?_⟩⟩
  · obtain ⟨b1, _, _, b4, _, _⟩ := e2 r (by omega)
    rw [b1, b4]
    exact a3 r hr
  · obtain ⟨q1, q2, q3⟩ := h4 j hj
    refine ⟨q1, (e3 j (by omega)).trans q2, fun i hi => ?_⟩
    obtain ⟨r1, r2⟩ := q3 i hi
    exact ⟨(e4 _ (by omega)).trans r1, r2⟩
  · obtain ⟨b1, b2', b3, b4, b5, b6⟩ := e2 (0 + r) (by omega)
    rw [b1, b2', b3, b4, b5, b6]
    exact h6 r hr
  · obtain ⟨b1, b2', b3, b4, b5, b6⟩ := e6 k (by omega)
    rw [b1, b2', b3, b4, b5, b6]
    exact c3 k hk
  · have ca := (h10 a ha).1
    have cb := (h10 b hb).1
    rw [(e2 (cr a) (by omega)).2.1, (e2 (cr b) (by omega)).2.1] at e
    exact p1 a b ha hb e
  · obtain ⟨q1, q2, q3, q4, q5, q6⟩ := p2 r hr h3'
    have ca := (h10 (li r) q1).1
    have cb := (h10 (lj r) q2).1
    refine ⟨q1, q2, q3, q4, ?_, ?_⟩
    · rw [(e2 r (by omega)).2.1, (e2 (cr (li r)) (by omega)).2.1]; exact q5
    · rw [(e2 r (by omega)).2.2.1, (e2 (cr (lj r)) (by omega)).2.1]; exact q6
/-! ===== the text that was read becomes the one that stands ===== -/
def mV (X : T6) : T6 := ((X.1.1, X.1.2.1, X.1.2.2.1, X.1.2.2.2.1, nI 0), X.2.1, X.2.2.1, X.2.2.2.1, X.2.2.2.2)
section Nl
variable {F n N m : Nat} {t : Nat → Nat} {tp : T4} {sh : T3} {rd : T2} {ck : T0} {md0 X : T6} {so va cc dd oo ww hh cr ns nl ls ll pl : Nat → Nat} {pc : Nat → Nat → Nat} {L : List Nat}
theorem src_lt {c k : Nat} (h : src t ns nl ls ll so cr m c = some k) : k < m ∧ ¬ so (cr c) = 0 ∧ cdw t (ns k) (nl k) = cdw t (ls (2 * cr c)) (ll (2 * cr c)) := by
  unfold src at h
  by_cases c0 : so (cr c) = 0
  · rw [if_pos c0] at h; cases h
  · rw [if_neg c0] at h
    have := fcl_some m k h
    exact ⟨this.1, c0, this.2⟩
theorem src_none (HG : GG t n N m so va cc dd oo ww hh cr ns nl ls ll) (hb : ∀ i, i < 2 * N → ¬ bad t ns nl ls ll m i) {c : Nat} (hc : c < m) (h : src t ns nl ls ll so cr m c = none) : so (cr c) = 0 := by
  by_cases c0 : so (cr c) = 0
  · exact c0
  · exfalso
    unfold src at h
    rw [if_neg c0] at h
    obtain ⟨g1, g2, _⟩ := HG.2.2.2.1 c hc
    have := ((HG.2.2.1 (cr c) g1).2.2.2.2.1 (by omega)).2.2.2.2.1
    exact hb (2 * cr c) (by omega) ⟨this, h⟩
theorem bnd0 (HG : GG t n N m so va cc dd oo ww hh cr ns nl ls ll) (hb : ∀ i, i < 2 * N → ¬ bad t ns nl ls ll m i) : ∀ c, c < m → src t ns nl ls ll so cr m c = none → 1 ≤ oo (cr c) ∧ oo (cr c) ≤ 999999 ∧ ww (cr c) < oo (cr c) ∧ hh (cr c) < oo (cr c) := fun c hc h => by
  obtain ⟨g1, g2, _⟩ := HG.2.2.2.1 c hc
  exact (HG.2.2.1 (cr c) g1).2.2.2.1 (src_none HG hb hc h)
theorem bnd1 (HG : GG t n N m so va cc dd oo ww hh cr ns nl ls ll) : ∀ c k, c < m → src t ns nl ls ll so cr m c = some k → 1 ≤ oo (cr c) ∧ oo (cr c) ≤ 1000 ∧ 1 ≤ ww (cr c) ∧ ww (cr c) ≤ 1000 := fun c k hc h => by
  obtain ⟨g1, g2, _⟩ := HG.2.2.2.1 c hc
  have h0 := (src_lt h).2.1
  obtain ⟨a1, a2, a3, a4, _⟩ := (HG.2.2.1 (cr c) g1).2.2.2.2.1 (by omega)
  exact ⟨a1, a2, a3, a4⟩
theorem CV_0 (HG : GG t n N m so va cc dd oo ww hh cr ns nl ls ll) (hb : ∀ i, i < 2 * N → ¬ bad t ns nl ls ll m i) (HK : CkI ck m cr so oo ww hh) : CV (ckS ck (srcA (src t ns nl ls ll so cr m) (kSrc ck) 0 m)) m (src t ns nl ls ll so cr m) (fun c => oo (cr c)) (fun c => ww (cr c)) (fun c => decide (so (cr c) = 2)) (VV (src t ns nl ls ll so cr m) (fun c => oo (cr c)) (fun c => ww (cr c)) (fun c => hh (cr c)) (fun c => decide (so (cr c) = 2))) (fun c => decide (so (cr c) = 0)) := by
  obtain ⟨k1, k2⟩ := HK
  refine ⟨k1, fun c hc => ?_⟩
  obtain ⟨a1, a2, a3, a4⟩ := k2 c hc
  have sv : srcA (src t ns nl ls ll so cr m) (kSrc ck) 0 m c = pI (src t ns nl ls ll so cr m c) := by
    have := srcA_v (f := src t ns nl ls ll so cr m) (l := kSrc ck) (o := 0) m c hc
    rw [Nat.zero_add] at this
    exact this
  refine ⟨sv, ?_, fun hst => ?_, fun k hk => ?_⟩
  · by_cases c0 : so (cr c) = 0
    · show kSet ck c = b2 (decide (so (cr c) = 0))
      rw [decide_eq_true c0, b2_t]
      exact (a3 c0).2.2.2.2
    · show kSet ck c = b2 (decide (so (cr c) = 0))
      rw [decide_eq_false c0, b2_f]
      exact (a4 c0).2.2.2
  · have c0 : so (cr c) = 0 := of_decide_eq_true hst
    obtain ⟨x1, x2, x3, x4, x5⟩ := a3 c0
    have sn : src t ns nl ls ll so cr m c = none := if_pos c0
    have ev : VV (src t ns nl ls ll so cr m) (fun c => oo (cr c)) (fun c => ww (cr c)) (fun c => hh (cr c)) (fun c => decide (so (cr c) = 2)) c = (false, oo (cr c), ww (cr c), hh (cr c), 1) := vS_n sn
    rw [ev]
    exact ⟨a2, fun _ => ⟨x1, x2, x3, x4⟩⟩
  · obtain ⟨x1, x2, x3, x4⟩ := a4 (src_lt hk).2.1
    exact ⟨x1, x2, x3⟩
theorem BM_0 (HG : GG t n N m so va cc dd oo ww hh cr ns nl ls ll) (hb : ∀ i, i < 2 * N → ¬ bad t ns nl ls ll m i) (HW : NwM X N m so cc dd oo ww hh pl pc cr ns ls) : BM (mF (mV X) (srcA (src t ns nl ls ll so cr m) (mFrom X) 12 m)) m (src t ns nl ls ll so cr m) cr so (fun c => oo (cr c)) (fun c => ww (cr c)) (fun c => hh (cr c)) := by
  intro c hc
  obtain ⟨g1, g2, _⟩ := HG.2.2.2.1 c hc
  have hN := HG.1
  obtain ⟨f1, f2, f3, f4, f5, f6, f7⟩ := HW.1 (cr c) g1
  exact ⟨srcA_v m c hc, (HW.2.2.1 c hc).1, by omega, f2, g2, (f5 (by omega) (by omega)).1, (f6 g2).1, fun h => (f7 (src_none HG hb hc h)).1⟩
theorem lN_inj {a b : Nat} (ha : a < 2 ^ 40) (hb : b < 2 ^ 40) (h : lN a = lN b) : a = b := (pk_lEQ (by omega) (by omega)).mp h
theorem new_live (HG : GG t n N m so va cc dd oo ww hh cr ns nl ls ll) (HS : ShP sh N so va pl pc (txt so cc dd oo ww hh pl pc N)) (HK : CkI ck m cr so oo ww hh) (HW : NwM X N m so cc dd oo ww hh pl pc cr ns ls) (hb : ∀ i, i < 2 * N → ¬ bad t ns nl ls ll m i)
    (hr : ∀ c, c < m → ¬ rng (src t ns nl ls ll so cr m) c) {sz : Nat → Nat} {nm : Nat → Nat → Nat} {hi : Nat → Int64} (hh' : ∀ j, j < 3 * N → hOk (hi j) (mt pl pc sz nm j)) {ck' : T0} (hck : ck'.1 = ck.1)
    (HC : CV ck' m (src t ns nl ls ll so cr m) (fun c => oo (cr c)) (fun c => ww (cr c)) (fun c => decide (so (cr c) = 2)) (VV (src t ns nl ls ll so cr m) (fun c => oo (cr c)) (fun c => ww (cr c)) (fun c => hh (cr c)) (fun c => decide (so (cr c) = 2))) (fun _ => true))
    {per ris fal und : Nat → Int64} {gre : Nat → Int32} (HA : AV (mF (mV X) (srcA (src t ns nl ls ll so cr m) (mFrom X) 12 m)) m (VV (src t ns nl ls ll so cr m) (fun c => oo (cr c)) (fun c => ww (cr c)) (fun c => hh (cr c)) (fun c => decide (so (cr c) = 2))) (fun _ => True) per ris fal und gre)
    (hg : ∀ c, c < m → (VV (src t ns nl ls ll so cr m) (fun c => oo (cr c)) (fun c => ww (cr c)) (fun c => hh (cr c)) (fun c => decide (so (cr c) = 2)) c).1 = false) :
    Live (shH (shL sh (lkA t ns nl ls ll m (sLnk sh) (2 * N))) hi) ck' (mB (mG (mF (mV X) (srcA (src t ns nl ls ll so cr m) (mFrom X) 12 m)) per ris fal und gre) N m m) sz nm := by
  obtain ⟨V, hV⟩ : ∃ x, x = VV (src t ns nl ls ll so cr m) (fun c => oo (cr c)) (fun c => ww (cr c)) (fun c => hh (cr c)) (fun c => decide (so (cr c) = 2)) := ⟨_, rfl⟩
  have hvok : ∀ c, c < m → vok (V c) := fun c hc => by
    rw [hV]
    exact VV_ok (fun c k _ h => (src_lt h).1) HG.2.1 hr (bnd0 HG hb) (bnd1 HG) _ c hc rfl
  rw [← hV] at HC HA hg
  obtain ⟨g1, g2, g3, g4, g5⟩ := HG
  obtain ⟨⟨r1, r2, r3⟩, ⟨p1, p2, p3⟩, hz, hl, pr⟩ := HS
  obtain ⟨w1, w2, w3, w4, w5, w6⟩ := HW
  have cpv : ∀ (f : Nat → Int32) (o k j : Nat), j < k → cpI f o k j = f (o + j) := fun f o k j h => if_pos h
  have cpv' : ∀ (f : Nat → Int64) (o k j : Nat), j < k → cpL f o k j = f (o + j) := fun f o k j h => if_pos h
  have nmC : ∀ k, k < m → mNC (mB (mG (mF (mV X) (srcA (src t ns nl ls ll so cr m) (mFrom X) 12 m)) per ris fal und gre) N m m) (cr k) = lN (cdw t (ns k) (nl k)) ∧ cdw t (ns k) (nl k) < 2 ^ 40 := fun k hk => by
    obtain ⟨a1, a2, a3, a4, a5⟩ := g4 k hk
    have := (w1 (cr k) a1).2.2.1 (by omega)
    rw [a3] at this
    exact ⟨(cpv' _ 40 N (cr k) a1).trans this.1, this.2⟩
  have knd : ∀ {i : Nat}, i < 2 * N → 0 < ll i → ∃ k, lk t ns nl ls ll m i = some k ∧ k < m ∧ cdw t (ns k) (nl k) = cdw t (ls i) (ll i) := fun {i} hi' h0 => by
    cases e : lk t ns nl ls ll m i with
    | none => exact absurd ⟨h0, e⟩ (hb i hi')
    | some k => exact ⟨k, rfl, (fcl_some m k e).1, (fcl_some m k e).2⟩
  refine ⟨N, m, so, va, cc, dd, oo, ww, hh, pl, pc, cr, (fun c => pI (src t ns nl ls ll so cr m c)), (fun c => (V c).2.1), (fun c => (V c).2.2.1), (fun c => (V c).2.2.2.1), (fun c => (V c).2.2.2.2), (fun r => gO (lk t ns nl ls ll m (2 * r))), (fun r => gO (lk t ns nl ls ll m (2 * r + 1))), ⟨r1, r2, r3⟩, ⟨g1, rfl, fun r hr' => ?_⟩, ⟨p1, p2, p3⟩, fun j hj => ?_, hh', fun r hr' => ?_, pr, ⟨g2, HC.1, fun k hk => ?_⟩, ⟨g2, rfl, fun k hk => ?_⟩, fun k hk => ?_, ⟨fun a b ha hb' e => ?_, fun r hr' h3 => ?_⟩⟩
  · obtain ⟨f1, f2, f3, f4, f5, f6, f7⟩ := w1 r hr'
    obtain ⟨q1, q2, q3, _⟩ := g3 r hr'
    refine ⟨(cpv _ 40 N r hr').trans f2, f1, fun h5 => ?_, fun h5 => ?_, q3⟩
    · rw [q2, if_pos h5]
      exact (cpv _ 40 N r hr').trans (f5 (by omega) (by omega)).1
    · rw [q2, if_neg (by omega)]
  · obtain ⟨q1, q2, q3⟩ := w2 j hj
    refine ⟨q1, (cpv _ 120 (3 * N) j hj).trans q2, fun i hi' => ?_⟩
    obtain ⟨s1, s2⟩ := q3 i hi'
    refine ⟨(cpv _ 1920 (48 * N) (16 * j + i) (by omega)).trans ?_, s2⟩
    have e : 1920 + (16 * j + i) = 16 * (120 + j) + i := by omega
    rw [e]
    exact s1
  · obtain ⟨f1, f2, f3, f4, f5, f6, f7⟩ := w1 r hr'
    have hr0 : 0 + r < N := by omega
    have e0 : 40 + (0 + r) = 40 + r := by omega
    have c1 : ∀ f : Nat → Int32, cpI f 40 N (0 + r) = f (40 + r) := fun f => by rw [cpv f 40 N (0 + r) hr0, e0]
    have c2 : ∀ f : Nat → Int64, cpL f 40 N (0 + r) = f (40 + r) := fun f => by rw [cpv' f 40 N (0 + r) hr0, e0]
    exact ⟨f1, (c1 _).trans f2, fun h => ⟨(c2 _).trans (f3 h).1, (f3 h).2⟩, fun h h' => ⟨(c2 _).trans (f4 h h').1, (f4 h h').2⟩, fun h h' => ⟨(c1 _).trans (f5 h h').1, (f5 h h').2⟩, fun h => ⟨(c1 _).trans (f6 h).1, (f6 h).2⟩, fun h => ⟨(c1 _).trans (f7 h).1, (f7 h).2⟩⟩
  · obtain ⟨c1, c2, c3, c4⟩ := HC.2 k hk
    obtain ⟨v1, v2, v3, v4⟩ := (c3 rfl).2 (hg k hk)
    have hrow : ck'.1 k = nI (cr k + 1) := by rw [hck]; exact (HK.2 k hk).1
    exact ⟨hrow, c1, v1, v2, v3, v4⟩
  · obtain ⟨v1, v2, v3, v4, v5⟩ := HA.2 k hk trivial
    have s := srcA_v (f := src t ns nl ls ll so cr m) (l := mFrom X) (o := 12) m k hk
    exact ⟨(cpv _ 12 m k hk).trans (w3 k hk).1, (cpv _ 12 m k hk).trans s, (cpv' _ 12 m k hk).trans v1, (cpv' _ 12 m k hk).trans v2, (cpv' _ 12 m k hk).trans v3, (cpv' _ 12 m k hk).trans v4⟩
  · obtain ⟨v1, v2, v3, v4, v5, v6⟩ := hvok k hk
    exact ⟨(g4 k hk).1, v1, v2, v3, v4, v5, v6⟩
  · rw [(nmC a ha).1, (nmC b hb').1] at e
    exact g5 a b ha hb' (lN_inj (nmC a ha).2 (nmC b hb').2 e)
  · obtain ⟨_, _, _, _, _, q6, _⟩ := g3 r hr'
    obtain ⟨a1, a2, a3, a4, a5, a6, a7, a8⟩ := q6 h3
    obtain ⟨k, k1, k2, k3⟩ := knd (show 2 * r < 2 * N by omega) a1
    obtain ⟨k', k1', k2', k3'⟩ := knd (show 2 * r + 1 < 2 * N by omega) a5
    obtain ⟨f1, f2, f3, f4, _⟩ := w1 r hr'
    have e1 : gO (lk t ns nl ls ll m (2 * r)) = k := by rw [k1]; rfl
    have e2 : gO (lk t ns nl ls ll m (2 * r + 1)) = k' := by rw [k1']; rfl
    show gO (lk t ns nl ls ll m (2 * r)) < m ∧ gO (lk t ns nl ls ll m (2 * r + 1)) < m ∧ lkA t ns nl ls ll m (sLnk sh) (2 * N) (2 * r) = nI (gO (lk t ns nl ls ll m (2 * r))) ∧ lkA t ns nl ls ll m (sLnk sh) (2 * N) (2 * r + 1) = nI (gO (lk t ns nl ls ll m (2 * r + 1))) ∧ mNC _ r = mNC _ (cr (gO (lk t ns nl ls ll m (2 * r)))) ∧ mND _ r = mNC _ (cr (gO (lk t ns nl ls ll m (2 * r + 1))))
    rw [e1, e2, lkA_v, lkA_v, if_pos ⟨by omega, a1⟩, if_pos ⟨by omega, a5⟩, k1, k1', (nmC k k2).1, (nmC k' k2').1, k3, k3', ← a2, ← a6]
    exact ⟨k2, k2', rfl, rfl, (cpv' _ 40 N r hr').trans (f3 (by omega)).1, (cpv' _ 40 N r hr').trans (f4 (by omega) (by omega)).1⟩
end Nl
