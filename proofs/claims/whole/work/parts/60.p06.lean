def ApR (sh : T3) (md : T6) (n m : Nat) (so cr li lj : Nat → Nat) : Prop := (∀ a b, a < m → b < m → mNC md (cr a) = mNC md (cr b) → a = b) ∧ ∀ r, r < n → so r = 3 → li r < m ∧ lj r < m ∧ sLnk sh (2 * r) = nI (li r) ∧ sLnk sh (2 * r + 1) = nI (lj r) ∧ mNC md r = mNC md (cr (li r)) ∧ mND md r = mNC md (cr (lj r))
def exb (f : Nat → Bool) : Nat → Bool
  | 0 => false
  | n + 1 => exb f n || f n
theorem exb_up {f : Nat → Bool} {i n : Nat} (h : f i = true) (hi : i < n) : exb f n = true := by
  induction n with
  | zero => omega
  | succ n ih =>
    show (exb f n || f n) = true
    by_cases e : i = n
    · subst e; rw [h, Bool.or_true]
    · rw [ih (by omega)]; rfl
def apt (so li lj : Nat → Nat) (a b r : Nat) : Bool := decide (so r = 3 ∧ ((li r = a ∧ lj r = b) ∨ (li r = b ∧ lj r = a)))
section Qs
variable {F n m : Nat} {so va pl sz : Nat → Nat} {pc nm : Nat → Nat → Nat} {sh : T3} {ck : T0} {md : T6} {tp : T4}
variable {c : Int32} {g4 : Int32 × Int32 × Int32 × Int32 × Int32 × (Nat → Int32) × (Nat → Int32)} {g5 : (Nat → Int32) × Int32 × Int32 × Int32}
variable {cr pe ri fa un li' lj : Nat → Nat} {fr : Nat → Int32}
theorem linkOf_n (hr : sRc sh = nI n) (hn : n ≤ 40) {r s : Nat} (h1 : r < n) (h2 : s < 2) : f3_linkOf (nI (r + 1)) (nI s) sh = some (sLnk sh (2 * r + s)) := by
  unfold f3_linkOf
  have e : r * 2 + s = 2 * r + s := by omega
  simp (disch := omega) only [li, ↓lim1, ↓bnd_m, ↓grd_m, ↓jn_e, ↓cas_m, ↓oc_m, inb_t, nI_add, pk_mul, sub_e, le_t, le_f, lt_t, lt_f, eq_t, eq_f, cl_e, m1_e, m1_e', m1_lt, m1_le, m1_m1, lt_m1, ↓reduceIte, Nat.add_zero, Nat.zero_add, hr, Nat.add_sub_cancel, e]
theorem saysApart_ok (hF : 5000 < F) (HC : RowC sh n so va) (HA : ApR sh md n m so cr li' lj) (hm : m ≤ 12) {a b : Nat} (ha : a < m) (hb : b < m) : f3_saysApart F (nI a) (nI b) sh = some (b2 (exb (apt so li' lj a b) n)) := by
  obtain ⟨hn, e1, h1⟩ := HC
  have key := iter_rule (b := f3_saysApart_L2 (nI a) (nI b) sh)
    (fun d st => ∃ r : Nat, d + r = n ∧ st = nI (r + 1) ∧ exb (apt so li' lj a b) r = false)
    (fun q => (q = .inl () ∧ exb (apt so li' lj a b) n = true) ∨ (q = .inr () ∧ exb (apt so li' lj a b) n = false))
    (by
      rintro d st ⟨r, hd, rfl, hi⟩
      by_cases hr : n ≤ r
      · have : r = n := by omega
        subst this
        refine Or.inr ⟨.inr (), ?_, Or.inr ⟨rfl, hi⟩⟩
        unfold f3_saysApart_L2
        simp (disch := omega) only [li, ↓lim1, ↓bnd_m, ↓grd_m, ↓jn_e, ↓cas_m, ↓oc_m, inb_t, nI_add, pk_mul, sub_e, le_t, le_f, lt_t, lt_f, eq_t, eq_f, cl_e, m1_e, m1_e', m1_lt, m1_le, m1_m1, lt_m1, ↓reduceIte, Nat.add_zero, Nat.zero_add, e1]
      · obtain ⟨a1, a2, a3, a4⟩ := h1 r (by omega)
        have e : exb (apt so li' lj a b) (r + 1) = (exb (apt so li' lj a b) r || apt so li' lj a b r) := rfl
        by_cases h3 : so r = 3
        · obtain ⟨l1, l2, l3, l4, l5, l6⟩ := HA.2 r (by omega) h3
          have q0 : f3_linkOf (nI (r + 1)) (nI 0) sh = some (nI (li' r)) := by rw [linkOf_n e1 hn (by omega) (by omega)]; exact congrArg some l3
          have q1 : f3_linkOf (nI (r + 1)) (nI 1) sh = some (nI (lj r)) := by rw [linkOf_n e1 hn (by omega) (by omega)]; exact congrArg some l4
          by_cases hx : (li' r = a ∧ lj r = b) ∨ (li' r = b ∧ lj r = a)
          · refine Or.inr ⟨.inl (), ?_, Or.inl ⟨rfl, exb_up (i := r) (by unfold apt; exact decide_eq_true ⟨h3, hx⟩) (by omega)⟩⟩
            unfold f3_saysApart_L2
            by_cases c1 : li' r = a
            · by_cases c2 : lj r = b
              · simp (disch := omega) only [li, ↓lim1, ↓bnd_m, ↓grd_m, ↓jn_e, ↓cas_m, ↓oc_m, inb_t, nI_add, pk_mul, sub_e, le_t, le_f, lt_t, lt_f, eq_t, eq_f, cl_e, m1_e, m1_e', m1_lt, m1_le, m1_m1, lt_m1, ↓reduceIte, Nat.add_zero, Nat.zero_add, e1, Nat.add_sub_cancel, a1, q0, q1]
              · exfalso; omega
            · simp (disch := omega) only [li, ↓lim1, ↓bnd_m, ↓grd_m, ↓jn_e, ↓cas_m, ↓oc_m, inb_t, nI_add, pk_mul, sub_e, le_t, le_f, lt_t, lt_f, eq_t, eq_f, cl_e, m1_e, m1_e', m1_lt, m1_le, m1_m1, lt_m1, ↓reduceIte, Nat.add_zero, Nat.zero_add, e1, Nat.add_sub_cancel, a1, q0, q1]
          · refine Or.inl ⟨nI (r + 1 + 1), d - 1, by omega, ?_, r + 1, by omega, rfl, ?_⟩
            · unfold f3_saysApart_L2
              by_cases c1 : li' r = a
              · by_cases c3 : li' r = b
                · simp (disch := omega) only [li, ↓lim1, ↓bnd_m, ↓grd_m, ↓jn_e, ↓cas_m, ↓oc_m, inb_t, nI_add, pk_mul, sub_e, le_t, le_f, lt_t, lt_f, eq_t, eq_f, cl_e, m1_e, m1_e', m1_lt, m1_le, m1_m1, lt_m1, ↓reduceIte, Nat.add_zero, Nat.zero_add, e1, Nat.add_sub_cancel, a1, q0, q1]
                · simp (disch := omega) only [li, ↓lim1, ↓bnd_m, ↓grd_m, ↓jn_e, ↓cas_m, ↓oc_m, inb_t, nI_add, pk_mul, sub_e, le_t, le_f, lt_t, lt_f, eq_t, eq_f, cl_e, m1_e, m1_e', m1_lt, m1_le, m1_m1, lt_m1, ↓reduceIte, Nat.add_zero, Nat.zero_add, e1, Nat.add_sub_cancel, a1, q0, q1]
              · by_cases c3 : li' r = b
                · simp (disch := omega) only [li, ↓lim1, ↓bnd_m, ↓grd_m, ↓jn_e, ↓cas_m, ↓oc_m, inb_t, nI_add, pk_mul, sub_e, le_t, le_f, lt_t, lt_f, eq_t, eq_f, cl_e, m1_e, m1_e', m1_lt, m1_le, m1_m1, lt_m1, ↓reduceIte, Nat.add_zero, Nat.zero_add, e1, Nat.add_sub_cancel, a1, q0, q1]
                · simp (disch := omega) only [li, ↓lim1, ↓bnd_m, ↓grd_m, ↓jn_e, ↓cas_m, ↓oc_m, inb_t, nI_add, pk_mul, sub_e, le_t, le_f, lt_t, lt_f, eq_t, eq_f, cl_e, m1_e, m1_e', m1_lt, m1_le, m1_m1, lt_m1, ↓reduceIte, Nat.add_zero, Nat.zero_add, e1, Nat.add_sub_cancel, a1, q0, q1]
            · rw [e, hi]
              show (false || decide _) = false
              rw [decide_eq_false (fun h => hx h.2)]; rfl
        · refine Or.inl ⟨nI (r + 1 + 1), d - 1, by omega, ?_, r + 1, by omega, rfl, ?_⟩
          · unfold f3_saysApart_L2
            simp (disch := omega) only [li, ↓lim1, ↓bnd_m, ↓grd_m, ↓jn_e, ↓cas_m, ↓oc_m, inb_t, nI_add, pk_mul, sub_e, le_t, le_f, lt_t, lt_f, eq_t, eq_f, cl_e, m1_e, m1_e', m1_lt, m1_le, m1_m1, lt_m1, ↓reduceIte, Nat.add_zero, Nat.zero_add, e1, Nat.add_sub_cancel, a1]
          · rw [e, hi]
            show (false || decide _) = false
            rw [decide_eq_false (fun h => h3 h.1)]; rfl)
    F n (nI 1) (by omega) ⟨0, by omega, rfl, rfl⟩
  obtain ⟨q, hq, h⟩ := key
  unfold f3_saysApart
  simp only [li]
  rw [bnd_e hq]
  rcases h with ⟨rfl, h⟩ | ⟨rfl, h⟩ <;> rw [h] <;> rfl
theorem areApart_ok (hF : 5000 < F) (HM : RowM md n so va) (HA : ApR sh md n m so cr li' lj) (KM : CkM md m cr fr pe ri fa un) (KB : CkB n m cr pe ri fa un) {a b : Nat} (ha : a < m) (hb : b < m) : f6_areApart F (nI a) (nI b) (mC md c g4 g5) = some (b2 (exb (apt so li' lj a b) n)) := by
  obtain ⟨hn, e2, h2⟩ := HM
  obtain ⟨hm, j1, j2⟩ := KM
  have ca : mCr (mC md c g4 g5) a = nI (cr a) := (j2 a ha).1
  have cb : mCr (mC md c g4 g5) b = nI (cr b) := (j2 b hb).1
  have ka := (KB a ha).1
  have kb := (KB b hb).1
  have e2' : mRows (mC md c g4 g5) = nI n := e2
  have same : ∀ i j, i < m → j < m → (mNC md (cr i) = mNC md (cr j)) = (i = j) := fun i j hi hj => propext ⟨HA.1 i j hi hj, fun e => by rw [e]⟩
  have same_t : ∀ i j, i < m → j < m → i = j → (mNC md (cr i) = mNC md (cr j)) = True := fun i j hi hj h => by rw [same i j hi hj]; exact eq_true h
  have same_f : ∀ i j, i < m → j < m → ¬ i = j → (mNC md (cr i) = mNC md (cr j)) = False := fun i j hi hj h => by rw [same i j hi hj]; exact eq_false h
  have key := iter_rule (b := f6_areApart_L31 (nI a) (nI b) (mC md c g4 g5))
    (fun d st => ∃ r : Nat, d + r = n ∧ st = (b2 (exb (apt so li' lj a b) r), nI r))
    (fun q => q = b2 (exb (apt so li' lj a b) n))
    (by
      rintro d st ⟨r, hd, rfl⟩
      by_cases hr : n ≤ r
      · have : r = n := by omega
        subst this
        refine Or.inr ⟨_, ?_, rfl⟩
        unfold f6_areApart_L31
        simp (disch := omega) only [li, ↓lim1, ↓bnd_m, ↓grd_m, ↓jn_e, ↓cas_m, ↓oc_m, inb_t, nI_add, pk_mul, sub_e, le_t, le_f, lt_t, lt_f, eq_t, eq_f, cl_e, m1_e, m1_e', m1_lt, m1_le, m1_m1, lt_m1, ↓reduceIte, Nat.add_zero, Nat.zero_add, e2']
      · obtain ⟨b1, b2', b3, b4, b5⟩ := h2 r (by omega)
        have b1' : mSort (mC md c g4 g5) r = nI (so r) := b1
        have e : exb (apt so li' lj a b) (r + 1) = (exb (apt so li' lj a b) r || apt so li' lj a b r) := rfl
        have ea : apt so li' lj a b r = decide (so r = 3 ∧ ((li' r = a ∧ lj r = b) ∨ (li' r = b ∧ lj r = a))) := rfl
        refine Or.inl ⟨(b2 (exb (apt so li' lj a b) (r + 1)), nI (r + 1)), d - 1, by omega, ?_, r + 1, by omega, rfl⟩
        unfold f6_areApart_L31
        cases hx : exb (apt so li' lj a b) r
        · by_cases h3 : so r = 3
          · obtain ⟨l1, l2, l3, l4, l5, l6⟩ := HA.2 r (by omega) h3
            have n1 : mNC (mC md c g4 g5) r = mNC md (cr (li' r)) := l5
            have n2 : mND (mC md c g4 g5) r = mNC md (cr (lj r)) := l6
            have n3 : mNC (mC md c g4 g5) (cr a) = mNC md (cr a) := rfl
            have n4 : mNC (mC md c g4 g5) (cr b) = mNC md (cr b) := rfl
            by_cases hy : (li' r = a ∧ lj r = b) ∨ (li' r = b ∧ lj r = a)
            · rw [e, ea, decide_eq_true ⟨h3, hy⟩, Bool.or_true]
              by_cases c1 : li' r = a <;> by_cases c2 : lj r = b <;> by_cases c3 : li' r = b <;> by_cases c4 : lj r = a <;> first | (exfalso; omega) | (simp (disch := omega) only [li, ↓lim1, ↓bnd_m, ↓grd_m, ↓jn_e, ↓cas_m, ↓oc_m, inb_t, nI_add, pk_mul, sub_e, le_t, le_f, lt_t, lt_f, eq_t, eq_f, cl_e, m1_e, m1_e', m1_lt, m1_le, m1_m1, lt_m1, ↓reduceIte, Nat.add_zero, Nat.zero_add, e2', b1', b2_f, b2_t, n1, n2, n3, n4, ca, cb, cmp_eq, same_t, same_f]; done)
            · rw [e, ea, decide_eq_false (fun h => hy h.2), hx, Bool.or_false]
              by_cases c1 : li' r = a <;> by_cases c2 : lj r = b <;> by_cases c3 : li' r = b <;> by_cases c4 : lj r = a <;> first | (exfalso; omega) | (simp (disch := omega) only [li, ↓lim1, ↓bnd_m, ↓grd_m, ↓jn_e, ↓cas_m, ↓oc_m, inb_t, nI_add, pk_mul, sub_e, le_t, le_f, lt_t, lt_f, eq_t, eq_f, cl_e, m1_e, m1_e', m1_lt, m1_le, m1_m1, lt_m1, ↓reduceIte, Nat.add_zero, Nat.zero_add, e2', b1', b2_f, b2_t, n1, n2, n3, n4, ca, cb, cmp_eq, same_t, same_f]; done)
          · rw [e, ea, decide_eq_false (fun h => h3 h.1), hx, Bool.or_false]
            simp (disch := omega) only [li, ↓lim1, ↓bnd_m, ↓grd_m, ↓jn_e, ↓cas_m, ↓oc_m, inb_t, nI_add, pk_mul, sub_e, le_t, le_f, lt_t, lt_f, eq_t, eq_f, cl_e, m1_e, m1_e', m1_lt, m1_le, m1_m1, lt_m1, ↓reduceIte, Nat.add_zero, Nat.zero_add, e2', b1', b2_f]
        · rw [e, hx, Bool.true_or]
          simp (disch := omega) only [li, ↓lim1, ↓bnd_m, ↓grd_m, ↓jn_e, ↓cas_m, ↓oc_m, inb_t, nI_add, pk_mul, sub_e, le_t, le_f, lt_t, lt_f, eq_t, eq_f, cl_e, m1_e, m1_e', m1_lt, m1_le, m1_m1, lt_m1, ↓reduceIte, Nat.add_zero, Nat.zero_add, e2', b2_t])
    F n (nI 0, nI 0) (by omega) ⟨0, by omega, rfl⟩
  obtain ⟨q, hq, rfl⟩ := key
  unfold f6_areApart
  simp (disch := omega) only [li, ↓lim1, ↓bnd_m, ↓grd_m, ↓jn_e, ↓cas_m, ↓oc_m, inb_t, nI_add, pk_mul, sub_e, le_t, le_f, lt_t, lt_f, eq_t, eq_f, cl_e, m1_e, m1_e', m1_lt, m1_le, m1_m1, lt_m1, ↓reduceIte, Nat.add_zero, Nat.zero_add, ca, cb, hq, isB_b]
theorem lcm_e {la lb : Nat} (ha : 0 < la) (hb : 0 < lb) : la / Nat.gcd la lb * lb = la * (lb / Nat.gcd la lb) ∧ la / Nat.gcd la lb * lb / la = lb / Nat.gcd la lb ∧ la / Nat.gcd la lb * lb / lb = la / Nat.gcd la lb := by
  have h1 := Nat.div_mul_cancel (Nat.gcd_dvd_left la lb)
  have h2 := Nat.div_mul_cancel (Nat.gcd_dvd_right la lb)
  have e : la / Nat.gcd la lb * lb = la * (lb / Nat.gcd la lb) := by
    calc la / Nat.gcd la lb * lb = la / Nat.gcd la lb * (lb / Nat.gcd la lb * Nat.gcd la lb) := by rw [h2]
      _ = la / Nat.gcd la lb * Nat.gcd la lb * (lb / Nat.gcd la lb) := by rw [Nat.mul_comm (lb / Nat.gcd la lb), Nat.mul_assoc]
      _ = la * (lb / Nat.gcd la lb) := by rw [h1]
  exact ⟨e, by rw [e, Nat.mul_div_cancel_left _ ha], by rw [Nat.mul_div_cancel _ hb]⟩
theorem dist_ok (hF : 5000 < F) (HC : RowC sh n so va) (HM : RowM md n so va) (HA : ApR sh md n m so cr li' lj) (KC : CkC ck m cr fr pe ri fa un) (KM : CkM md m cr fr pe ri fa un) (KB : CkB n m cr pe ri fa un) (p1 p2 p3 : Int32) : ∃ ra rb md', f5_distance F p1 p2 p3 sh ck = some ra ∧ f6_distance F p1 p2 p3 md = some (rb, md') ∧ An ra rb md md' := by
  obtain ⟨hm, k1, k2⟩ := id KC
  obtain ⟨_, j1, j2⟩ := id KM
  have res : f5_distance F p1 p2 p3 sh ck = some none → f6_distance F p1 p2 p3 md = some (0, mC md (nI 1) md.2.2.2.1 md.2.2.2.2) → ∃ ra rb md', f5_distance F p1 p2 p3 sh ck = some ra ∧ f6_distance F p1 p2 p3 md = some (rb, md') ∧ An ra rb md md' := fun a b => ⟨none, 0, _, a, b, An.no⟩
  have bad : f0_has p1 ck = some (nI 0) → f6_isClock p1 md = some (nI 0) → ∃ ra rb md', f5_distance F p1 p2 p3 sh ck = some ra ∧ f6_distance F p1 p2 p3 md = some (rb, md') ∧ An ra rb md md' := by
    intro a b
    apply res
    · unfold f5_distance
      simp (disch := omega) only [li, ↓lim1, ↓bnd_m, ↓grd_m, ↓jn_e, ↓cas_m, ↓oc_m, inb_t, nI_add, pk_mul, sub_e, le_t, le_f, lt_t, lt_f, eq_t, eq_f, cl_e, m1_e, m1_e', m1_lt, m1_le, m1_m1, lt_m1, ↓reduceIte, Nat.add_zero, Nat.zero_add, a]
    · unfold f6_distance
      simp (disch := omega) only [li, ↓lim1, ↓bnd_m, ↓grd_m, ↓jn_e, ↓cas_m, ↓oc_m, inb_t, nI_add, pk_mul, sub_e, le_t, le_f, lt_t, lt_f, eq_t, eq_f, cl_e, m1_e, m1_e', m1_lt, m1_le, m1_m1, lt_m1, ↓reduceIte, Nat.add_zero, Nat.zero_add, b, e0_md]
  rcases int_cases p1 with hx | ⟨a, ha, rfl⟩
  · exact bad (has_neg hx (ck := ck) (md := md)).1 (has_neg hx (ck := ck) (md := md)).2
  · by_cases ham : m ≤ a
    · exact bad (has_big k1 j1 hm ha ham).1 (has_big k1 j1 hm ha ham).2
    · obtain ⟨q1, q2⟩ := has_in (k := a) k1 j1 hm (by omega)
      have bad2 : f0_has p2 ck = some (nI 0) → f6_isClock p2 md = some (nI 0) → ∃ ra rb md', f5_distance F (nI a) p2 p3 sh ck = some ra ∧ f6_distance F (nI a) p2 p3 md = some (rb, md') ∧ An ra rb md md' := by
        intro c d
        apply res
        · unfold f5_distance
          simp (disch := omega) only [li, ↓lim1, ↓bnd_m, ↓grd_m, ↓jn_e, ↓cas_m, ↓oc_m, inb_t, nI_add, pk_mul, sub_e, le_t, le_f, lt_t, lt_f, eq_t, eq_f, cl_e, m1_e, m1_e', m1_lt, m1_le, m1_m1, lt_m1, ↓reduceIte, Nat.add_zero, Nat.zero_add, q1, c]
        · unfold f6_distance
          simp (disch := omega) only [li, ↓lim1, ↓bnd_m, ↓grd_m, ↓jn_e, ↓cas_m, ↓oc_m, inb_t, nI_add, pk_mul, sub_e, le_t, le_f, lt_t, lt_f, eq_t, eq_f, cl_e, m1_e, m1_e', m1_lt, m1_le, m1_m1, lt_m1, ↓reduceIte, Nat.add_zero, Nat.zero_add, q2, d, e0_md]
      rcases int_cases p2 with hy | ⟨b, hb, rfl⟩
      · exact bad2 (has_neg hy (ck := ck) (md := md)).1 (has_neg hy (ck := ck) (md := md)).2
      · by_cases hbm : m ≤ b
        · exact bad2 (has_big k1 j1 hm hb hbm).1 (has_big k1 j1 hm hb hbm).2
        · obtain ⟨w1, w2⟩ := has_in (k := b) k1 j1 hm (by omega)
          rcases int_cases p3 with hz | ⟨v, hv, rfl⟩
          · have h0 := neg_lta hz (a := 0) (by omega)
            apply res
            · unfold f5_distance
              simp (disch := omega) only [li, ↓lim1, ↓bnd_m, ↓grd_m, ↓jn_e, ↓cas_m, ↓oc_m, inb_t, nI_add, pk_mul, sub_e, le_t, le_f, lt_t, lt_f, eq_t, eq_f, cl_e, m1_e, m1_e', m1_lt, m1_le, m1_m1, lt_m1, ↓reduceIte, Nat.add_zero, Nat.zero_add, q1, w1, h0]
            · unfold f6_distance
              simp (disch := omega) only [li, ↓lim1, ↓bnd_m, ↓grd_m, ↓jn_e, ↓cas_m, ↓oc_m, inb_t, nI_add, pk_mul, sub_e, le_t, le_f, lt_t, lt_f, eq_t, eq_f, cl_e, m1_e, m1_e', m1_lt, m1_le, m1_m1, lt_m1, ↓reduceIte, Nat.add_zero, Nat.zero_add, q2, w2, h0, e0_md]
          · by_cases hv1 : v ≤ 1
            · have sa := saysApart_ok (F := F) (a := a) (b := b) hF HC HA hm (by omega) (by omega)
              have sb := areApart_ok (F := F) (c := nI 0) (g4 := md.2.2.2.1) (g5 := md.2.2.2.2) (a := a) (b := b) hF HM HA KM KB (by omega) (by omega)
              cases hap : exb (apt so li' lj a b) n
              · rw [hap, b2_f] at sa sb
                obtain ⟨a1, a2, a3, a4, a5, a6⟩ := k2 a (by omega)
                obtain ⟨b1, b2', b3, b4, b5, b6⟩ := k2 b (by omega)
                obtain ⟨c1, c2, c3, c4, c5, c6⟩ := j2 a (by omega)
                obtain ⟨d1, d2, d3, d4, d5, d6⟩ := j2 b (by omega)
                have ba := KB a (by omega)
                have bb := KB b (by omega)
                obtain ⟨g, hg⟩ : ∃ g, g = Nat.gcd (un a) (un b) := ⟨_, rfl⟩
                have hgp : 0 < g ∧ g ≤ un b := by rw [hg]; exact gcd_lt bb.2.2.2.2.2.1
                obtain ⟨sA, hsA⟩ : ∃ s, s = un b / g := ⟨_, rfl⟩
                obtain ⟨sB, hsB⟩ : ∃ s, s = un a / g := ⟨_, rfl⟩
                have hga : g ≤ un a := by rw [hg]; exact Nat.le_of_dvd ba.2.2.2.2.2.1 (Nat.gcd_dvd_left _ _)
                have pA : 0 < sA := by rw [hsA]; exact Nat.div_pos hgp.2 hgp.1
                have pB : 0 < sB := by rw [hsB]; exact Nat.div_pos hga hgp.1
                have lA : sA ≤ 1000000 := by rw [hsA]; exact Nat.le_trans (Nat.div_le_self _ _) bb.2.2.2.2.2.2
                have lB : sB ≤ 1000000 := by rw [hsB]; exact Nat.le_trans (Nat.div_le_self _ _) ba.2.2.2.2.2.2
                have lc := lcm_e ba.2.2.2.2.2.1 bb.2.2.2.2.2.1
                rw [← hg, ← hsA, ← hsB] at lc
                have m1 : pe a * sA ≤ 1000000 * 1000000 := Nat.mul_le_mul ba.2.2.1 lA
                have m2 : pe b * sB ≤ 1000000 * 1000000 := Nat.mul_le_mul bb.2.2.1 lB
                have m3 : ri a * sA ≤ 1000000 * 1000000 := Nat.mul_le_mul (by omega) lA
                have m4 : ri b * sB ≤ 1000000 * 1000000 := Nat.mul_le_mul (by omega) lB
                have m5 : un a * sA ≤ 1000000 * 1000000 := Nat.mul_le_mul ba.2.2.2.2.2.2 lA
                have m6 : 0 < un a * sA := Nat.mul_pos ba.2.2.2.2.2.1 pA
                have m7 : 0 < pe b * sB := Nat.mul_pos bb.2.1 pB
                obtain ⟨S, hS⟩ : ∃ S, S = Nat.gcd (pe a * sA) (pe b * sB) := ⟨_, rfl⟩
                have hSp : 0 < S ∧ S ≤ pe b * sB := by rw [hS]; exact gcd_lt m7
                have y1 : f5_commonDivisor F (lN (un a)) (lN (un b)) = some (lN g) := by rw [hg]; exact cd_ok (by omega) (by omega) (by omega) (by rw [← hg]; exact hgp.1)
                have y2 : f5_commonDivisor F (lN (pe a * sA)) (lN (pe b * sB)) = some (lN S) := by rw [hS]; exact cd_ok (by omega) (by omega) (by omega) (by rw [← hS]; exact hSp.1)
                have y3 : f6_common F (lN (un a)) (lN (un b)) = some (lN g) := by rw [hg]; exact cm_ok (by omega) (by omega) (by omega)
                have y4 : f6_common F (lN (pe a * sA)) (lN (pe b * sB)) = some (lN S) := by rw [hS]; exact cm_ok (by omega) (by omega) (by omega)
                have y5 := floorMod_ok (X := ri b * sB) (Y := ri a * sA) (S := S) (by omega) (by omega) hSp.1 (by omega)
                have hgl := gp_lt (X := ri b * sB) (Y := ri a * sA) hSp.1
                obtain ⟨e, he⟩ : ∃ e, e = if gp (ri b * sB) (ri a * sA) S = 0 then S else gp (ri b * sB) (ri a * sA) S := ⟨_, rfl⟩
                have hel : e < 9223372036854775808 := by rw [he]; split <;> omega
                have y6 : f5_lowestPart F (lN e) (lN (un a * sA)) (nI v) = some (if nI v = nI 0 then lN (e / Nat.gcd e (un a * sA)) else lN (un a * sA / Nat.gcd e (un a * sA))) := lp_ok (by omega) hel (by omega) m6 (nI v)
                have y7 : f6_part F (lN e) (lN (un a * sA)) (nI v) = some (if nI v = nI 0 then lN (e / Nat.gcd e (un a * sA)) else lN (un a * sA / Nat.gcd e (un a * sA))) := pt_ok (by omega) hel (by omega) m6 (nI v)
                obtain ⟨R, hR⟩ : ∃ R : Int64, R = (if nI v = nI 0 then lN (e / Nat.gcd e (un a * sA)) else lN (un a * sA / Nat.gcd e (un a * sA))) := ⟨_, rfl⟩
                rw [← hR] at y6 y7
                refine ⟨some R, R, mC md (nI 0) md.2.2.2.1 md.2.2.2.2, ?_, ?_, An.yes⟩
                · unfold f5_distance f0_distancePart
                  simp (disch := omega) only [li, ↓lim1, ↓bnd_m, ↓grd_m, ↓jn_e, ↓cas_m, ↓oc_m, inb_t, nI_add, pk_mul, sub_e, le_t, le_f, lt_t, lt_f, eq_t, eq_f, cl_e, m1_e, m1_e', m1_lt, m1_le, m1_m1, lt_m1, ↓reduceIte, Nat.add_zero, Nat.zero_add, q1, w1, sa, a3, a4, a6, b3, b4, b6, y1, liL, eqL_f, not_false_eq_true, decide_true, divL, ← hsA, ← hsB, lN_mul, y2, y5, cmp_eq]
                  by_cases hz : gp (ri b * sB) (ri a * sA) S = 0
                  · rw [if_pos hz] at he
                    rw [he] at y6
                    simp (disch := omega) only [li, ↓lim1, ↓bnd_m, ↓grd_m, ↓jn_e, ↓cas_m, ↓oc_m, inb_t, nI_add, pk_mul, sub_e, le_t, le_f, lt_t, lt_f, eq_t, eq_f, cl_e, m1_e, m1_e', m1_lt, m1_le, m1_m1, lt_m1, ↓reduceIte, Nat.add_zero, Nat.zero_add, liL, eqL_t, eqL_f, not_false_eq_true, decide_true, y6]
                  · rw [if_neg hz] at he
                    rw [he] at y6
                    simp (disch := omega) only [li, ↓lim1, ↓bnd_m, ↓grd_m, ↓jn_e, ↓cas_m, ↓oc_m, inb_t, nI_add, pk_mul, sub_e, le_t, le_f, lt_t, lt_f, eq_t, eq_f, cl_e, m1_e, m1_e', m1_lt, m1_le, m1_m1, lt_m1, ↓reduceIte, Nat.add_zero, Nat.zero_add, liL, eqL_t, eqL_f, not_false_eq_true, decide_true, y6]
                · have hsel := rem_sel (X := ri b * sB) (Y := ri a * sA) (S := S) (by omega) (by omega) hSp.1 (by omega) (fun v178 => bnd (f6_part F v178 (lN (un a * sA)) (nI v)) fun u185 => some (u185, mC md (nI 0) md.2.2.2.1 md.2.2.2.2))
                  rw [← he, bnd_e y7] at hsel
                  have hl2 : sB * un b = un a * sA := lc.1
                  have hl3 : un a * sA / un a = sA := by rw [← lc.1]; exact lc.2.1
                  have hl4 : un a * sA / un b = sB := by rw [← lc.1]; exact lc.2.2
                  unfold f6_distance
                  simp (disch := omega) only [li, ↓lim1, ↓bnd_m, ↓grd_m, ↓jn_e, ↓cas_m, ↓oc_m, inb_t, nI_add, pk_mul, sub_e, le_t, le_f, lt_t, lt_f, eq_t, eq_f, cl_e, m1_e, m1_e', m1_lt, m1_le, m1_m1, lt_m1, ↓reduceIte, Nat.add_zero, Nat.zero_add, q2, w2, e0_md, sb, c3, c4, c6, d3, d4, d6, y3, liL, eqL_f, not_false_eq_true, decide_true, divL, ← hsB, lN_mul, hl2, hl3, hl4, y4]
                  exact hsel
              · rw [hap, b2_t] at sa sb
                refine ⟨some (nI v).toInt64, _, mC md (nI 0) md.2.2.2.1 md.2.2.2.2, ?_, ?_, An.yes⟩
                · unfold f5_distance
                  simp (disch := omega) only [li, ↓lim1, ↓bnd_m, ↓grd_m, ↓jn_e, ↓cas_m, ↓oc_m, inb_t, nI_add, pk_mul, sub_e, le_t, le_f, lt_t, lt_f, eq_t, eq_f, cl_e, m1_e, m1_e', m1_lt, m1_le, m1_m1, lt_m1, ↓reduceIte, Nat.add_zero, Nat.zero_add, q1, w1, sa]
                · unfold f6_distance
                  simp (disch := omega) only [li, ↓lim1, ↓bnd_m, ↓grd_m, ↓jn_e, ↓cas_m, ↓oc_m, inb_t, nI_add, pk_mul, sub_e, le_t, le_f, lt_t, lt_f, eq_t, eq_f, cl_e, m1_e, m1_e', m1_lt, m1_le, m1_m1, lt_m1, ↓reduceIte, Nat.add_zero, Nat.zero_add, q2, w2, e0_md, sb]
            · apply res
              · unfold f5_distance
                simp (disch := omega) only [li, ↓lim1, ↓bnd_m, ↓grd_m, ↓jn_e, ↓cas_m, ↓oc_m, inb_t, nI_add, pk_mul, sub_e, le_t, le_f, lt_t, lt_f, eq_t, eq_f, cl_e, m1_e, m1_e', m1_lt, m1_le, m1_m1, lt_m1, ↓reduceIte, Nat.add_zero, Nat.zero_add, q1, w1]
              · unfold f6_distance
                simp (disch := omega) only [li, ↓lim1, ↓bnd_m, ↓grd_m, ↓jn_e, ↓cas_m, ↓oc_m, inb_t, nI_add, pk_mul, sub_e, le_t, le_f, lt_t, lt_f, eq_t, eq_f, cl_e, m1_e, m1_e', m1_lt, m1_le, m1_m1, lt_m1, ↓reduceIte, Nat.add_zero, Nat.zero_add, q2, w2, e0_md]
end Qs
/-! ===== digits and texts ===== -/
def dg (B w : Nat) : List Nat := if h : w < B ∨ B < 2 then [w] else dg B (w / B) ++ [w % B]
termination_by w
decreasing_by
  have h1 : ¬ w < B := fun e => h (Or.inl e)
  have h2 : ¬ B < 2 := fun e => h (Or.inr e)
  exact Nat.div_lt_self (by omega) (by omega)
theorem dg_lt {B w : Nat} (h : w < B) : dg B w = [w] := by
  rw [dg, dif_pos (Or.inl h)]
theorem dg_ge {B w : Nat} (hB : 2 ≤ B) (h : B ≤ w) : dg B w = dg B (w / B) ++ [w % B] := by
  rw [dg, dif_neg (by omega)]
def dl (B w : Nat) : Nat → List Nat
  | 0 => []
  | i + 1 => (w / B ^ i % B) :: dl B w i
theorem dl_s (B w : Nat) : ∀ i, dl B w (i + 1) = dl B (w / B) i ++ [w % B] := by
  intro i
  induction i with
  | zero => show [w / B ^ 0 % B] = [w % B]; rw [Nat.pow_zero, Nat.div_one]
  | succ i ih =>
    show (w / B ^ (i + 1) % B) :: dl B w (i + 1) = ((w / B) / B ^ i % B) :: dl B (w / B) i ++ [w % B]
    rw [ih, Nat.div_div_eq_div_mul, Nat.pow_succ, Nat.mul_comm B]
    rfl
theorem dl_dg {B : Nat} (hB : 2 ≤ B) : ∀ (e w : Nat), w < B ^ (e + 1) → (e = 0 ∨ B ^ e ≤ w) → dl B w (e + 1) = dg B w := by
  intro e
  induction e with
  | zero =>
    intro w h1 _
    rw [Nat.zero_add, Nat.pow_one] at h1
    rw [dg_lt h1]
    show [w / B ^ 0 % B] = [w]
    rw [Nat.pow_zero, Nat.div_one, Nat.mod_eq_of_lt h1]
  | succ e ih =>
    intro w h1 h2
    have h3 : B ^ (e + 1) ≤ w := by rcases h2 with h | h; · omega
                                    · exact h
    have h4 : B ≤ w := Nat.le_trans (by
      have : B ^ 1 ≤ B ^ (e + 1) := Nat.pow_le_pow_right (by omega) (by omega)
      rwa [Nat.pow_one] at this) h3
    rw [dl_s, dg_ge hB h4, ih (w / B)]
    · rw [Nat.pow_succ] at h1
      exact Nat.div_lt_of_lt_mul (by rw [Nat.mul_comm]; exact h1)
    · right
      rw [Nat.pow_succ] at h3
      exact (Nat.le_div_iff_mul_le (by omega)).mpr h3
/-- what the place asked for holds, after a text -/
def tol (wn : Int32) : Nat → Int32 → List Nat → Int32
  | _, t, [] => t
  | k, t, c :: l => tol wn (k + 1) (if nI k = wn then nI c else t) l
theorem tol_app (wn : Int32) : ∀ (l l' : List Nat) (k : Nat) (t : Int32), tol wn k t (l ++ l') = tol wn (k + l.length) (tol wn k t l) l' := by
  intro l
  induction l with
  | nil => intro l' k t; rfl
  | cons c l ih =>
    intro l' k t
    show tol wn (k + 1) _ (l ++ l') = tol wn (k + (l.length + 1)) (tol wn (k + 1) _ l) l'
    rw [ih, Nat.add_assoc, Nat.add_comm 1]
theorem tol_get {i : Nat} (hi : i < 2147483648) : ∀ (l : List Nat) (k : Nat) (t : Int32), k + l.length < 2147483648 → tol (nI i) k t l = if k ≤ i ∧ i < k + l.length then nI (l.getD (i - k) 0) else t := by
  intro l
  induction l with
  | nil =>
    intro k t _
    rw [if_neg (by show ¬ (k ≤ i ∧ i < k + 0); omega)]
    rfl
  | cons c l ih =>
    intro k t hk
    have hk' : k + (l.length + 1) < 2147483648 := hk
    show tol (nI i) (k + 1) (if nI k = nI i then nI c else t) l = if k ≤ i ∧ i < k + (l.length + 1) then _ else t
    rw [ih (k + 1) _ (by omega)]
    by_cases h1 : k = i
    · subst h1
      rw [if_neg (by omega), if_pos rfl, if_pos (by omega), Nat.sub_self]
      rfl
    · rw [if_neg (show ¬ nI k = nI i from fun e => h1 ((nI_eq (by omega) hi).mp e))]
      by_cases h2 : k + 1 ≤ i ∧ i < k + 1 + l.length
      · rw [if_pos h2, if_pos (by omega), show i - k = (i - (k + 1)) + 1 by omega]
        rfl
      · rw [if_neg h2, if_neg (by omega)]
def nt (c : Nat) : List Nat := (dg 27 c).map (fun d => d + 96)
def dt (v : Nat) : List Nat := (dg 10 v).map (fun d => d + 48)
def rw1 (n : Nat) (p : Nat → Nat) : List Nat := (List.range n).map p
def ptx (pl : Nat → Nat) (pc : Nat → Nat → Nat) (j : Nat) : List Nat := 32 :: (if pl j = 0 then [45] else rw1 (pl j) (pc j))
def kc (s : Nat) : Nat := if s = 0 then 1841546 else if s = 1 then 60414287 else if s = 2 then 298503040 else if s = 3 then 847604 else if s = 4 then 3217595 else if s = 5 then 56400697 else if s = 6 then 267347 else if s = 7 then 6476969 else if s = 8 then 247162 else 10344947
section Tx
variable {F n m : Nat} {so va pl sz : Nat → Nat} {pc nm : Nat → Nat → Nat} {sh : T3} {ck : T0} {md : T6} {tp : T4}
variable {c : Int32} {g4 : Int32 × Int32 × Int32 × Int32 × Int32 × (Nat → Int32) × (Nat → Int32)} {rd0 : Nat → Int32} {wn : Int32}
/-- the model while it prints -/
def mP (md : T6) (c : Int32) (g4 : Int32 × Int32 × Int32 × Int32 × Int32 × (Nat → Int32) × (Nat → Int32)) (rd0 : Nat → Int32) (wn : Int32) (k : Nat) (t : Int32) : T6 := mC md c g4 (rd0, wn, nI k, t)
theorem put_ok {k u : Nat} {t : Int32} : f6_put (nI u) (mP md c g4 rd0 wn k t) = some (mP md c g4 rd0 wn (k + 1) (tol wn k t [u])) := by
  unfold f6_put
  have e1 : (mP md c g4 rd0 wn k t).2.2.2.2.2.2.1 = nI k := rfl
  have e2 : (mP md c g4 rd0 wn k t).2.2.2.2.2.1 = wn := rfl
  have e3 : tol wn k t [u] = if nI k = wn then nI u else t := rfl
  rw [e3]
  simp only [jn_e, e1, e2]
  by_cases h : nI k = wn
  · simp only [h, if_true]
    rw [← h, show (1 : Int32) = nI 1 from rfl, nI_add]
    rfl
  · simp only [h, if_false]
    rw [show (1 : Int32) = nI 1 from rfl, nI_add]
    rfl
end Tx
section Tx
variable {F n m : Nat} {so va pl sz : Nat → Nat} {pc nm : Nat → Nat → Nat} {sh : T3} {ck : T0} {md : T6} {tp : T4}
variable {c : Int32} {g4 : Int32 × Int32 × Int32 × Int32 × Int32 × (Nat → Int32) × (Nat → Int32)} {rd0 : Nat → Int32} {wn : Int32}
theorem pow_bd {B e w : Nat} (hB : 2 ≤ B) (h : B ^ e ≤ w) (hw : w < 2 ^ 40) : e < 40 := by
  have h1 : 2 ^ e ≤ B ^ e := Nat.pow_le_pow_left hB e
  have h2 : 2 ^ e < 2 ^ 40 := by omega
  exact (Nat.pow_lt_pow_iff_right (by decide)).mp h2
/-- the first power at which one digit is left -/
theorem top_ok {B : Nat} (hB : 2 ≤ B) (w : Nat) (hw : w < 2 ^ 40) : ∃ e, e ≤ 40 ∧ w < B ^ (e + 1) ∧ (e = 0 ∨ B ^ e ≤ w) := by
  have h : ∃ k, w < B ^ (k + 1) := ⟨40, Nat.lt_of_lt_of_le hw (Nat.le_trans (Nat.pow_le_pow_left hB 40) (Nat.pow_le_pow_right (by omega) (by omega)))⟩
  obtain ⟨e, h1, h2⟩ := pk_least (fun k => w < B ^ (k + 1)) h
  refine ⟨e, ?_, h1, ?_⟩
  · by_cases h3 : e ≤ 40
    · exact h3
    · have := h2 40 (by omega)
      exact absurd (Nat.lt_of_lt_of_le hw (Nat.le_trans (Nat.pow_le_pow_left hB 40) (Nat.pow_le_pow_right (by omega) (by omega)))) this
  · cases e with
    | zero => exact Or.inl rfl
    | succ e => exact Or.inr (Nat.le_of_not_lt (h2 e (Nat.lt_succ_self e)))
theorem put_s {k u : Nat} {t : Int32} {x : Int32} (hx : x = nI u) : f6_put x (mP md c g4 rd0 wn k t) = some (mP md c g4 rd0 wn (k + 1) (tol wn k t [u])) := by rw [hx]; exact put_ok
theorem len_dl (B w : Nat) : ∀ i, (dl B w i).length = i := by
  intro i
  induction i with
  | zero => rfl
  | succ i ih => show (dl B w i).length + 1 = i + 1; rw [ih]
theorem putWord_ok (hF : 5000 < F) {w k : Nat} {t : Int32} (hw : w < 2 ^ 40) : f6_putWord F (lN w) (mP md c g4 rd0 wn k t) = some (mP md c g4 rd0 wn (k + (nt w).length) (tol wn k t (nt w))) := by
  obtain ⟨e, he, h1, h2⟩ := top_ok (B := 27) (by omega) w hw
  have hpow : 27 ^ e ≤ 2 ^ 40 := by
    rcases h2 with h | h
    · rw [h]; decide
    · omega
  -- the power
  have k1 := iter_up (b := f6_putWord_L2 (lN w)) (fun i => lN (27 ^ i)) (lN (27 ^ e)) e (by
    intro i hi
    have hm : 27 ^ (i + 1) ≤ w := by
      rcases h2 with h | h
      · omega
      · exact Nat.le_trans (Nat.pow_le_pow_right (by omega) hi) h
    have hi0 : 0 < 27 ^ i := Nat.pow_pos (by omega)
    rw [Nat.pow_succ] at hm
    have hd : 27 ≤ w / 27 ^ i := (Nat.le_div_iff_mul_le hi0).mpr (by rw [Nat.mul_comm]; exact hm)
    have hdl : w / 27 ^ i ≤ w := Nat.div_le_self _ _
    have hs : lN (27 ^ i * 27) = lN (27 ^ (i + 1)) := by rw [Nat.pow_succ]
    unfold f6_putWord_L2
    simp (disch := omega) only [li, ↓lim1, ↓bnd_m, ↓grd_m, ↓jn_e, ↓cas_m, ↓oc_m, inb_t, nI_add, pk_mul, sub_e, le_t, le_f, lt_t, lt_f, eq_t, eq_f, cl_e, m1_e, m1_e', m1_lt, m1_le, m1_m1, lt_m1, ↓reduceIte, Nat.add_zero, Nat.zero_add, liL, remL', lN_add, lN_mul, subL, leL_t, leL_f, ltL_t, ltL_f, eqL_t, eqL_f, divL, cmp_le, cmp_ge, cmp_gt, cmp_lt, cmp_eq, not_true_eq_false, not_false_eq_true, decide_true, decide_false, dnz, hs]) (by
    have hi0 : 0 < 27 ^ e := Nat.pow_pos (by omega)
    have hd : w / 27 ^ e < 27 := by
      rw [Nat.pow_succ] at h1
      exact Nat.div_lt_of_lt_mul h1
    unfold f6_putWord_L2
    simp (disch := omega) only [li, ↓lim1, ↓bnd_m, ↓grd_m, ↓jn_e, ↓cas_m, ↓oc_m, inb_t, nI_add, pk_mul, sub_e, le_t, le_f, lt_t, lt_f, eq_t, eq_f, cl_e, m1_e, m1_e', m1_lt, m1_le, m1_m1, lt_m1, ↓reduceIte, Nat.add_zero, Nat.zero_add, liL, remL', lN_add, lN_mul, subL, leL_t, leL_f, ltL_t, ltL_f, eqL_t, eqL_f, divL, cmp_le, cmp_ge, cmp_gt, cmp_lt, cmp_eq, not_true_eq_false, not_false_eq_true, decide_true, decide_false, dnz]) F 0 (Nat.zero_le e) (by omega)
  -- the digits
  have k2 := iter_rule (b := f6_putWord_L24 (lN w))
    (fun d s => ∃ (k' : Nat) (t' : Int32), d ≤ e + 1 ∧ s = (lN (if d = 0 then 0 else 27 ^ (d - 1)), mP md c g4 rd0 wn k' t') ∧ k' + d = k + (nt w).length ∧ tol wn k' t' ((dl 27 w d).map (fun d => d + 96)) = tol wn k t (nt w))
    (fun r => r = mP md c g4 rd0 wn (k + (nt w).length) (tol wn k t (nt w)))
    (by
      rintro d s ⟨k', t', hd, rfl, hk, ht⟩
      cases d with
      | zero =>
        refine Or.inr ⟨mP md c g4 rd0 wn k' t', ?_, ?_⟩
        · unfold f6_putWord_L24
          simp (disch := omega) only [li, ↓lim1, ↓bnd_m, ↓grd_m, ↓jn_e, ↓cas_m, ↓oc_m, inb_t, nI_add, pk_mul, sub_e, le_t, le_f, lt_t, lt_f, eq_t, eq_f, cl_e, m1_e, m1_e', m1_lt, m1_le, m1_m1, lt_m1, ↓reduceIte, Nat.add_zero, Nat.zero_add, liL, remL', lN_add, lN_mul, subL, leL_t, leL_f, ltL_t, ltL_f, eqL_t, eqL_f, divL, cmp_le, cmp_ge, cmp_gt, cmp_lt, cmp_eq, not_true_eq_false, not_false_eq_true, decide_true, decide_false, dnz, if_true]
        · rw [← hk, ← ht]; rfl
      | succ d =>
        have hi0 : 0 < 27 ^ d := Nat.pow_pos (by omega)
        have hpl : 27 ^ d ≤ 27 ^ e := Nat.pow_le_pow_right (by omega) (by omega)
        have hdl : w / 27 ^ d ≤ w := Nat.div_le_self _ _
        have hm : w / 27 ^ d % 27 < 27 := Nat.mod_lt _ (by omega)
        have hq : (27 : Nat) ^ d / 27 = (if d = 0 then 0 else 27 ^ (d - 1)) := by
          cases d with
          | zero => rfl
          | succ d => rw [if_neg (by omega), Nat.pow_succ, Nat.mul_div_cancel _ (by omega)]; rfl
        have hput := put_s (md := md) (c := c) (g4 := g4) (rd0 := rd0) (wn := wn) (k := k') (t := t') (u := w / 27 ^ d % 27 + 96) (x := (lN (w / 27 ^ d % 27)).toInt32 + nI 96) (by rw [lN_i, nI_add])
        refine Or.inl ⟨(lN (if d = 0 then 0 else 27 ^ (d - 1)), mP md c g4 rd0 wn (k' + 1) (tol wn k' t' [w / 27 ^ d % 27 + 96])), d, by omega, ?_, k' + 1, _, by omega, rfl, by omega, ?_⟩
        · have e1 : (if d + 1 = 0 then 0 else 27 ^ (d + 1 - 1)) = 27 ^ d := by rw [if_neg (by omega)]; rfl
          rw [e1]
          unfold f6_putWord_L24
          have hx := (mod_e (w / 27 ^ d) 27).2
          simp (disch := omega) only [li, ↓lim1, ↓bnd_m, ↓grd_m, ↓jn_e, ↓cas_m, ↓oc_m, inb_t, nI_add, pk_mul, sub_e, le_t, le_f, lt_t, lt_f, eq_t, eq_f, cl_e, m1_e, m1_e', m1_lt, m1_le, m1_m1, lt_m1, ↓reduceIte, Nat.add_zero, Nat.zero_add, liL, remL', lN_add, lN_mul, subL, leL_t, leL_f, ltL_t, ltL_f, eqL_t, eqL_f, divL, cmp_le, cmp_ge, cmp_gt, cmp_lt, cmp_eq, not_true_eq_false, not_false_eq_true, decide_true, decide_false, dnz, hx, hput, hq]
        · rw [← ht]
          rfl)
    F (e + 1) (lN (27 ^ e), mP md c g4 rd0 wn k t) (by omega) (by
      have hdd := dl_dg (B := 27) (by omega) e w h1 h2
      refine ⟨k, t, Nat.le_refl _, ?_, ?_, ?_⟩
      · rw [if_neg (by omega)]; rfl
      · unfold nt; rw [List.length_map, ← hdd, len_dl]
      · unfold nt; rw [hdd])
  obtain ⟨r, hr, rfl⟩ := k2
  unfold f6_putWord
  simp only [liL]
  have k1' : iter (f6_putWord_L2 (lN w)) F (lN 1) = some (lN (27 ^ e)) := k1
  rw [bnd_e k1', bnd_e hr]
theorem putWhole_ok (hF : 5000 < F) {w k : Nat} {t : Int32} (hw : w < 1000000) : f6_putWhole F (nI w) (mP md c g4 rd0 wn k t) = some (mP md c g4 rd0 wn (k + (32 :: dt w).length) (tol wn k t (32 :: dt w))) := by
  obtain ⟨e, he, h1, h2⟩ := top_ok (B := 10) (by omega) w (by omega)
  have hpow : 10 ^ e ≤ 1000000 := by
    rcases h2 with h | h
    · rw [h]; decide
    · omega
  have k1 := iter_up (b := f6_putWhole_L2 (nI w)) (fun i => nI (10 ^ i)) (nI (10 ^ e)) e (by
    intro i hi
    have hm : 10 ^ (i + 1) ≤ w := by
      rcases h2 with h | h
      · omega
      · exact Nat.le_trans (Nat.pow_le_pow_right (by omega) hi) h
    have hi0 : 0 < 10 ^ i := Nat.pow_pos (by omega)
    rw [Nat.pow_succ] at hm
    have hd : 10 ≤ w / 10 ^ i := (Nat.le_div_iff_mul_le hi0).mpr (by rw [Nat.mul_comm]; exact hm)
    have hdl : w / 10 ^ i ≤ w := Nat.div_le_self _ _
    have hs : nI (10 ^ i * 10) = nI (10 ^ (i + 1)) := by rw [Nat.pow_succ]
    unfold f6_putWhole_L2
    simp (disch := omega) only [li, ↓lim1, ↓bnd_m, ↓grd_m, ↓jn_e, ↓cas_m, ↓oc_m, inb_t, nI_add, pk_mul, sub_e, le_t, le_f, lt_t, lt_f, eq_t, eq_f, cl_e, m1_e, m1_e', m1_lt, m1_le, m1_m1, lt_m1, ↓reduceIte, Nat.add_zero, Nat.zero_add, div_e, rem_e, l_e, not_false_eq_true, decide_true, hs]) (by
    have hi0 : 0 < 10 ^ e := Nat.pow_pos (by omega)
    have hd : w / 10 ^ e < 10 := by
      rw [Nat.pow_succ] at h1
      exact Nat.div_lt_of_lt_mul h1
    unfold f6_putWhole_L2
    simp (disch := omega) only [li, ↓lim1, ↓bnd_m, ↓grd_m, ↓jn_e, ↓cas_m, ↓oc_m, inb_t, nI_add, pk_mul, sub_e, le_t, le_f, lt_t, lt_f, eq_t, eq_f, cl_e, m1_e, m1_e', m1_lt, m1_le, m1_m1, lt_m1, ↓reduceIte, Nat.add_zero, Nat.zero_add, div_e, rem_e, l_e, not_false_eq_true, decide_true]) F 0 (Nat.zero_le e) (by omega)
  have k2 := iter_rule (b := f6_putWhole_L26 (nI w))
    (fun d s => ∃ (k' : Nat) (t' : Int32), d ≤ e + 1 ∧ s = (nI (if d = 0 then 0 else 10 ^ (d - 1)), mP md c g4 rd0 wn k' t') ∧ k' + d = k + 1 + (dt w).length ∧ tol wn k' t' ((dl 10 w d).map (fun d => d + 48)) = tol wn (k + 1) (tol wn k t [32]) (dt w))
    (fun r => r = mP md c g4 rd0 wn (k + 1 + (dt w).length) (tol wn (k + 1) (tol wn k t [32]) (dt w)))
    (by
      rintro d s ⟨k', t', hd, rfl, hk, ht⟩
      cases d with
      | zero =>
        refine Or.inr ⟨mP md c g4 rd0 wn k' t', ?_, ?_⟩
        · unfold f6_putWhole_L26
          simp (disch := omega) only [li, ↓lim1, ↓bnd_m, ↓grd_m, ↓jn_e, ↓cas_m, ↓oc_m, inb_t, nI_add, pk_mul, sub_e, le_t, le_f, lt_t, lt_f, eq_t, eq_f, cl_e, m1_e, m1_e', m1_lt, m1_le, m1_m1, lt_m1, ↓reduceIte, Nat.add_zero, Nat.zero_add, div_e, rem_e, l_e, if_true]
        · rw [← hk, ← ht]; rfl
      | succ d =>
        have hi0 : 0 < 10 ^ d := Nat.pow_pos (by omega)
        have hpl : 10 ^ d ≤ 10 ^ e := Nat.pow_le_pow_right (by omega) (by omega)
        have hdl : w / 10 ^ d ≤ w := Nat.div_le_self _ _
        have hm : w / 10 ^ d % 10 < 10 := Nat.mod_lt _ (by omega)
        have hq : (10 : Nat) ^ d / 10 = (if d = 0 then 0 else 10 ^ (d - 1)) := by
          cases d with
          | zero => rfl
          | succ d => rw [if_neg (by omega), Nat.pow_succ, Nat.mul_div_cancel _ (by omega)]; rfl
        have hsub : nI (w / 10 ^ d) - nI (w / 10 ^ d / 10 * 10) = nI (w / 10 ^ d % 10) := rem_e
        have hput := put_s (md := md) (c := c) (g4 := g4) (rd0 := rd0) (wn := wn) (k := k') (t := t') (u := w / 10 ^ d % 10 + 48) (x := nI (48 + w / 10 ^ d % 10)) (by rw [Nat.add_comm])
        refine Or.inl ⟨(nI (if d = 0 then 0 else 10 ^ (d - 1)), mP md c g4 rd0 wn (k' + 1) (tol wn k' t' [w / 10 ^ d % 10 + 48])), d, by omega, ?_, k' + 1, _, by omega, rfl, by omega, ?_⟩
        · have e1 : (if d + 1 = 0 then 0 else 10 ^ (d + 1 - 1)) = 10 ^ d := by rw [if_neg (by omega)]; rfl
          rw [e1]
          unfold f6_putWhole_L26
          have hx := (mod_e (w / 10 ^ d) 10).2
          simp (disch := omega) only [li, ↓lim1, ↓bnd_m, ↓grd_m, ↓jn_e, ↓cas_m, ↓oc_m, inb_t, nI_add, pk_mul, sub_e, le_t, le_f, lt_t, lt_f, eq_t, eq_f, cl_e, m1_e, m1_e', m1_lt, m1_le, m1_m1, lt_m1, ↓reduceIte, Nat.add_zero, Nat.zero_add, div_e, rem_e, l_e, not_false_eq_true, decide_true, hx, hput, hq]
        · rw [← ht]
          rfl)
    F (e + 1) (nI (10 ^ e), mP md c g4 rd0 wn (k + 1) (tol wn k t [32])) (by omega) (by
      have hdd := dl_dg (B := 10) (by omega) e w h1 h2
      refine ⟨k + 1, tol wn k t [32], Nat.le_refl _, ?_, ?_, ?_⟩
      · rw [if_neg (by omega)]; rfl
      · unfold dt; rw [List.length_map, ← hdd, len_dl]
      · unfold dt; rw [hdd])
  obtain ⟨r, hr, rfl⟩ := k2
  have k1' : iter (f6_putWhole_L2 (nI w)) F (nI 1) = some (nI (10 ^ e)) := k1
  unfold f6_putWhole
  simp only [li]
  rw [bnd_e k1', bnd_e put_ok, bnd_e hr]
  rw [show k + 1 + (dt w).length = k + (32 :: dt w).length by show _ = k + ((dt w).length + 1); omega]
  rfl
end Tx
/-- what a row of the model holds that is printed -/
def FldM (md : T6) (r0 n : Nat) (so c d o w h : Nat → Nat) : Prop := ∀ r, r < n → so r < 10 ∧ mSort md (r0 + r) = nI (so r) ∧ (so r ≤ 3 → mNC md (r0 + r) = lN (c r) ∧ c r < 2 ^ 40) ∧ (1 ≤ so r → so r ≤ 3 → mND md (r0 + r) = lN (d r) ∧ d r < 2 ^ 40) ∧ (¬ so r = 3 → ¬ so r = 4 → mOne md (r0 + r) = nI (o r) ∧ o r < 1000000) ∧ (so r ≤ 2 → mTwo md (r0 + r) = nI (w r) ∧ w r < 1000000) ∧ (so r = 0 → mThr md (r0 + r) = nI (h r) ∧ h r < 1000000)
/-- a row's text -/
def ptt (pl : Nat → Nat) (pc : Nat → Nat → Nat) (s r : Nat) : List Nat := if s = 3 then [] else if s < 4 ∨ 7 < s then ptx pl pc (3 * r) else ptx pl pc (3 * r) ++ ptx pl pc (3 * r + 1) ++ ptx pl pc (3 * r + 2)
def txr (so c d o w h pl : Nat → Nat) (pc : Nat → Nat → Nat) (r : Nat) : List Nat :=
  nt (kc (so r)) ++ (if so r ≤ 3 then 32 :: nt (c r) else []) ++ (if 1 ≤ so r ∧ so r ≤ 3 then 32 :: nt (d r) else []) ++ (if ¬ so r = 3 ∧ ¬ so r = 4 then 32 :: dt (o r) else []) ++ (if so r ≤ 2 then 32 :: dt (w r) else []) ++ (if so r = 0 then 32 :: dt (h r) else []) ++ ptt pl pc (so r) r ++ [59, 10]
def txt (so c d o w h pl : Nat → Nat) (pc : Nat → Nat → Nat) : Nat → List Nat
  | 0 => []
  | r + 1 => txt so c d o w h pl pc r ++ txr so c d o w h pl pc r
section Tx
variable {F n m : Nat} {so va pl sz cc dd oo ww hh : Nat → Nat} {pc nm : Nat → Nat → Nat} {sh : T3} {ck : T0} {md : T6} {tp : T4}
variable {c : Int32} {g4 : Int32 × Int32 × Int32 × Int32 × Int32 × (Nat → Int32) × (Nat → Int32)} {rd0 : Nat → Int32} {wn : Int32}
theorem rw1_s (n : Nat) (p : Nat → Nat) : rw1 (n + 1) p = rw1 n p ++ [p n] := by
  unfold rw1
  rw [List.range_succ, List.map_append]
  rfl
theorem rw1_len (n : Nat) (p : Nat → Nat) : (rw1 n p).length = n := by unfold rw1; rw [List.length_map, List.length_range]
/-- two puts one after the other -/
theorem tol_1 {k : Nat} {t : Int32} (l : List Nat) (u : Nat) : tol wn (k + l.length) (tol wn k t l) [u] = tol wn k t (l ++ [u]) := (tol_app wn l [u] k t).symm
theorem mP_app {k : Nat} {t : Int32} (l l' : List Nat) : mP md c g4 rd0 wn (k + l.length + l'.length) (tol wn (k + l.length) (tol wn k t l) l') = mP md c g4 rd0 wn (k + (l ++ l').length) (tol wn k t (l ++ l')) := by
  rw [tol_app, List.length_append, Nat.add_assoc]
theorem putPattern_ok (hF : 5000 < F) (hn : n ≤ 40) (HP : PtsM md n pl pc) {r s : Nat} (hr : r < n) (hs : s < 3) {k : Nat} {t : Int32} : f6_putPattern F (nI r) (nI s) (mP md c g4 rd0 wn k t) = some (mP md c g4 rd0 wn (k + (ptx pl pc (3 * r + s)).length) (tol wn k t (ptx pl pc (3 * r + s)))) := by
  obtain ⟨hl, e1, h1⟩ := HP (3 * r + s) (by omega)
  obtain ⟨l, hlq⟩ : ∃ l : List Nat, l = if pl (3 * r + s) = 0 then [32, 45] else [32] := ⟨_, rfl⟩
  have key := iter_rule (b := f6_putPattern_L30 (nI r) (nI s))
    (fun d st => ∃ i : Nat, d + i = pl (3 * r + s) ∧ st = (nI i, mP md c g4 rd0 wn (k + (l ++ rw1 i (pc (3 * r + s))).length) (tol wn k t (l ++ rw1 i (pc (3 * r + s))))))
    (fun q => q = mP md c g4 rd0 wn (k + (l ++ rw1 (pl (3 * r + s)) (pc (3 * r + s))).length) (tol wn k t (l ++ rw1 (pl (3 * r + s)) (pc (3 * r + s)))))
    (by
      rintro d st ⟨i, hd, rfl⟩
      have e1' : ∀ k t, mPs (mP md c g4 rd0 wn k t) (3 * r + s) = nI (pl (3 * r + s)) := fun _ _ => e1
      by_cases hi : pl (3 * r + s) ≤ i
      · have : i = pl (3 * r + s) := by omega
        subst this
        refine Or.inr ⟨_, ?_, rfl⟩
        unfold f6_putPattern_L30
        simp (disch := omega) only [li, ↓lim1, ↓bnd_m, ↓grd_m, ↓jn_e, ↓cas_m, ↓oc_m, inb_t, nI_add, pk_mul, sub_e, le_t, le_f, lt_t, lt_f, eq_t, eq_f, cl_e, m1_e, m1_e', m1_lt, m1_le, m1_m1, lt_m1, ↓reduceIte, Nat.add_zero, Nat.zero_add, e1']
      · obtain ⟨p1, p2⟩ := h1 i (by omega)
        have p1' : ∀ k t, mPat (mP md c g4 rd0 wn k t) (16 * (3 * r + s) + i) = nI (pc (3 * r + s) i) := fun _ _ => p1
        refine Or.inl ⟨_, d - 1, by omega, ?_, i + 1, by omega, rfl⟩
        unfold f6_putPattern_L30
        simp (disch := omega) only [li, ↓lim1, ↓bnd_m, ↓grd_m, ↓jn_e, ↓cas_m, ↓oc_m, inb_t, nI_add, pk_mul, sub_e, le_t, le_f, lt_t, lt_f, eq_t, eq_f, cl_e, m1_e, m1_e', m1_lt, m1_le, m1_m1, lt_m1, ↓reduceIte, Nat.add_zero, Nat.zero_add, e1', p1', put_ok]
        rw [rw1_s, ← List.append_assoc, tol_1, List.length_append (bs := [pc (3 * r + s) i])]
        rfl)
    F (pl (3 * r + s)) (nI 0, mP md c g4 rd0 wn (k + l.length) (tol wn k t l)) (by omega) ⟨0, by omega, by
      have : l ++ rw1 0 (pc (3 * r + s)) = l := by show l ++ [] = l; rw [List.append_nil]
      rw [this]⟩
  obtain ⟨q, hq, rfl⟩ := key
  have e1' : ∀ k t, mPs (mP md c g4 rd0 wn k t) (3 * r + s) = nI (pl (3 * r + s)) := fun _ _ => e1
  unfold f6_putPattern ptx
  by_cases h0 : pl (3 * r + s) = 0
  · rw [if_pos h0] at hlq
    subst hlq
    simp (disch := omega) only [li, ↓lim1, ↓bnd_m, ↓grd_m, ↓jn_e, ↓cas_m, ↓oc_m, inb_t, nI_add, pk_mul, sub_e, le_t, le_f, lt_t, lt_f, eq_t, eq_f, cl_e, m1_e, m1_e', m1_lt, m1_le, m1_m1, lt_m1, ↓reduceIte, Nat.add_zero, Nat.zero_add, e1', put_ok]
    rw [h0] at hq
    have hq' : iter (f6_putPattern_L30 (nI r) (nI s)) F (nI 0, mP md c g4 rd0 wn (k + 1 + 1) (tol wn (k + 1) (tol wn k t [32]) [45])) = some (mP md c g4 rd0 wn (k + [32, 45].length) (tol wn k t [32, 45])) := hq
    rw [hq', h0]
    rfl
  · rw [if_neg h0] at hlq
    subst hlq
    have hq' : iter (f6_putPattern_L30 (nI r) (nI s)) F (nI 0, mP md c g4 rd0 wn (k + 1) (tol wn k t [32])) = some (mP md c g4 rd0 wn (k + ([32] ++ rw1 (pl (3 * r + s)) (pc (3 * r + s))).length) (tol wn k t ([32] ++ rw1 (pl (3 * r + s)) (pc (3 * r + s))))) := hq
    simp (disch := omega) only [li, ↓lim1, ↓bnd_m, ↓grd_m, ↓jn_e, ↓cas_m, ↓oc_m, inb_t, nI_add, pk_mul, sub_e, le_t, le_f, lt_t, lt_f, eq_t, eq_f, cl_e, m1_e, m1_e', m1_lt, m1_le, m1_m1, lt_m1, ↓reduceIte, Nat.add_zero, Nat.zero_add, e1', put_ok, hq', if_neg h0]
    rfl
theorem wordOf_ok {s : Nat} (hs : s < 10) : f6_wordOf (nI s) = some (lN (kc s)) := co_dec (N := 10) (P := fun s => f6_wordOf (nI s) = some (lN (kc s))) (by decide +kernel) hs
theorem kc_lt (s : Nat) : kc s < 2 ^ 40 := by unfold kc; (repeat' split) <;> decide
theorem print_ok (hF : 5000 < F) (hn : n ≤ 40) (HP : PtsM md n pl pc) (HF : FldM md 0 n so cc dd oo ww hh) {r : Nat} (hr : r < n) {k : Nat} {t : Int32} : f6_print F (nI r) (mP md c g4 rd0 wn k t) = some (mP md c g4 rd0 wn (k + (txr so cc dd oo ww hh pl pc r).length) (tol wn k t (txr so cc dd oo ww hh pl pc r))) := by
  obtain ⟨f0, f1, f2, f3, f4, f5, f6⟩ := HF r hr
  rw [Nat.zero_add] at f1 f2 f3 f4 f5 f6
  have s1 : ∀ k t, mSort (mP md c g4 rd0 wn k t) r = nI (so r) := fun _ _ => f1
  have kk := fun k t => putWord_ok (F := F) (md := md) (c := c) (g4 := g4) (rd0 := rd0) (wn := wn) (w := kc (so r)) (k := k) (t := t) hF (kc_lt _)
  -- the patterns
  have pp : ∀ k t, iter (f6_print_L113 F (nI r) (mP md c g4 rd0 wn 0 0)) F (nI 0, mP md c g4 rd0 wn k t) = some (mP md c g4 rd0 wn (k + (ptt pl pc (so r) r).length) (tol wn k t (ptt pl pc (so r) r))) ∧ ∀ k' t', iter (f6_print_L113 F (nI r) (mP md c g4 rd0 wn k' t')) F (nI 0, mP md c g4 rd0 wn k t) = some (mP md c g4 rd0 wn (k + (ptt pl pc (so r) r).length) (tol wn k t (ptt pl pc (so r) r))) := by
    intro k t
    have go : ∀ k' t', iter (f6_print_L113 F (nI r) (mP md c g4 rd0 wn k' t')) F (nI 0, mP md c g4 rd0 wn k t) = some (mP md c g4 rd0 wn (k + (ptt pl pc (so r) r).length) (tol wn k t (ptt pl pc (so r) r))) := by
      intro k' t'
      obtain ⟨G, hG⟩ : ∃ G, F = G + 1 + 1 + 1 + 1 := ⟨F - 4, by omega⟩
      have q0 := fun k t => putPattern_ok (F := F) (md := md) (c := c) (g4 := g4) (rd0 := rd0) (wn := wn) (r := r) (s := 0) (k := k) (t := t) hF hn HP hr (by omega)
      have q1 := fun k t => putPattern_ok (F := F) (md := md) (c := c) (g4 := g4) (rd0 := rd0) (wn := wn) (r := r) (s := 1) (k := k) (t := t) hF hn HP hr (by omega)
      have q2 := fun k t => putPattern_ok (F := F) (md := md) (c := c) (g4 := g4) (rd0 := rd0) (wn := wn) (r := r) (s := 2) (k := k) (t := t) hF hn HP hr (by omega)
      rw [show 3 * r + 0 = 3 * r from rfl] at q0
      unfold ptt
      by_cases c3 : so r = 3
      · rw [if_pos c3]
        conv => lhs; arg 2; rw [hG]
        apply iter_stop
        unfold f6_print_L113
        simp (disch := omega) only [li, ↓lim1, ↓bnd_m, ↓grd_m, ↓jn_e, ↓cas_m, ↓oc_m, inb_t, nI_add, pk_mul, sub_e, le_t, le_f, lt_t, lt_f, eq_t, eq_f, cl_e, m1_e, m1_e', m1_lt, m1_le, m1_m1, lt_m1, ↓reduceIte, Nat.add_zero, Nat.zero_add, s1]
        rfl
      · rw [if_neg c3]
        by_cases c4 : so r < 4 ∨ 7 < so r
        · rw [if_pos c4]
          conv => lhs; arg 2; rw [hG]
          have st1 : f6_print_L113 F (nI r) (mP md c g4 rd0 wn k' t') (nI 0, mP md c g4 rd0 wn k t) = some (.inl (nI 1, mP md c g4 rd0 wn (k + (ptx pl pc (3 * r)).length) (tol wn k t (ptx pl pc (3 * r))))) := by
            unfold f6_print_L113
            by_cases c5 : so r < 4
            · simp (disch := omega) only [li, ↓lim1, ↓bnd_m, ↓grd_m, ↓jn_e, ↓cas_m, ↓oc_m, inb_t, nI_add, pk_mul, sub_e, le_t, le_f, lt_t, lt_f, eq_t, eq_f, cl_e, m1_e, m1_e', m1_lt, m1_le, m1_m1, lt_m1, ↓reduceIte, Nat.add_zero, Nat.zero_add, s1, q0]
            · simp (disch := omega) only [li, ↓lim1, ↓bnd_m, ↓grd_m, ↓jn_e, ↓cas_m, ↓oc_m, inb_t, nI_add, pk_mul, sub_e, le_t, le_f, lt_t, lt_f, eq_t, eq_f, cl_e, m1_e, m1_e', m1_lt, m1_le, m1_m1, lt_m1, ↓reduceIte, Nat.add_zero, Nat.zero_add, s1, q0]
          rw [iter_step st1]
          apply iter_stop
          unfold f6_print_L113
          by_cases c5 : so r < 4
          · simp (disch := omega) only [li, ↓lim1, ↓bnd_m, ↓grd_m, ↓jn_e, ↓cas_m, ↓oc_m, inb_t, nI_add, pk_mul, sub_e, le_t, le_f, lt_t, lt_f, eq_t, eq_f, cl_e, m1_e, m1_e', m1_lt, m1_le, m1_m1, lt_m1, ↓reduceIte, Nat.add_zero, Nat.zero_add, s1]
          · simp (disch := omega) only [li, ↓lim1, ↓bnd_m, ↓grd_m, ↓jn_e, ↓cas_m, ↓oc_m, inb_t, nI_add, pk_mul, sub_e, le_t, le_f, lt_t, lt_f, eq_t, eq_f, cl_e, m1_e, m1_e', m1_lt, m1_le, m1_m1, lt_m1, ↓reduceIte, Nat.add_zero, Nat.zero_add, s1]
        · rw [if_neg c4]
          conv => lhs; arg 2; rw [hG]
          have st1 : f6_print_L113 F (nI r) (mP md c g4 rd0 wn k' t') (nI 0, mP md c g4 rd0 wn k t) = some (.inl (nI 1, mP md c g4 rd0 wn (k + (ptx pl pc (3 * r)).length) (tol wn k t (ptx pl pc (3 * r))))) := by
            unfold f6_print_L113
            simp (disch := omega) only [li, ↓lim1, ↓bnd_m, ↓grd_m, ↓jn_e, ↓cas_m, ↓oc_m, inb_t, nI_add, pk_mul, sub_e, le_t, le_f, lt_t, lt_f, eq_t, eq_f, cl_e, m1_e, m1_e', m1_lt, m1_le, m1_m1, lt_m1, ↓reduceIte, Nat.add_zero, Nat.zero_add, s1, q0]
          have st2 : f6_print_L113 F (nI r) (mP md c g4 rd0 wn k' t') (nI 1, mP md c g4 rd0 wn (k + (ptx pl pc (3 * r)).length) (tol wn k t (ptx pl pc (3 * r)))) = some (.inl (nI 2, mP md c g4 rd0 wn (k + (ptx pl pc (3 * r) ++ ptx pl pc (3 * r + 1)).length) (tol wn k t (ptx pl pc (3 * r) ++ ptx pl pc (3 * r + 1))))) := by
            unfold f6_print_L113
            simp (disch := omega) only [li, ↓lim1, ↓bnd_m, ↓grd_m, ↓jn_e, ↓cas_m, ↓oc_m, inb_t, nI_add, pk_mul, sub_e, le_t, le_f, lt_t, lt_f, eq_t, eq_f, cl_e, m1_e, m1_e', m1_lt, m1_le, m1_m1, lt_m1, ↓reduceIte, Nat.add_zero, Nat.zero_add, s1, q1]
            rw [mP_app]
          have st3 : f6_print_L113 F (nI r) (mP md c g4 rd0 wn k' t') (nI 2, mP md c g4 rd0 wn (k + (ptx pl pc (3 * r) ++ ptx pl pc (3 * r + 1)).length) (tol wn k t (ptx pl pc (3 * r) ++ ptx pl pc (3 * r + 1)))) = some (.inl (nI 3, mP md c g4 rd0 wn (k + (ptx pl pc (3 * r) ++ ptx pl pc (3 * r + 1) ++ ptx pl pc (3 * r + 2)).length) (tol wn k t (ptx pl pc (3 * r) ++ ptx pl pc (3 * r + 1) ++ ptx pl pc (3 * r + 2))))) := by
            unfold f6_print_L113
            simp (disch := omega) only [li, ↓lim1, ↓bnd_m, ↓grd_m, ↓jn_e, ↓cas_m, ↓oc_m, inb_t, nI_add, pk_mul, sub_e, le_t, le_f, lt_t, lt_f, eq_t, eq_f, cl_e, m1_e, m1_e', m1_lt, m1_le, m1_m1, lt_m1, ↓reduceIte, Nat.add_zero, Nat.zero_add, s1, q2]
            rw [mP_app]
          rw [iter_step st1, iter_step st2, iter_step st3]
          apply iter_stop
          unfold f6_print_L113
          simp (disch := omega) only [li, ↓lim1, ↓bnd_m, ↓grd_m, ↓jn_e, ↓cas_m, ↓oc_m, inb_t, nI_add, pk_mul, sub_e, le_t, le_f, lt_t, lt_f, eq_t, eq_f, cl_e, m1_e, m1_e', m1_lt, m1_le, m1_m1, lt_m1, ↓reduceIte, Nat.add_zero, Nat.zero_add, s1]
    exact ⟨go 0 0, go⟩
  have pp' := fun k t k' t' => (pp k t).2 k' t'
  -- names and numbers
  have w1 : so r ≤ 3 → ∀ k t, f6_putWord F (mNC (mP md c g4 rd0 wn k t) r) (mP md c g4 rd0 wn k t) = some (mP md c g4 rd0 wn (k + (nt (cc r)).length) (tol wn k t (nt (cc r)))) := fun h k t => by
    have e : mNC (mP md c g4 rd0 wn k t) r = lN (cc r) := (f2 h).1
    rw [e]; exact putWord_ok hF (f2 h).2
  have w2 : 1 ≤ so r → so r ≤ 3 → ∀ k t, f6_putWord F (mND (mP md c g4 rd0 wn k t) r) (mP md c g4 rd0 wn k t) = some (mP md c g4 rd0 wn (k + (nt (dd r)).length) (tol wn k t (nt (dd r)))) := fun h h' k t => by
    have e : mND (mP md c g4 rd0 wn k t) r = lN (dd r) := (f3 h h').1
    rw [e]; exact putWord_ok hF (f3 h h').2
  have v1 : ¬ so r = 3 → ¬ so r = 4 → ∀ k t, f6_putWhole F (mOne (mP md c g4 rd0 wn k t) r) (mP md c g4 rd0 wn k t) = some (mP md c g4 rd0 wn (k + (32 :: dt (oo r)).length) (tol wn k t (32 :: dt (oo r)))) := fun h h' k t => by
    have e : mOne (mP md c g4 rd0 wn k t) r = nI (oo r) := (f4 h h').1
    rw [e]; exact putWhole_ok hF (f4 h h').2
  have v2 : so r ≤ 2 → ∀ k t, f6_putWhole F (mTwo (mP md c g4 rd0 wn k t) r) (mP md c g4 rd0 wn k t) = some (mP md c g4 rd0 wn (k + (32 :: dt (ww r)).length) (tol wn k t (32 :: dt (ww r)))) := fun h k t => by
    have e : mTwo (mP md c g4 rd0 wn k t) r = nI (ww r) := (f5 h).1
    rw [e]; exact putWhole_ok hF (f5 h).2
  have v3 : so r = 0 → ∀ k t, f6_putWhole F (mThr (mP md c g4 rd0 wn k t) r) (mP md c g4 rd0 wn k t) = some (mP md c g4 rd0 wn (k + (32 :: dt (hh r)).length) (tol wn k t (32 :: dt (hh r)))) := fun h k t => by
    have e : mThr (mP md c g4 rd0 wn k t) r = nI (hh r) := (f6 h).1
    rw [e]; exact putWhole_ok hF (f6 h).2
  have p1 : ∀ k t u, f6_put (nI u) (mP md c g4 rd0 wn k t) = some (mP md c g4 rd0 wn (k + [u].length) (tol wn k t [u])) := fun k t u => put_ok
  unfold f6_print txr
  rcases (show so r = 0 ∨ so r = 1 ∨ so r = 2 ∨ so r = 3 ∨ so r = 4 ∨ (5 ≤ so r ∧ so r ≤ 9) by omega) with h | h | h | h | h | h
  · simp (disch := omega) only [li, ↓lim1, ↓bnd_m, ↓grd_m, ↓jn_e, ↓cas_m, ↓oc_m, inb_t, nI_add, pk_mul, sub_e, le_t, le_f, lt_t, lt_f, eq_t, eq_f, cl_e, m1_e, m1_e', m1_lt, m1_le, m1_m1, lt_m1, ↓reduceIte, Nat.add_zero, Nat.zero_add, s1, wordOf_ok, kk, w1 (by omega), v1 (by omega) (by omega), v2 (by omega), v3 (by omega), p1, pp', mP_app, List.append_assoc, List.cons_append, List.nil_append, if_pos, if_neg]
  · simp (disch := omega) only [li, ↓lim1, ↓bnd_m, ↓grd_m, ↓jn_e, ↓cas_m, ↓oc_m, inb_t, nI_add, pk_mul, sub_e, le_t, le_f, lt_t, lt_f, eq_t, eq_f, cl_e, m1_e, m1_e', m1_lt, m1_le, m1_m1, lt_m1, ↓reduceIte, Nat.add_zero, Nat.zero_add, s1, wordOf_ok, kk, w1 (by omega), w2 (by omega) (by omega), v1 (by omega) (by omega), v2 (by omega), p1, pp', mP_app, List.append_assoc, List.cons_append, List.nil_append, if_pos, if_neg]
  · simp (disch := omega) only [li, ↓lim1, ↓bnd_m, ↓grd_m, ↓jn_e, ↓cas_m, ↓oc_m, inb_t, nI_add, pk_mul, sub_e, le_t, le_f, lt_t, lt_f, eq_t, eq_f, cl_e, m1_e, m1_e', m1_lt, m1_le, m1_m1, lt_m1, ↓reduceIte, Nat.add_zero, Nat.zero_add, s1, wordOf_ok, kk, w1 (by omega), w2 (by omega) (by omega), v1 (by omega) (by omega), v2 (by omega), p1, pp', mP_app, List.append_assoc, List.cons_append, List.nil_append, if_pos, if_neg]
  · simp (disch := omega) only [li, ↓lim1, ↓bnd_m, ↓grd_m, ↓jn_e, ↓cas_m, ↓oc_m, inb_t, nI_add, pk_mul, sub_e, le_t, le_f, lt_t, lt_f, eq_t, eq_f, cl_e, m1_e, m1_e', m1_lt, m1_le, m1_m1, lt_m1, ↓reduceIte, Nat.add_zero, Nat.zero_add, s1, wordOf_ok, kk, w1 (by omega), w2 (by omega) (by omega), p1, pp', mP_app, List.append_assoc, List.cons_append, List.nil_append, if_pos, if_neg]
  · simp (disch := omega) only [li, ↓lim1, ↓bnd_m, ↓grd_m, ↓jn_e, ↓cas_m, ↓oc_m, inb_t, nI_add, pk_mul, sub_e, le_t, le_f, lt_t, lt_f, eq_t, eq_f, cl_e, m1_e, m1_e', m1_lt, m1_le, m1_m1, lt_m1, ↓reduceIte, Nat.add_zero, Nat.zero_add, s1, wordOf_ok, kk, p1, pp', mP_app, List.append_assoc, List.cons_append, List.nil_append, if_pos, if_neg]
  · simp (disch := omega) only [li, ↓lim1, ↓bnd_m, ↓grd_m, ↓jn_e, ↓cas_m, ↓oc_m, inb_t, nI_add, pk_mul, sub_e, le_t, le_f, lt_t, lt_f, eq_t, eq_f, cl_e, m1_e, m1_e', m1_lt, m1_le, m1_m1, lt_m1, ↓reduceIte, Nat.add_zero, Nat.zero_add, s1, wordOf_ok, kk, v1 (by omega) (by omega), p1, pp', mP_app, List.append_assoc, List.cons_append, List.nil_append, if_pos, if_neg]
end Tx
