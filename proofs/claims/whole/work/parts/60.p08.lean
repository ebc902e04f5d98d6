/-! ===== words of a tape ===== -/
def sk (p : Nat → Bool) : Nat → Nat → Nat
  | 0, i => i
  | f + 1, i => if p i = true then sk p f (i + 1) else i
def skw (p : Nat → Bool) (n i : Nat) : Nat := sk p (n - i) i
theorem skw_end {p : Nat → Bool} {n i : Nat} (h : n ≤ i) : skw p n i = i := by
  unfold skw
  rw [show n - i = 0 by omega]
  rfl
theorem skw_go {p : Nat → Bool} {n i : Nat} (h : i < n) (hp : p i = true) : skw p n i = skw p n (i + 1) := by
  unfold skw
  rw [show n - i = (n - (i + 1)) + 1 by omega]
  show (if p i = true then sk p (n - (i + 1)) (i + 1) else i) = _
  rw [if_pos hp]
theorem skw_no {p : Nat → Bool} {n i : Nat} (hp : p i = false) : skw p n i = i := by
  unfold skw
  cases n - i with
  | zero => rfl
  | succ f =>
    show (if p i = true then sk p f (i + 1) else i) = i
    rw [if_neg (by rw [hp]; decide)]
theorem skw_spec (p : Nat → Bool) (n : Nat) : ∀ d i, n - i = d → i ≤ n → i ≤ skw p n i ∧ skw p n i ≤ n ∧ (∀ j, i ≤ j → j < skw p n i → p j = true) ∧ (skw p n i < n → p (skw p n i) = false) := by
  intro d
  induction d with
  | zero =>
    intro i h hi
    rw [skw_end (by omega)]
    exact ⟨Nat.le_refl _, hi, fun j h1 h2 => by omega, fun h => by omega⟩
  | succ d ih =>
    intro i h hi
    cases hp : p i with
    | false =>
      rw [skw_no hp]
      exact ⟨Nat.le_refl _, hi, fun j h1 h2 => by omega, fun _ => hp⟩
    | true =>
      rw [skw_go (by omega) hp]
      obtain ⟨a, b, c, e⟩ := ih (i + 1) (by omega) (by omega)
      refine ⟨by omega, b, fun j h1 h2 => ?_, e⟩
      by_cases hj : j = i
      · rw [hj]; exact hp
      · exact c j (by omega) h2
def bl (t : Nat → Nat) (i : Nat) : Bool := decide (t i = 32 ∨ t i = 10)
def st (t : Nat → Nat) (i : Nat) : Bool := decide (¬ t i = 32 ∧ ¬ t i = 10 ∧ ¬ t i = 59)
/-- where the next word begins and ends -/
def wb (t : Nat → Nat) (n e : Nat) : Nat := skw (bl t) n e
def we (t : Nat → Nat) (n b : Nat) : Nat := if b < n ∧ t b = 59 then b + 1 else skw (st t) n b
theorem wb_spec (t : Nat → Nat) (n e : Nat) (h : e ≤ n) : e ≤ wb t n e ∧ wb t n e ≤ n ∧ (wb t n e < n → ¬ t (wb t n e) = 32 ∧ ¬ t (wb t n e) = 10) := by
  obtain ⟨a, b, c, d⟩ := skw_spec (bl t) n _ e rfl h
  refine ⟨a, b, fun hl => ?_⟩
  have h5 : ¬ (t (skw (bl t) n e) = 32 ∨ t (skw (bl t) n e) = 10) := of_decide_eq_false (d hl)
  show ¬ t (skw (bl t) n e) = 32 ∧ ¬ t (skw (bl t) n e) = 10
  omega
theorem we_spec (t : Nat → Nat) (n b : Nat) (h : b ≤ n) (hb : b < n → ¬ t b = 32 ∧ ¬ t b = 10) : b ≤ we t n b ∧ we t n b ≤ n ∧ (b < n → b < we t n b) ∧ (b < n → t b = 59 → we t n b = b + 1) ∧ (b < n → ¬ t b = 59 → (∀ j, b ≤ j → j < we t n b → st t j = true) ∧ (we t n b < n → st t (we t n b) = false)) := by
  unfold we
  by_cases c : b < n ∧ t b = 59
  · rw [if_pos c]
    exact ⟨by omega, by omega, fun _ => by omega, fun _ _ => rfl, fun _ h2 => absurd c.2 h2⟩
  · rw [if_neg c]
    obtain ⟨a, b', c', d⟩ := skw_spec (st t) n _ b rfl h
    refine ⟨a, b', fun hl => ?_, fun h1 h2 => absurd ⟨h1, h2⟩ c, fun h1 h2 => ⟨c', d⟩⟩
    have hs : st t b = true := decide_eq_true ⟨(hb hl).1, (hb hl).2, fun e => c ⟨hl, e⟩⟩
    have h3 := skw_go hl hs
    have h4 := skw_spec (st t) n _ (b + 1) rfl (by omega)
    omega
/-- between two words of a row there is a blank -/
theorem w_gap {t : Nat → Nat} {n b : Nat} (h : b < n) (hb : ¬ t b = 32 ∧ ¬ t b = 10) (h9 : ¬ t b = 59) (h2 : wb t n (we t n b) < n) (h3 : ¬ t (wb t n (we t n b)) = 59) : we t n b + 1 ≤ wb t n (we t n b) := by
  obtain ⟨a1, a2, a3, a4, a5⟩ := we_spec t n b (by omega) (fun _ => hb)
  obtain ⟨c1, c2, c3⟩ := wb_spec t n (we t n b) a2
  by_cases e : wb t n (we t n b) = we t n b
  · exfalso
    rw [e] at h2 h3 c3
    have h4 := (a5 h h9).2 h2
    have h5 := of_decide_eq_false h4
    have := c3 h2
    omega
  · omega
section Rd
variable {F n b e : Nat} {t : Nat → Nat} {tp : T4} {md : T6} {rd : T2}
/-- the reader with another word in hand; the model's -/
def rW (rd : T2) (b e : Nat) : T2 := (rd.1, rd.2.1, rd.2.2.1, rd.2.2.2.1, nI b, nI e)
def mW (md : T6) (b e : Nat) (r : Int32) : T6 := (md.1, md.2.1, md.2.2.1, (nI b, nI e, r, md.2.2.2.1.2.2.2.1, md.2.2.2.1.2.2.2.2.1, md.2.2.2.1.2.2.2.2.2.1, md.2.2.2.1.2.2.2.2.2.2), md.2.2.2.2)
theorem mW_mW (md : T6) (b e b' e' : Nat) (r r' : Int32) : mW (mW md b e r) b' e' r' = mW md b' e' r' := rfl
theorem rW_rW (rd : T2) (b e b' e' : Nat) : rW (rW rd b e) b' e' = rW rd b' e' := rfl
theorem TpM.w {md : T6} (H : TpM md t n) (b e : Nat) (r : Int32) : TpM (mW md b e r) t n := H
theorem at_n (H : TpC tp t n) {i : Nat} (hi : i < n) : f4_at (nI i) tp = some (nI (t i)) := by
  obtain ⟨h1, h2, h3⟩ := H
  obtain ⟨a1, a2⟩ := h3 i hi
  have h2' : tp.2 = nI n := h2
  have c := isC_n (k := t i) (by omega)
  unfold f4_at
  simp (disch := omega) only [li, ↓lim1, ↓bnd_m, ↓grd_m, ↓jn_e, ↓cas_m, ↓oc_m, inb_t, nI_add, pk_mul, sub_e, le_t, le_f, lt_t, lt_f, eq_t, eq_f, cl_e, m1_e, m1_e', m1_lt, m1_le, m1_m1, lt_m1, ↓reduceIte, Nat.add_zero, Nat.zero_add, h2', a1, c]
theorem at_end (H : TpC tp t n) : f4_at (nI n) tp = some (nI 0) := by
  obtain ⟨h1, h2, h3⟩ := H
  have h2' : tp.2 = nI n := h2
  unfold f4_at
  simp (disch := omega) only [li, ↓lim1, ↓bnd_m, ↓grd_m, ↓jn_e, ↓cas_m, ↓oc_m, inb_t, nI_add, pk_mul, sub_e, le_t, le_f, lt_t, lt_f, eq_t, eq_f, cl_e, m1_e, m1_e', m1_lt, m1_le, m1_m1, lt_m1, ↓reduceIte, Nat.add_zero, Nat.zero_add, h2']
theorem blank_n {u : Nat} (hu : u < 128) : f5_isBlank (nI u) = some (b2 (decide (u = 32 ∨ u = 10))) := by
  unfold f5_isBlank
  by_cases h1 : u = 32
  · rw [decide_eq_true (Or.inl h1)]
    simp (disch := omega) only [li, ↓lim1, ↓bnd_m, ↓grd_m, ↓jn_e, ↓cas_m, ↓oc_m, inb_t, nI_add, pk_mul, sub_e, le_t, le_f, lt_t, lt_f, eq_t, eq_f, cl_e, m1_e, m1_e', m1_lt, m1_le, m1_m1, lt_m1, ↓reduceIte, Nat.add_zero, Nat.zero_add]
    rfl
  · by_cases h2 : u = 10
    · rw [decide_eq_true (Or.inr h2)]
      simp (disch := omega) only [li, ↓lim1, ↓bnd_m, ↓grd_m, ↓jn_e, ↓cas_m, ↓oc_m, inb_t, nI_add, pk_mul, sub_e, le_t, le_f, lt_t, lt_f, eq_t, eq_f, cl_e, m1_e, m1_e', m1_lt, m1_le, m1_m1, lt_m1, ↓reduceIte, Nat.add_zero, Nat.zero_add]
      rfl
    · rw [decide_eq_false (by omega)]
      simp (disch := omega) only [li, ↓lim1, ↓bnd_m, ↓grd_m, ↓jn_e, ↓cas_m, ↓oc_m, inb_t, nI_add, pk_mul, sub_e, le_t, le_f, lt_t, lt_f, eq_t, eq_f, cl_e, m1_e, m1_e', m1_lt, m1_le, m1_m1, lt_m1, ↓reduceIte, Nat.add_zero, Nat.zero_add]
      rfl
theorem takeWord_ok (hF : 5000 < F) (H : TpC tp t n) {e0 : Nat} (he : e0 ≤ n) (hr : rd.2.2.2.2.2 = nI e0) : f2_takeWord F rd tp = some (rW rd (wb t n e0) (we t n (wb t n e0))) := by
  obtain ⟨hn, h2, h3⟩ := id H
  have h2' : tp.2 = nI n := h2
  have k1 := iter_rule (b := f2_takeWord_L5 tp)
    (fun d s => ∃ i : Nat, d + i = n ∧ s = nI i ∧ skw (bl t) n i = wb t n e0)
    (fun r => r = nI (wb t n e0))
    (by
      rintro d s ⟨i, hd, rfl, hi⟩
      by_cases hl : n ≤ i
      · refine Or.inr ⟨nI i, ?_, by rw [← hi, skw_end hl]⟩
        unfold f2_takeWord_L5
        simp (disch := omega) only [li, ↓lim1, ↓bnd_m, ↓grd_m, ↓jn_e, ↓cas_m, ↓oc_m, inb_t, nI_add, pk_mul, sub_e, le_t, le_f, lt_t, lt_f, eq_t, eq_f, cl_e, m1_e, m1_e', m1_lt, m1_le, m1_m1, lt_m1, ↓reduceIte, Nat.add_zero, Nat.zero_add, h2']
      · have hb := blank_n (h3 i (by omega)).2
        have hbe : decide (t i = 32 ∨ t i = 10) = bl t i := rfl
        rw [hbe] at hb
        cases hv : bl t i
        · rw [hv, b2_f] at hb
          refine Or.inr ⟨nI i, ?_, by rw [← hi, skw_no hv]⟩
          unfold f2_takeWord_L5
          simp (disch := omega) only [li, ↓lim1, ↓bnd_m, ↓grd_m, ↓jn_e, ↓cas_m, ↓oc_m, inb_t, nI_add, pk_mul, sub_e, le_t, le_f, lt_t, lt_f, eq_t, eq_f, cl_e, m1_e, m1_e', m1_lt, m1_le, m1_m1, lt_m1, ↓reduceIte, Nat.add_zero, Nat.zero_add, h2', at_n H (show i < n by omega), hb]
        · rw [hv, b2_t] at hb
          refine Or.inl ⟨nI (i + 1), d - 1, by omega, ?_, i + 1, by omega, rfl, by rw [← hi]; exact (skw_go (by omega) hv).symm⟩
          unfold f2_takeWord_L5
          simp (disch := omega) only [li, ↓lim1, ↓bnd_m, ↓grd_m, ↓jn_e, ↓cas_m, ↓oc_m, inb_t, nI_add, pk_mul, sub_e, le_t, le_f, lt_t, lt_f, eq_t, eq_f, cl_e, m1_e, m1_e', m1_lt, m1_le, m1_m1, lt_m1, ↓reduceIte, Nat.add_zero, Nat.zero_add, h2', at_n H (show i < n by omega), hb])
    F (n - e0) (nI e0) (by omega) ⟨e0, by omega, rfl, rfl⟩
  obtain ⟨r1, hr1, rfl⟩ := k1
  obtain ⟨a1, a2, a3⟩ := wb_spec t n e0 he
  have k2 := iter_rule (b := f2_takeWord_L38 tp)
    (fun d s => ∃ i : Nat, d + i = n ∧ s = nI i ∧ skw (st t) n i = skw (st t) n (wb t n e0))
    (fun r => r = nI (skw (st t) n (wb t n e0)))
    (by
      rintro d s ⟨i, hd, rfl, hi⟩
      by_cases hl : n ≤ i
      · refine Or.inr ⟨nI i, ?_, by rw [← hi, skw_end hl]⟩
        unfold f2_takeWord_L38
        simp (disch := omega) only [li, ↓lim1, ↓bnd_m, ↓grd_m, ↓jn_e, ↓cas_m, ↓oc_m, inb_t, nI_add, pk_mul, sub_e, le_t, le_f, lt_t, lt_f, eq_t, eq_f, cl_e, m1_e, m1_e', m1_lt, m1_le, m1_m1, lt_m1, ↓reduceIte, Nat.add_zero, Nat.zero_add, h2']
      · have hb := blank_n (h3 i (by omega)).2
        have hti := (h3 i (by omega)).2
        by_cases hv : t i = 32 ∨ t i = 10
        · rw [decide_eq_true hv, b2_t] at hb
          refine Or.inr ⟨nI i, ?_, by rw [← hi, skw_no (p := st t) (i := i) (decide_eq_false (by omega))]⟩
          unfold f2_takeWord_L38
          simp (disch := omega) only [li, ↓lim1, ↓bnd_m, ↓grd_m, ↓jn_e, ↓cas_m, ↓oc_m, inb_t, nI_add, pk_mul, sub_e, le_t, le_f, lt_t, lt_f, eq_t, eq_f, cl_e, m1_e, m1_e', m1_lt, m1_le, m1_m1, lt_m1, ↓reduceIte, Nat.add_zero, Nat.zero_add, h2', at_n H (show i < n by omega), hb]
        · rw [decide_eq_false hv, b2_f] at hb
          by_cases h9 : t i = 59
          · refine Or.inr ⟨nI i, ?_, by rw [← hi, skw_no (p := st t) (i := i) (decide_eq_false (by omega))]⟩
            unfold f2_takeWord_L38
            simp (disch := omega) only [li, ↓lim1, ↓bnd_m, ↓grd_m, ↓jn_e, ↓cas_m, ↓oc_m, inb_t, nI_add, pk_mul, sub_e, le_t, le_f, lt_t, lt_f, eq_t, eq_f, cl_e, m1_e, m1_e', m1_lt, m1_le, m1_m1, lt_m1, ↓reduceIte, Nat.add_zero, Nat.zero_add, h2', at_n H (show i < n by omega), hb]
          · refine Or.inl ⟨nI (i + 1), d - 1, by omega, ?_, i + 1, by omega, rfl, by rw [← hi]; exact (skw_go (by omega) (decide_eq_true (by omega))).symm⟩
            unfold f2_takeWord_L38
            simp (disch := omega) only [li, ↓lim1, ↓bnd_m, ↓grd_m, ↓jn_e, ↓cas_m, ↓oc_m, inb_t, nI_add, pk_mul, sub_e, le_t, le_f, lt_t, lt_f, eq_t, eq_f, cl_e, m1_e, m1_e', m1_lt, m1_le, m1_m1, lt_m1, ↓reduceIte, Nat.add_zero, Nat.zero_add, h2', at_n H (show i < n by omega), hb])
    F (n - wb t n e0) (nI (wb t n e0)) (by omega) ⟨wb t n e0, by omega, rfl, rfl⟩
  obtain ⟨r2, hr2, rfl⟩ := k2
  obtain ⟨b1, b2', b3, b4⟩ := skw_spec (st t) n _ (wb t n e0) rfl a2
  have hr' : rd.2.2.2.2.2 = nI e0 := hr
  unfold f2_takeWord
  rw [hr', bnd_e hr1, bnd_e hr2]
  by_cases hl : wb t n e0 < n
  · have ht := (h3 _ hl).2
    by_cases h9 : t (wb t n e0) = 59
    · have e1 : we t n (wb t n e0) = wb t n e0 + 1 := by unfold we; rw [if_pos ⟨hl, h9⟩]
      have e2 : skw (st t) n (wb t n e0) = wb t n e0 := skw_no (decide_eq_false (by omega))
      rw [e1, e2]
      simp (disch := omega) only [li, ↓lim1, ↓bnd_m, ↓grd_m, ↓jn_e, ↓cas_m, ↓oc_m, inb_t, nI_add, pk_mul, sub_e, le_t, le_f, lt_t, lt_f, eq_t, eq_f, cl_e, m1_e, m1_e', m1_lt, m1_le, m1_m1, lt_m1, ↓reduceIte, Nat.add_zero, Nat.zero_add, at_n H hl]
      rfl
    · have e1 : we t n (wb t n e0) = skw (st t) n (wb t n e0) := by unfold we; rw [if_neg (fun h => h9 h.2)]
      have e3 : wb t n e0 < we t n (wb t n e0) := (we_spec t n _ a2 a3).2.2.1 hl
      rw [e1] at e3
      rw [e1]
      simp (disch := omega) only [li, ↓lim1, ↓bnd_m, ↓grd_m, ↓jn_e, ↓cas_m, ↓oc_m, inb_t, nI_add, pk_mul, sub_e, le_t, le_f, lt_t, lt_f, eq_t, eq_f, cl_e, m1_e, m1_e', m1_lt, m1_le, m1_m1, lt_m1, ↓reduceIte, Nat.add_zero, Nat.zero_add]
      rfl
  · have e0' : wb t n e0 = n := by omega
    have e1 : we t n (wb t n e0) = n := by unfold we; rw [if_neg (fun h => hl h.1), e0', skw_end (Nat.le_refl n)]
    rw [e1, e0', skw_end (Nat.le_refl n)]
    simp (disch := omega) only [li, ↓lim1, ↓bnd_m, ↓grd_m, ↓jn_e, ↓cas_m, ↓oc_m, inb_t, nI_add, pk_mul, sub_e, le_t, le_f, lt_t, lt_f, eq_t, eq_f, cl_e, m1_e, m1_e', m1_lt, m1_le, m1_m1, lt_m1, ↓reduceIte, Nat.add_zero, Nat.zero_add, at_end H]
    rfl
theorem next_ok (hF : 5000 < F) (H : TpM md t n) {e0 : Nat} (he : e0 ≤ n) (hr : md.2.2.2.1.2.1 = nI e0) {v : Int32} (hv : md.2.2.2.1.2.2.1 = v) : f6_next F md = some (mW md (wb t n e0) (we t n (wb t n e0)) v) := by
  obtain ⟨hn, h2, h3⟩ := id H
  have h2' : ∀ b e r, mLen (mW md b e r) = nI n := fun _ _ _ => h2
  have ta : ∀ b e r i, i < n → mTape (mW md b e r) i = nI (t i) := fun _ _ _ i hi => (h3 i hi).1
  have eb : ∀ b e r, (mW md b e r).2.2.2.1.1 = nI b := fun _ _ _ => rfl
  have ee : ∀ b e r, (mW md b e r).2.2.2.1.2.1 = nI e := fun _ _ _ => rfl
  have k1 := iter_rule (b := f6_next_L8)
    (fun d s => ∃ i : Nat, d + i = n ∧ s = mW md i e0 v ∧ skw (bl t) n i = wb t n e0)
    (fun r => r = mW md (wb t n e0) e0 v)
    (by
      rintro d s ⟨i, hd, rfl, hi⟩
      by_cases hl : n ≤ i
      · refine Or.inr ⟨_, ?_, by rw [← hi, skw_end hl]⟩
        unfold f6_next_L8
        simp (disch := omega) only [li, ↓lim1, ↓bnd_m, ↓grd_m, ↓jn_e, ↓cas_m, ↓oc_m, inb_t, nI_add, pk_mul, sub_e, le_t, le_f, lt_t, lt_f, eq_t, eq_f, cl_e, m1_e, m1_e', m1_lt, m1_le, m1_m1, lt_m1, ↓reduceIte, Nat.add_zero, Nat.zero_add, h2', eb]
      · have hti := (h3 i (by omega)).2
        by_cases hv : t i = 32 ∨ t i = 10
        · refine Or.inl ⟨mW md (i + 1) e0 v, d - 1, by omega, ?_, i + 1, by omega, rfl, by rw [← hi]; exact (skw_go (by omega) (decide_eq_true hv)).symm⟩
          unfold f6_next_L8
          by_cases c1 : t i = 32
          · simp (disch := omega) only [li, ↓lim1, ↓bnd_m, ↓grd_m, ↓jn_e, ↓cas_m, ↓oc_m, inb_t, nI_add, pk_mul, sub_e, le_t, le_f, lt_t, lt_f, eq_t, eq_f, cl_e, m1_e, m1_e', m1_lt, m1_le, m1_m1, lt_m1, ↓reduceIte, Nat.add_zero, Nat.zero_add, h2', eb, ta]
            rfl
          · simp (disch := omega) only [li, ↓lim1, ↓bnd_m, ↓grd_m, ↓jn_e, ↓cas_m, ↓oc_m, inb_t, nI_add, pk_mul, sub_e, le_t, le_f, lt_t, lt_f, eq_t, eq_f, cl_e, m1_e, m1_e', m1_lt, m1_le, m1_m1, lt_m1, ↓reduceIte, Nat.add_zero, Nat.zero_add, h2', eb, ta]
            rfl
        · refine Or.inr ⟨_, ?_, by rw [← hi, skw_no (decide_eq_false hv)]⟩
          unfold f6_next_L8
          simp (disch := omega) only [li, ↓lim1, ↓bnd_m, ↓grd_m, ↓jn_e, ↓cas_m, ↓oc_m, inb_t, nI_add, pk_mul, sub_e, le_t, le_f, lt_t, lt_f, eq_t, eq_f, cl_e, m1_e, m1_e', m1_lt, m1_le, m1_m1, lt_m1, ↓reduceIte, Nat.add_zero, Nat.zero_add, h2', eb, ta])
    F (n - e0) (mW md e0 e0 v) (by omega) ⟨e0, by omega, rfl, rfl⟩
  obtain ⟨r1, hr1, rfl⟩ := k1
  obtain ⟨a1, a2, a3⟩ := wb_spec t n e0 he
  have k2 := iter_rule (b := f6_next_L104)
    (fun d s => ∃ i : Nat, d + i = n ∧ s = mW md (wb t n e0) i v ∧ skw (st t) n i = skw (st t) n (wb t n e0))
    (fun r => r = mW md (wb t n e0) (skw (st t) n (wb t n e0)) v)
    (by
      rintro d s ⟨i, hd, rfl, hi⟩
      by_cases hl : n ≤ i
      · refine Or.inr ⟨_, ?_, by rw [← hi, skw_end hl]⟩
        unfold f6_next_L104
        simp (disch := omega) only [li, ↓lim1, ↓bnd_m, ↓grd_m, ↓jn_e, ↓cas_m, ↓oc_m, inb_t, nI_add, pk_mul, sub_e, le_t, le_f, lt_t, lt_f, eq_t, eq_f, cl_e, m1_e, m1_e', m1_lt, m1_le, m1_m1, lt_m1, ↓reduceIte, Nat.add_zero, Nat.zero_add, h2', ee]
      · have hti := (h3 i (by omega)).2
        by_cases c1 : t i = 32
        · refine Or.inr ⟨_, ?_, by rw [← hi, skw_no (p := st t) (i := i) (decide_eq_false (by omega))]⟩
          unfold f6_next_L104
          simp (disch := omega) only [li, ↓lim1, ↓bnd_m, ↓grd_m, ↓jn_e, ↓cas_m, ↓oc_m, inb_t, nI_add, pk_mul, sub_e, le_t, le_f, lt_t, lt_f, eq_t, eq_f, cl_e, m1_e, m1_e', m1_lt, m1_le, m1_m1, lt_m1, ↓reduceIte, Nat.add_zero, Nat.zero_add, h2', ee, ta]
        · by_cases c2 : t i = 10
          · refine Or.inr ⟨_, ?_, by rw [← hi, skw_no (p := st t) (i := i) (decide_eq_false (by omega))]⟩
            unfold f6_next_L104
            simp (disch := omega) only [li, ↓lim1, ↓bnd_m, ↓grd_m, ↓jn_e, ↓cas_m, ↓oc_m, inb_t, nI_add, pk_mul, sub_e, le_t, le_f, lt_t, lt_f, eq_t, eq_f, cl_e, m1_e, m1_e', m1_lt, m1_le, m1_m1, lt_m1, ↓reduceIte, Nat.add_zero, Nat.zero_add, h2', ee, ta]
          · by_cases c3 : t i = 59
            · refine Or.inr ⟨_, ?_, by rw [← hi, skw_no (p := st t) (i := i) (decide_eq_false (by omega))]⟩
              unfold f6_next_L104
              simp (disch := omega) only [li, ↓lim1, ↓bnd_m, ↓grd_m, ↓jn_e, ↓cas_m, ↓oc_m, inb_t, nI_add, pk_mul, sub_e, le_t, le_f, lt_t, lt_f, eq_t, eq_f, cl_e, m1_e, m1_e', m1_lt, m1_le, m1_m1, lt_m1, ↓reduceIte, Nat.add_zero, Nat.zero_add, h2', ee, ta]
            · refine Or.inl ⟨mW md (wb t n e0) (i + 1) v, d - 1, by omega, ?_, i + 1, by omega, rfl, by rw [← hi]; exact (skw_go (by omega) (decide_eq_true (by omega))).symm⟩
              unfold f6_next_L104
              simp (disch := omega) only [li, ↓lim1, ↓bnd_m, ↓grd_m, ↓jn_e, ↓cas_m, ↓oc_m, inb_t, nI_add, pk_mul, sub_e, le_t, le_f, lt_t, lt_f, eq_t, eq_f, cl_e, m1_e, m1_e', m1_lt, m1_le, m1_m1, lt_m1, ↓reduceIte, Nat.add_zero, Nat.zero_add, h2', ee, ta]
              rfl)
    F (n - wb t n e0) (mW md (wb t n e0) (wb t n e0) v) (by omega) ⟨wb t n e0, by omega, rfl, rfl⟩
  obtain ⟨r2, hr2, rfl⟩ := k2
  have s0 : (md.1, md.2.1, md.2.2.1, (md.2.2.2.1.2.1, md.2.2.2.1.2.1, md.2.2.2.1.2.2.1, md.2.2.2.1.2.2.2.1, md.2.2.2.1.2.2.2.2.1, md.2.2.2.1.2.2.2.2.2.1, md.2.2.2.1.2.2.2.2.2.2), md.2.2.2.2) = mW md e0 e0 v := by rw [hr, hv]; rfl
  have s1 : ((mW md (wb t n e0) e0 v).1, (mW md (wb t n e0) e0 v).2.1, (mW md (wb t n e0) e0 v).2.2.1, ((mW md (wb t n e0) e0 v).2.2.2.1.1, (mW md (wb t n e0) e0 v).2.2.2.1.1, (mW md (wb t n e0) e0 v).2.2.2.1.2.2.1, (mW md (wb t n e0) e0 v).2.2.2.1.2.2.2.1, (mW md (wb t n e0) e0 v).2.2.2.1.2.2.2.2.1, (mW md (wb t n e0) e0 v).2.2.2.1.2.2.2.2.2.1, (mW md (wb t n e0) e0 v).2.2.2.1.2.2.2.2.2.2), (mW md (wb t n e0) e0 v).2.2.2.2) = mW md (wb t n e0) (wb t n e0) v := rfl
  unfold f6_next
  rw [s0, bnd_e hr1, s1]
  by_cases hl : wb t n e0 < n
  · have ht := (h3 _ hl).2
    by_cases h9 : t (wb t n e0) = 59
    · have e1 : we t n (wb t n e0) = wb t n e0 + 1 := by unfold we; rw [if_pos ⟨hl, h9⟩]
      rw [e1]
      simp (disch := omega) only [li, ↓lim1, ↓bnd_m, ↓grd_m, ↓jn_e, ↓cas_m, ↓oc_m, inb_t, nI_add, pk_mul, sub_e, le_t, le_f, lt_t, lt_f, eq_t, eq_f, cl_e, m1_e, m1_e', m1_lt, m1_le, m1_m1, lt_m1, ↓reduceIte, Nat.add_zero, Nat.zero_add, h2', eb, ta]
      rfl
    · have e1 : we t n (wb t n e0) = skw (st t) n (wb t n e0) := by unfold we; rw [if_neg (fun h => h9 h.2)]
      rw [e1]
      simp (disch := omega) only [li, ↓lim1, ↓bnd_m, ↓grd_m, ↓jn_e, ↓cas_m, ↓oc_m, inb_t, nI_add, pk_mul, sub_e, le_t, le_f, lt_t, lt_f, eq_t, eq_f, cl_e, m1_e, m1_e', m1_lt, m1_le, m1_m1, lt_m1, ↓reduceIte, Nat.add_zero, Nat.zero_add, h2', eb, ta, hr2]
  · have e1 : we t n (wb t n e0) = skw (st t) n (wb t n e0) := by unfold we; rw [if_neg (fun h => hl h.1)]
    rw [e1]
    simp (disch := omega) only [li, ↓lim1, ↓bnd_m, ↓grd_m, ↓jn_e, ↓cas_m, ↓oc_m, inb_t, nI_add, pk_mul, sub_e, le_t, le_f, lt_t, lt_f, eq_t, eq_f, cl_e, m1_e, m1_e', m1_lt, m1_le, m1_m1, lt_m1, ↓reduceIte, Nat.add_zero, Nat.zero_add, h2', eb, hr2]
end Rd
/-! ===== what a word is ===== -/
def alb (f : Nat → Bool) (b : Nat) : Nat → Bool
  | 0 => true
  | k + 1 => alb f b k && f (b + k)
theorem alb_t {f : Nat → Bool} {b k : Nat} (h : alb f b k = true) : ∀ i, i < k → f (b + i) = true := by
  induction k with
  | zero => intro i hi; omega
  | succ k ih =>
    intro i hi
    have h' : (alb f b k && f (b + k)) = true := h
    rw [Bool.and_eq_true] at h'
    by_cases e : i = k
    · rw [e]; exact h'.2
    · exact ih h'.1 i (by omega)
theorem alb_f {f : Nat → Bool} {b k i : Nat} (hi : i < k) (h : f (b + i) = false) : alb f b k = false := by
  cases hb : alb f b k with
  | false => rfl
  | true => rw [alb_t hb i hi] at h; cases h
theorem alb_of {f : Nat → Bool} {b k : Nat} (h : ∀ i, i < k → f (b + i) = true) : alb f b k = true := by
  induction k with
  | zero => rfl
  | succ k ih =>
    show (alb f b k && f (b + k)) = true
    rw [ih (fun i hi => h i (by omega)), h k (Nat.lt_succ_self k)]; rfl
def ltr (t : Nat → Nat) (i : Nat) : Bool := decide (97 ≤ t i ∧ t i ≤ 122)
def dgt (t : Nat → Nat) (i : Nat) : Bool := decide (48 ≤ t i ∧ t i ≤ 57)
def pch (t : Nat → Nat) (i : Nat) : Bool := decide ((97 ≤ t i ∧ t i ≤ 122) ∨ (48 ≤ t i ∧ t i ≤ 57) ∨ t i = 95 ∨ t i = 47 ∨ t i = 42 ∨ t i = 63)
def nmw (t : Nat → Nat) (b e : Nat) : Bool := decide (b < e ∧ e ≤ b + 8) && alb (ltr t) b (e - b)
def ptw (t : Nat → Nat) (b e : Nat) : Bool := decide (b < e ∧ e ≤ b + 16) && alb (pch t) b (e - b)
def anw (t : Nat → Nat) (b e : Nat) : Bool := decide (e = b + 1 ∧ t b = 45)
def cdw (t : Nat → Nat) (b : Nat) : Nat → Nat
  | 0 => 0
  | k + 1 => 27 * cdw t b k + (t (b + k) - 96)
def whv (t : Nat → Nat) (b : Nat) : Nat → Nat
  | 0 => 0
  | k + 1 => 10 * whv t b k + (t (b + k) - 48)
def whw (t : Nat → Nat) (b e : Nat) : Option Nat := if (b < e ∧ e ≤ b + 6) ∧ alb (dgt t) b (e - b) = true then some (whv t b (e - b)) else none
theorem cdw_lt {t : Nat → Nat} {b k : Nat} (h : alb (ltr t) b k = true) : cdw t b k < 27 ^ k ∧ (0 < k → 0 < cdw t b k) := by
  induction k with
  | zero => exact ⟨show 0 < 27 ^ 0 by decide, fun h => by omega⟩
  | succ k ih =>
    have h' : (alb (ltr t) b k && ltr t (b + k)) = true := h
    rw [Bool.and_eq_true] at h'
    obtain ⟨i1, i2⟩ := ih h'.1
    have h2 : 97 ≤ t (b + k) ∧ t (b + k) ≤ 122 := of_decide_eq_true h'.2
    show 27 * cdw t b k + (t (b + k) - 96) < 27 ^ (k + 1) ∧ (0 < k + 1 → 0 < 27 * cdw t b k + (t (b + k) - 96))
    rw [Nat.pow_succ]
    exact ⟨by omega, fun _ => by omega⟩
theorem whv_lt {t : Nat → Nat} {b k : Nat} (h : alb (dgt t) b k = true) : whv t b k < 10 ^ k := by
  induction k with
  | zero => exact (show 0 < 10 ^ 0 by decide)
  | succ k ih =>
    have h' : (alb (dgt t) b k && dgt t (b + k)) = true := h
    rw [Bool.and_eq_true] at h'
    have i1 := ih h'.1
    have h2 : 48 ≤ t (b + k) ∧ t (b + k) ≤ 57 := of_decide_eq_true h'.2
    show 10 * whv t b k + (t (b + k) - 48) < 10 ^ (k + 1)
    rw [Nat.pow_succ]
    omega
theorem nmw_spec {t : Nat → Nat} {b e : Nat} (h : nmw t b e = true) : b < e ∧ e ≤ b + 8 ∧ alb (ltr t) b (e - b) = true ∧ cdw t b (e - b) < 2 ^ 40 ∧ 0 < cdw t b (e - b) := by
  unfold nmw at h
  rw [Bool.and_eq_true] at h
  have h1 := of_decide_eq_true h.1
  obtain ⟨c1, c2⟩ := cdw_lt h.2
  have h3 : 27 ^ (e - b) ≤ 27 ^ 8 := Nat.pow_le_pow_right (by omega) (by omega)
  have h4 : (27 : Nat) ^ 8 < 2 ^ 40 := by decide
  exact ⟨h1.1, h1.2, h.2, by omega, c2 (by omega)⟩
theorem whw_spec {t : Nat → Nat} {b e v : Nat} (h : whw t b e = some v) : b < e ∧ e ≤ b + 6 ∧ alb (dgt t) b (e - b) = true ∧ v = whv t b (e - b) ∧ v < 10 ^ (e - b) ∧ v < 1000000 := by
  unfold whw at h
  split at h
  · rename_i hc
    cases h
    have h1 := whv_lt hc.2
    have h3 : 10 ^ (e - b) ≤ 10 ^ 6 := Nat.pow_le_pow_right (by omega) (by omega)
    have h4 : (10 : Nat) ^ 6 = 1000000 := by decide
    exact ⟨hc.1.1, hc.1.2, hc.2, rfl, h1, by omega⟩
  · cases h
section Rd
variable {F n b e : Nat} {t : Nat → Nat} {tp : T4} {md : T6} {rd : T2}
theorem rWb (rd : T2) (b e : Nat) : (rW rd b e).2.2.2.2.1 = nI b := rfl
theorem rWe (rd : T2) (b e : Nat) : (rW rd b e).2.2.2.2.2 = nI e := rfl
theorem letter_n {u : Nat} (hu : u < 128) : f5_isSmallLetter (nI u) = some (b2 (decide (97 ≤ u ∧ u ≤ 122))) := by
  unfold f5_isSmallLetter
  by_cases h1 : u < 97
  · rw [decide_eq_false (by omega)]
    simp (disch := omega) only [li, ↓lim1, ↓bnd_m, ↓grd_m, ↓jn_e, ↓cas_m, ↓oc_m, inb_t, nI_add, pk_mul, sub_e, le_t, le_f, lt_t, lt_f, eq_t, eq_f, cl_e, m1_e, m1_e', m1_lt, m1_le, m1_m1, lt_m1, ↓reduceIte, Nat.add_zero, Nat.zero_add]
    rfl
  · by_cases h2 : 122 < u
    · rw [decide_eq_false (by omega)]
      simp (disch := omega) only [li, ↓lim1, ↓bnd_m, ↓grd_m, ↓jn_e, ↓cas_m, ↓oc_m, inb_t, nI_add, pk_mul, sub_e, le_t, le_f, lt_t, lt_f, eq_t, eq_f, cl_e, m1_e, m1_e', m1_lt, m1_le, m1_m1, lt_m1, ↓reduceIte, Nat.add_zero, Nat.zero_add]
      rfl
    · rw [decide_eq_true (by omega)]
      simp (disch := omega) only [li, ↓lim1, ↓bnd_m, ↓grd_m, ↓jn_e, ↓cas_m, ↓oc_m, inb_t, nI_add, pk_mul, sub_e, le_t, le_f, lt_t, lt_f, eq_t, eq_f, cl_e, m1_e, m1_e', m1_lt, m1_le, m1_m1, lt_m1, ↓reduceIte, Nat.add_zero, Nat.zero_add]
      rfl
theorem digit_n {u : Nat} (hu : u < 128) : f5_isDigit (nI u) = some (b2 (decide (48 ≤ u ∧ u ≤ 57))) := by
  unfold f5_isDigit
  by_cases h1 : u < 48
  · rw [decide_eq_false (by omega)]
    simp (disch := omega) only [li, ↓lim1, ↓bnd_m, ↓grd_m, ↓jn_e, ↓cas_m, ↓oc_m, inb_t, nI_add, pk_mul, sub_e, le_t, le_f, lt_t, lt_f, eq_t, eq_f, cl_e, m1_e, m1_e', m1_lt, m1_le, m1_m1, lt_m1, ↓reduceIte, Nat.add_zero, Nat.zero_add]
    rfl
  · by_cases h2 : 57 < u
    · rw [decide_eq_false (by omega)]
      simp (disch := omega) only [li, ↓lim1, ↓bnd_m, ↓grd_m, ↓jn_e, ↓cas_m, ↓oc_m, inb_t, nI_add, pk_mul, sub_e, le_t, le_f, lt_t, lt_f, eq_t, eq_f, cl_e, m1_e, m1_e', m1_lt, m1_le, m1_m1, lt_m1, ↓reduceIte, Nat.add_zero, Nat.zero_add]
      rfl
    · rw [decide_eq_true (by omega)]
      simp (disch := omega) only [li, ↓lim1, ↓bnd_m, ↓grd_m, ↓jn_e, ↓cas_m, ↓oc_m, inb_t, nI_add, pk_mul, sub_e, le_t, le_f, lt_t, lt_f, eq_t, eq_f, cl_e, m1_e, m1_e', m1_lt, m1_le, m1_m1, lt_m1, ↓reduceIte, Nat.add_zero, Nat.zero_add]
      rfl
theorem nameIn_ok (hF : 5000 < F) (H : TpC tp t n) (hb : b ≤ e) (he : e ≤ n) : f2_isNameInHand F (rW rd b e) tp = some (b2 (nmw t b e)) := by
  have hn := H.1
  unfold f2_isNameInHand nmw
  by_cases h0 : e = b
  · rw [decide_eq_false (by omega), Bool.false_and]
    simp (disch := omega) only [li, ↓lim1, ↓bnd_m, ↓grd_m, ↓jn_e, ↓cas_m, ↓oc_m, inb_t, nI_add, pk_mul, sub_e, le_t, le_f, lt_t, lt_f, eq_t, eq_f, cl_e, m1_e, m1_e', m1_lt, m1_le, m1_m1, lt_m1, ↓reduceIte, Nat.add_zero, Nat.zero_add, rWb, rWe]
    rfl
  · by_cases h8 : e - b ≤ 8
    · rw [decide_eq_true (by omega), Bool.true_and]
      have key := iter_rule (b := f2_isNameInHand_L32 (rW rd b e) tp)
        (fun d s => ∃ k : Nat, d + k = e - b ∧ s = nI (b + k) ∧ alb (ltr t) b k = true)
        (fun q => (q = .inl () ∧ alb (ltr t) b (e - b) = false) ∨ (q = .inr () ∧ alb (ltr t) b (e - b) = true))
        (by
          rintro d s ⟨k, hd, rfl, hk⟩
          by_cases hl : e ≤ b + k
          · have : k = e - b := by omega
            subst this
            refine Or.inr ⟨.inr (), ?_, Or.inr ⟨rfl, hk⟩⟩
            unfold f2_isNameInHand_L32
            simp (disch := omega) only [li, ↓lim1, ↓bnd_m, ↓grd_m, ↓jn_e, ↓cas_m, ↓oc_m, inb_t, nI_add, pk_mul, sub_e, le_t, le_f, lt_t, lt_f, eq_t, eq_f, cl_e, m1_e, m1_e', m1_lt, m1_le, m1_m1, lt_m1, ↓reduceIte, Nat.add_zero, Nat.zero_add, rWe]
          · have hu := letter_n (H.2.2 (b + k) (by omega)).2
            have he' : decide (97 ≤ t (b + k) ∧ t (b + k) ≤ 122) = ltr t (b + k) := rfl
            rw [he'] at hu
            cases hv : ltr t (b + k)
            · rw [hv, b2_f] at hu
              refine Or.inr ⟨.inl (), ?_, Or.inl ⟨rfl, alb_f (by omega) hv⟩⟩
              unfold f2_isNameInHand_L32
              simp (disch := omega) only [li, ↓lim1, ↓bnd_m, ↓grd_m, ↓jn_e, ↓cas_m, ↓oc_m, inb_t, nI_add, pk_mul, sub_e, le_t, le_f, lt_t, lt_f, eq_t, eq_f, cl_e, m1_e, m1_e', m1_lt, m1_le, m1_m1, lt_m1, ↓reduceIte, Nat.add_zero, Nat.zero_add, rWe, at_n H (show b + k < n by omega), hu]
            · rw [hv, b2_t] at hu
              refine Or.inl ⟨nI (b + (k + 1)), d - 1, by omega, ?_, k + 1, by omega, rfl, by show (alb (ltr t) b k && ltr t (b + k)) = true; rw [hk, hv]; rfl⟩
              unfold f2_isNameInHand_L32
              simp (disch := omega) only [li, ↓lim1, ↓bnd_m, ↓grd_m, ↓jn_e, ↓cas_m, ↓oc_m, inb_t, nI_add, pk_mul, sub_e, le_t, le_f, lt_t, lt_f, eq_t, eq_f, cl_e, m1_e, m1_e', m1_lt, m1_le, m1_m1, lt_m1, ↓reduceIte, Nat.add_zero, Nat.zero_add, rWe, at_n H (show b + k < n by omega), hu, Nat.add_assoc])
        F (e - b) (nI b) (by omega) ⟨0, by omega, rfl, rfl⟩
      obtain ⟨q, hq, h⟩ := key
      simp (disch := omega) only [li, ↓lim1, ↓bnd_m, ↓grd_m, ↓jn_e, ↓cas_m, ↓oc_m, inb_t, nI_add, pk_mul, sub_e, le_t, le_f, lt_t, lt_f, eq_t, eq_f, cl_e, m1_e, m1_e', m1_lt, m1_le, m1_m1, lt_m1, ↓reduceIte, Nat.add_zero, Nat.zero_add, rWb, rWe, hq]
      rcases h with ⟨rfl, h⟩ | ⟨rfl, h⟩ <;> rw [h] <;> rfl
    · rw [decide_eq_false (by omega), Bool.false_and]
      simp (disch := omega) only [li, ↓lim1, ↓bnd_m, ↓grd_m, ↓jn_e, ↓cas_m, ↓oc_m, inb_t, nI_add, pk_mul, sub_e, le_t, le_f, lt_t, lt_f, eq_t, eq_f, cl_e, m1_e, m1_e', m1_lt, m1_le, m1_m1, lt_m1, ↓reduceIte, Nat.add_zero, Nat.zero_add, rWb, rWe]
      rfl
theorem wholeIn_ok (hF : 5000 < F) (H : TpC tp t n) (hb : b ≤ e) (he : e ≤ n) : f2_wholeInHand F (rW rd b e) tp = some (pI (whw t b e)) := by
  have hn := H.1
  unfold f2_wholeInHand whw
  by_cases h0 : e = b
  · rw [if_neg (show ¬ ((b < e ∧ e ≤ b + 6) ∧ alb (dgt t) b (e - b) = true) from fun h => by omega)]
    simp (disch := omega) only [li, ↓lim1, ↓bnd_m, ↓grd_m, ↓jn_e, ↓cas_m, ↓oc_m, inb_t, nI_add, pk_mul, sub_e, le_t, le_f, lt_t, lt_f, eq_t, eq_f, cl_e, m1_e, m1_e', m1_lt, m1_le, m1_m1, lt_m1, ↓reduceIte, Nat.add_zero, Nat.zero_add, rWb, rWe]
    rfl
  · by_cases h8 : e - b ≤ 6
    · have key := iter_rule (b := f2_wholeInHand_L34 (rW rd b e) tp)
        (fun d s => ∃ k : Nat, d + k = e - b ∧ s = (nI (whv t b k), nI (b + k)) ∧ alb (dgt t) b k = true)
        (fun q => (q = .inl () ∧ alb (dgt t) b (e - b) = false) ∨ (q = .inr (nI (whv t b (e - b))) ∧ alb (dgt t) b (e - b) = true))
        (by
          rintro d s ⟨k, hd, rfl, hk⟩
          by_cases hl : e ≤ b + k
          · have : k = e - b := by omega
            subst this
            refine Or.inr ⟨.inr (nI (whv t b (e - b))), ?_, Or.inr ⟨rfl, hk⟩⟩
            unfold f2_wholeInHand_L34
            simp (disch := omega) only [li, ↓lim1, ↓bnd_m, ↓grd_m, ↓jn_e, ↓cas_m, ↓oc_m, inb_t, nI_add, pk_mul, sub_e, le_t, le_f, lt_t, lt_f, eq_t, eq_f, cl_e, m1_e, m1_e', m1_lt, m1_le, m1_m1, lt_m1, ↓reduceIte, Nat.add_zero, Nat.zero_add, rWe]
          · have hu := digit_n (H.2.2 (b + k) (by omega)).2
            have he' : decide (48 ≤ t (b + k) ∧ t (b + k) ≤ 57) = dgt t (b + k) := rfl
            rw [he'] at hu
            cases hv : dgt t (b + k)
            · rw [hv, b2_f] at hu
              refine Or.inr ⟨.inl (), ?_, Or.inl ⟨rfl, alb_f (by omega) hv⟩⟩
              unfold f2_wholeInHand_L34
              simp (disch := omega) only [li, ↓lim1, ↓bnd_m, ↓grd_m, ↓jn_e, ↓cas_m, ↓oc_m, inb_t, nI_add, pk_mul, sub_e, le_t, le_f, lt_t, lt_f, eq_t, eq_f, cl_e, m1_e, m1_e', m1_lt, m1_le, m1_m1, lt_m1, ↓reduceIte, Nat.add_zero, Nat.zero_add, rWe, at_n H (show b + k < n by omega), hu]
            · rw [hv, b2_t] at hu
              have hd2 : 48 ≤ t (b + k) ∧ t (b + k) ≤ 57 := of_decide_eq_true hv
              refine Or.inl ⟨(nI (whv t b (k + 1)), nI (b + (k + 1))), d - 1, by omega, ?_, k + 1, by omega, rfl, by show (alb (dgt t) b k && dgt t (b + k)) = true; rw [hk, hv]; rfl⟩
              have ew : whv t b (k + 1) = whv t b k * 10 + (t (b + k) - 48) := by show 10 * whv t b k + _ = _; omega
              unfold f2_wholeInHand_L34
              rw [ew]
              simp (disch := omega) only [li, ↓lim1, ↓bnd_m, ↓grd_m, ↓jn_e, ↓cas_m, ↓oc_m, inb_t, nI_add, pk_mul, sub_e, le_t, le_f, lt_t, lt_f, eq_t, eq_f, cl_e, m1_e, m1_e', m1_lt, m1_le, m1_m1, lt_m1, ↓reduceIte, Nat.add_zero, Nat.zero_add, rWe, at_n H (show b + k < n by omega), hu, Nat.add_assoc])
        F (e - b) (nI 0, nI b) (by omega) ⟨0, by omega, rfl, rfl⟩
      obtain ⟨q, hq, h⟩ := key
      simp (disch := omega) only [li, ↓lim1, ↓bnd_m, ↓grd_m, ↓jn_e, ↓cas_m, ↓oc_m, inb_t, nI_add, pk_mul, sub_e, le_t, le_f, lt_t, lt_f, eq_t, eq_f, cl_e, m1_e, m1_e', m1_lt, m1_le, m1_m1, lt_m1, ↓reduceIte, Nat.add_zero, Nat.zero_add, rWb, rWe, hq]
      rcases h with ⟨rfl, h⟩ | ⟨rfl, h⟩
      · rw [h, if_neg (fun h => by cases h.2)]; rfl
      · rw [h, if_pos ⟨by omega, rfl⟩]; rfl
    · rw [if_neg (show ¬ ((b < e ∧ e ≤ b + 6) ∧ alb (dgt t) b (e - b) = true) from fun h => by omega)]
      simp (disch := omega) only [li, ↓lim1, ↓bnd_m, ↓grd_m, ↓jn_e, ↓cas_m, ↓oc_m, inb_t, nI_add, pk_mul, sub_e, le_t, le_f, lt_t, lt_f, eq_t, eq_f, cl_e, m1_e, m1_e', m1_lt, m1_le, m1_m1, lt_m1, ↓reduceIte, Nat.add_zero, Nat.zero_add, rWb, rWe]
      rfl
theorem unit_pch {u : Nat} (hu : u < 128) : f5_isNameUnit (nI u) = some (b2 (decide ((97 ≤ u ∧ u ≤ 122) ∨ (48 ≤ u ∧ u ≤ 57) ∨ u = 95 ∨ u = 47))) ∧ f6_isName (nI u) = some (b2 (decide ((97 ≤ u ∧ u ≤ 122) ∨ (48 ≤ u ∧ u ≤ 57) ∨ u = 95 ∨ u = 47))) := co_dec (N := 128) (P := fun u => f5_isNameUnit (nI u) = some (b2 (decide ((97 ≤ u ∧ u ≤ 122) ∨ (48 ≤ u ∧ u ≤ 57) ∨ u = 95 ∨ u = 47))) ∧ f6_isName (nI u) = some (b2 (decide ((97 ≤ u ∧ u ≤ 122) ∨ (48 ≤ u ∧ u ≤ 57) ∨ u = 95 ∨ u = 47)))) (by decide +kernel) hu
theorem patIn_ok (hF : 5000 < F) (H : TpC tp t n) (hb : b ≤ e) (he : e ≤ n) : f2_isPatternInHand F (rW rd b e) tp = some (b2 (ptw t b e)) := by
  have hn := H.1
  unfold f2_isPatternInHand ptw
  by_cases h0 : e = b
  · rw [decide_eq_false (by omega), Bool.false_and]
    simp (disch := omega) only [li, ↓lim1, ↓bnd_m, ↓grd_m, ↓jn_e, ↓cas_m, ↓oc_m, inb_t, nI_add, pk_mul, sub_e, le_t, le_f, lt_t, lt_f, eq_t, eq_f, cl_e, m1_e, m1_e', m1_lt, m1_le, m1_m1, lt_m1, ↓reduceIte, Nat.add_zero, Nat.zero_add, rWb, rWe]
    rfl
  · by_cases h8 : e - b ≤ 16
    · rw [decide_eq_true (by omega), Bool.true_and]
      have key := iter_rule (b := f2_isPatternInHand_L32 (rW rd b e) tp)
        (fun d s => ∃ k : Nat, d + k = e - b ∧ s = nI (b + k) ∧ alb (pch t) b k = true)
        (fun q => (q = .inl () ∧ alb (pch t) b (e - b) = false) ∨ (q = .inr () ∧ alb (pch t) b (e - b) = true))
        (by
          rintro d s ⟨k, hd, rfl, hk⟩
          by_cases hl : e ≤ b + k
          · have : k = e - b := by omega
            subst this
            refine Or.inr ⟨.inr (), ?_, Or.inr ⟨rfl, hk⟩⟩
            unfold f2_isPatternInHand_L32
            simp (disch := omega) only [li, ↓lim1, ↓bnd_m, ↓grd_m, ↓jn_e, ↓cas_m, ↓oc_m, inb_t, nI_add, pk_mul, sub_e, le_t, le_f, lt_t, lt_f, eq_t, eq_f, cl_e, m1_e, m1_e', m1_lt, m1_le, m1_m1, lt_m1, ↓reduceIte, Nat.add_zero, Nat.zero_add, rWe]
          · have h128 := (H.2.2 (b + k) (by omega)).2
            have hu := (unit_pch h128).1
            have ya : pch t (b + k) = true → f2_isPatternInHand_L32 (rW rd b e) tp (nI (b + k)) = some (.inl (nI (b + (k + 1)))) → (∃ y k', k' < d ∧ f2_isPatternInHand_L32 (rW rd b e) tp (nI (b + k)) = some (.inl y) ∧ ∃ k : Nat, k' + k = e - b ∧ y = nI (b + k) ∧ alb (pch t) b k = true) := fun hp hs => ⟨nI (b + (k + 1)), d - 1, by omega, hs, k + 1, by omega, rfl, by show (alb (pch t) b k && pch t (b + k)) = true; rw [hk, hp]; rfl⟩
            by_cases c1 : (97 ≤ t (b + k) ∧ t (b + k) ≤ 122) ∨ (48 ≤ t (b + k) ∧ t (b + k) ≤ 57) ∨ t (b + k) = 95 ∨ t (b + k) = 47
            · rw [decide_eq_true c1, b2_t] at hu
              refine Or.inl (ya (decide_eq_true (by omega)) ?_)
              unfold f2_isPatternInHand_L32
              simp (disch := omega) only [li, ↓lim1, ↓bnd_m, ↓grd_m, ↓jn_e, ↓cas_m, ↓oc_m, inb_t, nI_add, pk_mul, sub_e, le_t, le_f, lt_t, lt_f, eq_t, eq_f, cl_e, m1_e, m1_e', m1_lt, m1_le, m1_m1, lt_m1, ↓reduceIte, Nat.add_zero, Nat.zero_add, rWe, at_n H (show b + k < n by omega), hu, Nat.add_assoc]
            · rw [decide_eq_false c1, b2_f] at hu
              by_cases c2 : t (b + k) = 42
              · refine Or.inl (ya (decide_eq_true (by omega)) ?_)
                unfold f2_isPatternInHand_L32
                simp (disch := omega) only [li, ↓lim1, ↓bnd_m, ↓grd_m, ↓jn_e, ↓cas_m, ↓oc_m, inb_t, nI_add, pk_mul, sub_e, le_t, le_f, lt_t, lt_f, eq_t, eq_f, cl_e, m1_e, m1_e', m1_lt, m1_le, m1_m1, lt_m1, ↓reduceIte, Nat.add_zero, Nat.zero_add, rWe, at_n H (show b + k < n by omega), hu, Nat.add_assoc]
              · by_cases c3 : t (b + k) = 63
                · refine Or.inl (ya (decide_eq_true (by omega)) ?_)
                  unfold f2_isPatternInHand_L32
                  simp (disch := omega) only [li, ↓lim1, ↓bnd_m, ↓grd_m, ↓jn_e, ↓cas_m, ↓oc_m, inb_t, nI_add, pk_mul, sub_e, le_t, le_f, lt_t, lt_f, eq_t, eq_f, cl_e, m1_e, m1_e', m1_lt, m1_le, m1_m1, lt_m1, ↓reduceIte, Nat.add_zero, Nat.zero_add, rWe, at_n H (show b + k < n by omega), hu, Nat.add_assoc]
                · refine Or.inr ⟨.inl (), ?_, Or.inl ⟨rfl, alb_f (i := k) (by omega) (decide_eq_false (by omega))⟩⟩
                  unfold f2_isPatternInHand_L32
                  simp (disch := omega) only [li, ↓lim1, ↓bnd_m, ↓grd_m, ↓jn_e, ↓cas_m, ↓oc_m, inb_t, nI_add, pk_mul, sub_e, le_t, le_f, lt_t, lt_f, eq_t, eq_f, cl_e, m1_e, m1_e', m1_lt, m1_le, m1_m1, lt_m1, ↓reduceIte, Nat.add_zero, Nat.zero_add, rWe, at_n H (show b + k < n by omega), hu])
        F (e - b) (nI b) (by omega) ⟨0, by omega, rfl, rfl⟩
      obtain ⟨q, hq, h⟩ := key
      simp (disch := omega) only [li, ↓lim1, ↓bnd_m, ↓grd_m, ↓jn_e, ↓cas_m, ↓oc_m, inb_t, nI_add, pk_mul, sub_e, le_t, le_f, lt_t, lt_f, eq_t, eq_f, cl_e, m1_e, m1_e', m1_lt, m1_le, m1_m1, lt_m1, ↓reduceIte, Nat.add_zero, Nat.zero_add, rWb, rWe, hq]
      rcases h with ⟨rfl, h⟩ | ⟨rfl, h⟩ <;> rw [h] <;> rfl
    · rw [decide_eq_false (by omega), Bool.false_and]
      simp (disch := omega) only [li, ↓lim1, ↓bnd_m, ↓grd_m, ↓jn_e, ↓cas_m, ↓oc_m, inb_t, nI_add, pk_mul, sub_e, le_t, le_f, lt_t, lt_f, eq_t, eq_f, cl_e, m1_e, m1_e', m1_lt, m1_le, m1_m1, lt_m1, ↓reduceIte, Nat.add_zero, Nat.zero_add, rWb, rWe]
      rfl
theorem anyIn_ok (H : TpC tp t n) (hb : b ≤ e) (he : e ≤ n) : f2_isAnyInHand (rW rd b e) tp = some (b2 (anw t b e)) := by
  have hn := H.1
  unfold f2_isAnyInHand anw
  by_cases h1 : e - b = 1
  · have h128 := (H.2.2 b (by omega)).2
    by_cases h2 : t b = 45
    · rw [decide_eq_true (by omega)]
      simp (disch := omega) only [li, ↓lim1, ↓bnd_m, ↓grd_m, ↓jn_e, ↓cas_m, ↓oc_m, inb_t, nI_add, pk_mul, sub_e, le_t, le_f, lt_t, lt_f, eq_t, eq_f, cl_e, m1_e, m1_e', m1_lt, m1_le, m1_m1, lt_m1, ↓reduceIte, Nat.add_zero, Nat.zero_add, rWb, rWe, at_n H (show b < n by omega)]
      rfl
    · rw [decide_eq_false (by omega)]
      simp (disch := omega) only [li, ↓lim1, ↓bnd_m, ↓grd_m, ↓jn_e, ↓cas_m, ↓oc_m, inb_t, nI_add, pk_mul, sub_e, le_t, le_f, lt_t, lt_f, eq_t, eq_f, cl_e, m1_e, m1_e', m1_lt, m1_le, m1_m1, lt_m1, ↓reduceIte, Nat.add_zero, Nat.zero_add, rWb, rWe, at_n H (show b < n by omega)]
      rfl
  · rw [decide_eq_false (by omega)]
    simp (disch := omega) only [li, ↓lim1, ↓bnd_m, ↓grd_m, ↓jn_e, ↓cas_m, ↓oc_m, inb_t, nI_add, pk_mul, sub_e, le_t, le_f, lt_t, lt_f, eq_t, eq_f, cl_e, m1_e, m1_e', m1_lt, m1_le, m1_m1, lt_m1, ↓reduceIte, Nat.add_zero, Nat.zero_add, rWb, rWe]
    rfl
end Rd
