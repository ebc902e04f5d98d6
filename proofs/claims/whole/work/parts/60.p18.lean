/-! ===== rings ===== -/
def itS (S : Nat → Option Nat) : Nat → Nat → Option Nat
  | 0, c => some c
  | j + 1, c => match itS S j c with
    | none => none
    | some x => S x
theorem itS_s {S : Nat → Option Nat} {j c x : Nat} (h : itS S j c = some x) : itS S (j + 1) c = S x := by
  show (match itS S j c with | none => none | some x => S x) = _
  rw [h]
theorem itS_n {S : Nat → Option Nat} {j c : Nat} (h : itS S j c = none) : itS S (j + 1) c = none := by
  show (match itS S j c with | none => none | some x => S x) = _
  rw [h]
theorem itS_up {S : Nat → Option Nat} {j c : Nat} (h : itS S j c = none) : ∀ i, itS S (j + i) c = none := by
  intro i
  induction i with
  | zero => exact h
  | succ i ih => exact itS_n ih
theorem itS_add {S : Nat → Option Nat} {i c x : Nat} (h : itS S i c = some x) : ∀ j, itS S (i + j) c = itS S j x := by
  intro j
  induction j with
  | zero => exact h
  | succ j ih =>
    show (match itS S (i + j) c with | none => none | some x => S x) = (match itS S j x with | none => none | some x => S x)
    rw [ih]
theorem itS_1 {S : Nat → Option Nat} {c : Nat} : itS S 1 c = S c := itS_s rfl
theorem itS_lt {S : Nat → Option Nat} {m : Nat} (hS : ∀ c k, c < m → S c = some k → k < m) {c : Nat} (hc : c < m) : ∀ j x, itS S j c = some x → x < m := by
  intro j
  induction j with
  | zero => intro x h; cases h; exact hc
  | succ j ih =>
    intro x h
    cases hj : itS S j c with
    | none => rw [itS_n hj] at h; cases h
    | some y => rw [itS_s hj] at h; exact hS y x (ih y hj) h
/-- one more than there is room for: two are the same -/
theorem pigeon : ∀ (m : Nat) (g : Nat → Nat), (∀ i, i ≤ m → g i < m) → ∃ a b, a < b ∧ b ≤ m ∧ g a = g b := by
  intro m
  induction m with
  | zero => intro g h; have := h 0 (by omega); omega
  | succ m ih =>
    intro g h
    by_cases hex : ∃ a, a ≤ m ∧ g a = g (m + 1)
    · obtain ⟨a, h1, h2⟩ := hex
      exact ⟨a, m + 1, by omega, by omega, h2⟩
    · have hno : ∀ a, a ≤ m → ¬ g a = g (m + 1) := fun a ha e => hex ⟨a, ha, e⟩
      obtain ⟨a, b, h1, h2, h3⟩ := ih (fun i => if g i = m then g (m + 1) else g i) (fun i hi => by
        show (if g i = m then g (m + 1) else g i) < m
        by_cases c : g i = m
        · rw [if_pos c]
          have := h (m + 1) (by omega)
          have := hno i hi
          omega
        · rw [if_neg c]
          have := h i (by omega)
          omega)
      refine ⟨a, b, h1, by omega, ?_⟩
      have h3' : (if g a = m then g (m + 1) else g a) = (if g b = m then g (m + 1) else g b) := h3
      by_cases ca : g a = m
      · by_cases cb : g b = m
        · rw [ca, cb]
        · rw [if_pos ca, if_neg cb] at h3'
          exact absurd h3'.symm (hno b h2)
      · by_cases cb : g b = m
        · rw [if_neg ca, if_pos cb] at h3'
          exact absurd h3' (hno a (by omega))
        · rw [if_neg ca, if_neg cb] at h3'
          exact h3'
def rng (S : Nat → Option Nat) (c : Nat) : Prop := ∃ j, j < 12 ∧ itS S (j + 1) c = some c
def gO (o : Option Nat) : Nat := match o with
  | none => 0
  | some x => x
theorem rng13 {S : Nat → Option Nat} {m : Nat} (hS : ∀ c k, c < m → S c = some k → k < m) (hm : m ≤ 12) {c : Nat} (hc : c < m) {j : Nat} (hj : j ≤ 12) (h : itS S (j + 1) c = some c) : rng S c := by
  by_cases e : j < 12
  · exact ⟨j, e, h⟩
  · have hj12 : j = 12 := by omega
    subst hj12
    have hd : ∀ i, i ≤ 12 → ∃ x, itS S i c = some x := by
      intro i hi
      cases hx : itS S i c with
      | some x => exact ⟨x, rfl⟩
      | none =>
        have := itS_up hx (13 - i)
        rw [show i + (13 - i) = 13 by omega] at this
        rw [this] at h; cases h
    obtain ⟨a, b, h1, h2, h3⟩ := pigeon 12 (fun i => gO (itS S i c)) (fun i hi => by
      obtain ⟨x, hx⟩ := hd i hi
      have := itS_lt hS hc i x hx
      show gO (itS S i c) < 12
      rw [hx]
      show x < 12
      omega)
    obtain ⟨x, hx⟩ := hd a (by omega)
    obtain ⟨y, hy⟩ := hd b h2
    have exy : x = y := by
      have h3' : gO (itS S a c) = gO (itS S b c) := h3
      rw [hx, hy] at h3'
      exact h3'
    subst exy
    refine ⟨a + (12 - b), by omega, ?_⟩
    have e1 := itS_add hy (13 - b)
    have e2 := itS_add hx (13 - b)
    rw [show b + (13 - b) = 13 by omega] at e1
    rw [show a + (12 - b) + 1 = a + (13 - b) by omega, e2, ← e1]
    exact h
/-- without rings every chain ends -/
theorem chain {S : Nat → Option Nat} {m : Nat} (hS : ∀ c k, c < m → S c = some k → k < m) (hm : m ≤ 12) (hr : ∀ c, c < m → ¬ rng S c) {c : Nat} (hc : c < m) : ∃ d, d < m ∧ itS S (d + 1) c = none ∧ ∀ j, j < d → ¬ itS S (j + 1) c = none := by
  rcases first_or (fun j => itS S (j + 1) c = none) m with h | ⟨d, h1, h2, h3⟩
  · exfalso
    have hd : ∀ i, i ≤ m → ∃ x, itS S i c = some x := by
      intro i hi
      cases hx : itS S i c with
      | some x => exact ⟨x, rfl⟩
      | none =>
        cases i with
        | zero => cases hx
        | succ i => exact absurd hx (h i (by omega))
    obtain ⟨a, b, h1, h2, h3⟩ := pigeon m (fun i => gO (itS S i c)) (fun i hi => by
      obtain ⟨x, hx⟩ := hd i hi
      have := itS_lt hS hc i x hx
      show gO (itS S i c) < m
      rw [hx]
      exact this)
    obtain ⟨x, hx⟩ := hd a (by omega)
    obtain ⟨y, hy⟩ := hd b h2
    have exy : x = y := by
      have h3' : gO (itS S a c) = gO (itS S b c) := h3
      rw [hx, hy] at h3'
      exact h3'
    subst exy
    have e1 := itS_add hx (b - a)
    rw [show a + (b - a) = b by omega, hy] at e1
    exact hr x (itS_lt hS hc a x hx) ⟨b - a - 1, by omega, by rw [show b - a - 1 + 1 = b - a by omega]; exact e1.symm⟩
  · exact ⟨d, h1, h2, h3⟩
section Ri
variable {F m : Nat} {S : Nat → Option Nat} {ck : T0} {md : T6} {rd : T2} {sh : T3}
theorem pI_eq {o : Option Nat} {c : Nat} (hc : c < 2147483648) (ho : ∀ k, o = some k → k < 2147483648) : (pI o = nI c) = (o = some c) := by
  cases o with
  | none =>
    have : pI none = im1 := rfl
    rw [this, m1_e' hc]
    exact propext ⟨False.elim, fun h => by cases h⟩
  | some k =>
    have : pI (some k) = nI k := rfl
    rw [this, eq_e (ho k rfl) hc]
    exact propext ⟨fun h => by rw [h], fun h => Option.some.inj h⟩
theorem inRing_ok (hF : 5000 < F) (hm : m ≤ 12) (hsz : kSiz ck = nI m) (hS : ∀ c k, c < m → S c = some k → k < m) (hs : ∀ c, c < m → kSrc ck c = pI (S c)) {c : Nat} (hc : c < m) : (rng S c → f0_inRing F (nI c) ck = some (nI 1)) ∧ (¬ rng S c → f0_inRing F (nI c) ck = some (nI 0)) := by
  have key := iter_rule (b := f0_inRing_L4 (nI c) ck)
    (fun d s => ∃ j : Nat, d + j = 12 ∧ s = (pI (itS S j c), nI j) ∧ ∀ i, i < j → ¬ itS S (i + 1) c = some c)
    (fun q => (q = .inl () ∧ rng S c) ∨ (q = .inr () ∧ ¬ rng S c))
    (by
      rintro d s ⟨j, hd, rfl, hj⟩
      by_cases h12 : 12 ≤ j
      · refine Or.inr ⟨.inr (), ?_, Or.inr ⟨rfl, fun ⟨i, h1, h2⟩ => hj i (by omega) h2⟩⟩
        unfold f0_inRing_L4
        simp (disch := omega) only [li, ↓lim1, ↓bnd_m, ↓grd_m, ↓jn_e, ↓cas_m, ↓oc_m, inb_t, nI_add, pk_mul, sub_e, le_t, le_f, lt_t, lt_f, eq_t, eq_f, cl_e, m1_e, m1_e', m1_lt, m1_le, m1_m1, lt_m1, ↓reduceIte, Nat.add_zero, Nat.zero_add]
      · cases hx : itS S j c with
        | none =>
          refine Or.inr ⟨.inr (), ?_, Or.inr ⟨rfl, fun ⟨i, h1, h2⟩ => ?_⟩⟩
          · have hh : f0_has im1 ck = some (nI 0) := by
              have : (im1 < nI 0) = True := m1_lt (by omega)
              unfold f0_has
              simp (disch := omega) only [li, ↓lim1, ↓bnd_m, ↓grd_m, ↓jn_e, ↓cas_m, ↓oc_m, inb_t, nI_add, pk_mul, sub_e, le_t, le_f, lt_t, lt_f, eq_t, eq_f, cl_e, m1_e, m1_e', m1_lt, m1_le, m1_m1, lt_m1, ↓reduceIte, Nat.add_zero, Nat.zero_add]
            have pn : pI none = im1 := rfl
            rw [pn]
            unfold f0_inRing_L4
            simp (disch := omega) only [li, ↓lim1, ↓bnd_m, ↓grd_m, ↓jn_e, ↓cas_m, ↓oc_m, inb_t, nI_add, pk_mul, sub_e, le_t, le_f, lt_t, lt_f, eq_t, eq_f, cl_e, m1_e, m1_e', m1_lt, m1_le, m1_m1, lt_m1, ↓reduceIte, Nat.add_zero, Nat.zero_add, hh]
          · by_cases e : i < j
            · exact hj i e h2
            · have := itS_up hx (i + 1 - j)
              rw [show j + (i + 1 - j) = i + 1 by omega, h2] at this
              cases this
        | some x =>
          have hxm := itS_lt hS hc j x hx
          have hh := has_n (k := x) hsz (by omega) (by omega)
          rw [if_pos hxm] at hh
          have hsx : ck.2.1 x = pI (S x) := hs x hxm
          have pe := pI_eq (o := S x) (c := c) (by omega) (fun k hk => by have := hS x k hxm hk; omega)
          have pn : pI (some x) = nI x := rfl
          rw [pn]
          by_cases hr : S x = some c
          · refine Or.inr ⟨.inl (), ?_, Or.inl ⟨rfl, j, by omega, by rw [itS_s hx]; exact hr⟩⟩
            have pe' : (pI (S x) = nI c) = True := by rw [pe]; exact eq_true hr
            unfold f0_inRing_L4
            simp (disch := omega) only [li, ↓lim1, ↓bnd_m, ↓grd_m, ↓jn_e, ↓cas_m, ↓oc_m, inb_t, nI_add, pk_mul, sub_e, le_t, le_f, lt_t, lt_f, eq_t, eq_f, cl_e, m1_e, m1_e', m1_lt, m1_le, m1_m1, lt_m1, ↓reduceIte, Nat.add_zero, Nat.zero_add, hh, hsx, pe']
          · refine Or.inl ⟨(pI (itS S (j + 1) c), nI (j + 1)), d - 1, by omega, ?_, j + 1, by omega, rfl, fun i hi => ?_⟩
            · have pe' : (pI (S x) = nI c) = False := by rw [pe]; exact eq_false hr
              rw [itS_s hx]
              unfold f0_inRing_L4
              simp (disch := omega) only [li, ↓lim1, ↓bnd_m, ↓grd_m, ↓jn_e, ↓cas_m, ↓oc_m, inb_t, nI_add, pk_mul, sub_e, le_t, le_f, lt_t, lt_f, eq_t, eq_f, cl_e, m1_e, m1_e', m1_lt, m1_le, m1_m1, lt_m1, ↓reduceIte, Nat.add_zero, Nat.zero_add, hh, hsx, pe']
            · by_cases e : i = j
              · rw [e, itS_s hx]; exact hr
              · exact hj i (by omega))
    F 12 (nI c, nI 0) (by omega) ⟨0, by omega, rfl, fun i hi => by omega⟩
  obtain ⟨q, hq, hh⟩ := key
  unfold f0_inRing
  rcases hh with ⟨rfl, h⟩ | ⟨rfl, h⟩
  · refine ⟨fun _ => ?_, fun h' => absurd h h'⟩
    simp (disch := omega) only [li, ↓lim1, ↓bnd_m, ↓grd_m, ↓jn_e, ↓cas_m, ↓oc_m, inb_t, nI_add, pk_mul, sub_e, le_t, le_f, lt_t, lt_f, eq_t, eq_f, cl_e, m1_e, m1_e', m1_lt, m1_le, m1_m1, lt_m1, ↓reduceIte, Nat.add_zero, Nat.zero_add, hq]
  · refine ⟨fun h' => absurd h' h, fun _ => ?_⟩
    simp (disch := omega) only [li, ↓lim1, ↓bnd_m, ↓grd_m, ↓jn_e, ↓cas_m, ↓oc_m, inb_t, nI_add, pk_mul, sub_e, le_t, le_f, lt_t, lt_f, eq_t, eq_f, cl_e, m1_e, m1_e', m1_lt, m1_le, m1_m1, lt_m1, ↓reduceIte, Nat.add_zero, Nat.zero_add, hq]
theorem noRing_ok (hF : 5000 < F) (hm : m ≤ 12) (hsz : kSiz ck = nI m) (hS : ∀ c k, c < m → S c = some k → k < m) (hs : ∀ c, c < m → kSrc ck c = pI (S c)) (hr : ∀ c, c < m → ¬ rng S c) : f2_hasNoRing F rd sh ck = some (nI 1, rd) := by
  have hsz' : ck.2.2.2.2.2.2.2.2.2.2.2 = nI m := hsz
  have k : iter (f2_hasNoRing_L2 F ck) F (nI 0) = some (.inr ()) := by
    refine iter_up (fun c => nI c) _ m (fun c hc => ?_) ?_ F 0 (by omega) (by omega)
    · have := (inRing_ok hF hm hsz hS hs hc).2 (hr c hc)
      unfold f2_hasNoRing_L2
      simp (disch := omega) only [li, ↓lim1, ↓bnd_m, ↓grd_m, ↓jn_e, ↓cas_m, ↓oc_m, inb_t, nI_add, pk_mul, sub_e, le_t, le_f, lt_t, lt_f, eq_t, eq_f, cl_e, m1_e, m1_e', m1_lt, m1_le, m1_m1, lt_m1, ↓reduceIte, Nat.add_zero, Nat.zero_add, hsz', this]
    · unfold f2_hasNoRing_L2
      simp (disch := omega) only [li, ↓lim1, ↓bnd_m, ↓grd_m, ↓jn_e, ↓cas_m, ↓oc_m, inb_t, nI_add, pk_mul, sub_e, le_t, le_f, lt_t, lt_f, eq_t, eq_f, cl_e, m1_e, m1_e', m1_lt, m1_le, m1_m1, lt_m1, ↓reduceIte, Nat.add_zero, Nat.zero_add, hsz']
  unfold f2_hasNoRing
  simp (disch := omega) only [li, ↓lim1, ↓bnd_m, ↓grd_m, ↓jn_e, ↓cas_m, ↓oc_m, inb_t, nI_add, pk_mul, sub_e, le_t, le_f, lt_t, lt_f, eq_t, eq_f, cl_e, m1_e, m1_e', m1_lt, m1_le, m1_m1, lt_m1, ↓reduceIte, Nat.add_zero, Nat.zero_add, k]
theorem isRing_ok (hF : 5000 < F) (hm : m ≤ 12) (hsz : kSiz ck = nI m) (hS : ∀ c k, c < m → S c = some k → k < m) (hs : ∀ c, c < m → kSrc ck c = pI (S c)) {c0 : Nat} (hc : c0 < m) (hr0 : rng S c0) (hr : ∀ c, c < c0 → ¬ rng S c) {x : Nat} (hx : rd.1 c0 = nI x) : ∃ rd', f2_hasNoRing F rd sh ck = some (nI 0, rd') ∧ rd'.2.2.2.2.1 = nI x := by
  have hsz' : ck.2.2.2.2.2.2.2.2.2.2.2 = nI m := hsz
  have k : iter (f2_hasNoRing_L2 F ck) F (nI 0) = some (.inl (nI c0)) := by
    refine iter_up (fun c => nI c) _ c0 (fun c hc' => ?_) ?_ F 0 (by omega) (by omega)
    · have := (inRing_ok hF hm hsz hS hs (show c < m by omega)).2 (hr c hc')
      unfold f2_hasNoRing_L2
      simp (disch := omega) only [li, ↓lim1, ↓bnd_m, ↓grd_m, ↓jn_e, ↓cas_m, ↓oc_m, inb_t, nI_add, pk_mul, sub_e, le_t, le_f, lt_t, lt_f, eq_t, eq_f, cl_e, m1_e, m1_e', m1_lt, m1_le, m1_m1, lt_m1, ↓reduceIte, Nat.add_zero, Nat.zero_add, hsz', this]
    · have := (inRing_ok hF hm hsz hS hs hc).1 hr0
      unfold f2_hasNoRing_L2
      simp (disch := omega) only [li, ↓lim1, ↓bnd_m, ↓grd_m, ↓jn_e, ↓cas_m, ↓oc_m, inb_t, nI_add, pk_mul, sub_e, le_t, le_f, lt_t, lt_f, eq_t, eq_f, cl_e, m1_e, m1_e', m1_lt, m1_le, m1_m1, lt_m1, ↓reduceIte, Nat.add_zero, Nat.zero_add, hsz', this]
  refine ⟨(rd.1, rd.2.1, rd.2.2.1, rd.2.2.2.1, nI x, rd.2.2.2.2.2), ?_, rfl⟩
  unfold f2_hasNoRing
  simp (disch := omega) only [li, ↓lim1, ↓bnd_m, ↓grd_m, ↓jn_e, ↓cas_m, ↓oc_m, inb_t, nI_add, pk_mul, sub_e, le_t, le_f, lt_t, lt_f, eq_t, eq_f, cl_e, m1_e, m1_e', m1_lt, m1_le, m1_m1, lt_m1, ↓reduceIte, Nat.add_zero, Nat.zero_add, k, hx]
/-! the model's -/
theorem mring1_ok (hF : 5000 < F) (hm : m ≤ 12) (hS : ∀ c k, c < m → S c = some k → k < m) (hs : ∀ c, c < m → mFrom md (12 + c) = pI (S c)) {c : Nat} (hc : c < m) : ∃ q, iter (f6_ring_L22 md (nI c)) F (pI (S c), nI 0) = some q ∧ ((q = nI c) = rng S c) := by
  have hS' : ∀ j x, itS S j c = some x → x < m := itS_lt hS hc
  have key := iter_rule (b := f6_ring_L22 md (nI c))
    (fun d s => ∃ j : Nat, d + j = 12 ∧ s = (pI (itS S (j + 1) c), nI j) ∧ ∀ i, i < j → ¬ itS S (i + 1) c = some c)
    (fun q => (q = nI c) = rng S c)
    (by
      rintro d s ⟨j, hd, rfl, hj⟩
      have pe := pI_eq (o := itS S (j + 1) c) (c := c) (by omega) (fun k hk => by have := hS' _ k hk; omega)
      by_cases hr : itS S (j + 1) c = some c
      · refine Or.inr ⟨pI (itS S (j + 1) c), ?_, ?_⟩
        · have pe' : (pI (itS S (j + 1) c) = nI c) = True := by rw [pe]; exact eq_true hr
          have pm : (pI (itS S (j + 1) c) = im1) = False := by rw [hr]; exact m1_e (by omega)
          unfold f6_ring_L22
          by_cases h12 : 12 ≤ j
          · simp (disch := omega) only [li, ↓lim1, ↓bnd_m, ↓grd_m, ↓jn_e, ↓cas_m, ↓oc_m, inb_t, nI_add, pk_mul, sub_e, le_t, le_f, lt_t, lt_f, eq_t, eq_f, cl_e, m1_e, m1_e', m1_lt, m1_le, m1_m1, lt_m1, ↓reduceIte, Nat.add_zero, Nat.zero_add]
          · simp (disch := omega) only [li, ↓lim1, ↓bnd_m, ↓grd_m, ↓jn_e, ↓cas_m, ↓oc_m, inb_t, nI_add, pk_mul, sub_e, le_t, le_f, lt_t, lt_f, eq_t, eq_f, cl_e, m1_e, m1_e', m1_lt, m1_le, m1_m1, lt_m1, ↓reduceIte, Nat.add_zero, Nat.zero_add, pm, pe']
        · rw [pe]
          exact propext ⟨fun _ => rng13 hS hm hc (by omega) hr, fun _ => hr⟩
      · have nr : ∀ h12 : 12 ≤ j, ¬ rng S c := fun h12 ⟨i, h1, h2⟩ => hj i (by omega) h2
        have pe' : (pI (itS S (j + 1) c) = nI c) = False := by rw [pe]; exact eq_false hr
        by_cases h12 : 12 ≤ j
        · refine Or.inr ⟨pI (itS S (j + 1) c), ?_, ?_⟩
          · unfold f6_ring_L22
            simp (disch := omega) only [li, ↓lim1, ↓bnd_m, ↓grd_m, ↓jn_e, ↓cas_m, ↓oc_m, inb_t, nI_add, pk_mul, sub_e, le_t, le_f, lt_t, lt_f, eq_t, eq_f, cl_e, m1_e, m1_e', m1_lt, m1_le, m1_m1, lt_m1, ↓reduceIte, Nat.add_zero, Nat.zero_add]
          · rw [pe']
            exact propext ⟨False.elim, fun h => nr h12 h⟩
        · cases hx : itS S (j + 1) c with
          | none =>
            have pn : pI none = im1 := rfl
            refine Or.inr ⟨im1, ?_, ?_⟩
            · rw [pn]
              unfold f6_ring_L22
              simp (disch := omega) only [li, ↓lim1, ↓bnd_m, ↓grd_m, ↓jn_e, ↓cas_m, ↓oc_m, inb_t, nI_add, pk_mul, sub_e, le_t, le_f, lt_t, lt_f, eq_t, eq_f, cl_e, m1_e, m1_e', m1_lt, m1_le, m1_m1, lt_m1, ↓reduceIte, Nat.add_zero, Nat.zero_add]
            · rw [m1_e' (by omega)]
              refine propext ⟨False.elim, fun ⟨i, h1, h2⟩ => ?_⟩
              by_cases e : i < j
              · exact hj i e h2
              · have := itS_up hx (i - j)
                rw [show j + 1 + (i - j) = i + 1 by omega, h2] at this
                cases this
          | some x =>
            have hxm := hS' _ x hx
            have hsx : md.2.2.1.2.2.1 (12 + x) = pI (S x) := hs x hxm
            have pn : pI (some x) = nI x := rfl
            rw [hx, pn] at pe'
            refine Or.inl ⟨(pI (itS S (j + 1 + 1) c), nI (j + 1)), d - 1, by omega, ?_, j + 1, by omega, rfl, fun i hi => ?_⟩
            · rw [pn, itS_s hx]
              unfold f6_ring_L22
              simp (disch := omega) only [li, ↓lim1, ↓bnd_m, ↓grd_m, ↓jn_e, ↓cas_m, ↓oc_m, inb_t, nI_add, pk_mul, sub_e, le_t, le_f, lt_t, lt_f, eq_t, eq_f, cl_e, m1_e, m1_e', m1_lt, m1_le, m1_m1, lt_m1, ↓reduceIte, Nat.add_zero, Nat.zero_add, pe', hsx]
            · by_cases e : i = j
              · rw [e]; exact hr
              · exact hj i (by omega))
    F 12 (pI (S c), nI 0) (by omega) ⟨0, by omega, by rw [itS_1], fun i hi => by omega⟩
  obtain ⟨q, hq, hh⟩ := key
  exact ⟨q, hq, hh⟩
theorem mring_no (hF : 5000 < F) (hm : m ≤ 12) (hnc : md.2.2.2.1.2.2.2.2.1 = nI m) (hS : ∀ c k, c < m → S c = some k → k < m) (hs : ∀ c, c < m → mFrom md (12 + c) = pI (S c)) (hr : ∀ c, c < m → ¬ rng S c) : f6_ring F md = some im1 := by
  have k : iter (f6_ring_L2 F md) F (nI 0) = some (.inr ()) := by
    refine iter_up (fun c => nI c) _ m (fun c hc => ?_) ?_ F 0 (by omega) (by omega)
    · obtain ⟨q, q1, q2⟩ := mring1_ok hF hm hS hs hc
      have q3 : (q = nI c) = False := by rw [q2]; exact eq_false (hr c hc)
      have hsc : md.2.2.1.2.2.1 (12 + c) = pI (S c) := hs c hc
      unfold f6_ring_L2
      simp (disch := omega) only [li, ↓lim1, ↓bnd_m, ↓grd_m, ↓jn_e, ↓cas_m, ↓oc_m, inb_t, nI_add, pk_mul, sub_e, le_t, le_f, lt_t, lt_f, eq_t, eq_f, cl_e, m1_e, m1_e', m1_lt, m1_le, m1_m1, lt_m1, ↓reduceIte, Nat.add_zero, Nat.zero_add, hnc, hsc, q1, q3]
    · unfold f6_ring_L2
      simp (disch := omega) only [li, ↓lim1, ↓bnd_m, ↓grd_m, ↓jn_e, ↓cas_m, ↓oc_m, inb_t, nI_add, pk_mul, sub_e, le_t, le_f, lt_t, lt_f, eq_t, eq_f, cl_e, m1_e, m1_e', m1_lt, m1_le, m1_m1, lt_m1, ↓reduceIte, Nat.add_zero, Nat.zero_add, hnc]
  unfold f6_ring
  simp (disch := omega) only [li, ↓lim1, ↓bnd_m, ↓grd_m, ↓jn_e, ↓cas_m, ↓oc_m, inb_t, nI_add, pk_mul, sub_e, le_t, le_f, lt_t, lt_f, eq_t, eq_f, cl_e, m1_e, m1_e', m1_lt, m1_le, m1_m1, lt_m1, ↓reduceIte, Nat.add_zero, Nat.zero_add, k]
theorem mring_yes (hF : 5000 < F) (hm : m ≤ 12) (hnc : md.2.2.2.1.2.2.2.2.1 = nI m) (hS : ∀ c k, c < m → S c = some k → k < m) (hs : ∀ c, c < m → mFrom md (12 + c) = pI (S c)) {c0 : Nat} (hc : c0 < m) (hr0 : rng S c0) (hr : ∀ c, c < c0 → ¬ rng S c) {r x : Nat} (hr40 : r < 40) (hcr : mCr md (12 + c0) = nI r) (hx : md.2.2.2.1.2.2.2.2.2.1 r = nI x) : f6_ring F md = some (nI x) := by
  have k : iter (f6_ring_L2 F md) F (nI 0) = some (.inl (nI c0)) := by
    refine iter_up (fun c => nI c) _ c0 (fun c hc' => ?_) ?_ F 0 (by omega) (by omega)
    · obtain ⟨q, q1, q2⟩ := mring1_ok hF hm hS hs (show c < m by omega)
      have q3 : (q = nI c) = False := by rw [q2]; exact eq_false (hr c hc')
      have hsc : md.2.2.1.2.2.1 (12 + c) = pI (S c) := hs c (by omega)
      unfold f6_ring_L2
      simp (disch := omega) only [li, ↓lim1, ↓bnd_m, ↓grd_m, ↓jn_e, ↓cas_m, ↓oc_m, inb_t, nI_add, pk_mul, sub_e, le_t, le_f, lt_t, lt_f, eq_t, eq_f, cl_e, m1_e, m1_e', m1_lt, m1_le, m1_m1, lt_m1, ↓reduceIte, Nat.add_zero, Nat.zero_add, hnc, hsc, q1, q3]
    · obtain ⟨q, q1, q2⟩ := mring1_ok hF hm hS hs hc
      have q3 : (q = nI c0) = True := by rw [q2]; exact eq_true hr0
      have hsc : md.2.2.1.2.2.1 (12 + c0) = pI (S c0) := hs c0 hc
      unfold f6_ring_L2
      simp (disch := omega) only [li, ↓lim1, ↓bnd_m, ↓grd_m, ↓jn_e, ↓cas_m, ↓oc_m, inb_t, nI_add, pk_mul, sub_e, le_t, le_f, lt_t, lt_f, eq_t, eq_f, cl_e, m1_e, m1_e', m1_lt, m1_le, m1_m1, lt_m1, ↓reduceIte, Nat.add_zero, Nat.zero_add, hnc, hsc, q1, q3]
  have hcr' : md.2.2.1.2.1 (12 + c0) = nI r := hcr
  unfold f6_ring
  simp (disch := omega) only [li, ↓lim1, ↓bnd_m, ↓grd_m, ↓jn_e, ↓cas_m, ↓oc_m, inb_t, nI_add, pk_mul, sub_e, le_t, le_f, lt_t, lt_f, eq_t, eq_f, cl_e, m1_e, m1_e', m1_lt, m1_le, m1_m1, lt_m1, ↓reduceIte, Nat.add_zero, Nat.zero_add, k, hcr', hx]
/-- how far a clock is from the one that it is derived from at last -/
theorem depth_ok (hF : 5000 < F) (hm : m ≤ 12) (hS : ∀ c k, c < m → S c = some k → k < m) (hs : ∀ c, c < m → mFrom md (12 + c) = pI (S c)) {c d : Nat} (hc : c < m) (hd : d < m) (h1 : itS S (d + 1) c = none) (h2 : ∀ j, j < d → ¬ itS S (j + 1) c = none) : f6_depth F (nI c) md = some (nI d) := by
  have hsc : md.2.2.1.2.2.1 (12 + c) = pI (S c) := hs c hc
  have k : iter (f6_depth_L12 md) F (nI 0, pI (itS S (0 + 1) c)) = some (nI d) := by
    refine iter_up (fun j => (nI j, pI (itS S (j + 1) c))) _ d (fun j hj => ?_) ?_ F 0 (by omega) (by omega)
    · cases hx : itS S (j + 1) c with
      | none => exact absurd hx (h2 j hj)
      | some x =>
        have hxm := itS_lt hS hc _ x hx
        have hsx : md.2.2.1.2.2.1 (12 + x) = pI (S x) := hs x hxm
        have pn : pI (some x) = nI x := rfl
        rw [pn, itS_s hx]
        unfold f6_depth_L12
        simp (disch := omega) only [li, ↓lim1, ↓bnd_m, ↓grd_m, ↓jn_e, ↓cas_m, ↓oc_m, inb_t, nI_add, pk_mul, sub_e, le_t, le_f, lt_t, lt_f, eq_t, eq_f, cl_e, m1_e, m1_e', m1_lt, m1_le, m1_m1, lt_m1, ↓reduceIte, Nat.add_zero, Nat.zero_add, hsx]
    · rw [h1]
      have pn : pI none = im1 := rfl
      rw [pn]
      unfold f6_depth_L12
      simp (disch := omega) only [li, ↓lim1, ↓bnd_m, ↓grd_m, ↓jn_e, ↓cas_m, ↓oc_m, inb_t, nI_add, pk_mul, sub_e, le_t, le_f, lt_t, lt_f, eq_t, eq_f, cl_e, m1_e, m1_e', m1_lt, m1_le, m1_m1, lt_m1, ↓reduceIte, Nat.add_zero, Nat.zero_add]
  rw [itS_1] at k
  unfold f6_depth
  simp (disch := omega) only [li, ↓lim1, ↓bnd_m, ↓grd_m, ↓jn_e, ↓cas_m, ↓oc_m, inb_t, nI_add, pk_mul, sub_e, le_t, le_f, lt_t, lt_f, eq_t, eq_f, cl_e, m1_e, m1_e', m1_lt, m1_le, m1_m1, lt_m1, ↓reduceIte, Nat.add_zero, Nat.zero_add, hsc, k]
end Ri
/-! ===== the clocks' times ===== -/
abbrev VT : Type := Bool × Nat × Nat × Nat × Nat
def vst (o w : Nat) (tu : Bool) (v : VT) : VT :=
  if v.1 = true then (true, 2, 0, 1, 1)
  else
    if 1000000 < v.2.1 * o / Nat.gcd (Nat.gcd (v.2.1 * o) ((if tu = true then v.2.2.2.1 else v.2.2.1) * o)) (Nat.gcd ((if tu = true then v.2.2.1 else v.2.2.2.1) * o) (v.2.2.2.2 * w)) ∨ 1000000 < v.2.2.2.2 * w / Nat.gcd (Nat.gcd (v.2.1 * o) ((if tu = true then v.2.2.2.1 else v.2.2.1) * o)) (Nat.gcd ((if tu = true then v.2.2.1 else v.2.2.2.1) * o) (v.2.2.2.2 * w)) then (true, 2, 0, 1, 1)
    else (false, v.2.1 * o / Nat.gcd (Nat.gcd (v.2.1 * o) ((if tu = true then v.2.2.2.1 else v.2.2.1) * o)) (Nat.gcd ((if tu = true then v.2.2.1 else v.2.2.2.1) * o) (v.2.2.2.2 * w)), (if tu = true then v.2.2.2.1 else v.2.2.1) * o / Nat.gcd (Nat.gcd (v.2.1 * o) ((if tu = true then v.2.2.2.1 else v.2.2.1) * o)) (Nat.gcd ((if tu = true then v.2.2.1 else v.2.2.2.1) * o) (v.2.2.2.2 * w)), (if tu = true then v.2.2.1 else v.2.2.2.1) * o / Nat.gcd (Nat.gcd (v.2.1 * o) ((if tu = true then v.2.2.2.1 else v.2.2.1) * o)) (Nat.gcd ((if tu = true then v.2.2.1 else v.2.2.2.1) * o) (v.2.2.2.2 * w)), v.2.2.2.2 * w / Nat.gcd (Nat.gcd (v.2.1 * o) ((if tu = true then v.2.2.2.1 else v.2.2.1) * o)) (Nat.gcd ((if tu = true then v.2.2.1 else v.2.2.2.1) * o) (v.2.2.2.2 * w)))
/-- the same, by its numbers -/
def vsx (g : Bool) (P R Q U : Nat) : VT := if g = true then (true, 2, 0, 1, 1) else if 1000000 < P / Nat.gcd (Nat.gcd P R) (Nat.gcd Q U) ∨ 1000000 < U / Nat.gcd (Nat.gcd P R) (Nat.gcd Q U) then (true, 2, 0, 1, 1) else (false, P / Nat.gcd (Nat.gcd P R) (Nat.gcd Q U), R / Nat.gcd (Nat.gcd P R) (Nat.gcd Q U), Q / Nat.gcd (Nat.gcd P R) (Nat.gcd Q U), U / Nat.gcd (Nat.gcd P R) (Nat.gcd Q U))
theorem vst_x (o w : Nat) (tu : Bool) (v : VT) : vst o w tu v = vsx v.1 (v.2.1 * o) ((if tu = true then v.2.2.2.1 else v.2.2.1) * o) ((if tu = true then v.2.2.1 else v.2.2.2.1) * o) (v.2.2.2.2 * w) := rfl
def vok (v : VT) : Prop := 0 < v.2.1 ∧ v.2.1 ≤ 1000000 ∧ v.2.2.1 < v.2.1 ∧ v.2.2.2.1 < v.2.1 ∧ 0 < v.2.2.2.2 ∧ v.2.2.2.2 ≤ 1000000
theorem mul_lim {a b A B : Nat} (ha : a ≤ A) (hb : b ≤ B) : a * b ≤ A * B := Nat.mul_le_mul ha hb
theorem vsx_ok {g : Bool} {P R Q U : Nat} (hP : 0 < P) (hR : R < P) (hQ : Q < P) (hU : 0 < U) : vok (vsx g P R Q U) := by
  unfold vsx
  have top : vok (true, 2, 0, 1, 1) := ⟨by decide, by decide, by decide, by decide, by decide, by decide⟩
  cases g with
  | true => exact top
  | false =>
    rw [if_neg (by decide)]
    by_cases c : 1000000 < P / Nat.gcd (Nat.gcd P R) (Nat.gcd Q U) ∨ 1000000 < U / Nat.gcd (Nat.gcd P R) (Nat.gcd Q U)
    · rw [if_pos c]; exact top
    · rw [if_neg c]
      have g1 : Nat.gcd P R ∣ P := Nat.gcd_dvd_left P R
      have g2 : Nat.gcd P R ∣ R := Nat.gcd_dvd_right P R
      have g3 : Nat.gcd Q U ∣ Q := Nat.gcd_dvd_left Q U
      have g4 : Nat.gcd Q U ∣ U := Nat.gcd_dvd_right Q U
      have d1 : Nat.gcd (Nat.gcd P R) (Nat.gcd Q U) ∣ P := Nat.dvd_trans (Nat.gcd_dvd_left _ _) g1
      have d2 : Nat.gcd (Nat.gcd P R) (Nat.gcd Q U) ∣ R := Nat.dvd_trans (Nat.gcd_dvd_left _ _) g2
      have d3 : Nat.gcd (Nat.gcd P R) (Nat.gcd Q U) ∣ Q := Nat.dvd_trans (Nat.gcd_dvd_right _ _) g3
      have d4 : Nat.gcd (Nat.gcd P R) (Nat.gcd Q U) ∣ U := Nat.dvd_trans (Nat.gcd_dvd_right _ _) g4
      have gp : 0 < Nat.gcd (Nat.gcd P R) (Nat.gcd Q U) := Nat.pos_of_dvd_of_pos d1 hP
      revert c
      generalize Nat.gcd (Nat.gcd P R) (Nat.gcd Q U) = G at *
      intro c
      have e1 : 0 < P / G := Nat.div_pos (Nat.le_of_dvd hP d1) gp
      have e4 : 0 < U / G := Nat.div_pos (Nat.le_of_dvd hU d4) gp
      have lt : ∀ X, G ∣ X → X < P → X / G < P / G := fun X hX hXP => by
        obtain ⟨a, rfl⟩ := hX
        obtain ⟨p, rfl⟩ := d1
        rw [Nat.mul_div_cancel_left _ gp, Nat.mul_div_cancel_left _ gp]
        exact Nat.lt_of_mul_lt_mul_left hXP
      exact ⟨e1, by show P / G ≤ 1000000; omega, lt R d2 hR, lt Q d3 hQ, e4, by show U / G ≤ 1000000; omega⟩
theorem vst_ok {o w : Nat} {tu : Bool} {v : VT} (h : vok v) (ho : 1 ≤ o) (hw : 1 ≤ w) : vok (vst o w tu v) := by
  obtain ⟨h1, h2, h3, h4, h5, h6⟩ := h
  rw [vst_x]
  refine vsx_ok (Nat.mul_pos h1 ho) ?_ ?_ (Nat.mul_pos h5 hw)
  · cases tu with
    | true => exact Nat.mul_lt_mul_of_pos_right h4 ho
    | false => exact Nat.mul_lt_mul_of_pos_right h3 ho
  · cases tu with
    | true => exact Nat.mul_lt_mul_of_pos_right h3 ho
    | false => exact Nat.mul_lt_mul_of_pos_right h4 ho
/-- the value of a clock -/
def vS (S : Nat → Option Nat) (o w h : Nat → Nat) (tu : Nat → Bool) : Nat → Nat → VT
  | 0, c => (false, o c, w c, h c, 1)
  | n + 1, c => match S c with
    | none => (false, o c, w c, h c, 1)
    | some k => vst (o c) (w c) (tu c) (vS S o w h tu n k)
theorem vS_n {S : Nat → Option Nat} {o w h : Nat → Nat} {tu : Nat → Bool} {n c : Nat} (e : S c = none) : vS S o w h tu n c = (false, o c, w c, h c, 1) := by
  cases n with
  | zero => rfl
  | succ n =>
    show (match S c with | none => _ | some k => _) = _
    rw [e]
theorem vS_s {S : Nat → Option Nat} {o w h : Nat → Nat} {tu : Nat → Bool} {n c k : Nat} (e : S c = some k) : vS S o w h tu (n + 1) c = vst (o c) (w c) (tu c) (vS S o w h tu n k) := by
  show (match S c with | none => _ | some k => _) = _
  rw [e]
theorem vS_st {S : Nat → Option Nat} {o w h : Nat → Nat} {tu : Nat → Bool} : ∀ d c, itS S (d + 1) c = none → ∀ n, d ≤ n → vS S o w h tu n c = vS S o w h tu d c := by
  intro d
  induction d with
  | zero =>
    intro c hc n _
    rw [itS_1] at hc
    rw [vS_n hc, vS_n hc]
  | succ d ih =>
    intro c hc n hn
    cases e : S c with
    | none => rw [vS_n e, vS_n e]
    | some k =>
      obtain ⟨n', rfl⟩ : ∃ x, n = x + 1 := ⟨n - 1, by omega⟩
      rw [vS_s e, vS_s e, ih k (by
        have h1 : itS S 1 c = some k := by rw [itS_1]; exact e
        have := itS_add h1 (d + 1)
        rw [show 1 + (d + 1) = d + 1 + 1 by omega, hc] at this
        exact this.symm) n' (by omega)]
section Se
variable {F m : Nat} {S : Nat → Option Nat} {ck : T0} {md : T6} {o w c k : Nat} {tu : Bool} {v : VT}
def SV (ck ck' : T0) (c : Nat) (v : VT) : Prop := ck'.1 = ck.1 ∧ ck'.2.1 = ck.2.1 ∧ ck'.2.2.1 = ck.2.2.1 ∧ ck'.2.2.2.1 = ck.2.2.2.1 ∧ ck'.2.2.2.2.1 = ck.2.2.2.2.1 ∧ kSiz ck' = kSiz ck ∧ (∀ j, ¬ j = c → kPer ck' j = kPer ck j ∧ kRis ck' j = kRis ck j ∧ kFal ck' j = kFal ck j ∧ kLow ck' j = kLow ck j ∧ kSet ck' j = kSet ck j ∧ kGre ck' j = kGre ck j) ∧ kSet ck' c = nI 1 ∧ kGre ck' c = b2 v.1 ∧ (v.1 = false → kPer ck' c = lN v.2.1 ∧ kRis ck' c = lN v.2.2.1 ∧ kFal ck' c = lN v.2.2.2.1 ∧ kLow ck' c = lN v.2.2.2.2)
theorem settle_ok (hF : 5000 < F) (hc : c < 12) (hk : k < 12) (hkc : ¬ k = c) (ht : kTim ck c = nI o) (ho : 1 ≤ o ∧ o ≤ 1000) (hd : kDiv ck c = nI w) (hw : 1 ≤ w ∧ w ≤ 1000) (htu : kTur ck c = b2 tu) (hg : kGre ck k = b2 v.1) (hv : v.1 = false → kPer ck k = lN v.2.1 ∧ kRis ck k = lN v.2.2.1 ∧ kFal ck k = lN v.2.2.2.1 ∧ kLow ck k = lN v.2.2.2.2) (hok : vok v) : ∃ ck', f0_settle F (nI c) (nI k) ck = some ck' ∧ SV ck ck' c (vst o w tu v) := by
  have ht' : ck.2.2.2.1 c = nI o := ht
  have hd' : ck.2.2.2.2.1 c = nI w := hd
  have htu' : ck.2.2.1 c = b2 tu := htu
  have hg' : ck.2.2.2.2.2.2.2.2.2.2.1 k = b2 v.1 := hg
  have gk : ∀ x, upd ck.2.2.2.2.2.2.2.2.2.2.1 c x k = b2 v.1 := fun x => by rw [pk_un hkc]; exact hg
  obtain ⟨v1, v2, v3, v4, v5, v6⟩ := hok
  rw [vst_x]
  obtain ⟨P, hP⟩ : ∃ x, x = v.2.1 * o := ⟨_, rfl⟩
  obtain ⟨R, hR⟩ : ∃ x, x = (if tu = true then v.2.2.2.1 else v.2.2.1) * o := ⟨_, rfl⟩
  obtain ⟨Q, hQ⟩ : ∃ x, x = (if tu = true then v.2.2.1 else v.2.2.2.1) * o := ⟨_, rfl⟩
  obtain ⟨U, hU⟩ : ∃ x, x = v.2.2.2.2 * w := ⟨_, rfl⟩
  rw [← hP, ← hR, ← hQ, ← hU]
  have lP : P ≤ 1000000 * 1000 := by rw [hP]; exact mul_lim v2 ho.2
  have lR : R ≤ 1000000 * 1000 := by rw [hR]; exact mul_lim (by cases tu <;> simp only [if_true, if_false, Bool.false_eq_true] <;> omega) ho.2
  have lQ : Q ≤ 1000000 * 1000 := by rw [hQ]; exact mul_lim (by cases tu <;> simp only [if_true, if_false, Bool.false_eq_true] <;> omega) ho.2
  have lU : U ≤ 1000000 * 1000 := by rw [hU]; exact mul_lim v6 hw.2
  have pP : 0 < P := by rw [hP]; exact Nat.mul_pos v1 ho.1
  have pU : 0 < U := by rw [hU]; exact Nat.mul_pos v5 hw.1
  have gPR : 0 < Nat.gcd P R := Nat.gcd_pos_of_pos_left _ pP
  have gQU : 0 < Nat.gcd Q U := Nat.gcd_pos_of_pos_right _ pU
  have lPR : Nat.gcd P R ≤ P := Nat.le_of_dvd pP (Nat.gcd_dvd_left P R)
  have lQU : Nat.gcd Q U ≤ U := Nat.le_of_dvd pU (Nat.gcd_dvd_right Q U)
  have c1 := cd_ok (F := F) (a := P) (b := R) (by omega) (by omega) (by omega) gPR
  have c2 := cd_ok (F := F) (a := Q) (b := U) (by omega) (by omega) (by omega) gQU
  obtain ⟨A, hA⟩ : ∃ x, x = Nat.gcd P R := ⟨_, rfl⟩
  obtain ⟨B, hB⟩ : ∃ x, x = Nat.gcd Q U := ⟨_, rfl⟩
  unfold vsx
  rw [← hA, ← hB]
  rw [← hA] at c1 gPR lPR
  rw [← hB] at c2 gQU lQU
  have gAB : 0 < Nat.gcd A B := Nat.gcd_pos_of_pos_left _ gPR
  have lAB : Nat.gcd A B ≤ A := Nat.le_of_dvd gPR (Nat.gcd_dvd_left A B)
  have c3 := cd_ok (F := F) (a := A) (b := B) (by omega) (by omega) (by omega) gAB
  obtain ⟨G, hG⟩ : ∃ x, x = Nat.gcd A B := ⟨_, rfl⟩
  rw [← hG]
  rw [← hG] at c3 gAB lAB
  have nb1 : ∀ b : Bool, vp_nar .boolean (b2 b) = b2 b := fun b => by cases b <;> decide
  have dP : P / G ≤ P := Nat.div_le_self _ _
  have dU : U / G ≤ U := Nat.div_le_self _ _
  cases hg1 : v.1 with
  | true =>
    rw [hg1, b2_t] at hg' gk
    rw [if_pos rfl]
    unfold f0_settle
    refine ⟨(ck.1, ck.2.1, ck.2.2.1, ck.2.2.2.1, ck.2.2.2.2.1, ck.2.2.2.2.2.1, ck.2.2.2.2.2.2.1, ck.2.2.2.2.2.2.2.1, ck.2.2.2.2.2.2.2.2.1, upd ck.2.2.2.2.2.2.2.2.2.1 c (nI 1), upd ck.2.2.2.2.2.2.2.2.2.2.1 c (nI 1), ck.2.2.2.2.2.2.2.2.2.2.2), ?_, ⟨rfl, rfl, rfl, rfl, rfl, rfl, fun j hj => ⟨rfl, rfl, rfl, rfl, pk_un hj, pk_un hj⟩, pk_us, pk_us, (fun h => by cases h)⟩⟩
    simp (disch := omega) only [li, ↓lim1, ↓bnd_m, ↓grd_m, ↓jn_e, ↓cas_m, ↓oc_m, inb_t, nI_add, pk_mul, sub_e, le_t, le_f, lt_t, lt_f, eq_t, eq_f, cl_e, m1_e, m1_e', m1_lt, m1_le, m1_m1, lt_m1, ↓reduceIte, Nat.add_zero, Nat.zero_add, hg', gk, nrB1]
  | false =>
    obtain ⟨w1, w2, w3, w4⟩ := hv hg1
    have w1' : ck.2.2.2.2.2.1 k = lN v.2.1 := w1
    have w2' : ck.2.2.2.2.2.2.1 k = lN v.2.2.1 := w2
    have w3' : ck.2.2.2.2.2.2.2.1 k = lN v.2.2.2.1 := w3
    have w4' : ck.2.2.2.2.2.2.2.2.1 k = lN v.2.2.2.2 := w4
    rw [hg1, b2_f] at hg' gk
    rw [if_neg (by decide)]
    unfold f0_settle
    have mP : lN v.2.1 * lN o = lN P := by rw [hP, lN_mul]
    have mU : lN v.2.2.2.2 * lN w = lN U := by rw [hU, lN_mul]
    have mA : (if tu = true then lN v.2.2.2.1 else lN v.2.2.1) * lN o = lN R := by rw [hR]; cases tu <;> simp only [if_true, if_false, Bool.false_eq_true, lN_mul]
    have mB : (if tu = true then lN v.2.2.1 else lN v.2.2.2.1) * lN o = lN Q := by rw [hQ]; cases tu <;> simp only [if_true, if_false, Bool.false_eq_true, lN_mul]
    have fin : ∀ b : Bool, (b = decide (1000000 < P / G ∨ 1000000 < U / G)) → SV ck (ck.1, ck.2.1, ck.2.2.1, ck.2.2.2.1, ck.2.2.2.2.1, vp_updL ck.2.2.2.2.2.1 c (lN (P / G)), vp_updL ck.2.2.2.2.2.2.1 c (lN (R / G)), vp_updL ck.2.2.2.2.2.2.2.1 c (lN (Q / G)), vp_updL ck.2.2.2.2.2.2.2.2.1 c (lN (U / G)), upd ck.2.2.2.2.2.2.2.2.2.1 c (nI 1), upd ck.2.2.2.2.2.2.2.2.2.2.1 c (b2 b), ck.2.2.2.2.2.2.2.2.2.2.2) c (if 1000000 < P / G ∨ 1000000 < U / G then (true, 2, 0, 1, 1) else (false, P / G, R / G, Q / G, U / G)) := by
      intro b hb
      refine ⟨rfl, rfl, rfl, rfl, rfl, rfl, fun j hj => ⟨pk_uLn hj, pk_uLn hj, pk_uLn hj, pk_uLn hj, pk_un hj, pk_un hj⟩, pk_us, ?_, ?_⟩
      · show upd ck.2.2.2.2.2.2.2.2.2.2.1 c (b2 b) c = _
        rw [pk_us, hb]
        by_cases cc : 1000000 < P / G ∨ 1000000 < U / G
        · rw [if_pos cc, decide_eq_true cc]
        · rw [if_neg cc, decide_eq_false cc]
      · by_cases cc : 1000000 < P / G ∨ 1000000 < U / G
        · rw [if_pos cc]; intro h; cases h
        · rw [if_neg cc]; intro _; exact ⟨pk_uLs, pk_uLs, pk_uLs, pk_uLs⟩
    by_cases q1 : 1000000 < P / G
    · refine ⟨_, ?_, fin true (by rw [decide_eq_true (Or.inl q1)])⟩
      rw [b2_t]
      cases tu with
      | true =>
        rw [b2_t] at htu'
        simp only [if_true] at mA mB
        simp (disch := omega) only [li, ↓lim1, ↓bnd_m, ↓grd_m, ↓jn_e, ↓cas_m, ↓oc_m, inb_t, nI_add, pk_mul, sub_e, le_t, le_f, lt_t, lt_f, eq_t, eq_f, cl_e, m1_e, m1_e', m1_lt, m1_le, m1_m1, lt_m1, ↓reduceIte, Nat.add_zero, Nat.zero_add, hg', gk, htu', w1', w2', w3', w4', ht', hd', l_e, mP, mU, mA, mB, c1, c2, c3, liL, divL, eqL_f, not_false_eq_true, decide_true, dnz, cmp_gt, cmp_le, ltL_t, ltL_f, leL_t, leL_f, pk_uLs, nrB1, nrB0, upd_uu]
      | false =>
        rw [b2_f] at htu'
        simp only [if_false, Bool.false_eq_true] at mA mB
        simp (disch := omega) only [li, ↓lim1, ↓bnd_m, ↓grd_m, ↓jn_e, ↓cas_m, ↓oc_m, inb_t, nI_add, pk_mul, sub_e, le_t, le_f, lt_t, lt_f, eq_t, eq_f, cl_e, m1_e, m1_e', m1_lt, m1_le, m1_m1, lt_m1, ↓reduceIte, Nat.add_zero, Nat.zero_add, hg', gk, htu', w1', w2', w3', w4', ht', hd', l_e, mP, mU, mA, mB, c1, c2, c3, liL, divL, eqL_f, not_false_eq_true, decide_true, dnz, cmp_gt, cmp_le, ltL_t, ltL_f, leL_t, leL_f, pk_uLs, nrB1, nrB0, upd_uu]
    · by_cases q2 : 1000000 < U / G
      · refine ⟨_, ?_, fin true (by rw [decide_eq_true (Or.inr q2)])⟩
        rw [b2_t]
        cases tu with
        | true =>
          rw [b2_t] at htu'
          simp only [if_true] at mA mB
          simp (disch := omega) only [li, ↓lim1, ↓bnd_m, ↓grd_m, ↓jn_e, ↓cas_m, ↓oc_m, inb_t, nI_add, pk_mul, sub_e, le_t, le_f, lt_t, lt_f, eq_t, eq_f, cl_e, m1_e, m1_e', m1_lt, m1_le, m1_m1, lt_m1, ↓reduceIte, Nat.add_zero, Nat.zero_add, hg', gk, htu', w1', w2', w3', w4', ht', hd', l_e, mP, mU, mA, mB, c1, c2, c3, liL, divL, eqL_f, not_false_eq_true, decide_true, dnz, cmp_gt, cmp_le, ltL_t, ltL_f, leL_t, leL_f, pk_uLs, nrB1, nrB0, upd_uu]
        | false =>
          rw [b2_f] at htu'
          simp only [if_false, Bool.false_eq_true] at mA mB
          simp (disch := omega) only [li, ↓lim1, ↓bnd_m, ↓grd_m, ↓jn_e, ↓cas_m, ↓oc_m, inb_t, nI_add, pk_mul, sub_e, le_t, le_f, lt_t, lt_f, eq_t, eq_f, cl_e, m1_e, m1_e', m1_lt, m1_le, m1_m1, lt_m1, ↓reduceIte, Nat.add_zero, Nat.zero_add, hg', gk, htu', w1', w2', w3', w4', ht', hd', l_e, mP, mU, mA, mB, c1, c2, c3, liL, divL, eqL_f, not_false_eq_true, decide_true, dnz, cmp_gt, cmp_le, ltL_t, ltL_f, leL_t, leL_f, pk_uLs, nrB1, nrB0, upd_uu]
      · refine ⟨_, ?_, fin false (by rw [decide_eq_false (by omega)])⟩
        rw [b2_f]
        cases tu with
        | true =>
          rw [b2_t] at htu'
          simp only [if_true] at mA mB
          simp (disch := omega) only [li, ↓lim1, ↓bnd_m, ↓grd_m, ↓jn_e, ↓cas_m, ↓oc_m, inb_t, nI_add, pk_mul, sub_e, le_t, le_f, lt_t, lt_f, eq_t, eq_f, cl_e, m1_e, m1_e', m1_lt, m1_le, m1_m1, lt_m1, ↓reduceIte, Nat.add_zero, Nat.zero_add, hg', gk, htu', w1', w2', w3', w4', ht', hd', l_e, mP, mU, mA, mB, c1, c2, c3, liL, divL, eqL_f, not_false_eq_true, decide_true, dnz, cmp_gt, cmp_le, ltL_t, ltL_f, leL_t, leL_f, pk_uLs, nrB1, nrB0, upd_uu]
        | false =>
          rw [b2_f] at htu'
          simp only [if_false, Bool.false_eq_true] at mA mB
          simp (disch := omega) only [li, ↓lim1, ↓bnd_m, ↓grd_m, ↓jn_e, ↓cas_m, ↓oc_m, inb_t, nI_add, pk_mul, sub_e, le_t, le_f, lt_t, lt_f, eq_t, eq_f, cl_e, m1_e, m1_e', m1_lt, m1_le, m1_m1, lt_m1, ↓reduceIte, Nat.add_zero, Nat.zero_add, hg', gk, htu', w1', w2', w3', w4', ht', hd', l_e, mP, mU, mA, mB, c1, c2, c3, liL, divL, eqL_f, not_false_eq_true, decide_true, dnz, cmp_gt, cmp_le, ltL_t, ltL_f, leL_t, leL_f, pk_uLs, nrB1, nrB0, upd_uu]
end Se
/-! ===== all clocks' times ===== -/
def dpf (S : Nat → Option Nat) : Nat → Nat → Nat
  | 0, _ => 0
  | n + 1, c => match S c with
    | none => 0
    | some k => dpf S n k + 1
theorem dpf_n {S : Nat → Option Nat} {n c : Nat} (e : S c = none) : dpf S n c = 0 := by
  cases n with
  | zero => rfl
  | succ n => show (match S c with | none => 0 | some k => _) = _; rw [e]
theorem dpf_s {S : Nat → Option Nat} {n c k : Nat} (e : S c = some k) : dpf S (n + 1) c = dpf S n k + 1 := by
  show (match S c with | none => 0 | some k => _) = _; rw [e]
theorem itS_1s {S : Nat → Option Nat} {c k : Nat} (e : S c = some k) (j : Nat) : itS S (j + 1) c = itS S j k := by
  have h1 : itS S 1 c = some k := by rw [itS_1]; exact e
  have := itS_add h1 j
  rw [Nat.add_comm] at this
  exact this
theorem dpf_d {S : Nat → Option Nat} : ∀ d c, itS S (d + 1) c = none → (∀ j, j < d → ¬ itS S (j + 1) c = none) → ∀ n, d ≤ n → dpf S n c = d := by
  intro d
  induction d with
  | zero =>
    intro c h _ n _
    rw [itS_1] at h
    exact dpf_n h
  | succ d ih =>
    intro c h1 h2 n hn
    cases e : S c with
    | none => exact absurd (by rw [itS_1]; exact e) (h2 0 (by omega))
    | some k =>
      obtain ⟨n', rfl⟩ : ∃ x, n = x + 1 := ⟨n - 1, by omega⟩
      rw [dpf_s e, ih k (by rw [← itS_1s e]; exact h1) (fun j hj => by rw [← itS_1s e]; exact h2 (j + 1) (by omega)) n' (by omega)]
abbrev dep (S : Nat → Option Nat) (c : Nat) : Nat := dpf S 12 c
section Gr
variable {F m : Nat} {S : Nat → Option Nat} {ck : T0} {md : T6} {o w h : Nat → Nat} {tu : Nat → Bool} {rd : T2} {sh : T3}
theorem dep_ok (hS : ∀ c k, c < m → S c = some k → k < m) (hm : m ≤ 12) (hr : ∀ c, c < m → ¬ rng S c) {c : Nat} (hc : c < m) : dep S c < m ∧ itS S (dep S c + 1) c = none ∧ (∀ j, j < dep S c → ¬ itS S (j + 1) c = none) ∧ (∀ k, S c = some k → dep S c = dep S k + 1 ∧ ¬ k = c) ∧ (S c = none → dep S c = 0) := by
  obtain ⟨d, h1, h2, h3⟩ := chain hS hm hr hc
  have e : dep S c = d := dpf_d d c h2 h3 12 (by omega)
  refine ⟨by rw [e]; exact h1, by rw [e]; exact h2, by rw [e]; exact h3, fun k hk => ?_, fun hk => dpf_n hk⟩
  obtain ⟨d', g1, g2, g3⟩ := chain hS hm hr (hS c k hc hk)
  have e' := dpf_d d' k g2 g3 12 (by omega)
  have e'' := dpf_d d' k g2 g3 11 (by
    by_cases c : d' ≤ 11
    · exact c
    · omega)
  refine ⟨?_, fun hkc => ?_⟩
  · show dpf S (11 + 1) c = dpf S 12 k + 1
    rw [dpf_s hk, e', e'']
  · subst hkc
    exact hr k hc ⟨0, by omega, by rw [itS_1]; exact hk⟩
abbrev VV (S : Nat → Option Nat) (o w h : Nat → Nat) (tu : Nat → Bool) (c : Nat) : VT := vS S o w h tu 12 c
theorem VV_s (hS : ∀ c k, c < m → S c = some k → k < m) (hm : m ≤ 12) (hr : ∀ c, c < m → ¬ rng S c) {c k : Nat} (hc : c < m) (hk : S c = some k) : VV S o w h tu c = vst (o c) (w c) (tu c) (VV S o w h tu k) := by
  obtain ⟨d1, d2, _, _, _⟩ := dep_ok hS hm hr (hS c k hc hk)
  show vS S o w h tu (11 + 1) c = _
  show _ = vst (o c) (w c) (tu c) (vS S o w h tu 12 k)
  rw [vS_s hk, vS_st _ _ d2 11 (by omega), vS_st _ _ d2 12 (by omega)]
theorem VV_ok (hS : ∀ c k, c < m → S c = some k → k < m) (hm : m ≤ 12) (hr : ∀ c, c < m → ¬ rng S c) (b0 : ∀ c, c < m → S c = none → 1 ≤ o c ∧ o c ≤ 999999 ∧ w c < o c ∧ h c < o c) (b1 : ∀ c k, c < m → S c = some k → 1 ≤ o c ∧ o c ≤ 1000 ∧ 1 ≤ w c ∧ w c ≤ 1000) : ∀ d c, c < m → dep S c = d → vok (VV S o w h tu c) := by
  intro d
  induction d with
  | zero =>
    intro c hc hd
    cases e : S c with
    | none =>
      have : VV S o w h tu c = _ := vS_n e
      rw [this]
      obtain ⟨x1, x2, x3, x4⟩ := b0 c hc e
      exact ⟨x1, by show o c ≤ 1000000; omega, x3, x4, by show 0 < 1; omega, by show 1 ≤ 1000000; omega⟩
    | some k =>
      have := ((dep_ok hS hm hr hc).2.2.2.1 k e).1
      omega
  | succ d ih =>
    intro c hc hd
    cases e : S c with
    | none => have := (dep_ok hS hm hr hc).2.2.2.2 e; omega
    | some k =>
      have h1 := ((dep_ok hS hm hr hc).2.2.2.1 k e).1
      rw [VV_s hS hm hr hc e]
      obtain ⟨x1, x2, x3, x4⟩ := b1 c k hc e
      exact vst_ok (ih k (hS c k hc e) (by omega)) x1 x3
/-! the class -/
def CV (ck : T0) (m : Nat) (S : Nat → Option Nat) (o w : Nat → Nat) (tu : Nat → Bool) (V : Nat → VT) (st : Nat → Bool) : Prop := kSiz ck = nI m ∧ ∀ c, c < m → kSrc ck c = pI (S c) ∧ kSet ck c = b2 (st c) ∧ (st c = true → kGre ck c = b2 (V c).1 ∧ ((V c).1 = false → kPer ck c = lN (V c).2.1 ∧ kRis ck c = lN (V c).2.2.1 ∧ kFal ck c = lN (V c).2.2.2.1 ∧ kLow ck c = lN (V c).2.2.2.2)) ∧ (∀ k, S c = some k → kTim ck c = nI (o c) ∧ kDiv ck c = nI (w c) ∧ kTur ck c = b2 (tu c))
theorem settleAll_ok (hF : 5000 < F) (hS : ∀ c k, c < m → S c = some k → k < m) (hm : m ≤ 12) (hr : ∀ c, c < m → ¬ rng S c) (b0 : ∀ c, c < m → S c = none → 1 ≤ o c ∧ o c ≤ 999999 ∧ w c < o c ∧ h c < o c) (b1 : ∀ c k, c < m → S c = some k → 1 ≤ o c ∧ o c ≤ 1000 ∧ 1 ≤ w c ∧ w c ≤ 1000) {st0 : Nat → Bool} (H : CV ck m S o w tu (VV S o w h tu) st0) (h0 : ∀ c, c < m → S c = none → st0 c = true) : ∃ ck', f0_settleAll F ck = some ck' ∧ ck'.1 = ck.1 ∧ CV ck' m S o w tu (VV S o w h tu) (fun _ => true) := by
  have inner : ∀ (j : Nat) (ck1 : T0) (st : Nat → Bool), ck1.1 = ck.1 → CV ck1 m S o w tu (VV S o w h tu) st → (∀ c, c < m → dep S c ≤ j → st c = true) → ∃ q, iter (f0_settleAll_L12 F) F (nI 0, ck1) = some q ∧ ∃ st', q.1 = ck.1 ∧ CV q m S o w tu (VV S o w h tu) st' ∧ ∀ c, c < m → dep S c ≤ j + 1 → st' c = true := by
    intro j ck1 st e1 H1 hj
    refine iter_rule (b := f0_settleAll_L12 F)
      (fun d s => ∃ (i : Nat) (st : Nat → Bool) (ck2 : T0), d + i = m ∧ s = (nI i, ck2) ∧ ck2.1 = ck.1 ∧ CV ck2 m S o w tu (VV S o w h tu) st ∧ (∀ c, c < m → dep S c ≤ j → st c = true) ∧ ∀ c, c < i → dep S c ≤ j + 1 → st c = true)
      (fun q => ∃ st', q.1 = ck.1 ∧ CV q m S o w tu (VV S o w h tu) st' ∧ ∀ c, c < m → dep S c ≤ j + 1 → st' c = true)
      ?_ F m (nI 0, ck1) (by omega) ⟨0, st, ck1, by omega, rfl, e1, H1, hj, fun c hc => by omega⟩
    rintro d s ⟨i, st, ck2, hd, rfl, r1, H2, g1, g2⟩
    have hsz : ck2.2.2.2.2.2.2.2.2.2.2.2 = nI m := H2.1
    by_cases hl : m ≤ i
    · refine Or.inr ⟨ck2, ?_, st, r1, H2, fun c hc => g2 c (by omega)⟩
      unfold f0_settleAll_L12
      simp (disch := omega) only [li, ↓lim1, ↓bnd_m, ↓grd_m, ↓jn_e, ↓cas_m, ↓oc_m, inb_t, nI_add, pk_mul, sub_e, le_t, le_f, lt_t, lt_f, eq_t, eq_f, cl_e, m1_e, m1_e', m1_lt, m1_le, m1_m1, lt_m1, ↓reduceIte, Nat.add_zero, Nat.zero_add, hsz]
    · have hi : i < m := by omega
      obtain ⟨a1, a2, a3, a4⟩ := H2.2 i hi
      have a1' : ck2.2.1 i = pI (S i) := a1
      have a2' : ck2.2.2.2.2.2.2.2.2.2.1 i = b2 (st i) := a2
      cases hst : st i with
      | true =>
        refine Or.inl ⟨(nI (i + 1), ck2), d - 1, by omega, ?_, i + 1, st, ck2, by omega, rfl, r1, H2, g1, fun c hc hdc => ?_⟩
        · rw [hst, b2_t] at a2'
          unfold f0_settleAll_L12
          simp (disch := omega) only [li, ↓lim1, ↓bnd_m, ↓grd_m, ↓jn_e, ↓cas_m, ↓oc_m, inb_t, nI_add, pk_mul, sub_e, le_t, le_f, lt_t, lt_f, eq_t, eq_f, cl_e, m1_e, m1_e', m1_lt, m1_le, m1_m1, lt_m1, ↓reduceIte, Nat.add_zero, Nat.zero_add, hsz, a2']
        · by_cases ec : c = i
          · rw [ec]; exact hst
          · exact g2 c (by omega) hdc
      | false =>
        rw [hst, b2_f] at a2'
        have hdi : ¬ dep S i ≤ j := fun hh => by have := g1 i hi hh; rw [hst] at this; cases this
        cases hk : S i with
        | none =>
          have := (dep_ok hS hm hr hi).2.2.2.2 hk
          omega
        | some k =>
          have hkm := hS i k hi hk
          obtain ⟨dk, nk⟩ := (dep_ok hS hm hr hi).2.2.2.1 k hk
          have hh := has_n (k := k) H2.1 (by omega) (by omega)
          rw [if_pos hkm] at hh
          have pk : pI (some k) = nI k := rfl
          rw [hk, pk] at a1'
          obtain ⟨k1, k2, k3, k4⟩ := H2.2 k hkm
          have k2' : ck2.2.2.2.2.2.2.2.2.2.1 k = b2 (st k) := k2
          cases hstk : st k with
          | false =>
            refine Or.inl ⟨(nI (i + 1), ck2), d - 1, by omega, ?_, i + 1, st, ck2, by omega, rfl, r1, H2, g1, fun c hc hdc => ?_⟩
            · rw [hstk, b2_f] at k2'
              unfold f0_settleAll_L12
              simp (disch := omega) only [li, ↓lim1, ↓bnd_m, ↓grd_m, ↓jn_e, ↓cas_m, ↓oc_m, inb_t, nI_add, pk_mul, sub_e, le_t, le_f, lt_t, lt_f, eq_t, eq_f, cl_e, m1_e, m1_e', m1_lt, m1_le, m1_m1, lt_m1, ↓reduceIte, Nat.add_zero, Nat.zero_add, hsz, a1', a2', hh, k2']
            · by_cases ec : c = i
              · rw [ec] at hdc
                have := g1 k hkm (by omega)
                rw [hstk] at this; cases this
              · exact g2 c (by omega) hdc
          | true =>
            rw [hstk, b2_t] at k2'
            obtain ⟨t1, t2, t3⟩ := a4 k hk
            obtain ⟨x1, x2, x3, x4⟩ := b1 i k hi hk
            obtain ⟨v1, v2⟩ := k3 hstk
            obtain ⟨ck3, s1, s2⟩ := settle_ok hF (show i < 12 by omega) (show k < 12 by omega) nk t1 ⟨x1, x2⟩ t2 ⟨x3, x4⟩ t3 v1 v2 (VV_ok hS hm hr b0 b1 _ k hkm rfl)
            rw [← VV_s hS hm hr hi hk] at s2
            obtain ⟨q1, q2, q3, q4, q5, q6, q7, q8, q9, q10⟩ := s2
            refine Or.inl ⟨(nI (i + 1), ck3), d - 1, by omega, ?_, i + 1, gu st i true, ck3, by omega, rfl, q1.trans r1, ⟨q6.trans H2.1, fun c hc => ?_⟩, fun c hc hdc => ?_, fun c hc hdc => ?_⟩
            · unfold f0_settleAll_L12
              simp (disch := omega) only [li, ↓lim1, ↓bnd_m, ↓grd_m, ↓jn_e, ↓cas_m, ↓oc_m, inb_t, nI_add, pk_mul, sub_e, le_t, le_f, lt_t, lt_f, eq_t, eq_f, cl_e, m1_e, m1_e', m1_lt, m1_le, m1_m1, lt_m1, ↓reduceIte, Nat.add_zero, Nat.zero_add, hsz, a1', a2', hh, k2', s1]
            · show ck3.2.1 c = _ ∧ _ ∧ _ ∧ ∀ k, S c = some k → ck3.2.2.2.1 c = _ ∧ ck3.2.2.2.2.1 c = _ ∧ ck3.2.2.1 c = _
              rw [q2, q3, q4, q5]
              obtain ⟨c1, c2, c3, c4⟩ := H2.2 c hc
              by_cases ec : c = i
              · subst ec
                rw [gu_s]
                exact ⟨c1, q8, fun _ => ⟨q9, q10⟩, c4⟩
              · obtain ⟨p1, p2, p3, p4, p5, p6⟩ := q7 c ec
                rw [gu_n ec, p1, p2, p3, p4, p5, p6]
                exact ⟨c1, c2, c3, c4⟩
            · by_cases ec : c = i
              · rw [ec, gu_s]
              · rw [gu_n ec]; exact g1 c hc hdc
            · by_cases ec : c = i
              · rw [ec, gu_s]
              · rw [gu_n ec]; exact g2 c (by omega) hdc
  have outer := iter_rule (b := f0_settleAll_L2 F)
    (fun d s => ∃ (j : Nat) (st : Nat → Bool) (ck2 : T0), d + j = m ∧ s = (nI j, ck2) ∧ ck2.1 = ck.1 ∧ CV ck2 m S o w tu (VV S o w h tu) st ∧ ∀ c, c < m → dep S c ≤ j → st c = true)
    (fun q => q.1 = ck.1 ∧ CV q m S o w tu (VV S o w h tu) (fun _ => true))
    (by
      rintro d s ⟨j, st, ck2, hd, rfl, r1, H2, g1⟩
      have hsz : ck2.2.2.2.2.2.2.2.2.2.2.2 = nI m := H2.1
      by_cases hl : m ≤ j
      · refine Or.inr ⟨ck2, ?_, r1, H2.1, fun c hc => ?_⟩
        · unfold f0_settleAll_L2
          simp (disch := omega) only [li, ↓lim1, ↓bnd_m, ↓grd_m, ↓jn_e, ↓cas_m, ↓oc_m, inb_t, nI_add, pk_mul, sub_e, le_t, le_f, lt_t, lt_f, eq_t, eq_f, cl_e, m1_e, m1_e', m1_lt, m1_le, m1_m1, lt_m1, ↓reduceIte, Nat.add_zero, Nat.zero_add, hsz]
        · have hst := g1 c hc (by have := (dep_ok hS hm hr hc).1; omega)
          have := H2.2 c hc
          rw [hst] at this
          exact ⟨this.1, this.2.1, fun _ => this.2.2.1 rfl, this.2.2.2⟩
      · obtain ⟨q, q1, st', q2, q3, q4⟩ := inner j ck2 st r1 H2 g1
        refine Or.inl ⟨(nI (j + 1), q), d - 1, by omega, ?_, j + 1, st', q, by omega, rfl, q2, q3, q4⟩
        unfold f0_settleAll_L2
        simp (disch := omega) only [li, ↓lim1, ↓bnd_m, ↓grd_m, ↓jn_e, ↓cas_m, ↓oc_m, inb_t, nI_add, pk_mul, sub_e, le_t, le_f, lt_t, lt_f, eq_t, eq_f, cl_e, m1_e, m1_e', m1_lt, m1_le, m1_m1, lt_m1, ↓reduceIte, Nat.add_zero, Nat.zero_add, hsz, q1])
    F m (nI 0, ck) (by omega) ⟨0, st0, ck, by omega, rfl, rfl, H, fun c hc hd => h0 c hc (by
      cases e : S c with
      | none => rfl
      | some k => have := ((dep_ok hS hm hr hc).2.2.2.1 k e).1; omega)⟩
  obtain ⟨q, hq, h1, h2⟩ := outer
  have hq' : iter (f0_settleAll_L2 F) F (nI 0, ck) = some q := hq
  refine ⟨q, ?_, h1, h2⟩
  unfold f0_settleAll
  simp (disch := omega) only [li, ↓lim1, ↓bnd_m, ↓grd_m, ↓jn_e, ↓cas_m, ↓oc_m, inb_t, nI_add, pk_mul, sub_e, le_t, le_f, lt_t, lt_f, eq_t, eq_f, cl_e, m1_e, m1_e', m1_lt, m1_le, m1_m1, lt_m1, ↓reduceIte, Nat.add_zero, Nat.zero_add, hq']
theorem noneGreat_ok (hF : 5000 < F) (hm : m ≤ 12) {V : Nat → VT} {ck' : T0} (hs : f0_settleAll F ck = some ck') (H : CV ck' m S o w tu V (fun _ => true)) (hg : ∀ c, c < m → (V c).1 = false) : f2_hasNoneGreat F rd sh ck = some (nI 1, rd, ck') := by
  have hsz : ck'.2.2.2.2.2.2.2.2.2.2.2 = nI m := H.1
  have k : iter (f2_hasNoneGreat_L12 ck') F (nI 0) = some (.inr ()) := by
    refine iter_up (fun c => nI c) _ m (fun c hc => ?_) ?_ F 0 (by omega) (by omega)
    · have g : ck'.2.2.2.2.2.2.2.2.2.2.1 c = nI 0 := by
        have := ((H.2 c hc).2.2.1 rfl).1
        rw [hg c hc] at this
        exact this
      unfold f2_hasNoneGreat_L12
      simp (disch := omega) only [li, ↓lim1, ↓bnd_m, ↓grd_m, ↓jn_e, ↓cas_m, ↓oc_m, inb_t, nI_add, pk_mul, sub_e, le_t, le_f, lt_t, lt_f, eq_t, eq_f, cl_e, m1_e, m1_e', m1_lt, m1_le, m1_m1, lt_m1, ↓reduceIte, Nat.add_zero, Nat.zero_add, hsz, g]
    · unfold f2_hasNoneGreat_L12
      simp (disch := omega) only [li, ↓lim1, ↓bnd_m, ↓grd_m, ↓jn_e, ↓cas_m, ↓oc_m, inb_t, nI_add, pk_mul, sub_e, le_t, le_f, lt_t, lt_f, eq_t, eq_f, cl_e, m1_e, m1_e', m1_lt, m1_le, m1_m1, lt_m1, ↓reduceIte, Nat.add_zero, Nat.zero_add, hsz]
  unfold f2_hasNoneGreat
  simp (disch := omega) only [li, ↓lim1, ↓bnd_m, ↓grd_m, ↓jn_e, ↓cas_m, ↓oc_m, inb_t, nI_add, pk_mul, sub_e, le_t, le_f, lt_t, lt_f, eq_t, eq_f, cl_e, m1_e, m1_e', m1_lt, m1_le, m1_m1, lt_m1, ↓reduceIte, Nat.add_zero, Nat.zero_add, hs, k]
theorem isGreat_ok (hF : 5000 < F) (hm : m ≤ 12) {V : Nat → VT} {ck' : T0} (hs : f0_settleAll F ck = some ck') (H : CV ck' m S o w tu V (fun _ => true)) {c0 x : Nat} (hc : c0 < m) (hg0 : (V c0).1 = true) (hg : ∀ c, c < c0 → (V c).1 = false) (hx : rd.1 c0 = nI x) : ∃ rd', f2_hasNoneGreat F rd sh ck = some (nI 0, rd', ck') ∧ rd'.2.2.2.2.1 = nI x := by
  have hsz : ck'.2.2.2.2.2.2.2.2.2.2.2 = nI m := H.1
  have k : iter (f2_hasNoneGreat_L12 ck') F (nI 0) = some (.inl (nI c0)) := by
    refine iter_up (fun c => nI c) _ c0 (fun c hc' => ?_) ?_ F 0 (by omega) (by omega)
    · have g : ck'.2.2.2.2.2.2.2.2.2.2.1 c = nI 0 := by
        have := ((H.2 c (by omega)).2.2.1 rfl).1
        rw [hg c hc'] at this
        exact this
      unfold f2_hasNoneGreat_L12
      simp (disch := omega) only [li, ↓lim1, ↓bnd_m, ↓grd_m, ↓jn_e, ↓cas_m, ↓oc_m, inb_t, nI_add, pk_mul, sub_e, le_t, le_f, lt_t, lt_f, eq_t, eq_f, cl_e, m1_e, m1_e', m1_lt, m1_le, m1_m1, lt_m1, ↓reduceIte, Nat.add_zero, Nat.zero_add, hsz, g]
    · have g : ck'.2.2.2.2.2.2.2.2.2.2.1 c0 = nI 1 := by
        have := ((H.2 c0 hc).2.2.1 rfl).1
        rw [hg0] at this
        exact this
      unfold f2_hasNoneGreat_L12
      simp (disch := omega) only [li, ↓lim1, ↓bnd_m, ↓grd_m, ↓jn_e, ↓cas_m, ↓oc_m, inb_t, nI_add, pk_mul, sub_e, le_t, le_f, lt_t, lt_f, eq_t, eq_f, cl_e, m1_e, m1_e', m1_lt, m1_le, m1_m1, lt_m1, ↓reduceIte, Nat.add_zero, Nat.zero_add, hsz, g]
  refine ⟨(rd.1, rd.2.1, rd.2.2.1, rd.2.2.2.1, nI x, rd.2.2.2.2.2), ?_, rfl⟩
  unfold f2_hasNoneGreat
  simp (disch := omega) only [li, ↓lim1, ↓bnd_m, ↓grd_m, ↓jn_e, ↓cas_m, ↓oc_m, inb_t, nI_add, pk_mul, sub_e, le_t, le_f, lt_t, lt_f, eq_t, eq_f, cl_e, m1_e, m1_e', m1_lt, m1_le, m1_m1, lt_m1, ↓reduceIte, Nat.add_zero, Nat.zero_add, hs, k, hx]
end Gr
