/-! ===== the pure side: rules for programs in Option ===== -/
theorem bnd_s {α β : Type} (a : α) (k : α → Option β) : bnd (some a) k = k a := rfl
theorem bnd_e {α β : Type} {x : Option α} {a : α} {k : α → Option β} (h : x = some a) : bnd x k = k a := by rw [h]; rfl
theorem grd_e {α : Type} {b : Bool} {k : Option α} (h : b = true) : grd b k = k := by rw [h]; rfl
theorem jn_e {α β : Type} (k : α) (f : α → β) : jn k f = f k := rfl
theorem cas_el {α β γ : Type} (a : α) (k1 : α → γ) (k2 : β → γ) : cas (.inl a) k1 k2 = k1 a := rfl
theorem cas_er {α β γ : Type} (b : β) (k1 : α → γ) (k2 : β → γ) : cas (.inr b) k1 k2 = k2 b := rfl
theorem oc_n {α β : Type} (kn : β) (ks : α → β) : oc none kn ks = kn := rfl
theorem oc_s {α β : Type} (a : α) (kn : β) (ks : α → β) : oc (some a) kn ks = ks a := rfl
theorem iter_step {σ ρ : Type} {b : σ → Option (σ ⊕ ρ)} {n : Nat} {x y : σ} (h : b x = some (.inl y)) : iter b (n + 1) x = iter b n y := by
  show (match b x with | none => none | some (.inl y) => iter b n y | some (.inr r) => some r) = _
  rw [h]
theorem iter_stop {σ ρ : Type} {b : σ → Option (σ ⊕ ρ)} {n : Nat} {x : σ} {r : ρ} (h : b x = some (.inr r)) : iter b (n + 1) x = some r := by
  show (match b x with | none => none | some (.inl y) => iter b n y | some (.inr r) => some r) = _
  rw [h]
/-- a loop with a measure and an invariant -/
theorem iter_rule {σ ρ : Type} {b : σ → Option (σ ⊕ ρ)} (I : Nat → σ → Prop) (R : ρ → Prop)
    (step : ∀ k x, I k x → (∃ y k', k' < k ∧ b x = some (.inl y) ∧ I k' y) ∨ (∃ r, b x = some (.inr r) ∧ R r)) : ∀ (F k : Nat) (x : σ), k < F → I k x → ∃ r, iter b F x = some r ∧ R r := by
  intro F
  induction F with
  | zero => intro k x h; exact absurd h (Nat.not_lt_zero k)
  | succ F ih =>
    intro k x h hI
    rcases step k x hI with ⟨y, k', hk, hb, hy⟩ | ⟨r, hb, hr⟩
    · rw [iter_step hb]
      exact ih k' y (by omega) hy
    · exact ⟨r, iter_stop hb, hr⟩
/-- a loop that counts up by one from i to n, its state a function of the counter -/
theorem iter_up {σ ρ : Type} {b : σ → Option (σ ⊕ ρ)} (st : Nat → σ) (r : ρ) (n : Nat) (hs : ∀ i, i < n → b (st i) = some (.inl (st (i + 1)))) (hx : b (st n) = some (.inr r)) : ∀ (F i : Nat), i ≤ n → n - i < F → iter b F (st i) = some r := by
  intro F
  induction F with
  | zero => intro i _ h; exact absurd h (Nat.not_lt_zero _)
  | succ F ih =>
    intro i hi h
    by_cases e : i = n
    · subst e; exact iter_stop hx
    · rw [iter_step (hs i (by omega))]
      exact ih (i + 1) (by omega) (by omega)
/-! numbers -/
theorem inb_nI {k n : Nat} (h : k < n) (hn : n < 2 ^ 31) : inb (nI k) n = true := decide_eq_true (nI_in h hn)
theorem nI_c (k : Nat) (h : k < 2 ^ 31) : (nI k).toNatClampNeg = k := nI_clamp h
theorem n0 : (0 : Int32) = nI 0 := by decide
theorem n1 : (1 : Int32) = nI 1 := by decide
theorem isB_0 : isB 0 = true := by decide
theorem isB_1 : isB 1 = true := by decide
/-! the model's fields by name -/
abbrev mCode (m : T6) : Int32 := m.1.1
abbrev mLet (m : T6) : Nat → Int32 := m.1.2.1
abbrev mSiz (m : T6) : Nat → Int32 := m.1.2.2.1
abbrev mTape (m : T6) : Nat → Int32 := m.1.2.2.2.1
abbrev mLen (m : T6) : Int32 := m.1.2.2.2.2
abbrev mRows (m : T6) : Int32 := m.2.1.1
abbrev mSort (m : T6) : Nat → Int32 := m.2.1.2.1
abbrev mNC (m : T6) : Nat → Int64 := m.2.1.2.2.1
abbrev mND (m : T6) : Nat → Int64 := m.2.1.2.2.2.1
abbrev mOne (m : T6) : Nat → Int32 := m.2.1.2.2.2.2.1
abbrev mTwo (m : T6) : Nat → Int32 := m.2.1.2.2.2.2.2.1
abbrev mThr (m : T6) : Nat → Int32 := m.2.1.2.2.2.2.2.2.1
abbrev mPat (m : T6) : Nat → Int32 := m.2.1.2.2.2.2.2.2.2.1
abbrev mPs (m : T6) : Nat → Int32 := m.2.1.2.2.2.2.2.2.2.2
abbrev mClk (m : T6) : Int32 := m.2.2.1.1
abbrev mCr (m : T6) : Nat → Int32 := m.2.2.1.2.1
abbrev mFrom (m : T6) : Nat → Int32 := m.2.2.1.2.2.1
abbrev mPer (m : T6) : Nat → Int64 := m.2.2.1.2.2.2.1
abbrev mRis (m : T6) : Nat → Int64 := m.2.2.1.2.2.2.2.1
abbrev mFal (m : T6) : Nat → Int64 := m.2.2.1.2.2.2.2.2.1
abbrev mUnd (m : T6) : Nat → Int64 := m.2.2.1.2.2.2.2.2.2.1
abbrev mGre (m : T6) : Nat → Int32 := m.2.2.1.2.2.2.2.2.2.2
/-! the sheet's -/
abbrev sSort (s : T3) : Nat → Int32 := s.1
abbrev sVal (s : T3) : Nat → Int32 := s.2.1
abbrev sLnk (s : T3) : Nat → Int32 := s.2.2.1
abbrev sPst (s : T3) : Nat → Int32 := s.2.2.2.1
abbrev sPln (s : T3) : Nat → Int32 := s.2.2.2.2.1
abbrev sHit (s : T3) : Nat → Int64 := s.2.2.2.2.2.1
abbrev sPr (s : T3) : Nat → Int32 := s.2.2.2.2.2.2.1
abbrev sRc (s : T3) : Int32 := s.2.2.2.2.2.2.2.1
abbrev sPl (s : T3) : Int32 := s.2.2.2.2.2.2.2.2
/-! the clocks' -/
abbrev kRow (k : T0) : Nat → Int32 := k.1
abbrev kSrc (k : T0) : Nat → Int32 := k.2.1
abbrev kTur (k : T0) : Nat → Int32 := k.2.2.1
abbrev kTim (k : T0) : Nat → Int32 := k.2.2.2.1
abbrev kDiv (k : T0) : Nat → Int32 := k.2.2.2.2.1
abbrev kPer (k : T0) : Nat → Int64 := k.2.2.2.2.2.1
abbrev kRis (k : T0) : Nat → Int64 := k.2.2.2.2.2.2.1
abbrev kFal (k : T0) : Nat → Int64 := k.2.2.2.2.2.2.2.1
abbrev kLow (k : T0) : Nat → Int64 := k.2.2.2.2.2.2.2.2.1
abbrev kSet (k : T0) : Nat → Int32 := k.2.2.2.2.2.2.2.2.2.1
abbrev kGre (k : T0) : Nat → Int32 := k.2.2.2.2.2.2.2.2.2.2.1
abbrev kSiz (k : T0) : Int32 := k.2.2.2.2.2.2.2.2.2.2.2
/-! characters -/
def isCh (u : Int32) : Prop := (32 ≤ u ∧ u ≤ 126) ∨ u = 10
def isNm (u : Int32) : Prop := (97 ≤ u ∧ u ≤ 122) ∨ (48 ≤ u ∧ u ≤ 57) ∨ u = 95 ∨ u = 47
theorem ch_nat {u : Int32} (h : isCh u) : ∃ k : Nat, k < 128 ∧ u = nI k := by
  rcases h with ⟨h1, h2⟩ | h
  · have a1 := Int32.le_iff_toInt_le.mp h1
    have a2 := Int32.le_iff_toInt_le.mp h2
    have b1 : (32 : Int32).toInt = 32 := by decide
    have b2 : (126 : Int32).toInt = 126 := by decide
    refine ⟨u.toInt.toNat, by omega, Int32.toInt_inj.mp ?_⟩
    rw [nI_toInt (by omega)]
    omega
  · exact ⟨10, by omega, by rw [h]; decide⟩
theorem nm_nat {u : Int32} (h : isNm u) : ∃ k : Nat, k < 128 ∧ u = nI k := by
  have go : ∀ (a b : Int32), 0 ≤ a.toInt → b.toInt < 128 → a ≤ u → u ≤ b → ∃ k : Nat, k < 128 ∧ u = nI k := by
    intro a b ha hb h1 h2
    have a1 := Int32.le_iff_toInt_le.mp h1
    have a2 := Int32.le_iff_toInt_le.mp h2
    refine ⟨u.toInt.toNat, by omega, Int32.toInt_inj.mp ?_⟩
    rw [nI_toInt (by omega)]
    omega
  rcases h with ⟨h1, h2⟩ | ⟨h1, h2⟩ | h | h
  · exact go _ _ (by decide) (by decide) h1 h2
  · exact go _ _ (by decide) (by decide) h1 h2
  · exact ⟨95, by omega, by rw [h]; decide⟩
  · exact ⟨47, by omega, by rw [h]; decide⟩
/-- a small number is a char as it is -/
theorem c_id {k : Nat} (h : k < 65536) : vp_nar .char (xi2c (nI k)) = nI k := by
  have h1 : xi2c (nI k) = nI k := by
    show ((nI k).toUInt32 % 65536).toInt32 = nI k
    rw [pk_char, pk_tn (by omega)]
    rw [Nat.mod_eq_of_lt h]
  rw [h1]
  unfold vp_nar
  rw [(pk_charN h).1]
theorem isC_n {k : Nat} (h : k < 65536) : isC (nI k) = true := decide_eq_true (pk_charN h).1
/-! ===== numbers: literals and arithmetic as Nat, for simp ===== -/
theorem li (n : Nat) : (OfNat.ofNat n : Int32) = nI (OfNat.ofNat n) := rfl
def im1 : Int32 := -1
theorem lim1 : (-1 : Int32) = im1 := rfl
theorem grd_in {α : Type} {k n : Nat} {x : Option α} (h : k < n) (hn : n < 2147483648) : grd (inb (nI k) n) x = x := grd_e (inb_nI h hn)
theorem grd_t {α : Type} {x : Option α} : grd true x = x := rfl
theorem sub_e {a b : Nat} (h : b ≤ a) : nI a - nI b = nI (a - b) := pk_sub h
theorem le_e {a b : Nat} (ha : a < 2147483648) (hb : b < 2147483648) : (nI a ≤ nI b) = (a ≤ b) := propext (nI_leI ha hb)
theorem lt_e {a b : Nat} (ha : a < 2147483648) (hb : b < 2147483648) : (nI a < nI b) = (a < b) := propext (nI_ltI ha hb)
theorem eq_e {a b : Nat} (ha : a < 2147483648) (hb : b < 2147483648) : (nI a = nI b) = (a = b) := propext (nI_eq ha hb)
theorem cl_e {a : Nat} (ha : a < 2147483648) : (nI a).toNatClampNeg = a := nI_clamp ha
theorem im1_i : im1.toInt = -1 := by decide
theorem m1_e {a : Nat} (ha : a < 2147483648) : (nI a = im1) = False := by
  refine propext ⟨fun h => ?_, False.elim⟩
  have := congrArg Int32.toInt h
  rw [nI_toInt ha, im1_i] at this
  omega
theorem m1_e' {a : Nat} (ha : a < 2147483648) : (im1 = nI a) = False := by
  refine propext ⟨fun h => ?_, False.elim⟩
  have := congrArg Int32.toInt h
  rw [nI_toInt ha, im1_i] at this
  omega
theorem m1_lt {a : Nat} (ha : a < 2147483648) : (im1 < nI a) = True := by
  refine propext ⟨fun _ => trivial, fun _ => ?_⟩
  rw [Int32.lt_iff_toInt_lt, nI_toInt ha, im1_i]
  omega
theorem m1_le {a : Nat} (ha : a < 2147483648) : (nI a ≤ im1) = False := by
  refine propext ⟨fun h => ?_, False.elim⟩
  rw [Int32.le_iff_toInt_le, nI_toInt ha, im1_i] at h
  omega
theorem lt_m1 {a : Nat} (ha : a < 2147483648) : (nI a < im1) = False := by
  refine propext ⟨fun h => ?_, False.elim⟩
  rw [Int32.lt_iff_toInt_lt, nI_toInt ha, im1_i] at h
  omega
theorem m1_eq : (im1 = im1) = True := eq_self im1
/-- any int: below 0, or a natural number -/
theorem int_cases (x : Int32) : x < 0 ∨ ∃ j : Nat, j < 2147483648 ∧ x = nI j := by
  by_cases h : x < 0
  · exact Or.inl h
  · obtain ⟨j, hj, e⟩ := nI_of h
    exact Or.inr ⟨j, hj, e⟩
theorem neg_lt {x : Int32} (h : x < 0) : (x < nI 0) = True := eq_true h
theorem neg_ge {x : Int32} (h : x < 0) {a : Nat} (ha : a < 2147483648) : ¬ nI a ≤ x := by
  rw [Int32.lt_iff_toInt_lt] at h
  rw [Int32.le_iff_toInt_le, nI_toInt ha]
  have : (0 : Int32).toInt = 0 := by decide
  omega
theorem neg_lta {x : Int32} (h : x < 0) {a : Nat} (ha : a < 2147483648) : x < nI a := by
  rw [Int32.lt_iff_toInt_lt] at h ⊢
  rw [nI_toInt ha]
  have : (0 : Int32).toInt = 0 := by decide
  omega
theorem neg_ne {x : Int32} (h : x < 0) {a : Nat} (ha : a < 2147483648) : ¬ x = nI a := by
  intro e
  rw [e, Int32.lt_iff_toInt_lt, nI_toInt ha] at h
  have : (0 : Int32).toInt = 0 := by decide
  omega
/-! ===== the smallest methods ===== -/
theorem has_n {k n : Nat} {ck : T0} (hs : kSiz ck = nI n) (hn : n < 2147483648) (hk : k < 2147483648) : f0_has (nI k) ck = some (if k < n then 1 else 0) := by
  unfold f0_has
  by_cases h : k < n
  · have h2 : ¬ n ≤ k := by omega
    have h3 : ¬ k < 0 := by omega
    simp (disch := omega) only [hs, li, ↓lim1, bnd_s, jn_e, cas_el, cas_er, oc_n, oc_s, grd_in, grd_t, nI_add, pk_mul, sub_e, le_e, lt_e, eq_e, cl_e, m1_e, m1_e', m1_lt, m1_le, m1_eq, lt_m1, ↓reduceIte, not_true_eq_false, not_false_eq_true, decide_true, decide_false, Nat.add_zero, Nat.zero_add, h, h2, h3]
  · have h2 : n ≤ k := by omega
    have h3 : ¬ k < 0 := by omega
    simp (disch := omega) only [hs, li, ↓lim1, bnd_s, jn_e, cas_el, cas_er, oc_n, oc_s, grd_in, grd_t, nI_add, pk_mul, sub_e, le_e, lt_e, eq_e, cl_e, m1_e, m1_e', m1_lt, m1_le, m1_eq, lt_m1, ↓reduceIte, not_true_eq_false, not_false_eq_true, decide_true, decide_false, Nat.add_zero, Nat.zero_add, h, h2, h3]
/-! ===== the same, lazily: what stands behind a step is looked at when the step is done ===== -/
theorem bnd_m {α β : Type} (x : Option α) (k : α → Option β) : bnd x k = (match x with | some a => k a | none => none) := rfl
theorem grd_m {α : Type} (b : Bool) (k : Option α) : grd b k = (match b with | true => k | false => none) := rfl
theorem cas_m {α β γ : Type} (e : α ⊕ β) (k1 : α → γ) (k2 : β → γ) : cas e k1 k2 = (match e with | .inl a => k1 a | .inr b => k2 b) := rfl
theorem oc_m {α β : Type} (x : Option α) (kn : β) (ks : α → β) : oc x kn ks = (match x with | some a => ks a | none => kn) := by cases x <;> rfl
theorem inb_t {k n : Nat} (h : k < n) (hn : n < 2147483648) : inb (nI k) n = true := inb_nI h hn
theorem le_t {a b : Nat} (h : a ≤ b) (hb : b < 2147483648) : (nI a ≤ nI b) = True := eq_true (nI_le h hb)
theorem le_f {a b : Nat} (h : b < a) (ha : a < 2147483648) : (nI a ≤ nI b) = False := eq_false (nI_ge h ha)
theorem lt_t {a b : Nat} (h : a < b) (hb : b < 2147483648) : (nI a < nI b) = True := eq_true (nI_lt h hb)
theorem lt_f {a b : Nat} (h : b ≤ a) (ha : a < 2147483648) : (nI a < nI b) = False := eq_false (nI_nlt h ha)
theorem eq_t {a b : Nat} (h : a = b) : (nI a = nI b) = True := eq_true (congrArg nI h)
theorem eq_f {a b : Nat} (h : ¬ a = b) (ha : a < 2147483648) (hb : b < 2147483648) : (nI a = nI b) = False := eq_false (fun e => h ((nI_eq ha hb).mp e))
theorem dec_t {P : Prop} [Decidable P] (h : P) : decide P = true := decide_eq_true h
theorem m1_m1 : (im1 = im1) = True := eq_self im1
/-! ===== how a pattern reads a name ===== -/
def star (f : Nat → Bool) : Nat → Bool
  | 0 => f 0
  | k + 1 => f (k + 1) || star f k
def one (f : Nat → Bool) (c : Nat) (q : Nat → Nat) : Nat → Bool
  | 0 => false
  | k + 1 => f k && (c == 63 || c == q k)
/-- the first i characters of p read the first k of q -/
def rdm (p q : Nat → Nat) : Nat → Nat → Bool
  | 0 => fun k => k == 0
  | i + 1 => if p i = 42 then star (rdm p q i) else one (rdm p q i) (p i) q
theorem rdm_star {p q : Nat → Nat} {i : Nat} (h : p i = 42) : rdm p q (i + 1) = star (rdm p q i) := by
  show (if p i = 42 then star (rdm p q i) else _) = _
  rw [if_pos h]
theorem rdm_one {p q : Nat → Nat} {i : Nat} (h : ¬ p i = 42) : rdm p q (i + 1) = one (rdm p q i) (p i) q := by
  show (if p i = 42 then _ else one (rdm p q i) (p i) q) = _
  rw [if_neg h]
/-- does the pattern of n characters match the name of k? a name without characters never -/
def mtc (p : Nat → Nat) (n : Nat) (q : Nat → Nat) (k : Nat) : Bool := decide (0 < k) && decide (0 < n) && rdm p q n k
/-! bits -/
theorem nI_or (a b : Nat) : nI a ||| nI b = nI (a ||| b) := by
  apply Int32.toBitVec_inj.mp
  show BitVec.ofNat 32 a ||| BitVec.ofNat 32 b = BitVec.ofNat 32 (a ||| b)
  apply BitVec.eq_of_getLsbD_eq
  intro i hi
  simp [BitVec.getLsbD_or, BitVec.getLsbD_ofNat, hi, Nat.testBit_or]
theorem nI_and (a b : Nat) : nI a &&& nI b = nI (a &&& b) := by
  apply Int32.toBitVec_inj.mp
  show BitVec.ofNat 32 a &&& BitVec.ofNat 32 b = BitVec.ofNat 32 (a &&& b)
  apply BitVec.eq_of_getLsbD_eq
  intro i hi
  simp [BitVec.getLsbD_and, BitVec.getLsbD_ofNat, hi, Nat.testBit_and]
theorem sh_q : ∀ q : Nat, q < 32 → ((nI q &&& nI 31).toBitVec.smod 32).toNat = q := fun q h => co_dec (N := 32) (P := fun q => ((nI q &&& nI 31).toBitVec.smod 32).toNat = q) (by decide +kernel) h
theorem shl_q {a q : Nat} (hq : q < 32) (h : a * 2 ^ q < 4294967296) : nI a <<< (nI q &&& nI 31) = nI (a * 2 ^ q) := pk_shlN _ q (sh_q q hq) h
theorem shr_q {a q : Nat} (hq : q < 32) (h : a < 2147483648) : nI a >>> (nI q &&& nI 31) = nI (a / 2 ^ q) := pk_shrN h _ q (sh_q q hq)
theorem bit_1 {a q : Nat} (hq : q < 32) (h : a < 2147483648) : ((nI a >>> (nI q &&& nI 31)) &&& nI 1 = nI 1) = (a.testBit q = true) := by
  rw [shr_q hq h, pk_andN (n := a / 2 ^ q) (Nat.lt_of_le_of_lt (Nat.div_le_self _ _) (by omega)) (m := nI 1) 1 (by decide), Nat.testBit_eq_decide_div_mod_eq]
  have h2 : a / 2 ^ q % 2 ^ 1 < 2 := Nat.mod_lt _ (by decide)
  rw [eq_e (by omega) (by omega)]
  exact propext ⟨fun h => decide_eq_true h, fun h => of_decide_eq_true h⟩
theorem tb_pow (q j : Nat) : (2 ^ q).testBit j = decide (q = j) := Nat.testBit_two_pow
/-- the bits of one place, moved up by one -/
theorem tb_up (a q j : Nat) : ((a &&& 2 ^ q) * 2).testBit j = (decide (j = q + 1) && a.testBit q) := by
  have e : (a &&& 2 ^ q) * 2 = (a &&& 2 ^ q) <<< 1 := by rw [Nat.shiftLeft_eq]
  rw [e, Nat.testBit_shiftLeft, Nat.testBit_and, tb_pow]
  by_cases h : j = q + 1
  · subst h
    simp
  · have : ¬ (1 ≤ j ∧ q = j - 1) := by omega
    by_cases h1 : 1 ≤ j
    · have h2 : ¬ q = j - 1 := by omega
      simp [h, h2]
    · simp [h, h1]
theorem tb_here (a q j : Nat) : (a &&& 2 ^ q).testBit j = (decide (j = q) && a.testBit q) := by
  rw [Nat.testBit_and, tb_pow]
  by_cases h : j = q
  · subst h; simp
  · have : ¬ q = j := fun e => h e.symm
    simp [h, this]
theorem lt_of_tb {m n : Nat} (h : ∀ j, m.testBit j = true → j < n) : m < 2 ^ n := by
  apply Nat.lt_pow_two_of_testBit
  intro i hi
  cases hb : m.testBit i with
  | false => rfl
  | true => have := h i hb; omega
/-! a pattern of the class's sheet -/
def PtC (sh : T3) (j len : Nat) (p : Nat → Nat) : Prop :=
  j < 120 ∧ len ≤ 16 ∧ sPln sh j = nI len ∧ (0 < len → ∃ ps PL : Nat, sPst sh j = nI ps ∧ sPl sh = nI PL ∧ PL ≤ 1240 ∧ ps + len ≤ PL ∧ ∀ i, i < len → sPr sh (ps + i) = nI (p i) ∧ p i < 128)
theorem printedAt_n {sh : T3} {a PL : Nat} (hPL : sPl sh = nI PL) (h2 : PL ≤ 1240) (ha : a < PL) : f3_printedAt (nI a) sh = some (sPr sh a) := by
  unfold f3_printedAt
  simp (disch := omega) only [hPL, li, ↓lim1, bnd_s, jn_e, cas_el, cas_er, oc_n, oc_s, grd_in, grd_t, nI_add, pk_mul, sub_e, le_e, lt_e, eq_e, cl_e, m1_e, m1_e', m1_lt, m1_le, m1_eq, lt_m1, ↓reduceIte, not_true_eq_false, not_false_eq_true, decide_true, decide_false, Nat.add_zero, Nat.zero_add, if_pos, if_neg]
/-- what the class's set of places says -/
def bts (p q : Nat → Nat) (len k j : Nat) : Bool := if j < len ∧ p j = 42 then rdm p q (j + 1) k else rdm p q j k
theorem star_le {f : Nat → Bool} {k : Nat} (h : f k = true) : star f k = true := by
  cases k with
  | zero => exact h
  | succ k => show (f (k + 1) || star f k) = true; rw [h]; rfl
theorem rdm_00 {p q : Nat → Nat} {i : Nat} (h : p i = 42) : rdm p q (i + 1) 0 = rdm p q i 0 := by rw [rdm_star h]; rfl
theorem rdm_n0 {p q : Nat → Nat} {i : Nat} (h : ¬ p i = 42) : rdm p q (i + 1) 0 = false := by rw [rdm_one h]; rfl
theorem rdm_0false {p q : Nat → Nat} {i : Nat} (h : rdm p q i 0 = false) : rdm p q (i + 1) 0 = false := by
  by_cases e : p i = 42
  · rw [rdm_00 e]; exact h
  · exact rdm_n0 e
theorem rdm_0later {p q : Nat → Nat} {i : Nat} (h : rdm p q i 0 = false) : ∀ d, rdm p q (i + d) 0 = false := by
  intro d
  induction d with
  | zero => exact h
  | succ d ih => exact rdm_0false ih
theorem bts_0 {p q : Nat → Nat} {len j : Nat} : bts p q len 0 j = rdm p q j 0 := by
  unfold bts
  by_cases h : j < len ∧ p j = 42
  · rw [if_pos h, rdm_00 h.2]
  · rw [if_neg h]
theorem stars_ok {F : Nat} (hF : 100 < F) {sh : T3} {j len : Nat} {p q : Nat → Nat} (H : PtC sh j len p) (hl0 : 0 < len) : ∃ m, f3_reachedByStars F (nI j) sh = some (nI m) ∧ ∀ b, m.testBit b = (decide (b ≤ len) && bts p q len 0 b) := by
  obtain ⟨hj, hl, e1, H4⟩ := H
  obtain ⟨ps, PL, e2, e3, h4, h5, h6⟩ := H4 hl0
  have key := iter_rule (b := f3_reachedByStars_L4 (nI j) sh)
    (fun k x => ∃ i m : Nat, k + i = len ∧ x = (nI m, nI i) ∧ rdm p q i 0 = true ∧ ∀ b, m.testBit b = (decide (b ≤ i) && rdm p q b 0))
    (fun r => ∃ m : Nat, (r = .inl (nI m) ∨ r = .inr (nI m)) ∧ ∀ b, m.testBit b = (decide (b ≤ len) && rdm p q b 0))
    (by
      rintro k x ⟨i, m, hk, rfl, hi, hm⟩
      by_cases hlt : len ≤ i
      · refine Or.inr ⟨.inr (nI m), ?_, m, Or.inr rfl, ?_⟩
        · unfold f3_reachedByStars_L4
          simp (disch := omega) only [e1, li, ↓lim1, bnd_s, jn_e, cas_el, cas_er, oc_n, oc_s, grd_in, grd_t, nI_add, pk_mul, sub_e, le_e, lt_e, eq_e, cl_e, m1_e, m1_e', m1_lt, m1_le, m1_eq, lt_m1, ↓reduceIte, not_true_eq_false, not_false_eq_true, decide_true, decide_false, Nat.add_zero, Nat.zero_add, if_pos, if_neg]
        · have : i = len := by omega
          subst this
          exact hm
      · have h7 := h6 i (by omega)
        have hm2 : m < 2 ^ (i + 1) := lt_of_tb (fun b hb => by
          rw [hm b] at hb
          simp at hb
          omega)
        have h9 : 2 ^ (i + 1) ≤ 2 ^ 16 := Nat.pow_le_pow_right (by decide) (by omega)
        by_cases h8 : p i = 42
        · refine Or.inl ⟨(nI (m ||| 2 ^ (i + 1)), nI (i + 1)), k - 1, by omega, ?_, i + 1, _, by omega, rfl, by rw [rdm_00 h8]; exact hi, ?_⟩
          · have h10 : 2 * 2 ^ i < 4294967296 := by rw [← Nat.pow_succ']; omega
            have h11 : 2 * 2 ^ i = 2 ^ (i + 1) := by rw [← Nat.pow_succ']
            unfold f3_reachedByStars_L4
            simp (disch := omega) only [e1, e2, li, ↓lim1, bnd_s, jn_e, cas_el, cas_er, oc_n, oc_s, grd_in, grd_t, nI_add, pk_mul, sub_e, le_e, lt_e, eq_e, cl_e, m1_e, m1_e', m1_lt, m1_le, m1_eq, lt_m1, ↓reduceIte, not_true_eq_false, not_false_eq_true, decide_true, decide_false, Nat.add_zero, Nat.zero_add, if_pos, if_neg, printedAt_n e3 h4, h7.1, h8, shl_q, nI_or, h11]
          · intro b
            rw [Nat.testBit_or, hm b, tb_pow]
            by_cases hb : b = i + 1
            · subst hb
              simp [rdm_00 h8, hi]
            · have : ¬ i + 1 = b := fun e => hb e.symm
              have h12 : (b ≤ i + 1) = (b ≤ i) := propext ⟨fun h => by omega, fun h => by omega⟩
              simp [this, h12]
        · refine Or.inr ⟨.inl (nI m), ?_, m, Or.inl rfl, ?_⟩
          · have := h7.2
            unfold f3_reachedByStars_L4
            simp (disch := omega) only [e1, e2, li, ↓lim1, bnd_s, jn_e, cas_el, cas_er, oc_n, oc_s, grd_in, grd_t, nI_add, pk_mul, sub_e, le_e, lt_e, eq_e, cl_e, m1_e, m1_e', m1_lt, m1_le, m1_eq, lt_m1, ↓reduceIte, not_true_eq_false, not_false_eq_true, decide_true, decide_false, Nat.add_zero, Nat.zero_add, if_pos, if_neg, printedAt_n e3 h4, h7.1]
          · intro b
            rw [hm b]
            by_cases hb : b ≤ i
            · have : b ≤ len := by omega
              simp [hb, this]
            · have h0 : rdm p q b 0 = false := by
                have := rdm_0later (q := q) (rdm_n0 (q := q) h8) (b - (i + 1))
                rwa [show i + 1 + (b - (i + 1)) = b from by omega] at this
              simp [hb, h0]) F len (nI 1, nI 0) (by omega) ⟨0, 1, by omega, rfl, rfl, fun b => by
        rw [show (1 : Nat) = 2 ^ 0 from rfl, tb_pow]
        cases b with
        | zero => rfl
        | succ b => simp⟩
  obtain ⟨r, hr, m, hm, hb⟩ := key
  refine ⟨m, ?_, fun b => by rw [hb b, bts_0]⟩
  unfold f3_reachedByStars
  simp only [li]
  rw [bnd_e hr]
  rcases hm with rfl | rfl <;> rfl
theorem shl_q' {a q : Nat} (hq : q < 32) (h : a * 2 ^ q < 4294967296) : nI a <<< nI (q &&& 31) = nI (a * 2 ^ q) := by rw [← nI_and]; exact shl_q hq h
theorem bts_one {p q : Nat → Nat} {len k j : Nat} (h : ¬ p j = 42) : bts p q len k j = rdm p q j k := by
  unfold bts
  rw [if_neg (fun h2 => h h2.2)]
theorem bts_star {p q : Nat → Nat} {len k j : Nat} (hj : j < len) (h : p j = 42) : bts p q len k j = rdm p q (j + 1) k := by
  unfold bts
  rw [if_pos ⟨hj, h⟩]
theorem rdm_ss {p q : Nat → Nat} {i k : Nat} (h : p i = 42) : rdm p q (i + 1) (k + 1) = (rdm p q i (k + 1) || rdm p q (i + 1) k) := by rw [rdm_star h]; rfl
theorem rdm_os {p q : Nat → Nat} {i k : Nat} (h : ¬ p i = 42) : rdm p q (i + 1) (k + 1) = (rdm p q i k && (p i == 63 || p i == q k)) := by rw [rdm_one h]; rfl
/-- one letter more -/
theorem reached_ok {F : Nat} (hF : 100 < F) {sh : T3} {j len : Nat} {p q : Nat → Nat} (H : PtC sh j len p) (hl0 : 0 < len) {k m : Nat} (hq : q k < 128) (hm : ∀ b, m.testBit b = (decide (b ≤ len) && bts p q len k b)) : ∃ m', f3_reachedBy F (nI j) (nI m) (nI (q k)) sh = some (nI m') ∧ ∀ b, m'.testBit b = (decide (b ≤ len) && bts p q len (k + 1) b) := by
  obtain ⟨hj, hl, e1, H4⟩ := H
  obtain ⟨ps, PL, e2, e3, h4, h5, h6⟩ := H4 hl0
  have key := iter_rule (b := f3_reachedBy_L6 (nI j) (nI m) (nI (q k)) sh)
    (fun d x => ∃ i n : Nat, d + i = len ∧ x = (nI n, nI i) ∧ ∀ b, n.testBit b = (if b < i then bts p q len (k + 1) b else decide (b = i) && rdm p q i (k + 1)))
    (fun r => ∃ n : Nat, r = nI n ∧ ∀ b, n.testBit b = (decide (b ≤ len) && bts p q len (k + 1) b))
    (by
      rintro d x ⟨i, n, hd, rfl, hn⟩
      by_cases hlt : len ≤ i
      · have hi : i = len := by omega
        subst hi
        refine Or.inr ⟨nI n, ?_, n, rfl, ?_⟩
        · unfold f3_reachedBy_L6
          simp (disch := omega) only [e1, li, ↓lim1, bnd_s, jn_e, cas_el, cas_er, oc_n, oc_s, grd_in, grd_t, nI_add, pk_mul, sub_e, le_e, lt_e, eq_e, cl_e, m1_e, m1_e', m1_lt, m1_le, m1_eq, lt_m1, ↓reduceIte, not_true_eq_false, not_false_eq_true, decide_true, decide_false, Nat.add_zero, Nat.zero_add, if_pos, if_neg]
        · intro b
          rw [hn b]
          by_cases hb : b < i
          · have : b ≤ i := by omega
            simp [hb, this]
          · rw [if_neg hb]
            by_cases hb2 : b = i
            · subst hb2
              have : bts p q b (k + 1) b = rdm p q b (k + 1) := by unfold bts; rw [if_neg (fun h => absurd h.1 (Nat.lt_irrefl _))]
              simp [this]
            · have : ¬ b ≤ i := by omega
              simp [this, hb2]
      · have h7 := h6 i (by omega)
        have hmb := hm i
        rw [decide_eq_true (show i ≤ len by omega), Bool.true_and] at hmb
        have hnb := hn i
        rw [if_neg (Nat.lt_irrefl i), decide_eq_true (rfl : i = i), Bool.true_and] at hnb
        have h9 : 2 ^ (i + 1) ≤ 2 ^ 16 := Nat.pow_le_pow_right (by decide) (by omega)
        have h9' : 2 ^ i * 2 = 2 ^ (i + 1) := (Nat.pow_succ ..).symm
        have h1p : 1 * 2 ^ i = 2 ^ i := Nat.one_mul _
        have up : ∀ a : Nat, (a &&& 2 ^ i) ≤ 2 ^ i := fun a => Nat.and_le_right
        have p1 : ∀ a : Nat, (a &&& 2 ^ i) * 2 ^ 1 < 4294967296 := fun a => by
          have := up a
          rw [Nat.pow_one]
          omega
        by_cases h8 : p i = 42
        · refine Or.inl ⟨(nI ((n ||| (m &&& 2 ^ i)) ||| (((n ||| (m &&& 2 ^ i)) &&& 2 ^ i) * 2)), nI (i + 1)), d - 1, by omega, ?_, i + 1, _, by omega, rfl, ?_⟩
          · have h10 : 1 * 2 ^ i < 4294967296 := by omega
            have h12 := p1 (n ||| (m &&& 2 ^ i))
            unfold f3_reachedBy_L6
            simp (disch := first | assumption | omega) only [e1, e2, li, ↓lim1, bnd_s, jn_e, cas_el, cas_er, oc_n, oc_s, grd_in, grd_t, nI_add, pk_mul, sub_e, le_e, lt_e, eq_e, cl_e, m1_e, m1_e', m1_lt, m1_le, m1_eq, lt_m1, ↓reduceIte, not_true_eq_false, not_false_eq_true, decide_true, decide_false, Nat.add_zero, Nat.zero_add, if_pos, if_neg, printedAt_n e3 h4, h7.1, h8, shl_q', nI_or, nI_and, h1p, Nat.pow_one]
          · intro b
            have hn1 : ∀ b, (n ||| (m &&& 2 ^ i)).testBit b = (if b < i then bts p q len (k + 1) b else decide (b = i) && rdm p q (i + 1) (k + 1)) := by
              intro b
              rw [Nat.testBit_or, tb_here, hn b]
              by_cases hb : b < i
              · have : ¬ b = i := by omega
                simp [hb, this]
              · rw [if_neg hb, if_neg hb]
                by_cases hb2 : b = i
                · subst hb2
                  rw [hmb, bts_star (by omega) h8, rdm_ss h8]
                  simp
                · simp [hb2]
            rw [Nat.testBit_or, tb_up, hn1 b, hn1 i]
            rw [if_neg (Nat.lt_irrefl i), decide_eq_true (rfl : i = i), Bool.true_and]
            by_cases hb : b < i
            · have h1 : ¬ b = i + 1 := by omega
              have h2 : b < i + 1 := by omega
              simp [hb, h1, h2]
            · by_cases hb2 : b = i
              · subst hb2
                have h1 : ¬ b = b + 1 := by omega
                rw [if_neg hb, if_pos (Nat.lt_succ_self b), bts_star (by omega) h8]
                simp
              · have h2 : ¬ b < i + 1 := by omega
                rw [if_neg hb, if_neg h2]
                simp [hb2]
        · have hnx : ∀ n' : Nat, (∀ b, n'.testBit b = (n.testBit b || (decide (b = i + 1) && (rdm p q i k && (p i == 63 || p i == q k))))) → ∀ b, n'.testBit b = (if b < i + 1 then bts p q len (k + 1) b else decide (b = i + 1) && rdm p q (i + 1) (k + 1)) := by
            intro n' h' b
            rw [h' b, hn b, ← rdm_os h8]
            by_cases hb : b < i
            · have h1 : ¬ b = i + 1 := by omega
              have h2 : b < i + 1 := by omega
              simp [hb, h1, h2]
            · by_cases hb2 : b = i
              · subst hb2
                rw [if_neg hb, if_pos (Nat.lt_succ_self b), bts_one h8]
                simp
              · have h2 : ¬ b < i + 1 := by omega
                rw [if_neg hb, if_neg h2]
                simp [hb2]
          by_cases h13 : p i = 63 ∨ p i = q k
          · refine Or.inl ⟨(nI (n ||| ((m &&& 2 ^ i) * 2)), nI (i + 1)), d - 1, by omega, ?_, i + 1, _, by omega, rfl, hnx _ ?_⟩
            · have h10 : 1 * 2 ^ i < 4294967296 := by omega
              have h12 := p1 m
              have h14 := h7.2
              unfold f3_reachedBy_L6
              by_cases h15 : p i = 63
              · simp (disch := first | assumption | omega) only [e1, e2, li, ↓lim1, bnd_s, jn_e, cas_el, cas_er, oc_n, oc_s, grd_in, grd_t, nI_add, pk_mul, sub_e, le_e, lt_e, eq_e, cl_e, m1_e, m1_e', m1_lt, m1_le, m1_eq, lt_m1, ↓reduceIte, not_true_eq_false, not_false_eq_true, decide_true, decide_false, Nat.add_zero, Nat.zero_add, if_pos, if_neg, printedAt_n e3 h4, h7.1, h15, shl_q', nI_or, nI_and, h1p, Nat.pow_one]
              · have h16 : p i = q k := by omega
                simp (disch := first | assumption | omega) only [e1, e2, li, ↓lim1, bnd_s, jn_e, cas_el, cas_er, oc_n, oc_s, grd_in, grd_t, nI_add, pk_mul, sub_e, le_e, lt_e, eq_e, cl_e, m1_e, m1_e', m1_lt, m1_le, m1_eq, lt_m1, ↓reduceIte, not_true_eq_false, not_false_eq_true, decide_true, decide_false, Nat.add_zero, Nat.zero_add, if_pos, if_neg, printedAt_n e3 h4, h7.1, shl_q', nI_or, nI_and, h1p, Nat.pow_one]
            · intro b
              rw [Nat.testBit_or, tb_up, hmb, bts_one h8]
              have : (p i == 63 || p i == q k) = true := by simpa using h13
              rw [this, Bool.and_true]
          · refine Or.inl ⟨(nI n, nI (i + 1)), d - 1, by omega, ?_, i + 1, _, by omega, rfl, hnx _ ?_⟩
            · have h14 := h7.2
              unfold f3_reachedBy_L6
              simp (disch := first | assumption | omega) only [e1, e2, li, ↓lim1, bnd_s, jn_e, cas_el, cas_er, oc_n, oc_s, grd_in, grd_t, nI_add, pk_mul, sub_e, le_e, lt_e, eq_e, cl_e, m1_e, m1_e', m1_lt, m1_le, m1_eq, lt_m1, ↓reduceIte, not_true_eq_false, not_false_eq_true, decide_true, decide_false, Nat.add_zero, Nat.zero_add, if_pos, if_neg, printedAt_n e3 h4, h7.1]
            · intro b
              have : (p i == 63 || p i == q k) = false := by simpa using h13
              rw [this, Bool.and_false, Bool.and_false, Bool.or_false]) F len (nI 0, nI 0) (by omega) ⟨0, 0, by omega, rfl, fun b => by
        rw [Nat.zero_testBit, if_neg (Nat.not_lt_zero b)]
        have : rdm p q 0 (k + 1) = false := rfl
        simp [this]⟩
  obtain ⟨r, hr, n, rfl, hn⟩ := key
  refine ⟨n, ?_, hn⟩
  unfold f3_reachedBy
  simp only [li]
  rw [bnd_e hr]
/-! the pins of the class -/
def PnC (pn : T1) (sz : Nat → Nat) (nm : Nat → Nat → Nat) : Prop := ∀ x, x < 40 → sz x ≤ 16 ∧ pn.2 x = nI (sz x) ∧ ∀ k, k < sz x → pn.1 (x * 16 + k) = nI (nm x k) ∧ nm x k < 128
theorem pins_has {x : Nat} (h : x < 40) : f1_has (nI x) = some (nI 1) := by
  unfold f1_has
  simp (disch := omega) only [li, ↓lim1, bnd_s, jn_e, cas_el, cas_er, oc_n, oc_s, grd_in, grd_t, nI_add, pk_mul, sub_e, le_e, lt_e, eq_e, cl_e, m1_e, m1_e', m1_lt, m1_le, m1_eq, lt_m1, ↓reduceIte, not_true_eq_false, not_false_eq_true, decide_true, decide_false, Nat.add_zero, Nat.zero_add, if_pos, if_neg]
theorem pins_len {pn : T1} {sz : Nat → Nat} {nm : Nat → Nat → Nat} (H : PnC pn sz nm) {x : Nat} (h : x < 40) : f1_lengthOf (nI x) pn = some (nI (sz x)) := by
  unfold f1_lengthOf
  have h1 := (H x h).2.1
  simp (disch := omega) only [pins_has h, li, ↓lim1, bnd_s, jn_e, cas_el, cas_er, oc_n, oc_s, grd_in, grd_t, nI_add, pk_mul, sub_e, le_e, lt_e, eq_e, cl_e, m1_e, m1_e', m1_lt, m1_le, m1_eq, lt_m1, ↓reduceIte, not_true_eq_false, not_false_eq_true, decide_true, decide_false, Nat.add_zero, Nat.zero_add, if_pos, if_neg, h1]
theorem pins_at {pn : T1} {sz : Nat → Nat} {nm : Nat → Nat → Nat} (H : PnC pn sz nm) {x k : Nat} (h : x < 40) (hk : k < sz x) : f1_at (nI x) (nI k) pn = some (nI (nm x k)) := by
  unfold f1_at
  have h1 := (H x h).1
  have h2 := (H x h).2.2 k hk
  have h3 : isC (nI (nm x k)) = true := isC_n (by omega)
  simp (disch := omega) only [pins_len H h, li, ↓lim1, bnd_s, jn_e, cas_el, cas_er, oc_n, oc_s, grd_in, grd_t, nI_add, pk_mul, sub_e, le_e, lt_e, eq_e, cl_e, m1_e, m1_e', m1_lt, m1_le, m1_eq, lt_m1, ↓reduceIte, not_true_eq_false, not_false_eq_true, decide_true, decide_false, Nat.add_zero, Nat.zero_add, if_pos, if_neg, h2.1, h3]
theorem rdm_dead {p q : Nat → Nat} {len k : Nat} (h : ∀ b, b ≤ len → bts p q len k b = false) : ∀ b, b ≤ len → bts p q len (k + 1) b = false := by
  have hr : ∀ b, b ≤ len → rdm p q b (k + 1) = false ∧ bts p q len (k + 1) b = false := by
    intro b
    induction b with
    | zero =>
      intro h0
      have h1 : rdm p q 0 (k + 1) = false := rfl
      refine ⟨h1, ?_⟩
      by_cases h2 : 0 < len ∧ p 0 = 42
      · rw [bts_star h2.1 h2.2, rdm_ss h2.2, h1]
        have := h 0 h0
        rw [bts_star h2.1 h2.2] at this
        rw [this]; rfl
      · unfold bts
        rw [if_neg h2]
        exact h1
    | succ b ih =>
      intro hb
      obtain ⟨i1, i2⟩ := ih (by omega)
      have hb0 := h b (by omega)
      have hr1 : rdm p q (b + 1) (k + 1) = false := by
        by_cases h2 : p b = 42
        · rw [bts_star (by omega) h2] at i2
          exact i2
        · rw [rdm_os h2]
          rw [bts_one h2] at hb0
          rw [hb0]; rfl
      refine ⟨hr1, ?_⟩
      have hb1 := h (b + 1) hb
      by_cases h2 : b + 1 < len ∧ p (b + 1) = 42
      · rw [bts_star h2.1 h2.2, rdm_ss h2.2, hr1]
        rw [bts_star h2.1 h2.2] at hb1
        rw [hb1]; rfl
      · unfold bts
        rw [if_neg h2]
        exact hr1
  exact fun b hb => (hr b hb).2
theorem rdm_dead' {p q : Nat → Nat} {len k : Nat} (h : ∀ b, b ≤ len → bts p q len k b = false) : ∀ d b, b ≤ len → bts p q len (k + d) b = false := by
  intro d
  induction d with
  | zero => exact h
  | succ d ih => exact rdm_dead ih
theorem bts_len {p q : Nat → Nat} {len k : Nat} : bts p q len k len = rdm p q len k := by
  unfold bts
  rw [if_neg (fun h => absurd h.1 (Nat.lt_irrefl _))]
theorem fits_ok {F : Nat} (hF : 100 < F) {sh : T3} {j len : Nat} {p : Nat → Nat} (H : PtC sh j len p) (hl0 : 0 < len) {pn : T1} {sz : Nat → Nat} {nm : Nat → Nat → Nat} (HP : PnC pn sz nm) {x : Nat} (hx : x < 40) : f3_fits F (nI j) (nI x) pn sh = some (if mtc p len (nm x) (sz x) then nI 1 else nI 0) := by
  have hs := (HP x hx).1
  unfold f3_fits
  rw [bnd_e (pins_len HP hx)]
  by_cases h0 : sz x = 0
  · have : mtc p len (nm x) (sz x) = false := by unfold mtc; rw [h0]; rfl
    rw [this]
    simp (disch := omega) only [li, ↓lim1, bnd_s, jn_e, cas_el, cas_er, oc_n, oc_s, grd_in, grd_t, nI_add, pk_mul, sub_e, le_e, lt_e, eq_e, cl_e, m1_e, m1_e', m1_lt, m1_le, m1_eq, lt_m1, ↓reduceIte, not_true_eq_false, not_false_eq_true, decide_true, decide_false, Nat.add_zero, Nat.zero_add, if_pos, if_neg, h0]
    rfl
  · obtain ⟨m0, e0, hm0⟩ := stars_ok (q := nm x) hF H hl0
    have key := iter_rule (b := f3_fits_L24 F (nI j) (nI x) pn sh (nI (sz x)))
      (fun d s => ∃ k m : Nat, d + k = sz x ∧ s = (nI m, nI k) ∧ ∀ b, m.testBit b = (decide (b ≤ len) && bts p (nm x) len k b))
      (fun r => ∃ m : Nat, r = nI m ∧ m < 2 ^ 17 ∧ ∀ b, m.testBit b = (decide (b ≤ len) && bts p (nm x) len (sz x) b))
      (by
        rintro d s ⟨k, m, hd, rfl, hm⟩
        have hm2 : m < 2 ^ 17 := lt_of_tb (fun b hb => by
          rw [hm b] at hb
          have := H.2.1
          simp at hb
          omega)
        by_cases hlt : sz x ≤ k
        · have hk : k = sz x := by omega
          subst hk
          refine Or.inr ⟨nI m, ?_, m, rfl, hm2, hm⟩
          unfold f3_fits_L24
          simp (disch := omega) only [li, ↓lim1, bnd_s, jn_e, cas_el, cas_er, oc_n, oc_s, grd_in, grd_t, nI_add, pk_mul, sub_e, le_e, lt_e, eq_e, cl_e, m1_e, m1_e', m1_lt, m1_le, m1_eq, lt_m1, ↓reduceIte, not_true_eq_false, not_false_eq_true, decide_true, decide_false, Nat.add_zero, Nat.zero_add, if_pos, if_neg]
        · by_cases hz : m = 0
          · refine Or.inr ⟨nI m, ?_, m, rfl, hm2, ?_⟩
            · unfold f3_fits_L24
              simp (disch := omega) only [li, ↓lim1, bnd_s, jn_e, cas_el, cas_er, oc_n, oc_s, grd_in, grd_t, nI_add, pk_mul, sub_e, le_e, lt_e, eq_e, cl_e, m1_e, m1_e', m1_lt, m1_le, m1_eq, lt_m1, ↓reduceIte, not_true_eq_false, not_false_eq_true, decide_true, decide_false, Nat.add_zero, Nat.zero_add, if_pos, if_neg]
            · intro b
              have hd0 : ∀ b, b ≤ len → bts p (nm x) len k b = false := fun b hb => by
                have := hm b
                rw [hz, Nat.zero_testBit, decide_eq_true hb, Bool.true_and] at this
                exact this.symm
              rw [hz, Nat.zero_testBit]
              by_cases hb : b ≤ len
              · have := rdm_dead' hd0 (sz x - k) b hb
                rw [show k + (sz x - k) = sz x from by omega] at this
                rw [this, Bool.and_false]
              · rw [decide_eq_false hb, Bool.false_and]
          · have hk := (HP x hx).2.2 k (by omega)
            obtain ⟨m', e', hm'⟩ := reached_ok hF H hl0 (k := k) (m := m) hk.2 hm
            refine Or.inl ⟨(nI m', nI (k + 1)), d - 1, by omega, ?_, k + 1, m', by omega, rfl, hm'⟩
            unfold f3_fits_L24
            simp (disch := omega) only [li, ↓lim1, bnd_s, jn_e, cas_el, cas_er, oc_n, oc_s, grd_in, grd_t, nI_add, pk_mul, sub_e, le_e, lt_e, eq_e, cl_e, m1_e, m1_e', m1_lt, m1_le, m1_eq, lt_m1, ↓reduceIte, not_true_eq_false, not_false_eq_true, decide_true, decide_false, Nat.add_zero, Nat.zero_add, if_pos, if_neg, pins_at HP hx (show k < sz x by omega), e'])
      F (sz x) (nI m0, nI 0) (by omega) ⟨0, m0, by omega, rfl, hm0⟩
    obtain ⟨r, hr, m, rfl, hm2, hm⟩ := key
    have hj := H.1
    have hl := H.2.1
    have e1 := H.2.2.1
    have hb := hm len
    rw [decide_eq_true (Nat.le_refl len), Bool.true_and, bts_len] at hb
    have hmt : mtc p len (nm x) (sz x) = rdm p (nm x) len (sz x) := by
      unfold mtc
      rw [decide_eq_true (show 0 < sz x by omega), decide_eq_true hl0]
      rfl
    rw [hmt, ← hb]
    have h31 : len < 32 := by omega
    have hm3 : m < 2147483648 := by omega
    simp (disch := omega) only [li, ↓lim1, bnd_s, jn_e, cas_el, cas_er, oc_n, oc_s, grd_in, grd_t, nI_add, pk_mul, sub_e, le_e, lt_e, eq_e, cl_e, m1_e, m1_e', m1_lt, m1_le, m1_eq, lt_m1, ↓reduceIte, not_true_eq_false, not_false_eq_true, decide_true, decide_false, Nat.add_zero, Nat.zero_add, if_pos, if_neg, e0]
    rw [bnd_e hr]
    simp (disch := omega) only [li, ↓lim1, bnd_s, jn_e, cas_el, cas_er, oc_n, oc_s, grd_in, grd_t, nI_add, pk_mul, sub_e, le_e, lt_e, eq_e, cl_e, m1_e, m1_e', m1_lt, m1_le, m1_eq, lt_m1, ↓reduceIte, not_true_eq_false, not_false_eq_true, decide_true, decide_false, Nat.add_zero, Nat.zero_add, if_pos, if_neg, e1, bit_1 h31 hm3]
    cases m.testBit len <;> rfl
/-! ===== the pins that a pattern matches, a bit for each ===== -/
def hOk (h : Int64) (f : Nat → Bool) : Prop := ∀ b, b < 64 → h.toBitVec.getLsbD b = (decide (b < 40) && f b)
theorem l_ext {x y : Int64} (h : ∀ b, b < 64 → x.toBitVec.getLsbD b = y.toBitVec.getLsbD b) : x = y := Int64.toBitVec_inj.mp (BitVec.eq_of_getLsbD_eq h)
theorem l_one : ∀ x : Nat, x < 40 → xlshl (1 : Int64) (nI x) = lN (2 ^ x) := fun x h => co_dec (N := 40) (P := fun x => xlshl (1 : Int64) (nI x) = lN (2 ^ x)) (by decide +kernel) h
theorem l_pow {x b : Nat} (hb : b < 64) : (lN (2 ^ x)).toBitVec.getLsbD b = decide (x = b) := by
  show (BitVec.ofNat 64 (2 ^ x)).getLsbD b = _
  rw [BitVec.getLsbD_ofNat, tb_pow]
  simp [hb]
theorem l_m1 {b : Nat} (hb : b < 64) : ((-1 : Int64)).toBitVec.getLsbD b = true := by
  have : ((-1 : Int64)).toBitVec = BitVec.allOnes 64 := by decide
  rw [this, BitVec.getLsbD_allOnes]
  simp [hb]
theorem l_0 {b : Nat} : ((0 : Int64)).toBitVec.getLsbD b = false := by
  have : ((0 : Int64)).toBitVec = 0#64 := by decide
  rw [this, BitVec.getLsbD_zero]
theorem l_clear {h : Int64} {x b : Nat} (hx : x < 40) (hb : b < 64) : (h &&& ((xlshl (1 : Int64) (nI x)) ^^^ (-1 : Int64))).toBitVec.getLsbD b = (h.toBitVec.getLsbD b && !decide (x = b)) := by
  rw [Int64.toBitVec_and, Int64.toBitVec_xor, BitVec.getLsbD_and, BitVec.getLsbD_xor, l_one x hx, l_pow hb, l_m1 hb, Bool.xor_true]
theorem l_set {h : Int64} {x b : Nat} (hx : x < 40) (hb : b < 64) : ((h &&& ((xlshl (1 : Int64) (nI x)) ^^^ (-1 : Int64))) ||| (xlshl (1 : Int64) (nI x))).toBitVec.getLsbD b = (h.toBitVec.getLsbD b || decide (x = b)) := by
  rw [Int64.toBitVec_or, BitVec.getLsbD_or, l_clear hx hb, l_one x hx, l_pow hb]
  cases h.toBitVec.getLsbD b <;> cases decide (x = b) <;> rfl
theorem l_uq : ∀ x : Nat, x < 64 → (((nI x).toInt64.toUInt64 &&& Int64.toUInt64 63).toBitVec % 64).toNat = x := fun x h => co_dec (N := 64) (P := fun x => (((nI x).toInt64.toUInt64 &&& Int64.toUInt64 63).toBitVec % 64).toNat = x) (by decide +kernel) h
theorem l_ushr (h : Int64) {x : Nat} (hx : x < 64) : (xlushr h (nI x)).toBitVec = h.toBitVec >>> x := by
  show (h.toUInt64 >>> ((nI x).toInt64.toUInt64 &&& Int64.toUInt64 63)).toBitVec = _
  rw [UInt64.toBitVec_shiftRight]
  show h.toBitVec >>> (((nI x).toInt64.toUInt64 &&& Int64.toUInt64 63).toBitVec % 64) = _
  rw [BitVec.ushiftRight_eq', l_uq x hx]
theorem l_bit (h : Int64) {x : Nat} (hx : x < 64) : (lg_cmp ((xlushr h (nI x)) &&& (1 : Int64)) (1 : Int64) = (0 : Int32)) = (h.toBitVec.getLsbD x = true) := by
  rw [propext (lg_cmp_eq _ _)]
  have hb : ∀ b, b < 64 → ((xlushr h (nI x)) &&& (1 : Int64)).toBitVec.getLsbD b = (decide (b = 0) && h.toBitVec.getLsbD x) := by
    intro b hb
    rw [Int64.toBitVec_and, BitVec.getLsbD_and, l_ushr h hx, BitVec.getLsbD_ushiftRight]
    have : (1 : Int64).toBitVec = 1#64 := by decide
    rw [this, BitVec.getLsbD_one]
    by_cases h0 : b = 0
    · subst h0; simp
    · simp [h0]
  have h1 : ∀ b, b < 64 → (1 : Int64).toBitVec.getLsbD b = decide (b = 0) := by
    intro b hb
    have : (1 : Int64).toBitVec = 1#64 := by decide
    rw [this, BitVec.getLsbD_one]
    by_cases h0 : b = 0
    · subst h0; simp
    · simp [h0]
  refine propext ⟨fun e => ?_, fun e => l_ext (fun b h2 => ?_)⟩
  · have := hb 0 (by decide)
    rw [e, h1 0 (by decide)] at this
    simpa using this.symm
  · rw [hb b h2, h1 b h2, e, Bool.and_true]
theorem hOk_0 {h : Int64} {f : Nat → Bool} (H : hOk h f) : (lg_cmp h (0 : Int64) = (0 : Int32)) = (∀ b, b < 40 → f b = false) := by
  rw [propext (lg_cmp_eq _ _)]
  refine propext ⟨fun e b hb => ?_, fun e => l_ext (fun b h2 => ?_)⟩
  · have := H b (by omega)
    rw [e, l_0, decide_eq_true hb, Bool.true_and] at this
    exact this.symm
  · rw [l_0, H b h2]
    by_cases hb : b < 40
    · rw [e b hb, Bool.and_false]
    · rw [decide_eq_false hb, Bool.false_and]
theorem hOk_and {h g : Int64} {f k : Nat → Bool} (H : hOk h f) (K : hOk g k) : hOk (h &&& g) (fun b => f b && k b) := by
  intro b hb
  rw [Int64.toBitVec_and, BitVec.getLsbD_and, H b hb, K b hb]
  show _ = (decide (b < 40) && (f b && k b))
  cases decide (b < 40) <;> cases f b <;> cases k b <;> rfl
theorem hOk_z : hOk (0 : Int64) (fun _ => false) := fun b _ => by rw [l_0, Bool.and_false]
theorem hOk_c {h : Int64} {f g : Nat → Bool} (H : hOk h f) (e : ∀ b, b < 40 → f b = g b) : hOk h g := fun b hb => by
  rw [H b hb]
  by_cases h4 : b < 40
  · rw [e b h4]
  · rw [decide_eq_false h4, Bool.false_and, Bool.false_and]
/-! matching one pin -/
/-- the sheet with other hits -/
def shH (sh : T3) (h : Nat → Int64) : T3 := (sh.1, sh.2.1, sh.2.2.1, sh.2.2.2.1, sh.2.2.2.2.1, h, sh.2.2.2.2.2.2.1, sh.2.2.2.2.2.2.2.1, sh.2.2.2.2.2.2.2.2)
theorem shH_h (sh : T3) (h k : Nat → Int64) : shH (shH sh h) k = shH sh k := rfl
theorem shH_pt {sh : T3} {h : Nat → Int64} {j len : Nat} {p : Nat → Nat} (H : PtC sh j len p) : PtC (shH sh h) j len p := H
/-- the patterns of a sheet of n rows -/
def PtsC (sh : T3) (n : Nat) (pl : Nat → Nat) (pc : Nat → Nat → Nat) : Prop := n ≤ 40 ∧ sRc sh = nI n ∧ ∀ j, j < 3 * n → PtC sh j (pl j) (pc j)
theorem PtsC.h {sh : T3} {n : Nat} {pl : Nat → Nat} {pc : Nat → Nat → Nat} (H : PtsC sh n pl pc) (h : Nat → Int64) : PtsC (shH sh h) n pl pc := H
theorem matchPin_ok {F : Nat} (hF : 200 < F) {sh : T3} {n : Nat} {pl : Nat → Nat} {pc : Nat → Nat → Nat} (H : PtsC sh n pl pc) {pn : T1} {sz : Nat → Nat} {nm : Nat → Nat → Nat} (HP : PnC pn sz nm) {x : Nat} (hx : x < 40)
    {f : Nat → Nat → Bool} (hh : ∀ j, j < 3 * n → hOk (sHit sh j) (f j)) (h0 : ∀ j, j < 3 * n → pl j = 0 → ∀ b, f j b = false) :
    ∃ h : Nat → Int64, f3_matchPin F (nI x) sh pn = some (shH sh h) ∧ (∀ j, j < 3 * n → hOk (h j) (fun b => if b = x then mtc (pc j) (pl j) (nm x) (sz x) else f j b)) ∧ (∀ j, j < 3 * n → pl j = 0 → h j = sHit sh j) := by
  obtain ⟨hn, e1, hp⟩ := H
  have key := iter_rule (b := f3_matchPin_L2 F (nI x) pn)
    (fun d s => ∃ (j : Nat) (h : Nat → Int64), d + j = 3 * n ∧ s = (nI j, shH sh h) ∧ (∀ i, i < j → hOk (h i) (fun b => if b = x then mtc (pc i) (pl i) (nm x) (sz x) else f i b)) ∧ (∀ i, i < 3 * n → pl i = 0 → h i = sHit sh i) ∧ (∀ i, j ≤ i → h i = sHit sh i))
    (fun r => ∃ h : Nat → Int64, r = shH sh h ∧ (∀ j, j < 3 * n → hOk (h j) (fun b => if b = x then mtc (pc j) (pl j) (nm x) (sz x) else f j b)) ∧ (∀ i, i < 3 * n → pl i = 0 → h i = sHit sh i))
    (by
      rintro d s ⟨j, h, hd, rfl, h1, h2, h3⟩
      by_cases hlt : 3 * n ≤ j
      · have hj : j = 3 * n := by omega
        subst hj
        refine Or.inr ⟨shH sh h, ?_, h, rfl, h1, h2⟩
        have e1' : sRc (shH sh h) = nI n := e1
        unfold f3_matchPin_L2
        simp (disch := omega) only [e1', li, ↓lim1, bnd_s, jn_e, cas_el, cas_er, oc_n, oc_s, grd_in, grd_t, nI_add, pk_mul, sub_e, le_e, lt_e, eq_e, cl_e, m1_e, m1_e', m1_lt, m1_le, m1_eq, lt_m1, ↓reduceIte, not_true_eq_false, not_false_eq_true, decide_true, decide_false, Nat.add_zero, Nat.zero_add, if_pos, if_neg]
      · have hP := hp j (by omega)
        have e1' : sRc (shH sh h) = nI n := e1
        have e2' : sPln (shH sh h) j = nI (pl j) := hP.2.2.1
        have hpl := hP.2.1
        by_cases hz : pl j = 0
        · refine Or.inl ⟨(nI (j + 1), shH sh h), d - 1, by omega, ?_, j + 1, h, by omega, rfl, ?_, h2, fun i hi => h3 i (by omega)⟩
          · unfold f3_matchPin_L2
            simp (disch := omega) only [e1', e2', li, ↓lim1, bnd_s, jn_e, cas_el, cas_er, oc_n, oc_s, grd_in, grd_t, nI_add, pk_mul, sub_e, le_e, lt_e, eq_e, cl_e, m1_e, m1_e', m1_lt, m1_le, m1_eq, lt_m1, ↓reduceIte, not_true_eq_false, not_false_eq_true, decide_true, decide_false, Nat.add_zero, Nat.zero_add, if_pos, if_neg]
          · intro i hi
            by_cases hi2 : i < j
            · exact h1 i hi2
            · have : i = j := by omega
              subst this
              rw [h3 i (Nat.le_refl _)]
              refine hOk_c (hh i (by omega)) (fun b _ => ?_)
              have : mtc (pc i) (pl i) (nm x) (sz x) = false := by unfold mtc; rw [hz]; simp
              rw [this, h0 i (by omega) hz b]
              cases decide (b = x) <;> simp
        · have hf := fits_ok (by omega : 100 < F) (shH_pt (h := h) hP) (by omega) HP hx
          refine Or.inl ⟨(nI (j + 1), shH sh (vp_updL h j (if mtc (pc j) (pl j) (nm x) (sz x) then (h j &&& ((xlshl (1 : Int64) (nI x)) ^^^ (-1 : Int64))) ||| (xlshl (1 : Int64) (nI x)) else h j &&& ((xlshl (1 : Int64) (nI x)) ^^^ (-1 : Int64))))), d - 1, by omega, ?_, j + 1, _, by omega, rfl, ?_, ?_, ?_⟩
          · unfold f3_matchPin_L2
            simp (disch := omega) only [e1', e2', hf, li, ↓lim1, bnd_s, jn_e, cas_el, cas_er, oc_n, oc_s, grd_in, grd_t, nI_add, pk_mul, sub_e, le_e, lt_e, eq_e, cl_e, m1_e, m1_e', m1_lt, m1_le, m1_eq, lt_m1, ↓reduceIte, not_true_eq_false, not_false_eq_true, decide_true, decide_false, Nat.add_zero, Nat.zero_add, if_pos, if_neg]
            cases mtc (pc j) (pl j) (nm x) (sz x)
            · simp only [Bool.false_eq_true, if_false, if_true]
              rw [← e1']
              rfl
            · have h10 : ¬ nI 1 = nI 0 := by decide
              simp only [if_true, if_neg h10]
              rw [← e1']
              rfl
          · intro i hi
            by_cases hi2 : i < j
            · rw [pk_uLn (by omega)]
              exact h1 i hi2
            · have : i = j := by omega
              subst this
              rw [pk_uLs]
              have hk := hh i (by omega)
              rw [← h3 i (Nat.le_refl _)] at hk
              intro b hb
              cases hm : mtc (pc i) (pl i) (nm x) (sz x)
              · rw [if_neg (by decide), l_clear hx hb, hk b hb]
                by_cases e : b = x
                · subst e; simp
                · have : ¬ x = b := fun e2 => e e2.symm
                  simp [e, this]
              · rw [if_pos rfl, l_set hx hb, hk b hb]
                by_cases e : b = x
                · subst e; simp [hx]
                · have : ¬ x = b := fun e2 => e e2.symm
                  simp [e, this]
          · intro i hi hpi
            rw [pk_uLn (by intro e; subst e; exact hz hpi)]
            exact h2 i hi hpi
          · intro i hi
            rw [pk_uLn (by omega)]
            exact h3 i (by omega))
    F (3 * n) (nI 0, sh) (by omega) ⟨0, sHit sh, by omega, rfl, fun i hi => absurd hi (Nat.not_lt_zero i), fun i _ _ => rfl, fun i _ => rfl⟩
  obtain ⟨r, hr, h, rfl, h1, h2⟩ := key
  refine ⟨h, ?_, h1, h2⟩
  unfold f3_matchPin
  simp only [li]
  rw [bnd_e hr]
