/-! ===== while the text is read: what both sides hold ===== -/
/-- what is known of a row's numbers and names -/
def RowG (t : Nat → Nat) (n s v c d o w h x0 y0 x1 y1 : Nat) : Prop :=
  s < 10 ∧ v = (if 5 ≤ s then o else 0) ∧ v < 1000000 ∧
  (s = 0 → 1 ≤ o ∧ o ≤ 999999 ∧ w < o ∧ h < o) ∧
  (s = 1 ∨ s = 2 → 1 ≤ o ∧ o ≤ 1000 ∧ 1 ≤ w ∧ w ≤ 1000 ∧ 0 < y0 ∧ d = cdw t x0 y0 ∧ nmw t x0 (x0 + y0) = true ∧ x0 + y0 ≤ n ∧ y1 = 0) ∧
  (s = 3 → 0 < y0 ∧ c = cdw t x0 y0 ∧ nmw t x0 (x0 + y0) = true ∧ x0 + y0 ≤ n ∧ 0 < y1 ∧ d = cdw t x1 y1 ∧ nmw t x1 (x1 + y1) = true ∧ x1 + y1 ≤ n) ∧
  (¬ s = 1 → ¬ s = 2 → ¬ s = 3 → y0 = 0 ∧ y1 = 0)
def GG (t : Nat → Nat) (n N m : Nat) (so va cc dd oo ww hh cr ns nl ls ll : Nat → Nat) : Prop :=
  N ≤ 40 ∧ m ≤ 12 ∧ (∀ r, r < N → RowG t n (so r) (va r) (cc r) (dd r) (oo r) (ww r) (hh r) (ls (2 * r)) (ll (2 * r)) (ls (2 * r + 1)) (ll (2 * r + 1))) ∧
  (∀ k, k < m → cr k < N ∧ so (cr k) ≤ 2 ∧ cc (cr k) = cdw t (ns k) (nl k) ∧ nmw t (ns k) (ns k + nl k) = true ∧ ns k + nl k ≤ n) ∧
  ∀ a b, a < m → b < m → cdw t (ns a) (nl a) = cdw t (ns b) (nl b) → a = b
/-- the class's clocks before they are bound -/
def CkI (ck : T0) (m : Nat) (cr so oo ww hh : Nat → Nat) : Prop := kSiz ck = nI m ∧ ∀ k, k < m → kRow ck k = nI (cr k + 1) ∧ kGre ck k = nI 0 ∧
  (so (cr k) = 0 → kPer ck k = lN (oo (cr k)) ∧ kRis ck k = lN (ww (cr k)) ∧ kFal ck k = lN (hh (cr k)) ∧ kLow ck k = lN 1 ∧ kSet ck k = nI 1) ∧
  (¬ so (cr k) = 0 → kTim ck k = nI (oo (cr k)) ∧ kDiv ck k = nI (ww (cr k)) ∧ kTur ck k = b2 (decide (so (cr k) = 2)) ∧ kSet ck k = nI 0)
/-- the reader's names and links -/
def RdI (rd : T2) (N m : Nat) (ns nl ls ll : Nat → Nat) : Prop := (∀ k, k < m → rd.1 k = nI (ns k) ∧ rd.2.1 k = nI (nl k)) ∧ (∀ i, i < 2 * N → rd.2.2.2.1 i = nI (ll i) ∧ (0 < ll i → rd.2.2.1 i = nI (ls i))) ∧ ∀ i, 2 * N ≤ i → i < 80 → rd.2.2.2.1 i = nI 0
/-- the live part of the model is untouched -/
def LV (a b : T6) : Prop := b.1 = a.1 ∧ mRows b = mRows a ∧ (∀ k, k < 40 → mSort b k = mSort a k ∧ mNC b k = mNC a k ∧ mND b k = mND a k ∧ mOne b k = mOne a k ∧ mTwo b k = mTwo a k ∧ mThr b k = mThr a k) ∧ (∀ j, j < 120 → mPs b j = mPs a j) ∧ (∀ i, i < 1920 → mPat b i = mPat a i) ∧ mClk b = mClk a ∧ ∀ k, k < 12 → mCr b k = mCr a k ∧ mFrom b k = mFrom a k ∧ mPer b k = mPer a k ∧ mRis b k = mRis a k ∧ mFal b k = mFal a k ∧ mUnd b k = mUnd a k
theorem LV.rfl {a : T6} : LV a a := ⟨Eq.refl _, Eq.refl _, fun _ _ => ⟨Eq.refl _, Eq.refl _, Eq.refl _, Eq.refl _, Eq.refl _, Eq.refl _⟩, fun _ _ => Eq.refl _, fun _ _ => Eq.refl _, Eq.refl _, fun _ _ => ⟨Eq.refl _, Eq.refl _, Eq.refl _, Eq.refl _, Eq.refl _, Eq.refl _⟩⟩
theorem LV.trans {a b c : T6} (h : LV a b) (h' : LV b c) : LV a c := by
  obtain ⟨a1, a2, a3, a4, a5, a6, a7⟩ := h
  obtain ⟨b1, b2', b3, b4, b5, b6, b7⟩ := h'
  refine ⟨b1.trans a1, b2'.trans a2, fun k hk => ?_, fun j hj => (b4 j hj).trans (a4 j hj), fun i hi => (b5 i hi).trans (a5 i hi), b6.trans a6, fun k hk => ?_⟩
  · obtain ⟨x1, x2, x3, x4, x5, x6⟩ := a3 k hk
    obtain ⟨y1, y2, y3, y4, y5, y6⟩ := b3 k hk
    exact ⟨y1.trans x1, y2.trans x2, y3.trans x3, y4.trans x4, y5.trans x5, y6.trans x6⟩
  · obtain ⟨x1, x2, x3, x4, x5, x6⟩ := a7 k hk
    obtain ⟨y1, y2, y3, y4, y5, y6⟩ := b7 k hk
    exact ⟨y1.trans x1, y2.trans x2, y3.trans x3, y4.trans x4, y5.trans x5, y6.trans x6⟩
/-- the model's new rows -/
def NwM (md : T6) (N m : Nat) (so cc dd oo ww hh pl : Nat → Nat) (pc : Nat → Nat → Nat) (cr ns ls : Nat → Nat) : Prop :=
  FldM md 40 N so cc dd oo ww hh ∧ (∀ j, j < 3 * N → PtM md (120 + j) (pl j) (pc j)) ∧ (∀ k, k < m → mCr md (12 + k) = nI (cr k) ∧ md.2.2.2.1.2.2.2.2.2.1 (cr k) = nI (ns k)) ∧
  (∀ r, r < N → (so r = 3 → md.2.2.2.1.2.2.2.2.2.1 r = nI (ls (2 * r)) ∧ md.2.2.2.1.2.2.2.2.2.2 r = nI (ls (2 * r + 1))) ∧ (so r = 1 ∨ so r = 2 → md.2.2.2.1.2.2.2.2.2.2 r = nI (ls (2 * r)))) ∧
  md.2.2.2.1.2.2.2.1 = nI N ∧ md.2.2.2.1.2.2.2.2.1 = nI m
def FlM (md0 X : T6) (p : Nat) : Prop := LV md0 X ∧ X.2.2.2.1.1 = nI p ∧ X.2.2.2.1.2.2.1 = nI 0
theorem fl_flm {md0 md X : T6} {N s p : Nat} (h0 : LV md0 md) (h : Fl (mS md N s) N X p) : FlM md0 X p := by
  obtain ⟨c, d, o, w, h, pat, ps, pC, pD, e, rfl, fp, fs⟩ := h
  refine ⟨h0.trans ⟨rfl, rfl, fun k hk => ?_, fun j hj => fs j hj, fun i hi => fp i hi, rfl, fun k hk => ⟨rfl, rfl, rfl, rfl, rfl, rfl⟩⟩, rfl, rfl⟩
  have hk' : ¬ k = 40 + N := by omega
  exact ⟨pk_un hk', pk_uLn hk', pk_uLn hk', pk_un hk', pk_un hk', pk_un hk'⟩
section Ap
variable {t : Nat → Nat} {n N m s v c d o w h x0 y0 x1 y1 bn en : Nat} {so va cc dd oo ww hh cr ns nl ls ll pl pl' : Nat → Nat} {pc pc' : Nat → Nat → Nat}
theorem GG_app (H : GG t n N m so va cc dd oo ww hh cr ns nl ls ll) (hN : N < 40) (k : Bool) (hk : k = true → m < 12 ∧ s ≤ 2 ∧ c = cdw t bn (en - bn) ∧ nmw t bn en = true ∧ en ≤ n ∧ bn ≤ en ∧ ∀ j, j < m → ¬ cdw t (ns j) (nl j) = cdw t bn (en - bn)) (hr : RowG t n s v c d o w h x0 y0 x1 y1) :
    GG t n (N + 1) (if k = true then m + 1 else m) (gu so N s) (gu va N v) (gu cc N c) (gu dd N d) (gu oo N o) (gu ww N w) (gu hh N h) (gu cr m N) (gu ns m bn) (gu nl m (en - bn)) (gu (gu ls (2 * N) x0) (2 * N + 1) x1) (gu (gu ll (2 * N) y0) (2 * N + 1) y1) := by
  obtain ⟨h1, h2, h3, h4, h5⟩ := H
  have hm' : ∀ j, j < (if k = true then m + 1 else m) → j < m ∨ (k = true ∧ j = m) := by
    intro j hj
    cases k with
    | true => rw [if_pos rfl] at hj; by_cases e : j = m
              · exact Or.inr ⟨rfl, e⟩
              · exact Or.inl (by omega)
    | false => rw [if_neg (by decide)] at hj; exact Or.inl hj
  refine ⟨by omega, ?_, fun r hr' => ?_, fun j hj => ?_, fun a b ha hb e => ?_⟩
  · cases k with
    | true => have := hk rfl; show m + 1 ≤ 12; omega
    | false => exact h2
  · by_cases e : r = N
    · subst e
      have e0 : gu (gu ls (2 * r) x0) (2 * r + 1) x1 (2 * r) = x0 := by rw [gu_n (by omega), gu_s]
      have e1 : gu (gu ls (2 * r) x0) (2 * r + 1) x1 (2 * r + 1) = x1 := gu_s
      have e2 : gu (gu ll (2 * r) y0) (2 * r + 1) y1 (2 * r) = y0 := by rw [gu_n (by omega), gu_s]
      have e3 : gu (gu ll (2 * r) y0) (2 * r + 1) y1 (2 * r + 1) = y1 := gu_s
      rw [gu_s, gu_s, gu_s, gu_s, gu_s, gu_s, gu_s, e0, e1, e2, e3]
      exact hr
    · have e0 : gu (gu ls (2 * N) x0) (2 * N + 1) x1 (2 * r) = ls (2 * r) := by rw [gu_n (by omega), gu_n (by omega)]
      have e1 : gu (gu ls (2 * N) x0) (2 * N + 1) x1 (2 * r + 1) = ls (2 * r + 1) := by rw [gu_n (by omega), gu_n (by omega)]
      have e2 : gu (gu ll (2 * N) y0) (2 * N + 1) y1 (2 * r) = ll (2 * r) := by rw [gu_n (by omega), gu_n (by omega)]
      have e3 : gu (gu ll (2 * N) y0) (2 * N + 1) y1 (2 * r + 1) = ll (2 * r + 1) := by rw [gu_n (by omega), gu_n (by omega)]
      rw [gu_n e, gu_n e, gu_n e, gu_n e, gu_n e, gu_n e, gu_n e, e0, e1, e2, e3]
      exact h3 r (by omega)
  · rcases hm' j hj with e | ⟨rfl, rfl⟩
    · obtain ⟨q1, q2, q3, q4, q5⟩ := h4 j e
      rw [gu_n (by omega), gu_n (show ¬ j = m by omega), gu_n (show ¬ j = m by omega), gu_n (show ¬ cr j = N by omega), gu_n (show ¬ cr j = N by omega)]
      exact ⟨by omega, q2, q3, q4, q5⟩
    · obtain ⟨q1, q2, q3, q4, q5, q6, q7⟩ := hk rfl
      rw [gu_s, gu_s, gu_s, gu_s, gu_s, show bn + (en - bn) = en by omega]
      exact ⟨by omega, q2, q3, q4, q5⟩
  · rcases hm' a ha with ea | ⟨ka, ea⟩ <;> rcases hm' b hb with eb | ⟨kb, eb⟩
    · rw [gu_n (by omega), gu_n (by omega), gu_n (by omega), gu_n (by omega)] at e
      exact h5 a b ea eb e
    · subst eb
      rw [gu_n (by omega), gu_n (by omega), gu_s, gu_s] at e
      exact absurd e ((hk kb).2.2.2.2.2.2 a ea)
    · subst ea
      rw [gu_s, gu_s, gu_n (by omega), gu_n (by omega)] at e
      exact absurd e.symm ((hk ka).2.2.2.2.2.2 b eb)
    · omega
theorem RdI_app {rd rd' : T2} (H : RdI rd N m ns nl ls ll) (hN : N < 40) (k : Bool) (hn1 : ∀ j, j < m → rd'.1 j = rd.1 j ∧ rd'.2.1 j = rd.2.1 j) (hn2 : k = true → rd'.1 m = nI bn ∧ rd'.2.1 m = nI (en - bn))
    (hl1 : ∀ i, i < 2 * N → rd'.2.2.1 i = rd.2.2.1 i ∧ rd'.2.2.2.1 i = rd.2.2.2.1 i) (hl2 : rd'.2.2.2.1 (2 * N) = nI y0 ∧ (0 < y0 → rd'.2.2.1 (2 * N) = nI x0)) (hl3 : rd'.2.2.2.1 (2 * N + 1) = nI y1 ∧ (0 < y1 → rd'.2.2.1 (2 * N + 1) = nI x1)) (hl4 : ∀ i, 2 * N + 2 ≤ i → i < 80 → rd'.2.2.2.1 i = rd.2.2.2.1 i) :
    RdI rd' (N + 1) (if k = true then m + 1 else m) (gu ns m bn) (gu nl m (en - bn)) (gu (gu ls (2 * N) x0) (2 * N + 1) x1) (gu (gu ll (2 * N) y0) (2 * N + 1) y1) := by
  obtain ⟨h1, h2, h3⟩ := H
  have hm' : ∀ j, j < (if k = true then m + 1 else m) → j < m ∨ (k = true ∧ j = m) := by
    intro j hj
    cases k with
    | true => rw [if_pos rfl] at hj; by_cases e : j = m
              · exact Or.inr ⟨rfl, e⟩
              · exact Or.inl (by omega)
    | false => rw [if_neg (by decide)] at hj; exact Or.inl hj
  refine ⟨fun j hj => ?_, fun i hi => ?_, fun i hi hi2 => ?_⟩
  · rcases hm' j hj with e | ⟨e1, rfl⟩
    · rw [gu_n (by omega), gu_n (by omega), (hn1 j e).1, (hn1 j e).2]
      exact h1 j e
    · rw [gu_s, gu_s]
      exact hn2 e1
  · by_cases e1 : i = 2 * N + 1
    · subst e1
      rw [gu_s, gu_s]
      exact hl3
    · by_cases e2 : i = 2 * N
      · subst e2
        rw [gu_n e1, gu_n e1, gu_s, gu_s]
        exact hl2
      · rw [gu_n e1, gu_n e1, gu_n e2, gu_n e2, (hl1 i (by omega)).1, (hl1 i (by omega)).2]
        exact h2 i (by omega)
  · rw [hl4 i (by omega) hi2]
    exact h3 i (by omega) hi2
theorem CkI_old {ck : T0} (H : CkI ck m cr so oo ww hh) (hc : ∀ k, k < m → cr k < N) : CkI ck m (gu cr m N) (gu so N s) (gu oo N o) (gu ww N w) (gu hh N h) := by
  obtain ⟨h1, h2⟩ := H
  refine ⟨h1, fun k hk => ?_⟩
  have := hc k hk
  rw [gu_n (show ¬ k = m by omega), gu_n (show ¬ cr k = N by omega), gu_n (show ¬ cr k = N by omega), gu_n (show ¬ cr k = N by omega), gu_n (show ¬ cr k = N by omega)]
  exact h2 k hk
theorem CkI_times {ck : T0} (H : CkI ck m cr so oo ww hh) (hc : ∀ k, k < m → cr k < N) (hs : s = 0) : CkI (ckT (ckO ck m N) m o w h) (m + 1) (gu cr m N) (gu so N s) (gu oo N o) (gu ww N w) (gu hh N h) := by
  obtain ⟨h1, h2⟩ := H
  refine ⟨rfl, fun k hk => ?_⟩
  show upd ck.1 m (nI (N + 1)) k = _ ∧ upd (kGre ck) m (nI 0) k = _ ∧ (_ → vp_updL (kPer ck) m (lN o) k = _ ∧ vp_updL (kRis ck) m (lN w) k = _ ∧ vp_updL (kFal ck) m (lN h) k = _ ∧ vp_updL (kLow ck) m (lN 1) k = _ ∧ upd (upd (kSet ck) m (nI 0)) m (nI 1) k = _) ∧ (_ → kTim ck k = _ ∧ kDiv ck k = _ ∧ kTur ck k = _ ∧ upd (upd (kSet ck) m (nI 0)) m (nI 1) k = _)
  by_cases e : k = m
  · subst e
    simp only [gu_s, pk_us, pk_uLs]
    exact ⟨trivial, trivial, fun _ => ⟨trivial, trivial, trivial, trivial, trivial⟩, fun hc => absurd hs hc⟩
  · have hk' : k < m := by omega
    have := hc k hk'
    rw [pk_un e, pk_un e, pk_uLn e, pk_uLn e, pk_uLn e, pk_uLn e, pk_un e, pk_un e, gu_n e, gu_n (show ¬ cr k = N by omega), gu_n (show ¬ cr k = N by omega), gu_n (show ¬ cr k = N by omega), gu_n (show ¬ cr k = N by omega)]
    exact h2 k hk'
theorem CkI_ratio {ck : T0} (H : CkI ck m cr so oo ww hh) (hc : ∀ k, k < m → cr k < N) {f : Bool} (hs : s = if f = true then 2 else 1) : CkI (ckR (ckO ck m N) m o w f) (m + 1) (gu cr m N) (gu so N s) (gu oo N o) (gu ww N w) (gu hh N h) := by
  obtain ⟨h1, h2⟩ := H
  refine ⟨rfl, fun k hk => ?_⟩
  show upd ck.1 m (nI (N + 1)) k = _ ∧ upd (kGre ck) m (nI 0) k = _ ∧ (_ → kPer ck k = _ ∧ kRis ck k = _ ∧ kFal ck k = _ ∧ kLow ck k = _ ∧ upd (kSet ck) m (nI 0) k = _) ∧ (_ → upd (kTim ck) m (nI o) k = _ ∧ upd (kDiv ck) m (nI w) k = _ ∧ upd (kTur ck) m (b2 f) k = _ ∧ upd (kSet ck) m (nI 0) k = _)
  by_cases e : k = m
  · subst e
    simp only [gu_s, pk_us]
    have e2 : decide (s = 2) = f := by cases f <;> rw [hs] <;> rfl
    have e0 : ¬ s = 0 := by cases f <;> rw [hs] <;> decide
    rw [e2]
    exact ⟨trivial, trivial, fun hc => absurd hc e0, fun _ => ⟨trivial, trivial, rfl, trivial⟩⟩
  · have hk' : k < m := by omega
    have := hc k hk'
    rw [pk_un e, pk_un e, pk_un e, pk_un e, pk_un e, pk_un e, gu_n e, gu_n (show ¬ cr k = N by omega), gu_n (show ¬ cr k = N by omega), gu_n (show ¬ cr k = N by omega), gu_n (show ¬ cr k = N by omega)]
    exact h2 k hk'
theorem NwM_app {md0 md X : T6} (h0 : LV md0 md) (H : NwM md N m so cc dd oo ww hh pl pc cr ns ls) (hN : N < 40) (hcr : ∀ k, k < m → cr k < N) (k : Bool) (hs : s < 10) (hm : m ≤ 12) (hkm : k = true → m < 12) {C D : Int64} {O W Hh : Int32} {pat ps : Nat → Int32} {pC pD : Int32} {b e : Nat}
    (hX : X = mFin (mX (mS md N s) N C D O W Hh pat ps pC pD b e (nI 1)) N m k)
    (hC : s ≤ 3 → C = lN c ∧ c < 2 ^ 40) (hD : 1 ≤ s → s ≤ 3 → D = lN d ∧ d < 2 ^ 40) (hO : ¬ s = 3 → ¬ s = 4 → O = nI o ∧ o < 1000000) (hW : s ≤ 2 → W = nI w ∧ w < 1000000) (hH : s = 0 → Hh = nI h ∧ h < 1000000)
    (fs : ∀ j, j < 3 * (40 + N) → ps j = mPs md j) (fp : ∀ i, i < 16 * (3 * (40 + N)) → pat i = mPat md i)
    (pt : ∀ i, i < 3 → pl' (3 * N + i) ≤ 16 ∧ ps (3 * (40 + N) + i) = nI (pl' (3 * N + i)) ∧ ∀ q, q < pl' (3 * N + i) → pat (16 * (3 * (40 + N) + i) + q) = nI (pc' (3 * N + i) q) ∧ pc' (3 * N + i) q < 128)
    (fl : ∀ j, j < 3 * N → pl' j = pl j) (fc : ∀ j, j < 3 * N → pc' j = pc j)
    (hpC : k = true → pC = nI bn) (hp3 : s = 3 → pC = nI x0 ∧ pD = nI x1) (hp1 : s = 1 ∨ s = 2 → pD = nI x0) :
    LV md0 X ∧ NwM X (N + 1) (if k = true then m + 1 else m) (gu so N s) (gu cc N c) (gu dd N d) (gu oo N o) (gu ww N w) (gu hh N h) pl' pc' (gu cr m N) (gu ns m bn) (gu (gu ls (2 * N) x0) (2 * N + 1) x1) ∧ X.2.2.2.1.1 = nI b ∧ X.2.2.2.1.2.1 = nI e ∧ X.2.2.2.1.2.2.1 = nI 1 := by
  subst hX
  obtain ⟨f1, f2, f3, f4, f5, f6⟩ := H
  have hm' : ∀ j, j < (if k = true then m + 1 else m) → j < m ∨ (k = true ∧ j = m) := by
    intro j hj
    cases k with
    | true => rw [if_pos rfl] at hj; by_cases e : j = m
              · exact Or.inr ⟨rfl, e⟩
              · exact Or.inl (by omega)
    | false => rw [if_neg (by decide)] at hj; exact Or.inl hj
  have eCr : mCr (mFin (mX (mS md N s) N C D O W Hh pat ps pC pD b e (nI 1)) N m k) = if k = true then upd (mCr md) (12 + m) (nI N) else mCr md := rfl
  have ePC : (mFin (mX (mS md N s) N C D O W Hh pat ps pC pD b e (nI 1)) N m k).2.2.2.1.2.2.2.2.2.1 = upd md.2.2.2.1.2.2.2.2.2.1 N pC := rfl
  have ePD : (mFin (mX (mS md N s) N C D O W Hh pat ps pC pD b e (nI 1)) N m k).2.2.2.1.2.2.2.2.2.2 = upd md.2.2.2.1.2.2.2.2.2.2 N pD := rfl
  have crv : ∀ j, ¬ j = 12 + m → mCr (mFin (mX (mS md N s) N C D O W Hh pat ps pC pD b e (nI 1)) N m k) j = mCr md j := by
    intro j hj
    rw [eCr]
    cases k with
    | true => rw [if_pos rfl, pk_un hj]
    | false => rw [if_neg (by decide)]
  refine ⟨h0.trans ⟨rfl, rfl, fun q hq => ?_, fun j hj => fs j (by omega), fun i hi => fp i (by omega), rfl, fun q hq => ⟨crv q (by omega), rfl, rfl, rfl, rfl, rfl⟩⟩, ⟨fun r hr => ?_, fun j hj => ?_, fun j hj => ?_, fun r hr => ?_, rfl, ?_⟩, rfl, rfl, rfl⟩
  · have hq' : ¬ q = 40 + N := by omega
    exact ⟨pk_un hq', pk_uLn hq', pk_uLn hq', pk_un hq', pk_un hq', pk_un hq'⟩
  · show _ ∧ upd (mSort md) (40 + N) (nI s) (40 + r) = _ ∧ (_ → vp_updL (mNC md) (40 + N) C (40 + r) = _ ∧ _) ∧ (_ → _ → vp_updL (mND md) (40 + N) D (40 + r) = _ ∧ _) ∧ (_ → _ → upd (mOne md) (40 + N) O (40 + r) = _ ∧ _) ∧ (_ → upd (mTwo md) (40 + N) W (40 + r) = _ ∧ _) ∧ (_ → upd (mThr md) (40 + N) Hh (40 + r) = _ ∧ _)
    by_cases er : r = N
    · subst er
      rw [pk_us, pk_uLs, pk_uLs, pk_us, pk_us, pk_us, gu_s, gu_s, gu_s, gu_s, gu_s, gu_s]
      exact ⟨hs, rfl, hC, hD, hO, hW, hH⟩
    · have hq' : ¬ 40 + r = 40 + N := by omega
      rw [pk_un hq', pk_uLn hq', pk_uLn hq', pk_un hq', pk_un hq', pk_un hq', gu_n er, gu_n er, gu_n er, gu_n er, gu_n er, gu_n er]
      exact f1 r (by omega)
  · by_cases ej : j < 3 * N
    · obtain ⟨q1, q2, q3⟩ := f2 j ej
      rw [fl j ej, fc j ej]
      refine ⟨q1, (fs (120 + j) (by omega)).trans q2, fun i hi => ?_⟩
      obtain ⟨r1, r2⟩ := q3 i hi
      exact ⟨(fp (16 * (120 + j) + i) (by omega)).trans r1, r2⟩
    · obtain ⟨i, rfl⟩ : ∃ i, j = 3 * N + i := ⟨j - 3 * N, by omega⟩
      obtain ⟨q1, q2, q3⟩ := pt i (by omega)
      have e1 : 120 + (3 * N + i) = 3 * (40 + N) + i := by omega
      rw [e1]
      exact ⟨q1, q2, q3⟩
  · rcases hm' j hj with e' | ⟨rfl, rfl⟩
    · obtain ⟨q1, q2⟩ := f3 j e'
      rw [crv _ (by omega), ePC, gu_n (show ¬ j = m by omega), gu_n (show ¬ j = m by omega)]
      have := hcr j e'
      rw [pk_un (by omega)]
      exact ⟨q1, q2⟩
    · rw [eCr, if_pos rfl, pk_us, gu_s, gu_s, ePC, pk_us]
      exact ⟨rfl, hpC rfl⟩
  · rw [ePC, ePD]
    by_cases er : r = N
    · subst er
      have e0 : gu (gu ls (2 * r) x0) (2 * r + 1) x1 (2 * r) = x0 := by rw [gu_n (by omega), gu_s]
      have e1 : gu (gu ls (2 * r) x0) (2 * r + 1) x1 (2 * r + 1) = x1 := gu_s
      rw [e0, e1, pk_us, pk_us, gu_s]
      exact ⟨hp3, hp1⟩
    · have e0 : gu (gu ls (2 * N) x0) (2 * N + 1) x1 (2 * r) = ls (2 * r) := by rw [gu_n (by omega), gu_n (by omega)]
      have e1 : gu (gu ls (2 * N) x0) (2 * N + 1) x1 (2 * r + 1) = ls (2 * r + 1) := by rw [gu_n (by omega), gu_n (by omega)]
      rw [e0, e1, pk_un er, pk_un er, gu_n er]
      exact f4 r (by omega)
  · cases k <;> rfl
end Ap
/-! ===== one row: both sides ===== -/
theorem ffn {a : Bool} {p : Nat} {l : List (Bool × Nat)} (h : ff ((a, p) :: l) = none) : a = true ∧ ff l = none := by
  cases a with
  | true => exact ⟨rfl, h⟩
  | false => cases h
theorem txt_congr {so cc dd oo ww hh pl so' cc' dd' oo' ww' hh' pl' : Nat → Nat} {pc pc' : Nat → Nat → Nat} : ∀ N, (∀ r, r < N → so' r = so r ∧ cc' r = cc r ∧ dd' r = dd r ∧ oo' r = oo r ∧ ww' r = ww r ∧ hh' r = hh r) → (∀ j, j < 3 * N → pl' j = pl j ∧ pc' j = pc j) → txt so' cc' dd' oo' ww' hh' pl' pc' N = txt so cc dd oo ww hh pl pc N := by
  intro N
  induction N with
  | zero => intro _ _; rfl
  | succ N ih =>
    intro h1 h2
    show txt _ _ _ _ _ _ _ _ N ++ txr _ _ _ _ _ _ _ _ N = txt _ _ _ _ _ _ _ _ N ++ txr _ _ _ _ _ _ _ _ N
    rw [ih (fun r hr => h1 r (by omega)) (fun j hj => h2 j (by omega))]
    obtain ⟨a1, a2, a3, a4, a5, a6⟩ := h1 N (by omega)
    have b0 := h2 (3 * N) (by omega)
    have b1 := h2 (3 * N + 1) (by omega)
    have b2' := h2 (3 * N + 2) (by omega)
    unfold txr ptt ptx
    rw [a1, a2, a3, a4, a5, a6, b0.1, b0.2, b1.1, b1.2, b2'.1, b2'.2]
theorem txt_end (so cc dd oo ww hh pl : Nat → Nat) (pc : Nat → Nat → Nat) (N : Nat) : gp1 (txt so cc dd oo ww hh pl pc N) = [] := by
  unfold gp1
  cases N with
  | zero => exact if_pos (Or.inl rfl)
  | succ N =>
    have e : txt so cc dd oo ww hh pl pc (N + 1) = (txt so cc dd oo ww hh pl pc N ++ (nt (kc (so N)) ++ (if so N ≤ 3 then 32 :: nt (cc N) else []) ++ (if 1 ≤ so N ∧ so N ≤ 3 then 32 :: nt (dd N) else []) ++ (if ¬ so N = 3 ∧ ¬ so N = 4 then 32 :: dt (oo N) else []) ++ (if so N ≤ 2 then 32 :: dt (ww N) else []) ++ (if so N = 0 then 32 :: dt (hh N) else []) ++ ptt pl pc (so N) N ++ [59])) ++ [10] := by
      show txt so cc dd oo ww hh pl pc N ++ txr so cc dd oo ww hh pl pc N = _
      unfold txr
      rw [List.append_assoc (txt so cc dd oo ww hh pl pc N), List.append_assoc _ [59] [10]]
      rfl
    rw [e]
    refine if_pos (Or.inr ?_)
    rw [List.length_append]
    show List.getD _ (_ + 1 - 1) 0 = 10
    rw [Nat.add_sub_cancel, gd_r (Nat.le_refl _), Nat.sub_self]
    rfl
theorem gu_lt {α : Type} {f : Nat → α} {N r : Nat} {v : α} (h : r < N) : gu f N v r = f r := gu_n (by omega)
section Rs
variable {F n N m b0 e0 e : Nat} {t : Nat → Nat} {tp : T4} {sh : T3} {rd : T2} {ck : T0} {md0 md : T6} {so va cc dd oo ww hh cr ns nl ls ll pl : Nat → Nat} {pc : Nat → Nat → Nat} {L : List Nat}
def IV (t : Nat → Nat) (n e N m : Nat) (so va cc dd oo ww hh cr ns nl ls ll pl : Nat → Nat) (pc : Nat → Nat → Nat) (rd : T2) (sh : T3) (ck : T0) (md0 md : T6) : Prop :=
  GG t n N m so va cc dd oo ww hh cr ns nl ls ll ∧ ShP sh N so va pl pc (txt so cc dd oo ww hh pl pc N) ∧ chs (txt so cc dd oo ww hh pl pc N) ∧ (txt so cc dd oo ww hh pl pc N).length ≤ e + N ∧ rd.2.2.2.2.2 = nI e ∧ e ≤ n ∧ RdI rd N m ns nl ls ll ∧ CkI ck m cr so oo ww hh ∧ LV md0 md ∧ NwM md N m so cc dd oo ww hh pl pc cr ns ls ∧ md.2.2.2.1.1 = nI (wb t n e) ∧ md.2.2.2.1.2.1 = nI (we t n (wb t n e)) ∧ md.2.2.2.1.2.2.1 = nI 1
def IVx (t : Nat → Nat) (n e N : Nat) (rd : T2) (sh : T3) (ck : T0) (md0 md : T6) : Prop := ∃ (m : Nat) (so va cc dd oo ww hh cr ns nl ls ll pl : Nat → Nat) (pc : Nat → Nat → Nat), IV t n e N m so va cc dd oo ww hh cr ns nl ls ll pl pc rd sh ck md0 md
/-- the clock of a name, for every state that has the same names -/
theorem clockNamed_all (hF : 5000 < F) (HT : TpC tp t n) (HN : NmR t n N rd md m cr ns nl) (hN : N ≤ 40) (hsz : kSiz ck = nI m) {st ln : Nat} (h0 : 0 < ln) (hl : st + ln ≤ n) (ha : alb (ltr t) st ln = true) (hw : cdw t st ln < 2 ^ 40) :
    ∃ q : Option Nat, (∀ sh x1 x2, f2_clockNamed F (nI st) (nI ln) (rd.1, rd.2.1, rd.2.2.1, rd.2.2.2.1, x1, x2) sh ck tp = some (pI q)) ∧ (∀ md' : T6, md'.2.2.1 = md.2.2.1 → md'.2.2.2.1.2.2.2.2.1 = nI m → (∀ k, k < m → md'.2.1.2.2.1 (40 + cr k) = lN (cdw t (ns k) (nl k))) → f6_clockOf F (lN (cdw t st ln)) md' = some (pI q)) ∧ (∀ k, q = some k → k < m ∧ cdw t (ns k) (nl k) = cdw t st ln) ∧ (q = none → ∀ k, k < m → ¬ cdw t (ns k) (nl k) = cdw t st ln) := by
  have hinj := HN.2.2
  have hcr : ∀ k, k < m → md.2.2.1.2.1 (12 + k) = nI (cr k) := fun k hk => (HN.2.1 k hk).2.2.2.2.1
  have spec : ∃ q : Option Nat, (∀ k, q = some k → k < m ∧ cdw t (ns k) (nl k) = cdw t st ln) ∧ (q = none → ∀ k, k < m → ¬ cdw t (ns k) (nl k) = cdw t st ln) := by
    by_cases hex : ∃ k, k < m ∧ cdw t (ns k) (nl k) = cdw t st ln
    · obtain ⟨k, hk, he⟩ := hex
      exact ⟨some k, (fun j hj => by cases hj; exact ⟨hk, he⟩), (fun h => by cases h)⟩
    · exact ⟨none, (fun j hj => by cases hj), fun _ k hk he => hex ⟨k, hk, he⟩⟩
  obtain ⟨q, q1, q2⟩ := spec
  have uni : ∀ q' : Option Nat, (∀ k, q' = some k → k < m ∧ cdw t (ns k) (nl k) = cdw t st ln) → (q' = none → ∀ k, k < m → ¬ cdw t (ns k) (nl k) = cdw t st ln) → q' = q := by
    intro q' p1 p2
    cases q' with
    | none =>
      cases q with
      | none => rfl
      | some k => exact absurd (q1 k rfl).2 (p2 rfl k (q1 k rfl).1)
    | some k' =>
      cases q with
      | none => exact absurd (p1 k' rfl).2 (q2 rfl k' (p1 k' rfl).1)
      | some k => rw [hinj k' k (p1 k' rfl).1 (q1 k rfl).1 (by rw [(p1 k' rfl).2, (q1 k rfl).2])]
  -- one state of the model that has the names
  have g3 : ∀ k, k < m → (md.1, md.2.1, md.2.2.1, (md.2.2.2.1.1, md.2.2.2.1.2.1, md.2.2.2.1.2.2.1, md.2.2.2.1.2.2.2.1, nI m, md.2.2.2.1.2.2.2.2.2.1, md.2.2.2.1.2.2.2.2.2.2), md.2.2.2.2).2.1.2.2.1 (40 + cr k) = lN (cdw t (ns k) (nl k)) := fun k hk => (HN.2.1 k hk).2.2.2.2.2.2
  refine ⟨q, fun sh x1 x2 => ?_, fun md' a1 a2 a3 => ?_, q1, q2⟩
  · obtain ⟨q', r1, r2, r3, r4⟩ := clockNamed_ok (sh := sh) (md' := (md.1, md.2.1, md.2.2.1, (md.2.2.2.1.1, md.2.2.2.1.2.1, md.2.2.2.1.2.2.1, md.2.2.2.1.2.2.2.1, nI m, md.2.2.2.1.2.2.2.2.2.1, md.2.2.2.1.2.2.2.2.2.2), md.2.2.2.2)) hF HT HN hN hsz h0 hl ha hw hcr rfl rfl g3 x1 x2
    rw [r1, uni q' r3 r4]
  · obtain ⟨q', r1, r2, r3, r4⟩ := clockNamed_ok (sh := (fun _ => 0, fun _ => 0, fun _ => 0, fun _ => 0, fun _ => 0, fun _ => 0, fun _ => 0, 0, 0)) (md' := md') hF HT HN hN hsz h0 hl ha hw hcr a1 a2 a3 (nI 0) (nI 0)
    rw [r2, uni q' r3 r4]
theorem IV.nm (H : IV t n e N m so va cc dd oo ww hh cr ns nl ls ll pl pc rd sh ck md0 md) : NmR t n N rd md m cr ns nl := by
  obtain ⟨⟨g1, g2, g3, g4, g5⟩, _, _, _, _, _, ⟨r1, _⟩, _, _, ⟨n1, n2, n3, _⟩, _⟩ := H
  refine ⟨g2, fun k hk => ?_, g5⟩
  obtain ⟨a1, a2, a3, a4, a5⟩ := g4 k hk
  refine ⟨(r1 k hk).1, (r1 k hk).2, a5, a4, (n3 k hk).1, a1, ?_⟩
  have := ((n1 (cr k) a1).2.2.1 (by omega)).1
  rw [a3] at this
  exact this
end Rs
/-! ===== a row's patterns, both sides ===== -/
section Sp
variable {n N : Nat} {t pl : Nat → Nat} {pc : Nat → Nat → Nat} {md : T6}
def PtQ (md : T6) (N : Nat) (pl pl' : Nat → Nat) (pc pc' : Nat → Nat → Nat) (pat ps : Nat → Int32) : Prop :=
  (∀ j, j < 3 * (40 + N) → ps j = mPs md j) ∧ (∀ i, i < 16 * (3 * (40 + N)) → pat i = mPat md i) ∧
  (∀ i, i < 3 → pl' (3 * N + i) ≤ 16 ∧ ps (3 * (40 + N) + i) = nI (pl' (3 * N + i)) ∧ ∀ q, q < pl' (3 * N + i) → pat (16 * (3 * (40 + N) + i) + q) = nI (pc' (3 * N + i) q) ∧ pc' (3 * N + i) q < 128) ∧
  (∀ j, j < 3 * N → pl' j = pl j) ∧ ∀ j, j < 3 * N → pc' j = pc j
theorem cut_lt {j : Nat} (h : j < 3 * N) : cut0 pl (3 * N) j = pl j := if_pos h
theorem cut_ge {j : Nat} (h : 3 * N ≤ j) : cut0 pl (3 * N) j = 0 := if_neg (by omega)
theorem ps3_lt {j : Nat} (h : j < 3 * (40 + N)) : ps3 (mPs md) N j = mPs md j := by
  unfold ps3; rw [pk_un (by omega), pk_un (by omega), pk_un (by omega)]
theorem ps3_0 {i : Nat} (h : i < 3) : ps3 (mPs md) N (3 * (40 + N) + i) = nI 0 := by
  unfold ps3
  rcases (show i = 0 ∨ i = 1 ∨ i = 2 by omega) with rfl | rfl | rfl
  · rw [pk_un (by omega), pk_un (by omega), Nat.add_zero, pk_us]
  · rw [pk_un (by omega), pk_us]
  · rw [pk_us]
theorem ptq0 : PtQ md N pl (cut0 pl (3 * N)) pc pc (mPat md) (ps3 (mPs md) N) := by
  refine ⟨fun j hj => ps3_lt hj, fun _ _ => rfl, fun i hi => ?_, fun j hj => cut_lt hj, fun _ _ => rfl⟩
  rw [cut_ge (by omega)]
  exact ⟨by omega, ps3_0 hi, fun q hq => absurd hq (Nat.not_lt_zero q)⟩
/-- one more pattern -/
theorem ptq_step {pl1 : Nat → Nat} {pc1 : Nat → Nat → Nat} {pat1 ps1 : Nat → Int32} (H : PtQ md N pl pl1 pc pc1 pat1 ps1) {i0 b k : Nat} (hi0 : i0 < 3) (hk : k ≤ 16) (hz : ∀ i, i0 ≤ i → i < 3 → pl1 (3 * N + i) = 0) (ht : ∀ q, q < k → t (b + q) < 128) : PtQ md N pl (gu pl1 (3 * N + i0) k) pc (gu pc1 (3 * N + i0) (fun i => t (b + i))) (wrP pat1 t (16 * (3 * (40 + N) + i0)) b k) (upd ps1 (3 * (40 + N) + i0) (nI k)) := by
  obtain ⟨h1, h2, h3, h4, h5⟩ := H
  refine ⟨fun j hj => by rw [pk_un (by omega)]; exact h1 j hj, fun i hi => by rw [wrP_old _ _ (by omega)]; exact h2 i hi, fun i hi => ?_, fun j hj => by rw [gu_n (by omega)]; exact h4 j hj, fun j hj => by rw [gu_n (by omega)]; exact h5 j hj⟩
  by_cases e : i = i0
  · subst e
    rw [gu_s, gu_s, pk_us]
    exact ⟨hk, rfl, fun q hq => ⟨wrP_new _ _ hq, ht q hq⟩⟩
  · rw [gu_n (by omega), gu_n (by omega), pk_un (by omega)]
    obtain ⟨q1, q2, q3⟩ := h3 i hi
    refine ⟨q1, q2, fun q hq => ?_⟩
    by_cases c : i < i0
    · rw [wrP_old _ _ (by omega)]
      exact q3 q hq
    · rw [hz i (by omega) hi] at hq
      omega
theorem ptq1 {b k : Nat} (hk : k ≤ 16) (ht : ∀ q, q < k → t (b + q) < 128) : PtQ md N pl (gu (cut0 pl (3 * N)) (3 * N) k) pc (gu pc (3 * N) (fun i => t (b + i))) (wrP (mPat md) t (16 * (3 * (40 + N))) b k) (upd (ps3 (mPs md) N) (3 * (40 + N)) (nI k)) :=
  ptq_step (i0 := 0) ptq0 (by omega) hk (fun i _ _ => cut_ge (by omega)) ht
theorem ptq3 {b1 e1 b2' e2 b3 e3 : Nat} (ht1 : ∀ q, q < pnl t b1 e1 → t (b1 + q) < 128) (ht2 : ∀ q, q < pnl t b2' e2 → t (b2' + q) < 128) (ht3 : ∀ q, q < pnl t b3 e3 → t (b3 + q) < 128) : PtQ md N pl (pln (pln (pln (cut0 pl (3 * N)) (3 * N) t b1 e1) (3 * N + 1) t b2' e2) (3 * N + 2) t b3 e3) pc (pcn (pcn (pcn pc (3 * N) t b1 e1) (3 * N + 1) t b2' e2) (3 * N + 2) t b3 e3) (wrP (wrP (wrP (mPat md) t (16 * (3 * (40 + N))) b1 (pnl t b1 e1)) t (16 * (3 * (40 + N) + 1)) b2' (pnl t b2' e2)) t (16 * (3 * (40 + N) + 2)) b3 (pnl t b3 e3)) (upd (upd (upd (ps3 (mPs md) N) (3 * (40 + N)) (nI (pnl t b1 e1))) (3 * (40 + N) + 1) (nI (pnl t b2' e2))) (3 * (40 + N) + 2) (nI (pnl t b3 e3))) := by
  have q1 := ptq1 (md := md) (N := N) (pl := pl) (pc := pc) (t := t) (pnl_le t b1 e1) ht1
  have q2 := ptq_step (i0 := 1) q1 (by omega) (pnl_le t b2' e2) (fun i h1 h2 => by rw [gu_n (by omega)]; exact cut_ge (by omega)) ht2
  exact ptq_step (i0 := 2) q2 (by omega) (pnl_le t b3 e3) (fun i h1 h2 => by rw [gu_n (by omega), gu_n (by omega)]; exact cut_ge (by omega)) ht3
/-- a path's word as it is printed -/
theorem ptx_word {j b e : Nat} {pl' : Nat → Nat} {pc' : Nat → Nat → Nat} (h1 : pl' j = pnl t b e) (h2 : pc' j = fun i => t (b + i)) (h : pto t b e true = true) : ptx pl' pc' j = 32 :: wl t b (e - b) := by
  unfold ptx
  rw [h1, h2]
  cases hp : ptw t b e with
  | true =>
    have := ptw_c hp
    have e1 : pnl t b e = e - b := by unfold pnl; rw [if_pos hp]
    rw [e1, if_neg (by omega)]
    rfl
  | false =>
    have e1 : pnl t b e = 0 := by unfold pnl; rw [if_neg (by rw [hp]; decide)]
    have ha : anw t b e = true := by
      unfold pto at h
      rw [hp, Bool.or_false, Bool.true_and] at h
      exact h
    obtain ⟨_, _, a3, a4⟩ := anw_c ha
    rw [e1, if_pos rfl, a3, Nat.add_sub_cancel_left]
    show [32, 45] = 32 :: wl t b (0 + 1)
    have : wl t b (0 + 1) = wl t b 0 ++ [t (b + 0)] := rw1_s _ _
    rw [this, Nat.add_zero, a4]
    rfl
theorem c3o_pto {b1 e1 b2' e2 b3 e3 : Nat} (h : c3o t b1 e1 b2' e2 b3 e3 = true) : pto t b3 e3 true = true := by
  unfold c3o pto at h
  unfold pto
  rw [Bool.true_and]
  rcases Bool.or_eq_true_iff.mp h with h | h
  · rw [(Bool.and_eq_true_iff.mp h).2]; rfl
  · rw [h, Bool.or_true]
end Sp
def SR (F : Nat) (t : Nat → Nat) (n N b0 e0 : Nat) (tp : T4) (rd : T2) (sh : T3) (ck : T0) (md0 md : T6) : Prop := (∃ p, FlC (f2_takeRow F (rW rd b0 e0) tp sh ck) p ∧ p ≤ n ∧ ∃ X, f6_readRow F md = some X ∧ FlM md0 X p) ∨ (∃ rd' sh' ck' X e', f2_takeRow F (rW rd b0 e0) tp sh ck = some (nI 1, rd', sh', ck') ∧ f6_readRow F md = some X ∧ IVx t n e' (N + 1) rd' sh' ck' md0 X)
theorem pnl_lt {t : Nat → Nat} {n b e : Nat} (HT : ∀ i, i < n → t i < 128) (he : e ≤ n) : ∀ q, q < pnl t b e → t (b + q) < 128 := by
  intro q hq
  unfold pnl at hq
  by_cases c : ptw t b e = true
  · rw [if_pos c] at hq; exact HT _ (by omega)
  · rw [if_neg c] at hq; omega
